theorem tX6_restsBelow_295 {G : Gx}  {S : St}  (g : Ok G cX6_restsBelow RX6 16 { frames := 1, cells := 0, slots := 0, locals := 29 } (some .boolean))   : Rg G oIS (fun v => v.2) (SHM, 0, 0) (SHM, 0, 0) S 295 [none, none, none, none, none, none, none, none, none, none, none, none, none, none, none, none] [] (pX6_restsBelow_295 S) := by
  unfold pX6_restsBelow_295
  refine r_iconst g dX6_restsBelow_295 ?_
  refine r_goto g 300 dX6_restsBelow_296 (by decide) ?_
  exact r_zret0 g (by decide) dX6_restsBelow_300 rfl rfl
theorem tX6_restsBelow_241 {G : Gx} {k91 : Int → Int → Int → Option (Int × St)} {S : St} {x1 : Int} {x2 : Int} {x3 : Int} {x5 : Int} {x7 : Int} {x9 : Int} (g : Ok G cX6_restsBelow RX6 16 { frames := 1, cells := 0, slots := 0, locals := 29 } (some .boolean)) (hk91 : ∀ (x5' : Int) (x7' : Int) (x9' : Int), Rg G oIS (fun v => v.2) (SHM, 0, 0) (SHM, 0, 0) S 91 [some (vr G 0), some (vi x1), some (vi x2), some (vl x3), none, some (vl (x5')), none, some (vl (x7')), none, some (vi (x9')), none, none, none, none, none, none] [] (k91 x5' x7' x9'))  : Rg G oIS (fun v => v.2) (SHM, 0, 0) (SHM, 0, 0) S 241 [some (vr G 0), some (vi x1), some (vi x2), some (vl x3), none, some (vl x5), none, some (vl x7), none, some (vi x9), none, none, none, none, none, none] [] (pX6_restsBelow_241 k91 S x1 x2 x3 x5 x7 x9) := by
  unfold pX6_restsBelow_241
  refine r_iinc g dX6_restsBelow_241 (by decide) rfl ?_
  intro x9_5_
  change Rg _ _ _ _ _ _ _ [some (vr G 0), some (vi x1), some (vi x2), some (vl x3), none, some (vl x5), none, some (vl x7), none, some (vi x9_5_), none, none, none, none, none, none] _ _
  refine r_goto g 91 dX6_restsBelow_244 (by decide) ?_
  exact hk91 _ _ _
theorem tX6_restsBelow_91B {G : Gx} {S : St} {x1 : Int} {x2 : Int} {x3 : Int} (g : Ok G cX6_restsBelow RX6 16 { frames := 1, cells := 0, slots := 0, locals := 29 } (some .boolean))   {k91 : Int → Int → Int → Option (Int × St)} (hk91 : ∀ (x5' : Int) (x7' : Int) (x9' : Int), Rg G oIS (fun v => v.2) (SHM, 0, 0) (SHM, 0, 0) S 91 [some (vr G 0), some (vi x1), some (vi x2), some (vl x3), none, some (vl (x5')), none, some (vl (x7')), none, some (vi (x9')), none, none, none, none, none, none] [] (k91 x5' x7' x9')) {x5 : Int} {x7 : Int} {x9 : Int} : Rg G oIS (fun v => v.2) (SHM, 0, 0) (SHM, 0, 0) S 91 [some (vr G 0), some (vi x1), some (vi x2), some (vl x3), none, some (vl x5), none, some (vl x7), none, some (vi x9), none, none, none, none, none, none] [] (pX6_restsBelow_91B S x1 x2 x3 k91 x5 x7 x9) := by
  unfold pX6_restsBelow_91B
  refine r_iload g dX6_restsBelow_91 rfl ?_
  refine r_iconst g dX6_restsBelow_93 ?_
  refine r_icmp_ge g 247 dX6_restsBelow_94 (by decide) ?_ ?_
  · refine r_aload_n g dX6_restsBelow_247 rfl ?_
    refine r_getI g KX6 shm_0 34 rfl (by decide) w_904 dX6_restsBelow_248 ?_
    refine r_i2l g dX6_restsBelow_251 ?_
    refine r_lload_n g dX6_restsBelow_252 rfl ?_
    refine r_lmul g dX6_restsBelow_253 ?_
    refine r_lload g dX6_restsBelow_254 rfl ?_
    refine r_lsub g dX6_restsBelow_256 ?_
    refine r_topl ?_
    intro x9_1_
    refine r_lstore g dX6_restsBelow_257 (by decide) rfl ?_
    refine r_aload_n g dX6_restsBelow_259 rfl ?_
    refine r_iload_n g dX6_restsBelow_260 rfl ?_
    refine r_i2l g dX6_restsBelow_261 ?_
    refine r_lload g dX6_restsBelow_262 rfl ?_
    refine r_lmul g dX6_restsBelow_264 ?_
    refine r_lload g dX6_restsBelow_265 rfl ?_
    refine r_lsub g dX6_restsBelow_267 ?_
    refine r_putL g KX6 shm_0 38 rfl (by decide) rfl rfl w_908 dX6_restsBelow_268 ?_
    intro S2_ _
    refine r_aload_n g dX6_restsBelow_271 rfl ?_
    refine r_lload g dX6_restsBelow_272 rfl ?_
    refine r_putL g KX6 shm_0 39 rfl (by decide) rfl rfl w_909 dX6_restsBelow_274 ?_
    intro S3_ _
    refine r_iload_n g dX6_restsBelow_277 rfl ?_
    refine r_iload_n g dX6_restsBelow_278 rfl ?_
    refine r_icmp_eq g 295 dX6_restsBelow_279 (by decide) ?_ ?_
    · refine r_msk [false, false, false, false, false, false, false, false, false, false, false, false, false, false, false, false] rfl ?_
      exact tX6_restsBelow_295 g
    · refine r_lload g dX6_restsBelow_282 rfl ?_
      refine r_iload_n g dX6_restsBelow_284 rfl ?_
      refine r_iload_n g dX6_restsBelow_285 rfl ?_
      refine r_isub g dX6_restsBelow_286 ?_
      refine r_i2l g dX6_restsBelow_287 ?_
      refine r_lload g dX6_restsBelow_288 rfl ?_
      refine r_lmul g dX6_restsBelow_290 ?_
      refine r_lcmp_gt g 299 dX6_restsBelow_291 dX6_restsBelow_292 (by decide) ?_ ?_
      · refine r_iconst g dX6_restsBelow_299 ?_
        exact r_zret0 g (by decide) dX6_restsBelow_300 rfl rfl
      · refine r_msk [false, false, false, false, false, false, false, false, false, false, false, false, false, false, false, false] rfl ?_
        exact tX6_restsBelow_295 g
  · refine r_aload_n g dX6_restsBelow_97 rfl ?_
    refine r_iload g dX6_restsBelow_98 rfl ?_
    refine r_callV_PI (q := 0) (as := fun b => [vi x9]) g (kX6_isRubber S x9) mX6_isRubber shm_0 rfl w_1210 w_1212 w_47 (by decide) (fun _ => rfl) rfl (Nat.le_of_ble_eq_true rfl) dX6_restsBelow_100 ?_
    intro z4_
    refine r_if_eq g 241 dX6_restsBelow_103 (by decide) ?_ ?_
    · exact tX6_restsBelow_241 g hk91
    · refine r_aload_n g dX6_restsBelow_106 rfl ?_
      refine r_iload g dX6_restsBelow_107 rfl ?_
      refine r_callV_PI (q := 0) (as := fun b => [vi x9]) g (kX6_topOf S x9) mX6_topOf shm_0 rfl w_1227 w_1229 w_49 (by decide) (fun _ => rfl) rfl (Nat.le_of_ble_eq_true rfl) dX6_restsBelow_109 ?_
      intro z6_
      refine r_iload_n g dX6_restsBelow_112 rfl ?_
      refine r_icmp_lt g 241 dX6_restsBelow_113 (by decide) ?_ ?_
      · exact tX6_restsBelow_241 g hk91
      · refine r_aload_n g dX6_restsBelow_116 rfl ?_
        refine r_getC (c0 := 19) g KX6 shm_0 27 rfl (by decide) w_897 dX6_restsBelow_117 ?_
        refine r_iload g dX6_restsBelow_120 rfl ?_
        refine r_iald g shm_19 (by decide) dX6_restsBelow_122 ?_
        intro z7_
        refine r_istore g dX6_restsBelow_123 (by decide) rfl ?_
        refine r_aload_n g dX6_restsBelow_125 rfl ?_
        refine r_iload g dX6_restsBelow_126 rfl ?_
        refine r_callV_PI (q := 0) (as := fun b => [vi x9]) g (kX6_topOf S x9) mX6_topOf shm_0 rfl w_1227 w_1229 w_49 (by decide) (fun _ => rfl) rfl (Nat.le_of_ble_eq_true rfl) dX6_restsBelow_128 ?_
        intro z8_
        refine r_iload_n g dX6_restsBelow_131 rfl ?_
        refine r_isub g dX6_restsBelow_132 ?_
        refine r_topi ?_
        intro x11_9_
        refine r_istore g dX6_restsBelow_133 (by decide) rfl ?_
        refine r_aload_n g dX6_restsBelow_135 rfl ?_
        refine r_iload g dX6_restsBelow_136 rfl ?_
        refine r_iload g dX6_restsBelow_138 rfl ?_
        refine r_i2l g dX6_restsBelow_140 ?_
        refine r_lconst (x := 1) g dX6_restsBelow_141 (by decide) ?_
        refine r_callV_PI (q := 0) (as := fun b => [vi z7_, vl x11_9_, vl 1]) g (kX6_lineOf S z7_ x11_9_ 1) mX6_lineOf shm_0 rfl w_1145 w_1147 w_39 (by decide) (fun _ => rfl) rfl (Nat.le_of_ble_eq_true rfl) dX6_restsBelow_142 ?_
        intro z10_
        refine r_istore g dX6_restsBelow_145 (by decide) rfl ?_
        refine r_lload_n g dX6_restsBelow_147 rfl ?_
        refine r_aload_n g dX6_restsBelow_148 rfl ?_
        refine r_iload g dX6_restsBelow_149 rfl ?_
        refine r_iload g dX6_restsBelow_151 rfl ?_
        refine r_callV_PI (q := 0) (as := fun b => [vi z7_, vi z10_]) g (kX6_run S z7_ z10_) mX6_run shm_0 rfl w_1149 w_1151 w_40 (by decide) (fun _ => rfl) rfl (Nat.le_of_ble_eq_true rfl) dX6_restsBelow_153 ?_
        intro z11_
        refine r_i2l g dX6_restsBelow_156 ?_
        refine r_ldiv g dX6_restsBelow_157 ?_
        intro z12_
        refine r_aload_n g dX6_restsBelow_158 rfl ?_
        refine r_iload g dX6_restsBelow_159 rfl ?_
        refine r_iload g dX6_restsBelow_161 rfl ?_
        refine r_callV_PI (q := 0) (as := fun b => [vi z7_, vi z10_]) g (kX6_rise S z7_ z10_) mX6_rise shm_0 rfl w_1153 w_1155 w_41 (by decide) (fun _ => rfl) rfl (Nat.le_of_ble_eq_true rfl) dX6_restsBelow_163 ?_
        intro z13_
        refine r_i2l g dX6_restsBelow_166 ?_
        refine r_lmul g dX6_restsBelow_167 ?_
        refine r_topl ?_
        intro x13_14_
        refine r_lstore g dX6_restsBelow_168 (by decide) rfl ?_
        refine r_aload_n g dX6_restsBelow_170 rfl ?_
        refine r_getC (c0 := 22) g KX6 shm_0 30 rfl (by decide) w_900 dX6_restsBelow_171 ?_
        refine r_iload g dX6_restsBelow_174 rfl ?_
        refine r_iald g shm_22 (by decide) dX6_restsBelow_176 ?_
        intro z15_
        refine r_aload_n g dX6_restsBelow_177 rfl ?_
        refine r_iload g dX6_restsBelow_178 rfl ?_
        refine r_callV_PI (q := 0) (as := fun b => [vi z7_]) g (kX6_factor S z7_) mX6_factor shm_0 rfl w_1243 w_1245 w_53 (by decide) (fun _ => rfl) rfl (Nat.le_of_ble_eq_true rfl) dX6_restsBelow_180 ?_
        intro z16_
        refine r_imul g dX6_restsBelow_183 ?_
        refine r_topi ?_
        intro x15_17_
        refine r_istore g dX6_restsBelow_184 (by decide) rfl ?_
        refine r_lload g dX6_restsBelow_186 rfl ?_
        refine r_iload g dX6_restsBelow_188 rfl ?_
        refine r_i2l g dX6_restsBelow_190 ?_
        refine r_aload_n g dX6_restsBelow_191 rfl ?_
        refine r_getC (c0 := 10) g KX6 shm_0 13 rfl (by decide) w_883 dX6_restsBelow_192 ?_
        refine r_iconst g dX6_restsBelow_195 ?_
        refine r_iload g dX6_restsBelow_196 rfl ?_
        refine r_imul g dX6_restsBelow_198 ?_
        refine r_iload g dX6_restsBelow_199 rfl ?_
        refine r_iadd g dX6_restsBelow_201 ?_
        refine r_iald g shm_10 (by decide) dX6_restsBelow_202 ?_
        intro z18_
        refine r_i2l g dX6_restsBelow_203 ?_
        refine r_lload_n g dX6_restsBelow_204 rfl ?_
        refine r_lmul g dX6_restsBelow_205 ?_
        refine r_iload g dX6_restsBelow_206 rfl ?_
        refine r_aload_n g dX6_restsBelow_208 rfl ?_
        refine r_getC (c0 := 9) g KX6 shm_0 12 rfl (by decide) w_882 dX6_restsBelow_209 ?_
        refine r_iconst g dX6_restsBelow_212 ?_
        refine r_iload g dX6_restsBelow_213 rfl ?_
        refine r_imul g dX6_restsBelow_215 ?_
        refine r_iload g dX6_restsBelow_216 rfl ?_
        refine r_iadd g dX6_restsBelow_218 ?_
        refine r_iald g shm_9 (by decide) dX6_restsBelow_219 ?_
        intro z19_
        refine r_isub g dX6_restsBelow_220 ?_
        refine r_i2l g dX6_restsBelow_221 ?_
        refine r_lload g dX6_restsBelow_222 rfl ?_
        refine r_lmul g dX6_restsBelow_224 ?_
        refine r_ladd g dX6_restsBelow_225 ?_
        refine r_lmul g dX6_restsBelow_226 ?_
        refine r_ladd g dX6_restsBelow_227 ?_
        refine r_topl ?_
        intro x5_20_
        refine r_lstore g dX6_restsBelow_228 (by decide) rfl ?_
        refine r_lload g dX6_restsBelow_230 rfl ?_
        refine r_iload g dX6_restsBelow_232 rfl ?_
        refine r_i2l g dX6_restsBelow_234 ?_
        refine r_lload g dX6_restsBelow_235 rfl ?_
        refine r_lmul g dX6_restsBelow_237 ?_
        refine r_ladd g dX6_restsBelow_238 ?_
        refine r_topl ?_
        intro x7_21_
        refine r_lstore g dX6_restsBelow_239 (by decide) rfl ?_
        refine r_msk [true, true, true, true, false, true, false, true, false, true, false, false, false, false, false, false] rfl ?_
        exact tX6_restsBelow_241 g hk91
theorem tX6_restsBelow_91 {G : Gx} {S : St} {x1 : Int} {x2 : Int} {x3 : Int} (g : Ok G cX6_restsBelow RX6 16 { frames := 1, cells := 0, slots := 0, locals := 29 } (some .boolean))   : ∀ (n_ : Nat) (x5 : Int) (x7 : Int) (x9 : Int), Rg G oIS (fun v => v.2) (SHM, 0, 0) (SHM, 0, 0) S 91 [some (vr G 0), some (vi x1), some (vi x2), some (vl x3), none, some (vl x5), none, some (vl x7), none, some (vi x9), none, none, none, none, none, none] [] (lo3 (pX6_restsBelow_91B S x1 x2 x3) n_ x5 x7 x9) := by
  intro n_
  induction n_ with
  | zero => intro x5 x7 x9; exact r_none
  | succ n_ ih => intro x5 x7 x9; exact tX6_restsBelow_91B g   ih
theorem tX6_restsBelow_76 {G : Gx} {k5 : Int → Int → Option (Int × St)} {S : St} {x1 : Int} {x2 : Int} {x3 : Int} {x5 : Int} (g : Ok G cX6_restsBelow RX6 16 { frames := 1, cells := 0, slots := 0, locals := 29 } (some .boolean)) (hk5 : ∀ (x3' : Int) (x5' : Int), Rg G oIS (fun v => v.2) (SHM, 0, 0) (SHM, 0, 0) S 5 [some (vr G 0), some (vi x1), some (vi x2), some (vl (x3')), none, some (vi (x5')), none, none, none, none, none, none, none, none, none, none] [] (k5 x3' x5'))  : Rg G oIS (fun v => v.2) (SHM, 0, 0) (SHM, 0, 0) S 76 [some (vr G 0), some (vi x1), some (vi x2), some (vl x3), none, some (vi x5), none, none, none, none, none, none, none, none, none, none] [] (pX6_restsBelow_76 k5 S x1 x2 x3 x5) := by
  unfold pX6_restsBelow_76
  refine r_iinc g dX6_restsBelow_76 (by decide) rfl ?_
  intro x5_23_
  change Rg _ _ _ _ _ _ _ [some (vr G 0), some (vi x1), some (vi x2), some (vl x3), none, some (vi x5_23_), none, none, none, none, none, none, none, none, none, none] _ _
  refine r_goto g 5 dX6_restsBelow_79 (by decide) ?_
  exact hk5 _ _
theorem tX6_restsBelow_5B {G : Gx} {S : St} {x1 : Int} {x2 : Int} (g : Ok G cX6_restsBelow RX6 16 { frames := 1, cells := 0, slots := 0, locals := 29 } (some .boolean))   {k5 : Int → Int → Option (Int × St)} (hk5 : ∀ (x3' : Int) (x5' : Int), Rg G oIS (fun v => v.2) (SHM, 0, 0) (SHM, 0, 0) S 5 [some (vr G 0), some (vi x1), some (vi x2), some (vl (x3')), none, some (vi (x5')), none, none, none, none, none, none, none, none, none, none] [] (k5 x3' x5')) {x3 : Int} {x5 : Int} : Rg G oIS (fun v => v.2) (SHM, 0, 0) (SHM, 0, 0) S 5 [some (vr G 0), some (vi x1), some (vi x2), some (vl x3), none, some (vi x5), none, none, none, none, none, none, none, none, none, none] [] (pX6_restsBelow_5B S x1 x2 k5 x3 x5) := by
  unfold pX6_restsBelow_5B
  refine r_iload g dX6_restsBelow_5 rfl ?_
  refine r_iconst g dX6_restsBelow_7 ?_
  refine r_icmp_ge g 82 dX6_restsBelow_8 (by decide) ?_ ?_
  · refine r_lconst (x := 0) g dX6_restsBelow_82 (by decide) ?_
    refine r_lstore g dX6_restsBelow_83 (by decide) rfl ?_
    refine r_lconst (x := 0) g dX6_restsBelow_85 (by decide) ?_
    refine r_lstore g dX6_restsBelow_86 (by decide) rfl ?_
    refine r_iconst g dX6_restsBelow_88 ?_
    refine r_istore g dX6_restsBelow_89 (by decide) rfl ?_
    exact tX6_restsBelow_91 g _ _ _ _
  · refine r_aload_n g dX6_restsBelow_11 rfl ?_
    refine r_iload g dX6_restsBelow_12 rfl ?_
    refine r_callV_PI (q := 0) (as := fun b => [vi x5]) g (kX6_isRubber S x5) mX6_isRubber shm_0 rfl w_1210 w_1212 w_47 (by decide) (fun _ => rfl) rfl (Nat.le_of_ble_eq_true rfl) dX6_restsBelow_14 ?_
    intro z22_
    refine r_if_eq g 76 dX6_restsBelow_17 (by decide) ?_ ?_
    · exact tX6_restsBelow_76 g hk5
    · refine r_aload_n g dX6_restsBelow_20 rfl ?_
      refine r_iload g dX6_restsBelow_21 rfl ?_
      refine r_callV_PI (q := 0) (as := fun b => [vi x5]) g (kX6_topOf S x5) mX6_topOf shm_0 rfl w_1227 w_1229 w_49 (by decide) (fun _ => rfl) rfl (Nat.le_of_ble_eq_true rfl) dX6_restsBelow_23 ?_
      intro z24_
      refine r_iload_n g dX6_restsBelow_26 rfl ?_
      refine r_icmp_lt g 76 dX6_restsBelow_27 (by decide) ?_ ?_
      · exact tX6_restsBelow_76 g hk5
      · refine r_aload_n g dX6_restsBelow_30 rfl ?_
        refine r_getC (c0 := 19) g KX6 shm_0 27 rfl (by decide) w_897 dX6_restsBelow_31 ?_
        refine r_iload g dX6_restsBelow_34 rfl ?_
        refine r_iald g shm_19 (by decide) dX6_restsBelow_36 ?_
        intro z25_
        refine r_istore g dX6_restsBelow_37 (by decide) rfl ?_
        refine r_aload_n g dX6_restsBelow_39 rfl ?_
        refine r_iload g dX6_restsBelow_40 rfl ?_
        refine r_aload_n g dX6_restsBelow_42 rfl ?_
        refine r_iload g dX6_restsBelow_43 rfl ?_
        refine r_aload_n g dX6_restsBelow_45 rfl ?_
        refine r_iload g dX6_restsBelow_46 rfl ?_
        refine r_callV_PI (q := 0) (as := fun b => [vi x5]) g (kX6_topOf S x5) mX6_topOf shm_0 rfl w_1227 w_1229 w_49 (by decide) (fun _ => rfl) rfl (Nat.le_of_ble_eq_true rfl) dX6_restsBelow_48 ?_
        intro z26_
        refine r_iload_n g dX6_restsBelow_51 rfl ?_
        refine r_isub g dX6_restsBelow_52 ?_
        refine r_i2l g dX6_restsBelow_53 ?_
        refine r_lconst (x := 1) g dX6_restsBelow_54 (by decide) ?_
        refine r_callV_PI (q := 0) (as := fun b => [vi z25_, vl (z26_ - x1), vl 1]) g (kX6_lineOf S z25_ (z26_ - x1) 1) mX6_lineOf shm_0 rfl w_1145 w_1147 w_39 (by decide) (fun _ => rfl) rfl (Nat.le_of_ble_eq_true rfl) dX6_restsBelow_55 ?_
        intro z27_
        refine r_callV_PI (q := 0) (as := fun b => [vi z25_, vi z27_]) g (kX6_run S z25_ z27_) mX6_run shm_0 rfl w_1149 w_1151 w_40 (by decide) (fun _ => rfl) rfl (Nat.le_of_ble_eq_true rfl) dX6_restsBelow_58 ?_
        intro z28_
        refine r_i2l g dX6_restsBelow_61 ?_
        refine r_lstore g dX6_restsBelow_62 (by decide) rfl ?_
        refine r_lload_n g dX6_restsBelow_64 rfl ?_
        refine r_lload_n g dX6_restsBelow_65 rfl ?_
        refine r_lload g dX6_restsBelow_66 rfl ?_
        refine r_callS_PL g (kX6_gcd S x3 z28_) mX6_gcd w_1157 w_1158 (by decide) (fun _ => rfl) rfl (Nat.le_of_ble_eq_true rfl) dX6_restsBelow_68 ?_
        intro z29_
        refine r_ldiv g dX6_restsBelow_71 ?_
        intro z30_
        refine r_lload g dX6_restsBelow_72 rfl ?_
        refine r_lmul g dX6_restsBelow_74 ?_
        refine r_topl ?_
        intro x3_31_
        refine r_lstore_n g 3 dX6_restsBelow_75 rfl (by decide) rfl ?_
        refine r_msk [true, true, true, true, false, true, false, false, false, false, false, false, false, false, false, false] rfl ?_
        exact tX6_restsBelow_76 g hk5
theorem tX6_restsBelow_5 {G : Gx} {S : St} {x1 : Int} {x2 : Int} (g : Ok G cX6_restsBelow RX6 16 { frames := 1, cells := 0, slots := 0, locals := 29 } (some .boolean))   : ∀ (n_ : Nat) (x3 : Int) (x5 : Int), Rg G oIS (fun v => v.2) (SHM, 0, 0) (SHM, 0, 0) S 5 [some (vr G 0), some (vi x1), some (vi x2), some (vl x3), none, some (vi x5), none, none, none, none, none, none, none, none, none, none] [] (lo2 (pX6_restsBelow_5B S x1 x2) n_ x3 x5) := by
  intro n_
  induction n_ with
  | zero => intro x3 x5; exact r_none
  | succ n_ ih => intro x3 x5; exact tX6_restsBelow_5B g   ih
theorem kX6_restsBelow (S : St) (x1 : Int) (x2 : Int)  : Con yX6_restsBelow cX6_restsBelow 16 (some .boolean) { frames := 1, cells := 0, slots := 0, locals := 29 } false SHM (SHM, 0, 0) (fun b => [.ref (b + 0), vi x1, vi x2]) S (fun _ => oIS) (fun v => v.2) (pX6_restsBelow S x1 x2) := by
  refine Con_of (fun b => [some (.ref (b + 0)), some (vi x1), some (vi x2), none, none, none, none, none, none, none, none, none, none, none, none, none]) (by decide) (fun _ => rfl) (fun _ => Nat.le_of_ble_eq_true rfl) ?_
  intro G g _ _ _
  change Ok G cX6_restsBelow RX6 16 { frames := 1, cells := 0, slots := 0, locals := 29 } (some .boolean) at g
  show Rg G oIS (fun v => v.2) (SHM, 0, 0) (SHM, 0, 0) S 0 [some (vr G 0), some (vi x1), some (vi x2), none, none, none, none, none, none, none, none, none, none, none, none, none] [] (pX6_restsBelow S x1 x2)
  unfold pX6_restsBelow
  refine r_lconst (x := 1) g dX6_restsBelow_0 (by decide) ?_
  refine r_lstore_n g 3 dX6_restsBelow_1 rfl (by decide) rfl ?_
  refine r_iconst g dX6_restsBelow_2 ?_
  refine r_istore g dX6_restsBelow_3 (by decide) rfl ?_
  exact tX6_restsBelow_5 g _ _ _
theorem tX6_layRest_139 {G : Gx}  {S : St} {x1 : Int} {x2 : Int} (g : Ok G cX6_layRest RX6 7 { frames := 2, cells := 0, slots := 0, locals := 64 } none)   : Rg G oVS id (SHM, 0, 0) (SHM, 0, 0) S 139 [some (vr G 0), some (vi x1), some (vi x2), none, none, none, none] [] (pX6_layRest_139 S x1 x2) := by
  unfold pX6_layRest_139
  refine r_aload_n g dX6_layRest_139 rfl ?_
  refine r_getL g KX6 shm_0 38 rfl (by decide) w_908 dX6_layRest_140 ?_
  refine r_aload_n g dX6_layRest_143 rfl ?_
  refine r_getL g KX6 shm_0 39 rfl (by decide) w_909 dX6_layRest_144 ?_
  refine r_callS_PL g (kX6_gcd S (S 0 38) (S 0 39)) mX6_gcd w_1157 w_1158 (by decide) (fun _ => rfl) rfl (Nat.le_of_ble_eq_true rfl) dX6_layRest_147 ?_
  intro z11_
  refine r_lstore g dX6_layRest_150 (by decide) rfl ?_
  refine r_aload_n g dX6_layRest_152 rfl ?_
  refine r_dup g dX6_layRest_153 rfl ?_
  refine r_getL g KX6 shm_0 38 rfl (by decide) w_908 dX6_layRest_154 ?_
  refine r_lload g dX6_layRest_157 rfl ?_
  refine r_ldiv g dX6_layRest_159 ?_
  intro z12_
  refine r_putL g KX6 shm_0 38 rfl (by decide) rfl rfl w_908 dX6_layRest_160 ?_
  intro S13_ _
  refine r_aload_n g dX6_layRest_163 rfl ?_
  refine r_dup g dX6_layRest_164 rfl ?_
  refine r_getL g KX6 shm_0 39 rfl (by decide) w_909 dX6_layRest_165 ?_
  refine r_lload g dX6_layRest_168 rfl ?_
  refine r_ldiv g dX6_layRest_170 ?_
  intro z14_
  refine r_putL g KX6 shm_0 39 rfl (by decide) rfl rfl w_909 dX6_layRest_171 ?_
  intro S15_ _
  refine r_aload_n g dX6_layRest_174 rfl ?_
  refine r_iload_n g dX6_layRest_175 rfl ?_
  refine r_if_eq g 198 dX6_layRest_176 (by decide) ?_ ?_
  · refine r_iconst g dX6_layRest_198 ?_
    refine r_putZ g KX6 shm_0 40 rfl (by decide) rfl rfl w_910 dX6_layRest_199 ?_
    intro S16_ _
    exact r_vret g dX6_layRest_202 rfl rfl
  · refine r_aload_n g dX6_layRest_179 rfl ?_
    refine r_getL g KX6 shm_0 38 rfl (by decide) w_908 dX6_layRest_180 ?_
    refine r_iload_n g dX6_layRest_183 rfl ?_
    refine r_i2l g dX6_layRest_184 ?_
    refine r_aload_n g dX6_layRest_185 rfl ?_
    refine r_getL g KX6 shm_0 39 rfl (by decide) w_909 dX6_layRest_186 ?_
    refine r_lmul g dX6_layRest_189 ?_
    refine r_lcmp_ne g 198 dX6_layRest_190 dX6_layRest_191 (by decide) ?_ ?_
    · refine r_iconst g dX6_layRest_198 ?_
      refine r_putZ g KX6 shm_0 40 rfl (by decide) rfl rfl w_910 dX6_layRest_199 ?_
      intro S17_ _
      exact r_vret g dX6_layRest_202 rfl rfl
    · refine r_iconst g dX6_layRest_194 ?_
      refine r_goto g 199 dX6_layRest_195 (by decide) ?_
      refine r_putZ g KX6 shm_0 40 rfl (by decide) rfl rfl w_910 dX6_layRest_199 ?_
      intro S18_ _
      exact r_vret g dX6_layRest_202 rfl rfl
theorem tX6_layRest_120 {G : Gx}  {S : St} {x1 : Int} {x2 : Int} (g : Ok G cX6_layRest RX6 7 { frames := 2, cells := 0, slots := 0, locals := 64 } none)   : Rg G oVS id (SHM, 0, 0) (SHM, 0, 0) S 120 [some (vr G 0), some (vi x1), some (vi x2), none, none, none, none] [] (pX6_layRest_120 S x1 x2) := by
  unfold pX6_layRest_120
  refine r_aload_n g dX6_layRest_120 rfl ?_
  refine r_getL g KX6 shm_0 38 rfl (by decide) w_908 dX6_layRest_121 ?_
  refine r_lconst (x := 0) g dX6_layRest_124 (by decide) ?_
  refine r_lcmp_ge g 139 dX6_layRest_125 dX6_layRest_126 (by decide) ?_ ?_
  · exact tX6_layRest_139 g
  · refine r_aload_n g dX6_layRest_129 rfl ?_
    refine r_lconst (x := 0) g dX6_layRest_130 (by decide) ?_
    refine r_putL g KX6 shm_0 38 rfl (by decide) rfl rfl w_908 dX6_layRest_131 ?_
    intro S19_ _
    refine r_aload_n g dX6_layRest_134 rfl ?_
    refine r_lconst (x := 1) g dX6_layRest_135 (by decide) ?_
    refine r_putL g KX6 shm_0 39 rfl (by decide) rfl rfl w_909 dX6_layRest_136 ?_
    intro S20_ _
    exact tX6_layRest_139 g
theorem tX6_layRest_90 {G : Gx}  {S : St} {x1 : Int} {x2 : Int} (g : Ok G cX6_layRest RX6 7 { frames := 2, cells := 0, slots := 0, locals := 64 } none)   : Rg G oVS id (SHM, 0, 0) (SHM, 0, 0) S 90 [some (vr G 0), some (vi x1), some (vi x2), none, none, none, none] [] (pX6_layRest_90 S x1 x2) := by
  unfold pX6_layRest_90
  refine r_iload_n g dX6_layRest_90 rfl ?_
  refine r_if_eq g 120 dX6_layRest_91 (by decide) ?_ ?_
  · exact tX6_layRest_120 g
  · refine r_aload_n g dX6_layRest_94 rfl ?_
    refine r_getL g KX6 shm_0 38 rfl (by decide) w_908 dX6_layRest_95 ?_
    refine r_iload_n g dX6_layRest_98 rfl ?_
    refine r_i2l g dX6_layRest_99 ?_
    refine r_aload_n g dX6_layRest_100 rfl ?_
    refine r_getL g KX6 shm_0 39 rfl (by decide) w_909 dX6_layRest_101 ?_
    refine r_lmul g dX6_layRest_104 ?_
    refine r_lcmp_ge g 120 dX6_layRest_105 dX6_layRest_106 (by decide) ?_ ?_
    · exact tX6_layRest_120 g
    · refine r_aload_n g dX6_layRest_109 rfl ?_
      refine r_iload_n g dX6_layRest_110 rfl ?_
      refine r_i2l g dX6_layRest_111 ?_
      refine r_putL g KX6 shm_0 38 rfl (by decide) rfl rfl w_908 dX6_layRest_112 ?_
      intro S21_ _
      refine r_aload_n g dX6_layRest_115 rfl ?_
      refine r_lconst (x := 1) g dX6_layRest_116 (by decide) ?_
      refine r_putL g KX6 shm_0 39 rfl (by decide) rfl rfl w_909 dX6_layRest_117 ?_
      intro S22_ _
      exact tX6_layRest_120 g
theorem tX6_layRest_64B {G : Gx} {x1 : Int} {x2 : Int} (g : Ok G cX6_layRest RX6 7 { frames := 2, cells := 0, slots := 0, locals := 64 } none)   {k64 : St → Int → Int → Option (St)} (hk64 : ∀ (S' : St) (x5' : Int) (x6' : Int), Rg G oVS id (SHM, 0, 0) (SHM, 0, 0) S' 64 [some (vr G 0), some (vi x1), some (vi x2), none, none, some (vi (x5')), some (vi (x6'))] [] (k64 S' x5' x6')) {S : St} {x5 : Int} {x6 : Int} : Rg G oVS id (SHM, 0, 0) (SHM, 0, 0) S 64 [some (vr G 0), some (vi x1), some (vi x2), none, none, some (vi x5), some (vi x6)] [] (pX6_layRest_64B x1 x2 k64 S x5 x6) := by
  unfold pX6_layRest_64B
  refine r_aload_n g dX6_layRest_64 rfl ?_
  refine r_iload g dX6_layRest_65 rfl ?_
  refine r_iload g dX6_layRest_67 rfl ?_
  refine r_callV_WI (q := 0) (as := fun b => [vi x5, vi x6]) g (kX6_restsBelow S x5 x6) mX6_restsBelow shm_0 rfl w_1239 w_1241 w_52 (by decide) (fun _ => rfl) rfl (Nat.le_of_ble_eq_true rfl) dX6_layRest_69 ?_
  intro z24_ S25_
  refine r_if_ne g 90 dX6_layRest_72 (by decide) ?_ ?_
  · refine r_msk [true, true, true, false, false, false, false] rfl ?_
    exact tX6_layRest_90 g
  · refine r_iload g dX6_layRest_75 rfl ?_
    refine r_istore g dX6_layRest_77 (by decide) rfl ?_
    refine r_aload_n g dX6_layRest_79 rfl ?_
    refine r_iload g dX6_layRest_80 rfl ?_
    refine r_callV_PI (q := 0) (as := fun b => [vi x6]) g (kX6_nextBreak S25_ x6) mX6_nextBreak shm_0 rfl w_1235 w_1237 w_51 (by decide) (fun _ => rfl) rfl (Nat.le_of_ble_eq_true rfl) dX6_layRest_82 ?_
    intro z26_
    refine r_istore g dX6_layRest_85 (by decide) rfl ?_
    refine r_goto g 64 dX6_layRest_87 (by decide) ?_
    exact hk64 _ _ _
theorem tX6_layRest_64 {G : Gx} {x1 : Int} {x2 : Int} (g : Ok G cX6_layRest RX6 7 { frames := 2, cells := 0, slots := 0, locals := 64 } none)   : ∀ (n_ : Nat) (S : St) (x5 : Int) (x6 : Int), Rg G oVS id (SHM, 0, 0) (SHM, 0, 0) S 64 [some (vr G 0), some (vi x1), some (vi x2), none, none, some (vi x5), some (vi x6)] [] (lo3 (pX6_layRest_64B x1 x2) n_ S x5 x6) := by
  intro n_
  induction n_ with
  | zero => intro S x5 x6; exact r_none
  | succ n_ ih => intro S x5 x6; exact tX6_layRest_64B g   ih
theorem kX6_layRest (S : St)  : Con yX6_layRest cX6_layRest 7 none { frames := 2, cells := 0, slots := 0, locals := 64 } false SHM (SHM, 0, 0) (fun b => [.ref (b + 0)]) S (fun _ => oVS) id (pX6_layRest S) := by
  refine Con_of (fun b => [some (.ref (b + 0)), none, none, none, none, none, none]) (by decide) (fun _ => rfl) (fun _ => Nat.le_of_ble_eq_true rfl) ?_
  intro G g _ _ _
  change Ok G cX6_layRest RX6 7 { frames := 2, cells := 0, slots := 0, locals := 64 } none at g
  show Rg G oVS id (SHM, 0, 0) (SHM, 0, 0) S 0 [some (vr G 0), none, none, none, none, none, none] [] (pX6_layRest S)
  unfold pX6_layRest
  refine r_aload_n g dX6_layRest_0 rfl ?_
  refine r_iconst g dX6_layRest_1 ?_
  refine r_iconst g dX6_layRest_2 ?_
  refine r_callV_WI (q := 0) (as := fun b => [vi 1, vi 0]) g (kX6_highest S 1 0) mX6_highest shm_0 rfl w_1223 w_1225 w_48 (by decide) (fun _ => rfl) rfl (Nat.le_of_ble_eq_true rfl) dX6_layRest_3 ?_
  intro z1_ S2_
  refine r_istore_n g 1 dX6_layRest_6 rfl (by decide) rfl ?_
  refine r_aload_n g dX6_layRest_7 rfl ?_
  refine r_getI g KX6 shm_0 41 rfl (by decide) w_911 dX6_layRest_8 ?_
  refine r_topi ?_
  intro x2_3_
  refine r_istore_n g 2 dX6_layRest_11 rfl (by decide) rfl ?_
  refine r_aload_n g dX6_layRest_12 rfl ?_
  refine r_iconst g dX6_layRest_13 ?_
  refine r_iconst g dX6_layRest_14 ?_
  refine r_callV_WI (q := 0) (as := fun b => [vi 0, vi 1]) g (kX6_highest S2_ 0 1) mX6_highest shm_0 rfl w_1223 w_1225 w_48 (by decide) (fun _ => rfl) rfl (Nat.le_of_ble_eq_true rfl) dX6_layRest_15 ?_
  intro z4_ S5_
  refine r_istore_n g 3 dX6_layRest_18 rfl (by decide) rfl ?_
  refine r_aload_n g dX6_layRest_19 rfl ?_
  refine r_getI g KX6 shm_0 41 rfl (by decide) w_911 dX6_layRest_20 ?_
  refine r_topi ?_
  intro x4_6_
  refine r_istore g dX6_layRest_23 (by decide) rfl ?_
  refine r_aload_n g dX6_layRest_25 rfl ?_
  refine r_aload_n g dX6_layRest_26 rfl ?_
  refine r_iconst g dX6_layRest_27 ?_
  refine r_iconst g dX6_layRest_28 ?_
  refine r_callV_WI (q := 0) (as := fun b => [vi 1, vi 1]) g (kX6_highest S5_ 1 1) mX6_highest shm_0 rfl w_1223 w_1225 w_48 (by decide) (fun _ => rfl) rfl (Nat.le_of_ble_eq_true rfl) dX6_layRest_29 ?_
  intro z7_ S8_
  refine r_i2l g dX6_layRest_32 ?_
  refine r_putL g KX6 shm_0 38 rfl (by decide) rfl rfl w_908 dX6_layRest_33 ?_
  intro S9_ _
  refine r_aload_n g dX6_layRest_36 rfl ?_
  refine r_lconst (x := 1) g dX6_layRest_37 (by decide) ?_
  refine r_putL g KX6 shm_0 39 rfl (by decide) rfl rfl w_909 dX6_layRest_38 ?_
  intro S10_ _
  refine r_aload_n g dX6_layRest_41 rfl ?_
  refine r_getI g KX6 shm_0 34 rfl (by decide) w_904 dX6_layRest_42 ?_
  refine r_if_le g 90 dX6_layRest_45 (by decide) ?_ ?_
  · refine r_msk [true, true, true, false, false, false, false] rfl ?_
    exact tX6_layRest_90 g
  · refine r_iload g dX6_layRest_48 rfl ?_
    refine r_if_eq g 90 dX6_layRest_50 (by decide) ?_ ?_
    · refine r_msk [true, true, true, false, false, false, false] rfl ?_
      exact tX6_layRest_90 g
    · refine r_iload_n g dX6_layRest_53 rfl ?_
      refine r_istore g dX6_layRest_54 (by decide) rfl ?_
      refine r_aload_n g dX6_layRest_56 rfl ?_
      refine r_iload g dX6_layRest_57 rfl ?_
      refine r_callV_PI (q := 0) (as := fun b => [vi z4_]) g (kX6_nextBreak S10_ z4_) mX6_nextBreak shm_0 rfl w_1235 w_1237 w_51 (by decide) (fun _ => rfl) rfl (Nat.le_of_ble_eq_true rfl) dX6_layRest_59 ?_
      intro z23_
      refine r_istore g dX6_layRest_62 (by decide) rfl ?_
      refine r_msk [true, true, true, false, false, true, true] rfl ?_
      exact tX6_layRest_64 g _ _ _ _
theorem tX6_rest_55 {G : Gx}  {S : St} {s0 : Int} {s1 : Int} {s2 : Int} (g : Ok G cX6_rest RX6 1 { frames := 3, cells := 0, slots := 0, locals := 90 } (some .int))   : Rg G oIS (fun v => v.2) (SHM, 0, 0) (SHM, 0, 0) S 55 [none] [vi s0, vl s1, vl s2, vr G 0] (pX6_rest_55 S s0 s1 s2) := by
  unfold pX6_rest_55
  refine r_callV_WI (q := 0) (as := fun b => [vl s2, vl s1, vi s0]) g (kX6_fraction S s2 s1 s0) mX6_fraction shm_0 rfl w_1160 w_1162 w_42 (by decide) (fun _ => rfl) rfl (Nat.le_of_ble_eq_true rfl) dX6_rest_55 ?_
  intro z4_ S5_
  exact r_iret g dX6_rest_58 rfl rfl
theorem kX6_rest (S : St)  : Con yX6_rest cX6_rest 1 (some .int) { frames := 3, cells := 0, slots := 0, locals := 90 } false SHM (SHM, 0, 0) (fun b => [.ref (b + 0)]) S (fun _ => oIS) (fun v => v.2) (pX6_rest S) := by
  refine Con_of (fun b => [some (.ref (b + 0))]) (by decide) (fun _ => rfl) (fun _ => Nat.le_of_ble_eq_true rfl) ?_
  intro G g _ _ _
  change Ok G cX6_rest RX6 1 { frames := 3, cells := 0, slots := 0, locals := 90 } (some .int) at g
  show Rg G oIS (fun v => v.2) (SHM, 0, 0) (SHM, 0, 0) S 0 [some (vr G 0)] [] (pX6_rest S)
  unfold pX6_rest
  refine r_aload_n g dX6_rest_0 rfl ?_
  refine r_iconst g dX6_rest_1 ?_
  refine r_iconst g dX6_rest_2 ?_
  refine r_callV_WI (q := 0) (as := fun b => [vi 1, vi 1]) g (kX6_highest S 1 1) mX6_highest shm_0 rfl w_1223 w_1225 w_48 (by decide) (fun _ => rfl) rfl (Nat.le_of_ble_eq_true rfl) dX6_rest_3 ?_
  intro z1_ S2_
  refine r_pop g dX6_rest_6 rfl ?_
  refine r_aload_n g dX6_rest_7 rfl ?_
  refine r_getI g KX6 shm_0 41 rfl (by decide) w_911 dX6_rest_8 ?_
  refine r_if_ne g 17 dX6_rest_11 (by decide) ?_ ?_
  · refine r_aload_n g dX6_rest_17 rfl ?_
    refine r_callV_WV (q := 0) (as := fun b => []) g (kX6_layRest S2_) mX6_layRest shm_0 rfl w_1231 w_1233 w_50 (by decide) (fun _ => rfl) rfl (Nat.le_of_ble_eq_true rfl) dX6_rest_18 ?_
    intro S3_
    refine r_aload_n g dX6_rest_21 rfl ?_
    refine r_aload_n g dX6_rest_22 rfl ?_
    refine r_getL g KX6 shm_0 38 rfl (by decide) w_908 dX6_rest_23 ?_
    refine r_aload_n g dX6_rest_26 rfl ?_
    refine r_getL g KX6 shm_0 39 rfl (by decide) w_909 dX6_rest_27 ?_
    refine r_aload_n g dX6_rest_30 rfl ?_
    refine r_getI g KX6 shm_0 40 rfl (by decide) w_910 dX6_rest_31 ?_
    refine r_if_eq g 41 dX6_rest_34 (by decide) ?_ ?_
    · refine r_aload_n g dX6_rest_41 rfl ?_
      refine r_getL g KX6 shm_0 38 rfl (by decide) w_908 dX6_rest_42 ?_
      refine r_lconst (x := 0) g dX6_rest_45 (by decide) ?_
      refine r_lcmp_ne g 54 dX6_rest_46 dX6_rest_47 (by decide) ?_ ?_
      · refine r_iconst g dX6_rest_54 ?_
        refine r_msk [false] rfl ?_
        exact tX6_rest_55 g
      · refine r_iconst g dX6_rest_50 ?_
        refine r_goto g 55 dX6_rest_51 (by decide) ?_
        refine r_msk [false] rfl ?_
        exact tX6_rest_55 g
    · refine r_iconst g dX6_rest_37 ?_
      refine r_goto g 55 dX6_rest_38 (by decide) ?_
      refine r_msk [false] rfl ?_
      exact tX6_rest_55 g
  · refine r_bipush g dX6_rest_14 (by decide) ?_
    exact r_iret g dX6_rest_16 rfl rfl
theorem tX6_layPress_45 {G : Gx}  {S : St} {x2 : Int} {s0 : Int} (g : Ok G cX6_layPress RX6 3 { frames := 2, cells := 0, slots := 0, locals := 59 } none)   : Rg G oVS id (SHM, 0, 0) (SHM, 0, 0) S 45 [some (vr G 0), none, some (vi x2)] [vl s0, vr G 0] (pX6_layPress_45 S x2 s0) := by
  unfold pX6_layPress_45
  refine r_putL g KX6 shm_0 44 rfl (by decide) rfl rfl w_914 dX6_layPress_45 ?_
  intro S4_ _
  refine r_aload_n g dX6_layPress_48 rfl ?_
  refine r_iload_n g dX6_layPress_49 rfl ?_
  refine r_aload_n g dX6_layPress_50 rfl ?_
  refine r_getL g KX6 shm_0 44 rfl (by decide) w_914 dX6_layPress_51 ?_
  refine r_aload_n g dX6_layPress_54 rfl ?_
  refine r_getL g KX6 shm_0 39 rfl (by decide) w_909 dX6_layPress_55 ?_
  refine r_callV_WV (q := 0) (as := fun b => [vi x2, vl (S4_ 0 44), vl (S4_ 0 39)]) g (kX6_layPush S4_ x2 (S4_ 0 44) (S4_ 0 39)) mX6_layPush shm_0 rfl w_1141 w_1143 w_38 (by decide) (fun _ => rfl) rfl (Nat.le_of_ble_eq_true rfl) dX6_layPress_58 ?_
  intro S5_
  refine r_aload_n g dX6_layPress_61 rfl ?_
  refine r_aload_n g dX6_layPress_62 rfl ?_
  refine r_getL g KX6 shm_0 24 rfl (by decide) w_894 dX6_layPress_63 ?_
  refine r_aload_n g dX6_layPress_66 rfl ?_
  refine r_iload_n g dX6_layPress_67 rfl ?_
  refine r_callV_PI (q := 0) (as := fun b => [vi x2]) g (kX6_factor S5_ x2) mX6_factor shm_0 rfl w_1243 w_1245 w_53 (by decide) (fun _ => rfl) rfl (Nat.le_of_ble_eq_true rfl) dX6_layPress_68 ?_
  intro z6_
  refine r_i2l g dX6_layPress_71 ?_
  refine r_lmul g dX6_layPress_72 ?_
  refine r_putL g KX6 shm_0 42 rfl (by decide) rfl rfl w_912 dX6_layPress_73 ?_
  intro S7_ _
  refine r_aload_n g dX6_layPress_76 rfl ?_
  refine r_aload_n g dX6_layPress_77 rfl ?_
  refine r_getL g KX6 shm_0 25 rfl (by decide) w_895 dX6_layPress_78 ?_
  refine r_putL g KX6 shm_0 43 rfl (by decide) rfl rfl w_913 dX6_layPress_81 ?_
  intro S8_ _
  exact r_vret g dX6_layPress_84 rfl rfl
theorem kX6_layPress (S : St) (x1 : Int)  : Con yX6_layPress cX6_layPress 3 none { frames := 2, cells := 0, slots := 0, locals := 59 } false SHM (SHM, 0, 0) (fun b => [.ref (b + 0), vi x1]) S (fun _ => oVS) id (pX6_layPress S x1) := by
  refine Con_of (fun b => [some (.ref (b + 0)), some (vi x1), none]) (by decide) (fun _ => rfl) (fun _ => Nat.le_of_ble_eq_true rfl) ?_
  intro G g _ _ _
  change Ok G cX6_layPress RX6 3 { frames := 2, cells := 0, slots := 0, locals := 59 } none at g
  show Rg G oVS id (SHM, 0, 0) (SHM, 0, 0) S 0 [some (vr G 0), some (vi x1), none] [] (pX6_layPress S x1)
  unfold pX6_layPress
  refine r_aload_n g dX6_layPress_0 rfl ?_
  refine r_getC (c0 := 19) g KX6 shm_0 27 rfl (by decide) w_897 dX6_layPress_1 ?_
  refine r_iload_n g dX6_layPress_4 rfl ?_
  refine r_iald g shm_19 (by decide) dX6_layPress_5 ?_
  intro z1_
  refine r_istore_n g 2 dX6_layPress_6 rfl (by decide) rfl ?_
  refine r_aload_n g dX6_layPress_7 rfl ?_
  refine r_aload_n g dX6_layPress_8 rfl ?_
  refine r_iload_n g dX6_layPress_9 rfl ?_
  refine r_callV_PI (q := 0) (as := fun b => [vi x1]) g (kX6_topOf S x1) mX6_topOf shm_0 rfl w_1227 w_1229 w_49 (by decide) (fun _ => rfl) rfl (Nat.le_of_ble_eq_true rfl) dX6_layPress_10 ?_
  intro z2_
  refine r_i2l g dX6_layPress_13 ?_
  refine r_aload_n g dX6_layPress_14 rfl ?_
  refine r_getL g KX6 shm_0 39 rfl (by decide) w_909 dX6_layPress_15 ?_
  refine r_lmul g dX6_layPress_18 ?_
  refine r_aload_n g dX6_layPress_19 rfl ?_
  refine r_getL g KX6 shm_0 38 rfl (by decide) w_908 dX6_layPress_20 ?_
  refine r_lsub g dX6_layPress_23 ?_
  refine r_putL g KX6 shm_0 44 rfl (by decide) rfl rfl w_914 dX6_layPress_24 ?_
  intro S3_ _
  refine r_aload_n g dX6_layPress_27 rfl ?_
  refine r_aload_n g dX6_layPress_28 rfl ?_
  refine r_getL g KX6 shm_0 44 rfl (by decide) w_914 dX6_layPress_29 ?_
  refine r_lconst (x := 0) g dX6_layPress_32 (by decide) ?_
  refine r_lcmp_le g 44 dX6_layPress_33 dX6_layPress_34 (by decide) ?_ ?_
  · refine r_lconst (x := 0) g dX6_layPress_44 (by decide) ?_
    refine r_msk [true, false, true] rfl ?_
    exact tX6_layPress_45 g
  · refine r_aload_n g dX6_layPress_37 rfl ?_
    refine r_getL g KX6 shm_0 44 rfl (by decide) w_914 dX6_layPress_38 ?_
    refine r_goto g 45 dX6_layPress_41 (by decide) ?_
    refine r_msk [true, false, true] rfl ?_
    exact tX6_layPress_45 g
theorem kX6_isOpen (S : St)  : Con yX6_isOpen cX6_isOpen 1 (some .boolean) { frames := 0, cells := 0, slots := 0, locals := 0 } false SHM (SHM, 0, 0) (fun b => [.ref (b + 0)]) S (fun _ => oI) (fun _ => S) (pX6_isOpen S) := by
  refine Con_of (fun b => [some (.ref (b + 0))]) (by decide) (fun _ => rfl) (fun _ => Nat.le_of_ble_eq_true rfl) ?_
  intro G g _ _ _
  change Ok G cX6_isOpen RX6 1 { frames := 0, cells := 0, slots := 0, locals := 0 } (some .boolean) at g
  show Rg G oI (fun _ => S) (SHM, 0, 0) (SHM, 0, 0) S 0 [some (vr G 0)] [] (pX6_isOpen S)
  unfold pX6_isOpen
  refine r_aload_n g dX6_isOpen_0 rfl ?_
  refine r_getL g KX6 shm_0 42 rfl (by decide) w_912 dX6_isOpen_1 ?_
  refine r_aload_n g dX6_isOpen_4 rfl ?_
  refine r_getI g KX6 shm_0 36 rfl (by decide) w_906 dX6_isOpen_5 ?_
  refine r_i2l g dX6_isOpen_8 ?_
  refine r_aload_n g dX6_isOpen_9 rfl ?_
  refine r_getL g KX6 shm_0 43 rfl (by decide) w_913 dX6_isOpen_10 ?_
  refine r_lmul g dX6_isOpen_13 ?_
  refine r_lcmp_ge g 22 dX6_isOpen_14 dX6_isOpen_15 (by decide) ?_ ?_
  · refine r_iconst g dX6_isOpen_22 ?_
    exact r_zret0 g (by decide) dX6_isOpen_23 rfl rfl
  · refine r_iconst g dX6_isOpen_18 ?_
    refine r_goto g 23 dX6_isOpen_19 (by decide) ?_
    exact r_zret0 g (by decide) dX6_isOpen_23 rfl rfl
theorem tX6_press_43 {G : Gx}  {S : St} {s0 : Int} {s1 : Int} {s2 : Int} (g : Ok G cX6_press RX6 3 { frames := 4, cells := 0, slots := 0, locals := 90 } (some .int))   : Rg G oIS (fun v => v.2) (SHM, 0, 0) (SHM, 0, 0) S 43 [none, none, none] [vi s0, vl s1, vl s2, vr G 0] (pX6_press_43 S s0 s1 s2) := by
  unfold pX6_press_43
  refine r_callV_WI (q := 0) (as := fun b => [vl s2, vl s1, vi s0]) g (kX6_fraction S s2 s1 s0) mX6_fraction shm_0 rfl w_1160 w_1162 w_42 (by decide) (fun _ => rfl) rfl (Nat.le_of_ble_eq_true rfl) dX6_press_43 ?_
  intro z6_ S7_
  exact r_iret g dX6_press_46 rfl rfl
theorem kX6_press (S : St) (x1 : Int)  : Con yX6_press cX6_press 3 (some .int) { frames := 4, cells := 0, slots := 0, locals := 90 } false SHM (SHM, 0, 0) (fun b => [.ref (b + 0), vi x1]) S (fun _ => oIS) (fun v => v.2) (pX6_press S x1) := by
  refine Con_of (fun b => [some (.ref (b + 0)), some (vi x1), none]) (by decide) (fun _ => rfl) (fun _ => Nat.le_of_ble_eq_true rfl) ?_
  intro G g _ _ _
  change Ok G cX6_press RX6 3 { frames := 4, cells := 0, slots := 0, locals := 90 } (some .int) at g
  show Rg G oIS (fun v => v.2) (SHM, 0, 0) (SHM, 0, 0) S 0 [some (vr G 0), some (vi x1), none] [] (pX6_press S x1)
  unfold pX6_press
  refine r_aload_n g dX6_press_0 rfl ?_
  refine r_iconst g dX6_press_1 ?_
  refine r_iload_n g dX6_press_2 rfl ?_
  refine r_callV_WI (q := 0) (as := fun b => [vi 1, vi x1]) g (kX6_needRubber S 1 x1) mX6_needRubber shm_0 rfl w_1251 w_1253 w_54 (by decide) (fun _ => rfl) rfl (Nat.le_of_ble_eq_true rfl) dX6_press_3 ?_
  intro z1_ S2_
  refine r_istore_n g 2 dX6_press_6 rfl (by decide) rfl ?_
  refine r_iload_n g dX6_press_7 rfl ?_
  refine r_if_ge g 13 dX6_press_8 (by decide) ?_ ?_
  · refine r_aload_n g dX6_press_13 rfl ?_
    refine r_callV_WV (q := 0) (as := fun b => []) g (kX6_layRest S2_) mX6_layRest shm_0 rfl w_1231 w_1233 w_50 (by decide) (fun _ => rfl) rfl (Nat.le_of_ble_eq_true rfl) dX6_press_14 ?_
    intro S3_
    refine r_aload_n g dX6_press_17 rfl ?_
    refine r_iload_n g dX6_press_18 rfl ?_
    refine r_callV_WV (q := 0) (as := fun b => [vi x1]) g (kX6_layPress S3_ x1) mX6_layPress shm_0 rfl w_1255 w_1257 w_55 (by decide) (fun _ => rfl) rfl (Nat.le_of_ble_eq_true rfl) dX6_press_19 ?_
    intro S4_
    refine r_aload_n g dX6_press_22 rfl ?_
    refine r_aload_n g dX6_press_23 rfl ?_
    refine r_getL g KX6 shm_0 42 rfl (by decide) w_912 dX6_press_24 ?_
    refine r_aload_n g dX6_press_27 rfl ?_
    refine r_getL g KX6 shm_0 43 rfl (by decide) w_913 dX6_press_28 ?_
    refine r_aload_n g dX6_press_31 rfl ?_
    refine r_callV_PI (q := 0) (as := fun b => []) g (kX6_isOpen S4_) mX6_isOpen shm_0 rfl w_1259 w_1261 w_56 (by decide) (fun _ => rfl) rfl (Nat.le_of_ble_eq_true rfl) dX6_press_32 ?_
    intro z5_
    refine r_if_eq g 42 dX6_press_35 (by decide) ?_ ?_
    · refine r_iconst g dX6_press_42 ?_
      refine r_msk [false, false, false] rfl ?_
      exact tX6_press_43 g
    · refine r_iconst g dX6_press_38 ?_
      refine r_goto g 43 dX6_press_39 (by decide) ?_
      refine r_msk [false, false, false] rfl ?_
      exact tX6_press_43 g
  · refine r_iload_n g dX6_press_11 rfl ?_
    exact r_iret g dX6_press_12 rfl rfl
theorem tX6_openNow_57 {G : Gx} {k22 : St → Int → Int → Option (Int × St)} {S : St} {x1 : Int} {x2 : Int} (g : Ok G cX6_openNow RX6 3 { frames := 3, cells := 0, slots := 0, locals := 90 } (some .int)) (hk22 : ∀ (S' : St) (x1' : Int) (x2' : Int), Rg G oIS (fun v => v.2) (SHM, 0, 0) (SHM, 0, 0) S' 22 [some (vr G 0), some (vi (x1')), some (vi (x2'))] [] (k22 S' x1' x2'))  : Rg G oIS (fun v => v.2) (SHM, 0, 0) (SHM, 0, 0) S 57 [some (vr G 0), some (vi x1), some (vi x2)] [] (pX6_openNow_57 k22 S x1 x2) := by
  unfold pX6_openNow_57
  refine r_iinc g dX6_openNow_57 (by decide) rfl ?_
  intro x2_4_
  change Rg _ _ _ _ _ _ _ [some (vr G 0), some (vi x1), some (vi x2_4_)] _ _
  refine r_goto g 22 dX6_openNow_60 (by decide) ?_
  exact hk22 _ _ _
theorem tX6_openNow_55 {G : Gx} {k22 : St → Int → Int → Option (Int × St)} {S : St} {x2 : Int} {s0 : Int} {s1 : Int} (g : Ok G cX6_openNow RX6 3 { frames := 3, cells := 0, slots := 0, locals := 90 } (some .int)) (hk22 : ∀ (S' : St) (x1' : Int) (x2' : Int), Rg G oIS (fun v => v.2) (SHM, 0, 0) (SHM, 0, 0) S' 22 [some (vr G 0), some (vi (x1')), some (vi (x2'))] [] (k22 S' x1' x2'))  : Rg G oIS (fun v => v.2) (SHM, 0, 0) (SHM, 0, 0) S 55 [some (vr G 0), none, some (vi x2)] [vi s0, vi s1] (pX6_openNow_55 k22 S x2 s0 s1) := by
  unfold pX6_openNow_55
  refine r_ior g dX6_openNow_55 ?_
  intro z7_
  refine r_istore_n g 1 dX6_openNow_56 rfl (by decide) rfl ?_
  exact tX6_openNow_57 g hk22
theorem tX6_openNow_22B {G : Gx}  (g : Ok G cX6_openNow RX6 3 { frames := 3, cells := 0, slots := 0, locals := 90 } (some .int))   {k22 : St → Int → Int → Option (Int × St)} (hk22 : ∀ (S' : St) (x1' : Int) (x2' : Int), Rg G oIS (fun v => v.2) (SHM, 0, 0) (SHM, 0, 0) S' 22 [some (vr G 0), some (vi (x1')), some (vi (x2'))] [] (k22 S' x1' x2')) {S : St} {x1 : Int} {x2 : Int} : Rg G oIS (fun v => v.2) (SHM, 0, 0) (SHM, 0, 0) S 22 [some (vr G 0), some (vi x1), some (vi x2)] [] (pX6_openNow_22B k22 S x1 x2) := by
  unfold pX6_openNow_22B
  refine r_iload_n g dX6_openNow_22 rfl ?_
  refine r_iconst g dX6_openNow_23 ?_
  refine r_icmp_ge g 63 dX6_openNow_24 (by decide) ?_ ?_
  · refine r_iload_n g dX6_openNow_63 rfl ?_
    exact r_iret g dX6_openNow_64 rfl rfl
  · refine r_aload_n g dX6_openNow_27 rfl ?_
    refine r_iload_n g dX6_openNow_28 rfl ?_
    refine r_callV_PI (q := 0) (as := fun b => [vi x2]) g (kX6_isRubber S x2) mX6_isRubber shm_0 rfl w_1210 w_1212 w_47 (by decide) (fun _ => rfl) rfl (Nat.le_of_ble_eq_true rfl) dX6_openNow_29 ?_
    intro z3_
    refine r_if_eq g 57 dX6_openNow_32 (by decide) ?_ ?_
    · exact tX6_openNow_57 g hk22
    · refine r_aload_n g dX6_openNow_35 rfl ?_
      refine r_iload_n g dX6_openNow_36 rfl ?_
      refine r_callV_WV (q := 0) (as := fun b => [vi x2]) g (kX6_layPress S x2) mX6_layPress shm_0 rfl w_1255 w_1257 w_55 (by decide) (fun _ => rfl) rfl (Nat.le_of_ble_eq_true rfl) dX6_openNow_37 ?_
      intro S5_
      refine r_iload_n g dX6_openNow_40 rfl ?_
      refine r_aload_n g dX6_openNow_41 rfl ?_
      refine r_callV_PI (q := 0) (as := fun b => []) g (kX6_isOpen S5_) mX6_isOpen shm_0 rfl w_1259 w_1261 w_56 (by decide) (fun _ => rfl) rfl (Nat.le_of_ble_eq_true rfl) dX6_openNow_42 ?_
      intro z6_
      refine r_if_eq g 54 dX6_openNow_45 (by decide) ?_ ?_
      · refine r_iconst g dX6_openNow_54 ?_
        refine r_msk [true, false, true] rfl ?_
        exact tX6_openNow_55 g hk22
      · refine r_iconst g dX6_openNow_48 ?_
        refine r_iload_n g dX6_openNow_49 rfl ?_
        refine r_ishl g dX6_openNow_50 ?_
        intro z8_
        refine r_goto g 55 dX6_openNow_51 (by decide) ?_
        refine r_msk [true, false, true] rfl ?_
        exact tX6_openNow_55 g hk22
theorem tX6_openNow_22 {G : Gx}  (g : Ok G cX6_openNow RX6 3 { frames := 3, cells := 0, slots := 0, locals := 90 } (some .int))   : ∀ (n_ : Nat) (S : St) (x1 : Int) (x2 : Int), Rg G oIS (fun v => v.2) (SHM, 0, 0) (SHM, 0, 0) S 22 [some (vr G 0), some (vi x1), some (vi x2)] [] (lo3 (pX6_openNow_22B) n_ S x1 x2) := by
  intro n_
  induction n_ with
  | zero => intro S x1 x2; exact r_none
  | succ n_ ih => intro S x1 x2; exact tX6_openNow_22B g   ih
theorem tX6_openNow_20 {G : Gx}  {S : St} {x1 : Int} (g : Ok G cX6_openNow RX6 3 { frames := 3, cells := 0, slots := 0, locals := 90 } (some .int))   : Rg G oIS (fun v => v.2) (SHM, 0, 0) (SHM, 0, 0) S 20 [some (vr G 0), some (vi x1), none] [] (pX6_openNow_20 S x1) := by
  unfold pX6_openNow_20
  refine r_iconst g dX6_openNow_20 ?_
  refine r_istore_n g 2 dX6_openNow_21 rfl (by decide) rfl ?_
  exact tX6_openNow_22 g _ _ _ _
theorem kX6_openNow (S : St)  : Con yX6_openNow cX6_openNow 3 (some .int) { frames := 3, cells := 0, slots := 0, locals := 90 } false SHM (SHM, 0, 0) (fun b => [.ref (b + 0)]) S (fun _ => oIS) (fun v => v.2) (pX6_openNow S) := by
  refine Con_of (fun b => [some (.ref (b + 0)), none, none]) (by decide) (fun _ => rfl) (fun _ => Nat.le_of_ble_eq_true rfl) ?_
  intro G g _ _ _
  change Ok G cX6_openNow RX6 3 { frames := 3, cells := 0, slots := 0, locals := 90 } (some .int) at g
  show Rg G oIS (fun v => v.2) (SHM, 0, 0) (SHM, 0, 0) S 0 [some (vr G 0), none, none] [] (pX6_openNow S)
  unfold pX6_openNow
  refine r_iconst g dX6_openNow_0 ?_
  refine r_istore_n g 1 dX6_openNow_1 rfl (by decide) rfl ?_
  refine r_aload_n g dX6_openNow_2 rfl ?_
  refine r_iconst g dX6_openNow_3 ?_
  refine r_iconst g dX6_openNow_4 ?_
  refine r_callV_WI (q := 0) (as := fun b => [vi 0, vi 1]) g (kX6_highest S 0 1) mX6_highest shm_0 rfl w_1223 w_1225 w_48 (by decide) (fun _ => rfl) rfl (Nat.le_of_ble_eq_true rfl) dX6_openNow_5 ?_
  intro z1_ S2_
  refine r_pop g dX6_openNow_8 rfl ?_
  refine r_aload_n g dX6_openNow_9 rfl ?_
  refine r_getI g KX6 shm_0 41 rfl (by decide) w_911 dX6_openNow_10 ?_
  refine r_if_eq g 20 dX6_openNow_13 (by decide) ?_ ?_
  · exact tX6_openNow_20 g
  · refine r_aload_n g dX6_openNow_16 rfl ?_
    refine r_callV_WV (q := 0) (as := fun b => []) g (kX6_layRest S2_) mX6_layRest shm_0 rfl w_1231 w_1233 w_50 (by decide) (fun _ => rfl) rfl (Nat.le_of_ble_eq_true rfl) dX6_openNow_17 ?_
    intro S9_
    exact tX6_openNow_20 g
theorem kX6_opens (S : St)  : Con yX6_opens cX6_opens 1 (some .int) { frames := 4, cells := 0, slots := 0, locals := 112 } false SHM (SHM, 0, 0) (fun b => [.ref (b + 0)]) S (fun _ => oIS) (fun v => v.2) (pX6_opens S) := by
  refine Con_of (fun b => [some (.ref (b + 0))]) (by decide) (fun _ => rfl) (fun _ => Nat.le_of_ble_eq_true rfl) ?_
  intro G g _ _ _
  change Ok G cX6_opens RX6 1 { frames := 4, cells := 0, slots := 0, locals := 112 } (some .int) at g
  show Rg G oIS (fun v => v.2) (SHM, 0, 0) (SHM, 0, 0) S 0 [some (vr G 0)] [] (pX6_opens S)
  unfold pX6_opens
  refine r_aload_n g dX6_opens_0 rfl ?_
  refine r_callV_WI (q := 0) (as := fun b => []) g (kX6_openNow S) mX6_openNow shm_0 rfl w_1267 w_1269 w_57 (by decide) (fun _ => rfl) rfl (Nat.le_of_ble_eq_true rfl) dX6_opens_1 ?_
  intro z1_ S2_
  exact r_iret g dX6_opens_4 rfl rfl
theorem tX6_isLess_172 {G : Gx}  {S : St} {x16 : Int} {x17 : Int} {s0 : Int} (g : Ok G cX6_isLess RX6 21 { frames := 0, cells := 0, slots := 0, locals := 0 } (some .boolean))   : Rg G oI (fun _ => S) (SHM, 0, 0) (SHM, 0, 0) S 172 [none, none, none, none, none, none, none, none, none, none, none, none, none, none, none, none, some (vi x16), some (vi x17), none, none, none] [vi s0] (pX6_isLess_172 x16 x17 s0) := by
  unfold pX6_isLess_172
  refine r_istore g dX6_isLess_172 (by decide) rfl ?_
  refine r_iload g dX6_isLess_174 rfl ?_
  refine r_iload g dX6_isLess_176 rfl ?_
  refine r_icmp_eq g 192 dX6_isLess_178 (by decide) ?_ ?_
  · refine r_iconst g dX6_isLess_192 ?_
    exact r_zret0 g (by decide) dX6_isLess_193 rfl rfl
  · refine r_iload g dX6_isLess_181 rfl ?_
    refine r_iload g dX6_isLess_183 rfl ?_
    refine r_icmp_eq g 192 dX6_isLess_185 (by decide) ?_ ?_
    · refine r_iconst g dX6_isLess_192 ?_
      exact r_zret0 g (by decide) dX6_isLess_193 rfl rfl
    · refine r_iconst g dX6_isLess_188 ?_
      refine r_goto g 193 dX6_isLess_189 (by decide) ?_
      exact r_zret0 g (by decide) dX6_isLess_193 rfl rfl
theorem tX6_isLess_155 {G : Gx}  {S : St} {x12 : Int} {x14 : Int} {x16 : Int} {s0 : Int} (g : Ok G cX6_isLess RX6 21 { frames := 0, cells := 0, slots := 0, locals := 0 } (some .boolean))   : Rg G oI (fun _ => S) (SHM, 0, 0) (SHM, 0, 0) S 155 [none, none, none, none, none, none, none, none, none, none, none, none, some (vl x12), none, some (vl x14), none, some (vi x16), none, none, none, none] [vi s0] (pX6_isLess_155 x12 x14 x16 s0) := by
  unfold pX6_isLess_155
  refine r_istore g dX6_isLess_155 (by decide) rfl ?_
  refine r_lload g dX6_isLess_157 rfl ?_
  refine r_lload g dX6_isLess_159 rfl ?_
  refine r_lrem g dX6_isLess_161 ?_
  intro z6_
  refine r_lconst (x := 0) g dX6_isLess_162 (by decide) ?_
  refine r_lcmp_ne g 171 dX6_isLess_163 dX6_isLess_164 (by decide) ?_ ?_
  · refine r_iconst g dX6_isLess_171 ?_
    refine r_msk [false, false, false, false, false, false, false, false, false, false, false, false, false, false, false, false, true, true, false, false, false] rfl ?_
    exact tX6_isLess_172 g
  · refine r_iconst g dX6_isLess_167 ?_
    refine r_goto g 172 dX6_isLess_168 (by decide) ?_
    refine r_msk [false, false, false, false, false, false, false, false, false, false, false, false, false, false, false, false, true, true, false, false, false] rfl ?_
    exact tX6_isLess_172 g
theorem tX6_isLess_129 {G : Gx}  {S : St} {x16 : Int} {s0 : Int} (g : Ok G cX6_isLess RX6 21 { frames := 0, cells := 0, slots := 0, locals := 0 } (some .boolean))   : Rg G oI (fun _ => S) (SHM, 0, 0) (SHM, 0, 0) S 129 [none, none, none, none, none, none, none, none, none, none, none, none, none, none, none, none, some (vi x16), none, none, none, none] [vi s0] (pX6_isLess_129 x16 s0) := by
  unfold pX6_isLess_129
  refine r_iload g dX6_isLess_129 rfl ?_
  refine r_icmp_eq g 138 dX6_isLess_131 (by decide) ?_ ?_
  · refine r_iconst g dX6_isLess_138 ?_
    exact r_zret0 g (by decide) dX6_isLess_139 rfl rfl
  · refine r_iconst g dX6_isLess_134 ?_
    refine r_goto g 139 dX6_isLess_135 (by decide) ?_
    exact r_zret0 g (by decide) dX6_isLess_139 rfl rfl
theorem tX6_isLess_96 {G : Gx}  {S : St} {x8 : Int} {x10 : Int} {x12 : Int} {x14 : Int} {x16 : Int} (g : Ok G cX6_isLess RX6 21 { frames := 0, cells := 0, slots := 0, locals := 0 } (some .boolean))   : Rg G oI (fun _ => S) (SHM, 0, 0) (SHM, 0, 0) S 96 [none, none, none, none, none, none, none, none, some (vl x8), none, some (vl x10), none, some (vl x12), none, some (vl x14), none, some (vi x16), none, none, none, none] [] (pX6_isLess_96 x8 x10 x12 x14 x16) := by
  unfold pX6_isLess_96
  refine r_lload g dX6_isLess_96 rfl ?_
  refine r_lload g dX6_isLess_98 rfl ?_
  refine r_ldiv g dX6_isLess_100 ?_
  intro z3_
  refine r_lload g dX6_isLess_101 rfl ?_
  refine r_lload g dX6_isLess_103 rfl ?_
  refine r_ldiv g dX6_isLess_105 ?_
  intro z4_
  refine r_lcmp_eq g 140 dX6_isLess_106 dX6_isLess_107 (by decide) ?_ ?_
  · refine r_lload g dX6_isLess_140 rfl ?_
    refine r_lload g dX6_isLess_142 rfl ?_
    refine r_lrem g dX6_isLess_144 ?_
    intro z5_
    refine r_lconst (x := 0) g dX6_isLess_145 (by decide) ?_
    refine r_lcmp_ne g 154 dX6_isLess_146 dX6_isLess_147 (by decide) ?_ ?_
    · refine r_iconst g dX6_isLess_154 ?_
      refine r_msk [false, false, false, false, false, false, false, false, false, false, false, false, true, false, true, false, true, false, false, false, false] rfl ?_
      exact tX6_isLess_155 g
    · refine r_iconst g dX6_isLess_150 ?_
      refine r_goto g 155 dX6_isLess_151 (by decide) ?_
      refine r_msk [false, false, false, false, false, false, false, false, false, false, false, false, true, false, true, false, true, false, false, false, false] rfl ?_
      exact tX6_isLess_155 g
  · refine r_lload g dX6_isLess_110 rfl ?_
    refine r_lload g dX6_isLess_112 rfl ?_
    refine r_ldiv g dX6_isLess_114 ?_
    intro z7_
    refine r_lload g dX6_isLess_115 rfl ?_
    refine r_lload g dX6_isLess_117 rfl ?_
    refine r_ldiv g dX6_isLess_119 ?_
    intro z8_
    refine r_lcmp_ge g 128 dX6_isLess_120 dX6_isLess_121 (by decide) ?_ ?_
    · refine r_iconst g dX6_isLess_128 ?_
      refine r_msk [false, false, false, false, false, false, false, false, false, false, false, false, false, false, false, false, true, false, false, false, false] rfl ?_
      exact tX6_isLess_129 g
    · refine r_iconst g dX6_isLess_124 ?_
      refine r_goto g 129 dX6_isLess_125 (by decide) ?_
      refine r_msk [false, false, false, false, false, false, false, false, false, false, false, false, false, false, false, false, true, false, false, false, false] rfl ?_
      exact tX6_isLess_129 g
theorem tX6_isLess_91 {G : Gx} {k17 : Int → Int → Int → Int → Int → Option (Int)} {S : St} {x8 : Int} {x10 : Int} {x12 : Int} {x14 : Int} {s0 : Int} (g : Ok G cX6_isLess RX6 21 { frames := 0, cells := 0, slots := 0, locals := 0 } (some .boolean)) (hk17 : ∀ (x8' : Int) (x10' : Int) (x12' : Int) (x14' : Int) (x16' : Int), Rg G oI (fun _ => S) (SHM, 0, 0) (SHM, 0, 0) S 17 [none, none, none, none, none, none, none, none, some (vl (x8')), none, some (vl (x10')), none, some (vl (x12')), none, some (vl (x14')), none, some (vi (x16')), none, none, none, none] [] (k17 x8' x10' x12' x14' x16'))  : Rg G oI (fun _ => S) (SHM, 0, 0) (SHM, 0, 0) S 91 [none, none, none, none, none, none, none, none, some (vl x8), none, some (vl x10), none, some (vl x12), none, some (vl x14), none, none, none, none, none, none] [vi s0] (pX6_isLess_91 k17 x8 x10 x12 x14 s0) := by
  unfold pX6_isLess_91
  refine r_istore g dX6_isLess_91 (by decide) rfl ?_
  refine r_goto g 17 dX6_isLess_93 (by decide) ?_
  exact hk17 _ _ _ _ _
theorem tX6_isLess_17B {G : Gx} {S : St} (g : Ok G cX6_isLess RX6 21 { frames := 0, cells := 0, slots := 0, locals := 0 } (some .boolean))   {k17 : Int → Int → Int → Int → Int → Option (Int)} (hk17 : ∀ (x8' : Int) (x10' : Int) (x12' : Int) (x14' : Int) (x16' : Int), Rg G oI (fun _ => S) (SHM, 0, 0) (SHM, 0, 0) S 17 [none, none, none, none, none, none, none, none, some (vl (x8')), none, some (vl (x10')), none, some (vl (x12')), none, some (vl (x14')), none, some (vi (x16')), none, none, none, none] [] (k17 x8' x10' x12' x14' x16')) {x8 : Int} {x10 : Int} {x12 : Int} {x14 : Int} {x16 : Int} : Rg G oI (fun _ => S) (SHM, 0, 0) (SHM, 0, 0) S 17 [none, none, none, none, none, none, none, none, some (vl x8), none, some (vl x10), none, some (vl x12), none, some (vl x14), none, some (vi x16), none, none, none, none] [] (pX6_isLess_17B k17 x8 x10 x12 x14 x16) := by
  unfold pX6_isLess_17B
  refine r_lload g dX6_isLess_17 rfl ?_
  refine r_lload g dX6_isLess_19 rfl ?_
  refine r_ldiv g dX6_isLess_21 ?_
  intro z1_
  refine r_lload g dX6_isLess_22 rfl ?_
  refine r_lload g dX6_isLess_24 rfl ?_
  refine r_ldiv g dX6_isLess_26 ?_
  intro z2_
  refine r_lcmp_ne g 96 dX6_isLess_27 dX6_isLess_28 (by decide) ?_ ?_
  · exact tX6_isLess_96 g
  · refine r_lload g dX6_isLess_31 rfl ?_
    refine r_lload g dX6_isLess_33 rfl ?_
    refine r_lrem g dX6_isLess_35 ?_
    intro z9_
    refine r_lconst (x := 0) g dX6_isLess_36 (by decide) ?_
    refine r_lcmp_eq g 96 dX6_isLess_37 dX6_isLess_38 (by decide) ?_ ?_
    · exact tX6_isLess_96 g
    · refine r_lload g dX6_isLess_41 rfl ?_
      refine r_lload g dX6_isLess_43 rfl ?_
      refine r_lrem g dX6_isLess_45 ?_
      intro z10_
      refine r_lconst (x := 0) g dX6_isLess_46 (by decide) ?_
      refine r_lcmp_eq g 96 dX6_isLess_47 dX6_isLess_48 (by decide) ?_ ?_
      · exact tX6_isLess_96 g
      · refine r_lload g dX6_isLess_51 rfl ?_
        refine r_lload g dX6_isLess_53 rfl ?_
        refine r_lrem g dX6_isLess_55 ?_
        intro z11_
        refine r_lstore g dX6_isLess_56 (by decide) rfl ?_
        refine r_lload g dX6_isLess_58 rfl ?_
        refine r_lload g dX6_isLess_60 rfl ?_
        refine r_lrem g dX6_isLess_62 ?_
        intro z12_
        refine r_lstore g dX6_isLess_63 (by decide) rfl ?_
        refine r_lload g dX6_isLess_65 rfl ?_
        refine r_lstore g dX6_isLess_67 (by decide) rfl ?_
        refine r_lload g dX6_isLess_69 rfl ?_
        refine r_lstore g dX6_isLess_71 (by decide) rfl ?_
        refine r_lload g dX6_isLess_73 rfl ?_
        refine r_lstore g dX6_isLess_75 (by decide) rfl ?_
        refine r_lload g dX6_isLess_77 rfl ?_
        refine r_lstore g dX6_isLess_79 (by decide) rfl ?_
        refine r_iload g dX6_isLess_81 rfl ?_
        refine r_if_ne g 90 dX6_isLess_83 (by decide) ?_ ?_
        · refine r_iconst g dX6_isLess_90 ?_
          refine r_msk [false, false, false, false, false, false, false, false, true, false, true, false, true, false, true, false, false, false, false, false, false] rfl ?_
          exact tX6_isLess_91 g hk17
        · refine r_iconst g dX6_isLess_86 ?_
          refine r_goto g 91 dX6_isLess_87 (by decide) ?_
          refine r_msk [false, false, false, false, false, false, false, false, true, false, true, false, true, false, true, false, false, false, false, false, false] rfl ?_
          exact tX6_isLess_91 g hk17
theorem tX6_isLess_17 {G : Gx} {S : St} (g : Ok G cX6_isLess RX6 21 { frames := 0, cells := 0, slots := 0, locals := 0 } (some .boolean))   : ∀ (n_ : Nat) (x8 : Int) (x10 : Int) (x12 : Int) (x14 : Int) (x16 : Int), Rg G oI (fun _ => S) (SHM, 0, 0) (SHM, 0, 0) S 17 [none, none, none, none, none, none, none, none, some (vl x8), none, some (vl x10), none, some (vl x12), none, some (vl x14), none, some (vi x16), none, none, none, none] [] (lo5 (pX6_isLess_17B) n_ x8 x10 x12 x14 x16) := by
  intro n_
  induction n_ with
  | zero => intro x8 x10 x12 x14 x16; exact r_none
  | succ n_ ih => intro x8 x10 x12 x14 x16; exact tX6_isLess_17B g   ih
theorem kX6_isLess (S : St) (x0 : Int) (x2 : Int) (x4 : Int) (x6 : Int)  : Con yX6_isLess cX6_isLess 21 (some .boolean) { frames := 0, cells := 0, slots := 0, locals := 0 } false SHM (SHM, 0, 0) (fun b => [vl x0, vl x2, vl x4, vl x6]) S (fun _ => oI) (fun _ => S) (pX6_isLess x0 x2 x4 x6) := by
  refine Con_of (fun b => [some (vl x0), none, some (vl x2), none, some (vl x4), none, some (vl x6), none, none, none, none, none, none, none, none, none, none, none, none, none, none]) (by decide) (fun _ => rfl) (fun _ => Nat.le_of_ble_eq_true rfl) ?_
  intro G g _ _ _
  change Ok G cX6_isLess RX6 21 { frames := 0, cells := 0, slots := 0, locals := 0 } (some .boolean) at g
  show Rg G oI (fun _ => S) (SHM, 0, 0) (SHM, 0, 0) S 0 [some (vl x0), none, some (vl x2), none, some (vl x4), none, some (vl x6), none, none, none, none, none, none, none, none, none, none, none, none, none, none] [] (pX6_isLess x0 x2 x4 x6)
  unfold pX6_isLess
  refine r_lload_n g dX6_isLess_0 rfl ?_
  refine r_lstore g dX6_isLess_1 (by decide) rfl ?_
  refine r_lload_n g dX6_isLess_3 rfl ?_
  refine r_lstore g dX6_isLess_4 (by decide) rfl ?_
  refine r_lload g dX6_isLess_6 rfl ?_
  refine r_lstore g dX6_isLess_8 (by decide) rfl ?_
  refine r_lload g dX6_isLess_10 rfl ?_
  refine r_lstore g dX6_isLess_12 (by decide) rfl ?_
  refine r_iconst g dX6_isLess_14 ?_
  refine r_istore g dX6_isLess_15 (by decide) rfl ?_
  refine r_msk [false, false, false, false, false, false, false, false, true, false, true, false, true, false, true, false, true, false, false, false, false] rfl ?_
  exact tX6_isLess_17 g _ _ _ _ _ _
theorem tX6_weakest_90 {G : Gx} {k32 : St → Int → Int → Int → Int → Option (Int × St)} {S : St} {x1 : Int} {x2 : Int} {x4 : Int} {x6 : Int} (g : Ok G cX6_weakest RX6 7 { frames := 3, cells := 0, slots := 0, locals := 90 } (some .int)) (hk32 : ∀ (S' : St) (x1' : Int) (x2' : Int) (x4' : Int) (x6' : Int), Rg G oIS (fun v => v.2) (SHM, 0, 0) (SHM, 0, 0) S' 32 [some (vr G 0), some (vi (x1')), some (vl (x2')), none, some (vl (x4')), none, some (vi (x6'))] [] (k32 S' x1' x2' x4' x6'))  : Rg G oIS (fun v => v.2) (SHM, 0, 0) (SHM, 0, 0) S 90 [some (vr G 0), some (vi x1), some (vl x2), none, some (vl x4), none, some (vi x6)] [] (pX6_weakest_90 k32 S x1 x2 x4 x6) := by
  unfold pX6_weakest_90
  refine r_iinc g dX6_weakest_90 (by decide) rfl ?_
  intro x6_8_
  change Rg _ _ _ _ _ _ _ [some (vr G 0), some (vi x1), some (vl x2), none, some (vl x4), none, some (vi x6_8_)] _ _
  refine r_goto g 32 dX6_weakest_93 (by decide) ?_
  exact hk32 _ _ _ _ _
theorem tX6_weakest_76 {G : Gx} {k32 : St → Int → Int → Int → Int → Option (Int × St)} {S : St} {x6 : Int} (g : Ok G cX6_weakest RX6 7 { frames := 3, cells := 0, slots := 0, locals := 90 } (some .int)) (hk32 : ∀ (S' : St) (x1' : Int) (x2' : Int) (x4' : Int) (x6' : Int), Rg G oIS (fun v => v.2) (SHM, 0, 0) (SHM, 0, 0) S' 32 [some (vr G 0), some (vi (x1')), some (vl (x2')), none, some (vl (x4')), none, some (vi (x6'))] [] (k32 S' x1' x2' x4' x6'))  : Rg G oIS (fun v => v.2) (SHM, 0, 0) (SHM, 0, 0) S 76 [some (vr G 0), none, none, none, none, none, some (vi x6)] [] (pX6_weakest_76 k32 S x6) := by
  unfold pX6_weakest_76
  refine r_iload g dX6_weakest_76 rfl ?_
  refine r_istore_n g 1 dX6_weakest_78 rfl (by decide) rfl ?_
  refine r_aload_n g dX6_weakest_79 rfl ?_
  refine r_getL g KX6 shm_0 42 rfl (by decide) w_912 dX6_weakest_80 ?_
  refine r_topl ?_
  intro x2_10_
  refine r_lstore_n g 2 dX6_weakest_83 rfl (by decide) rfl ?_
  refine r_aload_n g dX6_weakest_84 rfl ?_
  refine r_getL g KX6 shm_0 43 rfl (by decide) w_913 dX6_weakest_85 ?_
  refine r_topl ?_
  intro x4_11_
  refine r_lstore g dX6_weakest_88 (by decide) rfl ?_
  exact tX6_weakest_90 g hk32
theorem tX6_weakest_32B {G : Gx}  (g : Ok G cX6_weakest RX6 7 { frames := 3, cells := 0, slots := 0, locals := 90 } (some .int))   {k32 : St → Int → Int → Int → Int → Option (Int × St)} (hk32 : ∀ (S' : St) (x1' : Int) (x2' : Int) (x4' : Int) (x6' : Int), Rg G oIS (fun v => v.2) (SHM, 0, 0) (SHM, 0, 0) S' 32 [some (vr G 0), some (vi (x1')), some (vl (x2')), none, some (vl (x4')), none, some (vi (x6'))] [] (k32 S' x1' x2' x4' x6')) {S : St} {x1 : Int} {x2 : Int} {x4 : Int} {x6 : Int} : Rg G oIS (fun v => v.2) (SHM, 0, 0) (SHM, 0, 0) S 32 [some (vr G 0), some (vi x1), some (vl x2), none, some (vl x4), none, some (vi x6)] [] (pX6_weakest_32B k32 S x1 x2 x4 x6) := by
  unfold pX6_weakest_32B
  refine r_iload g dX6_weakest_32 rfl ?_
  refine r_iconst g dX6_weakest_34 ?_
  refine r_icmp_ge g 96 dX6_weakest_35 (by decide) ?_ ?_
  · refine r_aload_n g dX6_weakest_96 rfl ?_
    refine r_lload_n g dX6_weakest_97 rfl ?_
    refine r_lload g dX6_weakest_98 rfl ?_
    refine r_ldiv g dX6_weakest_100 ?_
    intro z4_
    refine r_l2i g dX6_weakest_101 ?_
    refine r_iload_n g dX6_weakest_102 rfl ?_
    refine r_callV_WI (q := 0) (as := fun b => [vi z4_, vi x1]) g (kX6_tells S z4_ x1) mX6_tells shm_0 rfl w_1067 w_1069 w_30 (by decide) (fun _ => rfl) rfl (Nat.le_of_ble_eq_true rfl) dX6_weakest_103 ?_
    intro z5_ S6_
    exact r_iret g dX6_weakest_106 rfl rfl
  · refine r_aload_n g dX6_weakest_38 rfl ?_
    refine r_iload g dX6_weakest_39 rfl ?_
    refine r_callV_PI (q := 0) (as := fun b => [vi x6]) g (kX6_isRubber S x6) mX6_isRubber shm_0 rfl w_1210 w_1212 w_47 (by decide) (fun _ => rfl) rfl (Nat.le_of_ble_eq_true rfl) dX6_weakest_41 ?_
    intro z7_
    refine r_if_eq g 90 dX6_weakest_44 (by decide) ?_ ?_
    · exact tX6_weakest_90 g hk32
    · refine r_aload_n g dX6_weakest_47 rfl ?_
      refine r_iload g dX6_weakest_48 rfl ?_
      refine r_callV_WV (q := 0) (as := fun b => [vi x6]) g (kX6_layPress S x6) mX6_layPress shm_0 rfl w_1255 w_1257 w_55 (by decide) (fun _ => rfl) rfl (Nat.le_of_ble_eq_true rfl) dX6_weakest_50 ?_
      intro S9_
      refine r_iload_n g dX6_weakest_53 rfl ?_
      refine r_bipush g dX6_weakest_54 (by decide) ?_
      refine r_icmp_eq g 76 dX6_weakest_56 (by decide) ?_ ?_
      · refine r_msk [true, false, false, false, false, false, true] rfl ?_
        exact tX6_weakest_76 g hk32
      · refine r_aload_n g dX6_weakest_59 rfl ?_
        refine r_getL g KX6 shm_0 42 rfl (by decide) w_912 dX6_weakest_60 ?_
        refine r_aload_n g dX6_weakest_63 rfl ?_
        refine r_getL g KX6 shm_0 43 rfl (by decide) w_913 dX6_weakest_64 ?_
        refine r_lload_n g dX6_weakest_67 rfl ?_
        refine r_lload g dX6_weakest_68 rfl ?_
        refine r_callS_PI g (kX6_isLess S9_ (S9_ 0 42) (S9_ 0 43) x2 x4) mX6_isLess w_1275 w_1276 (by decide) (fun _ => rfl) rfl (Nat.le_of_ble_eq_true rfl) dX6_weakest_70 ?_
        intro z12_
        refine r_if_eq g 90 dX6_weakest_73 (by decide) ?_ ?_
        · exact tX6_weakest_90 g hk32
        · refine r_msk [true, false, false, false, false, false, true] rfl ?_
          exact tX6_weakest_76 g hk32
theorem tX6_weakest_32 {G : Gx}  (g : Ok G cX6_weakest RX6 7 { frames := 3, cells := 0, slots := 0, locals := 90 } (some .int))   : ∀ (n_ : Nat) (S : St) (x1 : Int) (x2 : Int) (x4 : Int) (x6 : Int), Rg G oIS (fun v => v.2) (SHM, 0, 0) (SHM, 0, 0) S 32 [some (vr G 0), some (vi x1), some (vl x2), none, some (vl x4), none, some (vi x6)] [] (lo5 (pX6_weakest_32B) n_ S x1 x2 x4 x6) := by
  intro n_
  induction n_ with
  | zero => intro S x1 x2 x4 x6; exact r_none
  | succ n_ ih => intro S x1 x2 x4 x6; exact tX6_weakest_32B g   ih
theorem kX6_weakest (S : St)  : Con yX6_weakest cX6_weakest 7 (some .int) { frames := 3, cells := 0, slots := 0, locals := 90 } false SHM (SHM, 0, 0) (fun b => [.ref (b + 0)]) S (fun _ => oIS) (fun v => v.2) (pX6_weakest S) := by
  refine Con_of (fun b => [some (.ref (b + 0)), none, none, none, none, none, none]) (by decide) (fun _ => rfl) (fun _ => Nat.le_of_ble_eq_true rfl) ?_
  intro G g _ _ _
  change Ok G cX6_weakest RX6 7 { frames := 3, cells := 0, slots := 0, locals := 90 } (some .int) at g
  show Rg G oIS (fun v => v.2) (SHM, 0, 0) (SHM, 0, 0) S 0 [some (vr G 0), none, none, none, none, none, none] [] (pX6_weakest S)
  unfold pX6_weakest
  refine r_aload_n g dX6_weakest_0 rfl ?_
  refine r_iconst g dX6_weakest_1 ?_
  refine r_iconst g dX6_weakest_2 ?_
  refine r_callV_WI (q := 0) (as := fun b => [vi 0, vi 1]) g (kX6_highest S 0 1) mX6_highest shm_0 rfl w_1223 w_1225 w_48 (by decide) (fun _ => rfl) rfl (Nat.le_of_ble_eq_true rfl) dX6_weakest_3 ?_
  intro z1_ S2_
  refine r_pop g dX6_weakest_6 rfl ?_
  refine r_aload_n g dX6_weakest_7 rfl ?_
  refine r_getI g KX6 shm_0 41 rfl (by decide) w_911 dX6_weakest_8 ?_
  refine r_if_ne g 17 dX6_weakest_11 (by decide) ?_ ?_
  · refine r_aload_n g dX6_weakest_17 rfl ?_
    refine r_callV_WV (q := 0) (as := fun b => []) g (kX6_layRest S2_) mX6_layRest shm_0 rfl w_1231 w_1233 w_50 (by decide) (fun _ => rfl) rfl (Nat.le_of_ble_eq_true rfl) dX6_weakest_18 ?_
    intro S3_
    refine r_bipush g dX6_weakest_21 (by decide) ?_
    refine r_istore_n g 1 dX6_weakest_23 rfl (by decide) rfl ?_
    refine r_lconst (x := 0) g dX6_weakest_24 (by decide) ?_
    refine r_lstore_n g 2 dX6_weakest_25 rfl (by decide) rfl ?_
    refine r_lconst (x := 1) g dX6_weakest_26 (by decide) ?_
    refine r_lstore g dX6_weakest_27 (by decide) rfl ?_
    refine r_iconst g dX6_weakest_29 ?_
    refine r_istore g dX6_weakest_30 (by decide) rfl ?_
    exact tX6_weakest_32 g _ _ _ _ _ _
  · refine r_bipush g dX6_weakest_14 (by decide) ?_
    exact r_iret g dX6_weakest_16 rfl rfl
theorem tX6_leak_59 {G : Gx} {k9 : St → Int → Int → Option (Int × St)} {S : St} {x1 : Int} {x2 : Int} {x3 : Int} (g : Ok G cX6_leak RX6 4 { frames := 4, cells := 0, slots := 0, locals := 112 } (some .int)) (hk9 : ∀ (S' : St) (x2' : Int) (x3' : Int), Rg G oIS (fun v => v.2) (SHM, 0, 0) (SHM, 0, 0) S' 9 [some (vr G 0), some (vi x1), some (vi (x2')), some (vi (x3'))] [] (k9 S' x2' x3'))  : Rg G oIS (fun v => v.2) (SHM, 0, 0) (SHM, 0, 0) S 59 [some (vr G 0), some (vi x1), some (vi x2), some (vi x3)] [] (pX6_leak_59 k9 S x1 x2 x3) := by
  unfold pX6_leak_59
  refine r_iinc g dX6_leak_59 (by decide) rfl ?_
  intro x3_4_
  change Rg _ _ _ _ _ _ _ [some (vr G 0), some (vi x1), some (vi x2), some (vi x3_4_)] _ _
  refine r_goto g 9 dX6_leak_62 (by decide) ?_
  exact hk9 _ _ _
theorem tX6_leak_9B {G : Gx} {x1 : Int} (g : Ok G cX6_leak RX6 4 { frames := 4, cells := 0, slots := 0, locals := 112 } (some .int))   {k9 : St → Int → Int → Option (Int × St)} (hk9 : ∀ (S' : St) (x2' : Int) (x3' : Int), Rg G oIS (fun v => v.2) (SHM, 0, 0) (SHM, 0, 0) S' 9 [some (vr G 0), some (vi x1), some (vi (x2')), some (vi (x3'))] [] (k9 S' x2' x3')) {S : St} {x2 : Int} {x3 : Int} : Rg G oIS (fun v => v.2) (SHM, 0, 0) (SHM, 0, 0) S 9 [some (vr G 0), some (vi x1), some (vi x2), some (vi x3)] [] (pX6_leak_9B x1 k9 S x2 x3) := by
  unfold pX6_leak_9B
  refine r_iload_n g dX6_leak_9 rfl ?_
  refine r_iconst g dX6_leak_10 ?_
  refine r_icmp_ge g 65 dX6_leak_11 (by decide) ?_ ?_
  · refine r_iload_n g dX6_leak_65 rfl ?_
    exact r_iret g dX6_leak_66 rfl rfl
  · refine r_iload_n g dX6_leak_14 rfl ?_
    refine r_iload_n g dX6_leak_15 rfl ?_
    refine r_callS_PI g (kX6_has S x1 x3) mX6_has w_1282 w_1283 (by decide) (fun _ => rfl) rfl (Nat.le_of_ble_eq_true rfl) dX6_leak_16 ?_
    intro z3_
    refine r_if_eq g 59 dX6_leak_19 (by decide) ?_ ?_
    · exact tX6_leak_59 g hk9
    · refine r_aload_n g dX6_leak_22 rfl ?_
      refine r_iload_n g dX6_leak_23 rfl ?_
      refine r_callV_WV (q := 0) (as := fun b => [vi x3]) g (kX6_layPress S x3) mX6_layPress shm_0 rfl w_1255 w_1257 w_55 (by decide) (fun _ => rfl) rfl (Nat.le_of_ble_eq_true rfl) dX6_leak_24 ?_
      intro S5_
      refine r_iload_n g dX6_leak_27 rfl ?_
      refine r_aload_n g dX6_leak_28 rfl ?_
      refine r_getC (c0 := 22) g KX6 shm_0 30 rfl (by decide) w_900 dX6_leak_29 ?_
      refine r_iload_n g dX6_leak_32 rfl ?_
      refine r_iald g shm_22 (by decide) dX6_leak_33 ?_
      intro z6_
      refine r_i2l g dX6_leak_34 ?_
      refine r_aload_n g dX6_leak_35 rfl ?_
      refine r_getI g KX6 shm_0 36 rfl (by decide) w_906 dX6_leak_36 ?_
      refine r_i2l g dX6_leak_39 ?_
      refine r_aload_n g dX6_leak_40 rfl ?_
      refine r_getL g KX6 shm_0 43 rfl (by decide) w_913 dX6_leak_41 ?_
      refine r_lmul g dX6_leak_44 ?_
      refine r_aload_n g dX6_leak_45 rfl ?_
      refine r_getL g KX6 shm_0 42 rfl (by decide) w_912 dX6_leak_46 ?_
      refine r_lsub g dX6_leak_49 ?_
      refine r_lmul g dX6_leak_50 ?_
      refine r_aload_n g dX6_leak_51 rfl ?_
      refine r_getL g KX6 shm_0 43 rfl (by decide) w_913 dX6_leak_52 ?_
      refine r_ldiv g dX6_leak_55 ?_
      intro z7_
      refine r_l2i g dX6_leak_56 ?_
      refine r_iadd g dX6_leak_57 ?_
      refine r_topi ?_
      intro x2_8_
      refine r_istore_n g 2 dX6_leak_58 rfl (by decide) rfl ?_
      exact tX6_leak_59 g hk9
theorem tX6_leak_9 {G : Gx} {x1 : Int} (g : Ok G cX6_leak RX6 4 { frames := 4, cells := 0, slots := 0, locals := 112 } (some .int))   : ∀ (n_ : Nat) (S : St) (x2 : Int) (x3 : Int), Rg G oIS (fun v => v.2) (SHM, 0, 0) (SHM, 0, 0) S 9 [some (vr G 0), some (vi x1), some (vi x2), some (vi x3)] [] (lo3 (pX6_leak_9B x1) n_ S x2 x3) := by
  intro n_
  induction n_ with
  | zero => intro S x2 x3; exact r_none
  | succ n_ ih => intro S x2 x3; exact tX6_leak_9B g   ih
theorem kX6_leak (S : St)  : Con yX6_leak cX6_leak 4 (some .int) { frames := 4, cells := 0, slots := 0, locals := 112 } false SHM (SHM, 0, 0) (fun b => [.ref (b + 0)]) S (fun _ => oIS) (fun v => v.2) (pX6_leak S) := by
  refine Con_of (fun b => [some (.ref (b + 0)), none, none, none]) (by decide) (fun _ => rfl) (fun _ => Nat.le_of_ble_eq_true rfl) ?_
  intro G g _ _ _
  change Ok G cX6_leak RX6 4 { frames := 4, cells := 0, slots := 0, locals := 112 } (some .int) at g
  show Rg G oIS (fun v => v.2) (SHM, 0, 0) (SHM, 0, 0) S 0 [some (vr G 0), none, none, none] [] (pX6_leak S)
  unfold pX6_leak
  refine r_aload_n g dX6_leak_0 rfl ?_
  refine r_callV_WI (q := 0) (as := fun b => []) g (kX6_openNow S) mX6_openNow shm_0 rfl w_1267 w_1269 w_57 (by decide) (fun _ => rfl) rfl (Nat.le_of_ble_eq_true rfl) dX6_leak_1 ?_
  intro z1_ S2_
  refine r_istore_n g 1 dX6_leak_4 rfl (by decide) rfl ?_
  refine r_iconst g dX6_leak_5 ?_
  refine r_istore_n g 2 dX6_leak_6 rfl (by decide) rfl ?_
  refine r_iconst g dX6_leak_7 ?_
  refine r_istore_n g 3 dX6_leak_8 rfl (by decide) rfl ?_
  exact tX6_leak_9 g _ _ _ _
theorem kX6_through (S : St) (x1 : Int)  : Con yX6_through cX6_through 5 (some .int) { frames := 4, cells := 0, slots := 0, locals := 90 } false SHM (SHM, 0, 0) (fun b => [.ref (b + 0), vi x1]) S (fun _ => oIS) (fun v => v.2) (pX6_through S x1) := by
  refine Con_of (fun b => [some (.ref (b + 0)), some (vi x1), none, none, none]) (by decide) (fun _ => rfl) (fun _ => Nat.le_of_ble_eq_true rfl) ?_
  intro G g _ _ _
  change Ok G cX6_through RX6 5 { frames := 4, cells := 0, slots := 0, locals := 90 } (some .int) at g
  show Rg G oIS (fun v => v.2) (SHM, 0, 0) (SHM, 0, 0) S 0 [some (vr G 0), some (vi x1), none, none, none] [] (pX6_through S x1)
  unfold pX6_through
  refine r_aload_n g dX6_through_0 rfl ?_
  refine r_iconst g dX6_through_1 ?_
  refine r_iload_n g dX6_through_2 rfl ?_
  refine r_callV_WI (q := 0) (as := fun b => [vi 1, vi x1]) g (kX6_needRubber S 1 x1) mX6_needRubber shm_0 rfl w_1251 w_1253 w_54 (by decide) (fun _ => rfl) rfl (Nat.le_of_ble_eq_true rfl) dX6_through_3 ?_
  intro z1_ S2_
  refine r_istore_n g 2 dX6_through_6 rfl (by decide) rfl ?_
  refine r_iload_n g dX6_through_7 rfl ?_
  refine r_if_ge g 13 dX6_through_8 (by decide) ?_ ?_
  · refine r_aload_n g dX6_through_13 rfl ?_
    refine r_callV_WV (q := 0) (as := fun b => []) g (kX6_layRest S2_) mX6_layRest shm_0 rfl w_1231 w_1233 w_50 (by decide) (fun _ => rfl) rfl (Nat.le_of_ble_eq_true rfl) dX6_through_14 ?_
    intro S3_
    refine r_aload_n g dX6_through_17 rfl ?_
    refine r_iload_n g dX6_through_18 rfl ?_
    refine r_callV_WV (q := 0) (as := fun b => [vi x1]) g (kX6_layPress S3_ x1) mX6_layPress shm_0 rfl w_1255 w_1257 w_55 (by decide) (fun _ => rfl) rfl (Nat.le_of_ble_eq_true rfl) dX6_through_19 ?_
    intro S4_
    refine r_aload_n g dX6_through_22 rfl ?_
    refine r_getC (c0 := 21) g KX6 shm_0 29 rfl (by decide) w_899 dX6_through_23 ?_
    refine r_iload_n g dX6_through_26 rfl ?_
    refine r_iald g shm_21 (by decide) dX6_through_27 ?_
    intro z5_
    refine r_i2l g dX6_through_28 ?_
    refine r_aload_n g dX6_through_29 rfl ?_
    refine r_getL g KX6 shm_0 39 rfl (by decide) w_909 dX6_through_30 ?_
    refine r_lmul g dX6_through_33 ?_
    refine r_aload_n g dX6_through_34 rfl ?_
    refine r_getL g KX6 shm_0 44 rfl (by decide) w_914 dX6_through_35 ?_
    refine r_lsub g dX6_through_38 ?_
    refine r_topl ?_
    intro x3_6_
    refine r_lstore_n g 3 dX6_through_39 rfl (by decide) rfl ?_
    refine r_lload_n g dX6_through_40 rfl ?_
    refine r_lconst (x := 0) g dX6_through_41 (by decide) ?_
    refine r_lcmp_gt g 52 dX6_through_42 dX6_through_43 (by decide) ?_ ?_
    · refine r_aload_n g dX6_through_52 rfl ?_
      refine r_aload_n g dX6_through_53 rfl ?_
      refine r_getC (c0 := 14) g KX6 shm_0 17 rfl (by decide) w_887 dX6_through_54 ?_
      refine r_aload_n g dX6_through_57 rfl ?_
      refine r_getC (c0 := 19) g KX6 shm_0 27 rfl (by decide) w_897 dX6_through_58 ?_
      refine r_iload_n g dX6_through_61 rfl ?_
      refine r_iald g shm_19 (by decide) dX6_through_62 ?_
      intro z7_
      refine r_iald g shm_14 (by decide) dX6_through_63 ?_
      intro z8_
      refine r_i2l g dX6_through_64 ?_
      refine r_aload_n g dX6_through_65 rfl ?_
      refine r_getI g KX6 shm_0 36 rfl (by decide) w_906 dX6_through_66 ?_
      refine r_i2l g dX6_through_69 ?_
      refine r_lmul g dX6_through_70 ?_
      refine r_aload_n g dX6_through_71 rfl ?_
      refine r_getC (c0 := 22) g KX6 shm_0 30 rfl (by decide) w_900 dX6_through_72 ?_
      refine r_iload_n g dX6_through_75 rfl ?_
      refine r_iald g shm_22 (by decide) dX6_through_76 ?_
      intro z9_
      refine r_i2l g dX6_through_77 ?_
      refine r_lmul g dX6_through_78 ?_
      refine r_aload_n g dX6_through_79 rfl ?_
      refine r_getL g KX6 shm_0 39 rfl (by decide) w_909 dX6_through_80 ?_
      refine r_lmul g dX6_through_83 ?_
      refine r_lload_n g dX6_through_84 rfl ?_
      refine r_iconst g dX6_through_85 ?_
      refine r_callV_WI (q := 0) (as := fun b => [vl (((z8_ * (S4_ 0 36)) * z9_) * (S4_ 0 39)), vl x3_6_, vi 1]) g (kX6_fraction S4_ (((z8_ * (S4_ 0 36)) * z9_) * (S4_ 0 39)) x3_6_ 1) mX6_fraction shm_0 rfl w_1160 w_1162 w_42 (by decide) (fun _ => rfl) rfl (Nat.le_of_ble_eq_true rfl) dX6_through_86 ?_
      intro z10_ S11_
      exact r_iret g dX6_through_89 rfl rfl
    · refine r_aload_n g dX6_through_46 rfl ?_
      refine r_iconst g dX6_through_47 ?_
      refine r_callV_WI (q := 0) (as := fun b => [vi 4]) g (kX6_meets S4_ 4) mX6_meets shm_0 rfl w_1055 w_1057 w_28 (by decide) (fun _ => rfl) rfl (Nat.le_of_ble_eq_true rfl) dX6_through_48 ?_
      intro z12_ S13_
      exact r_iret g dX6_through_51 rfl rfl
  · refine r_iload_n g dX6_through_11 rfl ?_
    exact r_iret g dX6_through_12 rfl rfl
theorem tX6_age_146B {G : Gx} {x2 : Int} (g : Ok G cX6_age RX6 5 { frames := 3, cells := 0, slots := 0, locals := 90 } (some .int))   {k146 : St → Int → Option (Int × St)} (hk146 : ∀ (S' : St) (x3' : Int), Rg G oIS (fun v => v.2) (SHM, 0, 0) (SHM, 0, 0) S' 146 [some (vr G 0), none, some (vi x2), some (vi (x3')), none] [] (k146 S' x3')) {S : St} {x3 : Int} : Rg G oIS (fun v => v.2) (SHM, 0, 0) (SHM, 0, 0) S 146 [some (vr G 0), none, some (vi x2), some (vi x3), none] [] (pX6_age_146B x2 k146 S x3) := by
  unfold pX6_age_146B
  refine r_iload_n g dX6_age_146 rfl ?_
  refine r_iconst g dX6_age_147 ?_
  refine r_icmp_ge g 172 dX6_age_148 (by decide) ?_ ?_
  · refine r_iload_n g dX6_age_172 rfl ?_
    exact r_iret g dX6_age_173 rfl rfl
  · refine r_aload_n g dX6_age_151 rfl ?_
    refine r_getC (c0 := 21) g KX6 shm_0 29 rfl (by decide) w_899 dX6_age_152 ?_
    refine r_iload_n g dX6_age_155 rfl ?_
    refine r_dup2 g dX6_age_156 rfl rfl ?_
    refine r_iald g shm_21 (by decide) dX6_age_157 ?_
    intro z4_
    refine r_aload_n g dX6_age_158 rfl ?_
    refine r_getC (c0 := 26) g KX6 shm_0 45 rfl (by decide) w_915 dX6_age_159 ?_
    refine r_iload_n g dX6_age_162 rfl ?_
    refine r_iald g shm_26 (by decide) dX6_age_163 ?_
    intro z5_
    refine r_isub g dX6_age_164 ?_
    refine r_iast g shm_21 (by decide) dX6_age_165 ?_
    intro S6_
    refine r_iinc g dX6_age_166 (by decide) rfl ?_
    intro x3_7_
    change Rg _ _ _ _ _ _ _ [some (vr G 0), none, some (vi x2), some (vi x3_7_), none] _ _
    refine r_goto g 146 dX6_age_169 (by decide) ?_
    exact hk146 _ _
theorem tX6_age_146 {G : Gx} {x2 : Int} (g : Ok G cX6_age RX6 5 { frames := 3, cells := 0, slots := 0, locals := 90 } (some .int))   : ∀ (n_ : Nat) (S : St) (x3 : Int), Rg G oIS (fun v => v.2) (SHM, 0, 0) (SHM, 0, 0) S 146 [some (vr G 0), none, some (vi x2), some (vi x3), none] [] (lo2 (pX6_age_146B x2) n_ S x3) := by
  intro n_
  induction n_ with
  | zero => intro S x3; exact r_none
  | succ n_ ih => intro S x3; exact tX6_age_146B g   ih
theorem tX6_age_138 {G : Gx} {k34 : St → Int → Int → Option (Int × St)} {S : St} {x1 : Int} {x2 : Int} {x3 : Int} (g : Ok G cX6_age RX6 5 { frames := 3, cells := 0, slots := 0, locals := 90 } (some .int)) (hk34 : ∀ (S' : St) (x2' : Int) (x3' : Int), Rg G oIS (fun v => v.2) (SHM, 0, 0) (SHM, 0, 0) S' 34 [some (vr G 0), some (vi x1), some (vi (x2')), some (vi (x3')), none] [] (k34 S' x2' x3'))  : Rg G oIS (fun v => v.2) (SHM, 0, 0) (SHM, 0, 0) S 138 [some (vr G 0), some (vi x1), some (vi x2), some (vi x3), none] [] (pX6_age_138 k34 S x1 x2 x3) := by
  unfold pX6_age_138
  refine r_iinc g dX6_age_138 (by decide) rfl ?_
  intro x3_10_
  change Rg _ _ _ _ _ _ _ [some (vr G 0), some (vi x1), some (vi x2), some (vi x3_10_), none] _ _
  refine r_goto g 34 dX6_age_141 (by decide) ?_
  exact hk34 _ _ _
theorem tX6_age_136 {G : Gx} {k34 : St → Int → Int → Option (Int × St)} {S : St} {x1 : Int} {x3 : Int} {s0 : Int} {s1 : Int} (g : Ok G cX6_age RX6 5 { frames := 3, cells := 0, slots := 0, locals := 90 } (some .int)) (hk34 : ∀ (S' : St) (x2' : Int) (x3' : Int), Rg G oIS (fun v => v.2) (SHM, 0, 0) (SHM, 0, 0) S' 34 [some (vr G 0), some (vi x1), some (vi (x2')), some (vi (x3')), none] [] (k34 S' x2' x3'))  : Rg G oIS (fun v => v.2) (SHM, 0, 0) (SHM, 0, 0) S 136 [some (vr G 0), some (vi x1), none, some (vi x3), none] [vi s0, vi s1] (pX6_age_136 k34 S x1 x3 s0 s1) := by
  unfold pX6_age_136
  refine r_iadd g dX6_age_136 ?_
  refine r_topi ?_
  intro x2_19_
  refine r_istore_n g 2 dX6_age_137 rfl (by decide) rfl ?_
  exact tX6_age_138 g hk34
theorem tX6_age_95 {G : Gx} {k34 : St → Int → Int → Option (Int × St)} {S : St} {x1 : Int} {x2 : Int} {x3 : Int} {s0 : Int} (g : Ok G cX6_age RX6 5 { frames := 3, cells := 0, slots := 0, locals := 90 } (some .int)) (hk34 : ∀ (S' : St) (x2' : Int) (x3' : Int), Rg G oIS (fun v => v.2) (SHM, 0, 0) (SHM, 0, 0) S' 34 [some (vr G 0), some (vi x1), some (vi (x2')), some (vi (x3')), none] [] (k34 S' x2' x3'))  : Rg G oIS (fun v => v.2) (SHM, 0, 0) (SHM, 0, 0) S 95 [some (vr G 0), some (vi x1), some (vi x2), some (vi x3), none] [vi s0] (pX6_age_95 k34 S x1 x2 x3 s0) := by
  unfold pX6_age_95
  refine r_istore g dX6_age_95 (by decide) rfl ?_
  refine r_aload_n g dX6_age_97 rfl ?_
  refine r_getC (c0 := 26) g KX6 shm_0 45 rfl (by decide) w_915 dX6_age_98 ?_
  refine r_iload_n g dX6_age_101 rfl ?_
  refine r_aload_n g dX6_age_102 rfl ?_
  refine r_getL g KX6 shm_0 44 rfl (by decide) w_914 dX6_age_103 ?_
  refine r_iload g dX6_age_106 rfl ?_
  refine r_i2l g dX6_age_108 ?_
  refine r_lmul g dX6_age_109 ?_
  refine r_ldc2 (x := 100) g dX6_age_110 w_1293 (by decide) ?_
  refine r_aload_n g dX6_age_113 rfl ?_
  refine r_getL g KX6 shm_0 39 rfl (by decide) w_909 dX6_age_114 ?_
  refine r_lmul g dX6_age_117 ?_
  refine r_ldiv g dX6_age_118 ?_
  intro z16_
  refine r_l2i g dX6_age_119 ?_
  refine r_iast g shm_26 (by decide) dX6_age_120 ?_
  intro S17_
  refine r_iload_n g dX6_age_121 rfl ?_
  refine r_aload_n g dX6_age_122 rfl ?_
  refine r_getC (c0 := 26) g KX6 shm_0 45 rfl (by decide) w_915 dX6_age_123 ?_
  refine r_iload_n g dX6_age_126 rfl ?_
  refine r_iald g shm_26 (by decide) dX6_age_127 ?_
  intro z18_
  refine r_if_le g 135 dX6_age_128 (by decide) ?_ ?_
  · refine r_iconst g dX6_age_135 ?_
    refine r_msk [true, true, false, true, false] rfl ?_
    exact tX6_age_136 g hk34
  · refine r_iconst g dX6_age_131 ?_
    refine r_goto g 136 dX6_age_132 (by decide) ?_
    refine r_msk [true, true, false, true, false] rfl ?_
    exact tX6_age_136 g hk34
theorem tX6_age_34B {G : Gx} {x1 : Int} (g : Ok G cX6_age RX6 5 { frames := 3, cells := 0, slots := 0, locals := 90 } (some .int))   {k34 : St → Int → Int → Option (Int × St)} (hk34 : ∀ (S' : St) (x2' : Int) (x3' : Int), Rg G oIS (fun v => v.2) (SHM, 0, 0) (SHM, 0, 0) S' 34 [some (vr G 0), some (vi x1), some (vi (x2')), some (vi (x3')), none] [] (k34 S' x2' x3')) {S : St} {x2 : Int} {x3 : Int} : Rg G oIS (fun v => v.2) (SHM, 0, 0) (SHM, 0, 0) S 34 [some (vr G 0), some (vi x1), some (vi x2), some (vi x3), none] [] (pX6_age_34B x1 k34 S x2 x3) := by
  unfold pX6_age_34B
  refine r_iload_n g dX6_age_34 rfl ?_
  refine r_iconst g dX6_age_35 ?_
  refine r_icmp_ge g 144 dX6_age_36 (by decide) ?_ ?_
  · refine r_iconst g dX6_age_144 ?_
    refine r_istore_n g 3 dX6_age_145 rfl (by decide) rfl ?_
    refine r_msk [true, false, true, true, false] rfl ?_
    exact tX6_age_146 g _ _ _
  · refine r_aload_n g dX6_age_39 rfl ?_
    refine r_getC (c0 := 26) g KX6 shm_0 45 rfl (by decide) w_915 dX6_age_40 ?_
    refine r_iload_n g dX6_age_43 rfl ?_
    refine r_iconst g dX6_age_44 ?_
    refine r_iast g shm_26 (by decide) dX6_age_45 ?_
    intro S8_
    refine r_aload_n g dX6_age_46 rfl ?_
    refine r_iload_n g dX6_age_47 rfl ?_
    refine r_callV_PI (q := 0) (as := fun b => [vi x3]) g (kX6_isRubber S8_ x3) mX6_isRubber shm_0 rfl w_1210 w_1212 w_47 (by decide) (fun _ => rfl) rfl (Nat.le_of_ble_eq_true rfl) dX6_age_48 ?_
    intro z9_
    refine r_if_eq g 138 dX6_age_51 (by decide) ?_ ?_
    · exact tX6_age_138 g hk34
    · refine r_aload_n g dX6_age_54 rfl ?_
      refine r_iload_n g dX6_age_55 rfl ?_
      refine r_callV_WV (q := 0) (as := fun b => [vi x3]) g (kX6_layPress S8_ x3) mX6_layPress shm_0 rfl w_1255 w_1257 w_55 (by decide) (fun _ => rfl) rfl (Nat.le_of_ble_eq_true rfl) dX6_age_56 ?_
      intro S11_
      refine r_aload_n g dX6_age_59 rfl ?_
      refine r_getC (c0 := 11) g KX6 shm_0 14 rfl (by decide) w_884 dX6_age_60 ?_
      refine r_aload_n g dX6_age_63 rfl ?_
      refine r_getC (c0 := 19) g KX6 shm_0 27 rfl (by decide) w_897 dX6_age_64 ?_
      refine r_iload_n g dX6_age_67 rfl ?_
      refine r_iald g shm_19 (by decide) dX6_age_68 ?_
      intro z12_
      refine r_iald g shm_11 (by decide) dX6_age_69 ?_
      intro z13_
      refine r_iload_n g dX6_age_70 rfl ?_
      refine r_imul g dX6_age_71 ?_
      refine r_bipush g dX6_age_72 (by decide) ?_
      refine r_icmp_le g 82 dX6_age_74 (by decide) ?_ ?_
      · refine r_aload_n g dX6_age_82 rfl ?_
        refine r_getC (c0 := 11) g KX6 shm_0 14 rfl (by decide) w_884 dX6_age_83 ?_
        refine r_aload_n g dX6_age_86 rfl ?_
        refine r_getC (c0 := 19) g KX6 shm_0 27 rfl (by decide) w_897 dX6_age_87 ?_
        refine r_iload_n g dX6_age_90 rfl ?_
        refine r_iald g shm_19 (by decide) dX6_age_91 ?_
        intro z14_
        refine r_iald g shm_11 (by decide) dX6_age_92 ?_
        intro z15_
        refine r_iload_n g dX6_age_93 rfl ?_
        refine r_imul g dX6_age_94 ?_
        exact tX6_age_95 g hk34
      · refine r_bipush g dX6_age_77 (by decide) ?_
        refine r_goto g 95 dX6_age_79 (by decide) ?_
        exact tX6_age_95 g hk34
theorem tX6_age_34 {G : Gx} {x1 : Int} (g : Ok G cX6_age RX6 5 { frames := 3, cells := 0, slots := 0, locals := 90 } (some .int))   : ∀ (n_ : Nat) (S : St) (x2 : Int) (x3 : Int), Rg G oIS (fun v => v.2) (SHM, 0, 0) (SHM, 0, 0) S 34 [some (vr G 0), some (vi x1), some (vi x2), some (vi x3), none] [] (lo3 (pX6_age_34B x1) n_ S x2 x3) := by
  intro n_
  induction n_ with
  | zero => intro S x2 x3; exact r_none
  | succ n_ ih => intro S x2 x3; exact tX6_age_34B g   ih
theorem tX6_age_30 {G : Gx}  {S : St} {x1 : Int} (g : Ok G cX6_age RX6 5 { frames := 3, cells := 0, slots := 0, locals := 90 } (some .int))   : Rg G oIS (fun v => v.2) (SHM, 0, 0) (SHM, 0, 0) S 30 [some (vr G 0), some (vi x1), none, none, none] [] (pX6_age_30 S x1) := by
  unfold pX6_age_30
  refine r_iconst g dX6_age_30 ?_
  refine r_istore_n g 2 dX6_age_31 rfl (by decide) rfl ?_
  refine r_iconst g dX6_age_32 ?_
  refine r_istore_n g 3 dX6_age_33 rfl (by decide) rfl ?_
  exact tX6_age_34 g _ _ _ _
theorem kX6_age (S : St) (x1 : Int)  : Con yX6_age cX6_age 5 (some .int) { frames := 3, cells := 0, slots := 0, locals := 90 } false SHM (SHM, 0, 0) (fun b => [.ref (b + 0), vi x1]) S (fun _ => oIS) (fun v => v.2) (pX6_age S x1) := by
  refine Con_of (fun b => [some (.ref (b + 0)), some (vi x1), none, none, none]) (by decide) (fun _ => rfl) (fun _ => Nat.le_of_ble_eq_true rfl) ?_
  intro G g _ _ _
  change Ok G cX6_age RX6 5 { frames := 3, cells := 0, slots := 0, locals := 90 } (some .int) at g
  show Rg G oIS (fun v => v.2) (SHM, 0, 0) (SHM, 0, 0) S 0 [some (vr G 0), some (vi x1), none, none, none] [] (pX6_age S x1)
  unfold pX6_age
  refine r_iload_n g dX6_age_0 rfl ?_
  refine r_iconst g dX6_age_1 ?_
  refine r_bipush g dX6_age_2 (by decide) ?_
  refine r_callS_PI g (kX6_in S x1 1 9) mX6_in w_1033 w_1034 (by decide) (fun _ => rfl) rfl (Nat.le_of_ble_eq_true rfl) dX6_age_4 ?_
  intro z1_
  refine r_if_ne g 12 dX6_age_7 (by decide) ?_ ?_
  · refine r_aload_n g dX6_age_12 rfl ?_
    refine r_iconst g dX6_age_13 ?_
    refine r_iconst g dX6_age_14 ?_
    refine r_callV_WI (q := 0) (as := fun b => [vi 0, vi 1]) g (kX6_highest S 0 1) mX6_highest shm_0 rfl w_1223 w_1225 w_48 (by decide) (fun _ => rfl) rfl (Nat.le_of_ble_eq_true rfl) dX6_age_15 ?_
    intro z2_ S3_
    refine r_pop g dX6_age_18 rfl ?_
    refine r_aload_n g dX6_age_19 rfl ?_
    refine r_getI g KX6 shm_0 41 rfl (by decide) w_911 dX6_age_20 ?_
    refine r_if_eq g 30 dX6_age_23 (by decide) ?_ ?_
    · exact tX6_age_30 g
    · refine r_aload_n g dX6_age_26 rfl ?_
      refine r_callV_WV (q := 0) (as := fun b => []) g (kX6_layRest S3_) mX6_layRest shm_0 rfl w_1231 w_1233 w_50 (by decide) (fun _ => rfl) rfl (Nat.le_of_ble_eq_true rfl) dX6_age_27 ?_
      intro S20_
      exact tX6_age_30 g
  · refine r_iconst g dX6_age_10 ?_
    exact r_iret g dX6_age_11 rfl rfl
theorem kX6_swollen (S : St) (x1 : Int)  : Con yX6_swollen cX6_swollen 3 (some .int) { frames := 0, cells := 0, slots := 0, locals := 0 } false SHM (SHM, 0, 0) (fun b => [.ref (b + 0), vi x1]) S (fun _ => oI) (fun _ => S) (pX6_swollen S x1) := by
  refine Con_of (fun b => [some (.ref (b + 0)), some (vi x1), none]) (by decide) (fun _ => rfl) (fun _ => Nat.le_of_ble_eq_true rfl) ?_
  intro G g _ _ _
  change Ok G cX6_swollen RX6 3 { frames := 0, cells := 0, slots := 0, locals := 0 } (some .int) at g
  show Rg G oI (fun _ => S) (SHM, 0, 0) (SHM, 0, 0) S 0 [some (vr G 0), some (vi x1), none] [] (pX6_swollen S x1)
  unfold pX6_swollen
  refine r_aload_n g dX6_swollen_0 rfl ?_
  refine r_getC (c0 := 21) g KX6 shm_0 29 rfl (by decide) w_899 dX6_swollen_1 ?_
  refine r_iload_n g dX6_swollen_4 rfl ?_
  refine r_iald g shm_21 (by decide) dX6_swollen_5 ?_
  intro z1_
  refine r_aload_n g dX6_swollen_6 rfl ?_
  refine r_getC (c0 := 13) g KX6 shm_0 16 rfl (by decide) w_886 dX6_swollen_7 ?_
  refine r_aload_n g dX6_swollen_10 rfl ?_
  refine r_getC (c0 := 19) g KX6 shm_0 27 rfl (by decide) w_897 dX6_swollen_11 ?_
  refine r_iload_n g dX6_swollen_14 rfl ?_
  refine r_iald g shm_19 (by decide) dX6_swollen_15 ?_
  intro z2_
  refine r_iald g shm_13 (by decide) dX6_swollen_16 ?_
  intro z3_
  refine r_imul g dX6_swollen_17 ?_
  refine r_sipush g dX6_swollen_18 (by decide) ?_
  refine r_idiv g dX6_swollen_21 ?_
  intro z4_
  refine r_istore_n g 2 dX6_swollen_22 rfl (by decide) rfl ?_
  refine r_aload_n g dX6_swollen_23 rfl ?_
  refine r_getC (c0 := 21) g KX6 shm_0 29 rfl (by decide) w_899 dX6_swollen_24 ?_
  refine r_iload_n g dX6_swollen_27 rfl ?_
  refine r_iald g shm_21 (by decide) dX6_swollen_28 ?_
  intro z5_
  refine r_iload_n g dX6_swollen_29 rfl ?_
  refine r_iadd g dX6_swollen_30 ?_
  refine r_sipush g dX6_swollen_31 (by decide) ?_
  refine r_icmp_le g 50 dX6_swollen_34 (by decide) ?_ ?_
  · refine r_iload_n g dX6_swollen_50 rfl ?_
    exact r_iret g dX6_swollen_51 rfl rfl
  · refine r_sipush g dX6_swollen_37 (by decide) ?_
    refine r_aload_n g dX6_swollen_40 rfl ?_
    refine r_getC (c0 := 21) g KX6 shm_0 29 rfl (by decide) w_899 dX6_swollen_41 ?_
    refine r_iload_n g dX6_swollen_44 rfl ?_
    refine r_iald g shm_21 (by decide) dX6_swollen_45 ?_
    intro z6_
    refine r_isub g dX6_swollen_46 ?_
    refine r_goto g 51 dX6_swollen_47 (by decide) ?_
    exact r_iret g dX6_swollen_51 rfl rfl
theorem tX6_swell_37 {G : Gx} {k4 : St → Int → Int → Option (Int × St)} {S : St} {x1 : Int} {x2 : Int} (g : Ok G cX6_swell RX6 4 { frames := 1, cells := 0, slots := 0, locals := 22 } (some .int)) (hk4 : ∀ (S' : St) (x1' : Int) (x2' : Int), Rg G oIS (fun v => v.2) (SHM, 0, 0) (SHM, 0, 0) S' 4 [some (vr G 0), some (vi (x1')), some (vi (x2')), none] [] (k4 S' x1' x2'))  : Rg G oIS (fun v => v.2) (SHM, 0, 0) (SHM, 0, 0) S 37 [some (vr G 0), some (vi x1), some (vi x2), none] [] (pX6_swell_37 k4 S x1 x2) := by
  unfold pX6_swell_37
  refine r_iinc g dX6_swell_37 (by decide) rfl ?_
  intro x2_2_
  change Rg _ _ _ _ _ _ _ [some (vr G 0), some (vi x1), some (vi x2_2_), none] _ _
  refine r_goto g 4 dX6_swell_40 (by decide) ?_
  exact hk4 _ _ _
theorem tX6_swell_4B {G : Gx}  (g : Ok G cX6_swell RX6 4 { frames := 1, cells := 0, slots := 0, locals := 22 } (some .int))   {k4 : St → Int → Int → Option (Int × St)} (hk4 : ∀ (S' : St) (x1' : Int) (x2' : Int), Rg G oIS (fun v => v.2) (SHM, 0, 0) (SHM, 0, 0) S' 4 [some (vr G 0), some (vi (x1')), some (vi (x2')), none] [] (k4 S' x1' x2')) {S : St} {x1 : Int} {x2 : Int} : Rg G oIS (fun v => v.2) (SHM, 0, 0) (SHM, 0, 0) S 4 [some (vr G 0), some (vi x1), some (vi x2), none] [] (pX6_swell_4B k4 S x1 x2) := by
  unfold pX6_swell_4B
  refine r_iload_n g dX6_swell_4 rfl ?_
  refine r_iconst g dX6_swell_5 ?_
  refine r_icmp_ge g 43 dX6_swell_6 (by decide) ?_ ?_
  · refine r_iload_n g dX6_swell_43 rfl ?_
    exact r_iret g dX6_swell_44 rfl rfl
  · refine r_aload_n g dX6_swell_9 rfl ?_
    refine r_iload_n g dX6_swell_10 rfl ?_
    refine r_callV_PI (q := 0) (as := fun b => [vi x2]) g (kX6_isRubber S x2) mX6_isRubber shm_0 rfl w_1210 w_1212 w_47 (by decide) (fun _ => rfl) rfl (Nat.le_of_ble_eq_true rfl) dX6_swell_11 ?_
    intro z1_
    refine r_if_eq g 37 dX6_swell_14 (by decide) ?_ ?_
    · exact tX6_swell_37 g hk4
    · refine r_aload_n g dX6_swell_17 rfl ?_
      refine r_iload_n g dX6_swell_18 rfl ?_
      refine r_callV_PI (q := 0) (as := fun b => [vi x2]) g (kX6_swollen S x2) mX6_swollen shm_0 rfl w_1298 w_1300 w_58 (by decide) (fun _ => rfl) rfl (Nat.le_of_ble_eq_true rfl) dX6_swell_19 ?_
      intro z3_
      refine r_istore_n g 3 dX6_swell_22 rfl (by decide) rfl ?_
      refine r_aload_n g dX6_swell_23 rfl ?_
      refine r_getC (c0 := 21) g KX6 shm_0 29 rfl (by decide) w_899 dX6_swell_24 ?_
      refine r_iload_n g dX6_swell_27 rfl ?_
      refine r_dup2 g dX6_swell_28 rfl rfl ?_
      refine r_iald g shm_21 (by decide) dX6_swell_29 ?_
      intro z4_
      refine r_iload_n g dX6_swell_30 rfl ?_
      refine r_iadd g dX6_swell_31 ?_
      refine r_iast g shm_21 (by decide) dX6_swell_32 ?_
      intro S5_
      refine r_iload_n g dX6_swell_33 rfl ?_
      refine r_iload_n g dX6_swell_34 rfl ?_
      refine r_iadd g dX6_swell_35 ?_
      refine r_topi ?_
      intro x1_6_
      refine r_istore_n g 1 dX6_swell_36 rfl (by decide) rfl ?_
      refine r_msk [true, true, true, false] rfl ?_
      exact tX6_swell_37 g hk4
theorem tX6_swell_4 {G : Gx}  (g : Ok G cX6_swell RX6 4 { frames := 1, cells := 0, slots := 0, locals := 22 } (some .int))   : ∀ (n_ : Nat) (S : St) (x1 : Int) (x2 : Int), Rg G oIS (fun v => v.2) (SHM, 0, 0) (SHM, 0, 0) S 4 [some (vr G 0), some (vi x1), some (vi x2), none] [] (lo3 (pX6_swell_4B) n_ S x1 x2) := by
  intro n_
  induction n_ with
  | zero => intro S x1 x2; exact r_none
  | succ n_ ih => intro S x1 x2; exact tX6_swell_4B g   ih
theorem kX6_swell (S : St)  : Con yX6_swell cX6_swell 4 (some .int) { frames := 1, cells := 0, slots := 0, locals := 22 } false SHM (SHM, 0, 0) (fun b => [.ref (b + 0)]) S (fun _ => oIS) (fun v => v.2) (pX6_swell S) := by
  refine Con_of (fun b => [some (.ref (b + 0)), none, none, none]) (by decide) (fun _ => rfl) (fun _ => Nat.le_of_ble_eq_true rfl) ?_
  intro G g _ _ _
  change Ok G cX6_swell RX6 4 { frames := 1, cells := 0, slots := 0, locals := 22 } (some .int) at g
  show Rg G oIS (fun v => v.2) (SHM, 0, 0) (SHM, 0, 0) S 0 [some (vr G 0), none, none, none] [] (pX6_swell S)
  unfold pX6_swell
  refine r_iconst g dX6_swell_0 ?_
  refine r_istore_n g 1 dX6_swell_1 rfl (by decide) rfl ?_
  refine r_iconst g dX6_swell_2 ?_
  refine r_istore_n g 2 dX6_swell_3 rfl (by decide) rfl ?_
  exact tX6_swell_4 g _ _ _ _
theorem kX6_renew (S : St) (x1 : Int)  : Con yX6_renew cX6_renew 4 (some .int) { frames := 3, cells := 0, slots := 0, locals := 64 } false SHM (SHM, 0, 0) (fun b => [.ref (b + 0), vi x1]) S (fun _ => oIS) (fun v => v.2) (pX6_renew S x1) := by
  refine Con_of (fun b => [some (.ref (b + 0)), some (vi x1), none, none]) (by decide) (fun _ => rfl) (fun _ => Nat.le_of_ble_eq_true rfl) ?_
  intro G g _ _ _
  change Ok G cX6_renew RX6 4 { frames := 3, cells := 0, slots := 0, locals := 64 } (some .int) at g
  show Rg G oIS (fun v => v.2) (SHM, 0, 0) (SHM, 0, 0) S 0 [some (vr G 0), some (vi x1), none, none] [] (pX6_renew S x1)
  unfold pX6_renew
  refine r_aload_n g dX6_renew_0 rfl ?_
  refine r_iconst g dX6_renew_1 ?_
  refine r_iload_n g dX6_renew_2 rfl ?_
  refine r_callV_WI (q := 0) (as := fun b => [vi 1, vi x1]) g (kX6_needSeal S 1 x1) mX6_needSeal shm_0 rfl w_1175 w_1177 w_43 (by decide) (fun _ => rfl) rfl (Nat.le_of_ble_eq_true rfl) dX6_renew_3 ?_
  intro z1_ S2_
  refine r_istore_n g 2 dX6_renew_6 rfl (by decide) rfl ?_
  refine r_iload_n g dX6_renew_7 rfl ?_
  refine r_if_ge g 13 dX6_renew_8 (by decide) ?_ ?_
  · refine r_aload_n g dX6_renew_13 rfl ?_
    refine r_getC (c0 := 20) g KX6 shm_0 28 rfl (by decide) w_898 dX6_renew_14 ?_
    refine r_iload_n g dX6_renew_17 rfl ?_
    refine r_iald g shm_20 (by decide) dX6_renew_18 ?_
    intro z3_
    refine r_aload_n g dX6_renew_19 rfl ?_
    refine r_getC (c0 := 21) g KX6 shm_0 29 rfl (by decide) w_899 dX6_renew_20 ?_
    refine r_iload_n g dX6_renew_23 rfl ?_
    refine r_iald g shm_21 (by decide) dX6_renew_24 ?_
    intro z4_
    refine r_isub g dX6_renew_25 ?_
    refine r_topi ?_
    intro x3_5_
    refine r_istore_n g 3 dX6_renew_26 rfl (by decide) rfl ?_
    refine r_aload_n g dX6_renew_27 rfl ?_
    refine r_getC (c0 := 21) g KX6 shm_0 29 rfl (by decide) w_899 dX6_renew_28 ?_
    refine r_iload_n g dX6_renew_31 rfl ?_
    refine r_aload_n g dX6_renew_32 rfl ?_
    refine r_getC (c0 := 20) g KX6 shm_0 28 rfl (by decide) w_898 dX6_renew_33 ?_
    refine r_iload_n g dX6_renew_36 rfl ?_
    refine r_iald g shm_20 (by decide) dX6_renew_37 ?_
    intro z6_
    refine r_iast g shm_21 (by decide) dX6_renew_38 ?_
    intro S7_
    refine r_aload_n g dX6_renew_39 rfl ?_
    refine r_getC (c0 := 23) g KX6 shm_0 31 rfl (by decide) w_901 dX6_renew_40 ?_
    refine r_iload_n g dX6_renew_43 rfl ?_
    refine r_iconst g dX6_renew_44 ?_
    refine r_iast g shm_23 (by decide) dX6_renew_45 ?_
    intro S8_
    refine r_aload_n g dX6_renew_46 rfl ?_
    refine r_iload_n g dX6_renew_47 rfl ?_
    refine r_iconst g dX6_renew_48 ?_
    refine r_callV_WI (q := 0) (as := fun b => [vi x3_5_, vi 1]) g (kX6_tells S8_ x3_5_ 1) mX6_tells shm_0 rfl w_1067 w_1069 w_30 (by decide) (fun _ => rfl) rfl (Nat.le_of_ble_eq_true rfl) dX6_renew_49 ?_
    intro z9_ S10_
    exact r_iret g dX6_renew_52 rfl rfl
  · refine r_iload_n g dX6_renew_11 rfl ?_
    exact r_iret g dX6_renew_12 rfl rfl
theorem kX6_blown (S : St) (x1 : Int)  : Con yX6_blown cX6_blown 3 (some .int) { frames := 4, cells := 0, slots := 0, locals := 87 } false SHM (SHM, 0, 0) (fun b => [.ref (b + 0), vi x1]) S (fun _ => oIS) (fun v => v.2) (pX6_blown S x1) := by
  refine Con_of (fun b => [some (.ref (b + 0)), some (vi x1), none]) (by decide) (fun _ => rfl) (fun _ => Nat.le_of_ble_eq_true rfl) ?_
  intro G g _ _ _
  change Ok G cX6_blown RX6 3 { frames := 4, cells := 0, slots := 0, locals := 87 } (some .int) at g
  show Rg G oIS (fun v => v.2) (SHM, 0, 0) (SHM, 0, 0) S 0 [some (vr G 0), some (vi x1), none] [] (pX6_blown S x1)
  unfold pX6_blown
  refine r_aload_n g dX6_blown_0 rfl ?_
  refine r_iconst g dX6_blown_1 ?_
  refine r_iload_n g dX6_blown_2 rfl ?_
  refine r_callV_WI (q := 0) (as := fun b => [vi 1, vi x1]) g (kX6_needRubber S 1 x1) mX6_needRubber shm_0 rfl w_1251 w_1253 w_54 (by decide) (fun _ => rfl) rfl (Nat.le_of_ble_eq_true rfl) dX6_blown_3 ?_
  intro z1_ S2_
  refine r_istore_n g 2 dX6_blown_6 rfl (by decide) rfl ?_
  refine r_iload_n g dX6_blown_7 rfl ?_
  refine r_if_ge g 13 dX6_blown_8 (by decide) ?_ ?_
  · refine r_aload_n g dX6_blown_13 rfl ?_
    refine r_getC (c0 := 18) g KX6 shm_0 26 rfl (by decide) w_896 dX6_blown_14 ?_
    refine r_iload_n g dX6_blown_17 rfl ?_
    refine r_iald g shm_18 (by decide) dX6_blown_18 ?_
    intro z3_
    refine r_iconst g dX6_blown_19 ?_
    refine r_icmp_ne g 35 dX6_blown_20 (by decide) ?_ ?_
    · refine r_aload_n g dX6_blown_35 rfl ?_
      refine r_aload_n g dX6_blown_36 rfl ?_
      refine r_getC (c0 := 19) g KX6 shm_0 27 rfl (by decide) w_897 dX6_blown_37 ?_
      refine r_iload_n g dX6_blown_40 rfl ?_
      refine r_iald g shm_19 (by decide) dX6_blown_41 ?_
      intro z4_
      refine r_ldc2 (x := 10) g dX6_blown_42 w_1310 (by decide) ?_
      refine r_lconst (x := 1) g dX6_blown_45 (by decide) ?_
      refine r_callV_WV (q := 0) (as := fun b => [vi z4_, vl 10, vl 1]) g (kX6_layPush S2_ z4_ 10 1) mX6_layPush shm_0 rfl w_1141 w_1143 w_38 (by decide) (fun _ => rfl) rfl (Nat.le_of_ble_eq_true rfl) dX6_blown_46 ?_
      intro S5_
      refine r_aload_n g dX6_blown_49 rfl ?_
      refine r_getI g KX6 shm_0 36 rfl (by decide) w_906 dX6_blown_50 ?_
      refine r_i2l g dX6_blown_53 ?_
      refine r_aload_n g dX6_blown_54 rfl ?_
      refine r_getI g KX6 shm_0 37 rfl (by decide) w_907 dX6_blown_55 ?_
      refine r_i2l g dX6_blown_58 ?_
      refine r_lmul g dX6_blown_59 ?_
      refine r_aload_n g dX6_blown_60 rfl ?_
      refine r_getL g KX6 shm_0 25 rfl (by decide) w_895 dX6_blown_61 ?_
      refine r_lmul g dX6_blown_64 ?_
      refine r_ldc2 (x := 100) g dX6_blown_65 w_1293 (by decide) ?_
      refine r_aload_n g dX6_blown_68 rfl ?_
      refine r_getL g KX6 shm_0 24 rfl (by decide) w_894 dX6_blown_69 ?_
      refine r_lmul g dX6_blown_72 ?_
      refine r_lcmp_le g 81 dX6_blown_73 dX6_blown_74 (by decide) ?_ ?_
      · refine r_iconst g dX6_blown_81 ?_
        exact r_iret g dX6_blown_82 rfl rfl
      · refine r_iconst g dX6_blown_77 ?_
        refine r_goto g 82 dX6_blown_78 (by decide) ?_
        exact r_iret g dX6_blown_82 rfl rfl
    · refine r_aload_n g dX6_blown_23 rfl ?_
      refine r_getC (c0 := 24) g KX6 shm_0 32 rfl (by decide) w_902 dX6_blown_24 ?_
      refine r_iload_n g dX6_blown_27 rfl ?_
      refine r_dup2 g dX6_blown_28 rfl rfl ?_
      refine r_iald g shm_24 (by decide) dX6_blown_29 ?_
      intro z6_
      refine r_iconst g dX6_blown_30 ?_
      refine r_iadd g dX6_blown_31 ?_
      refine r_iast g shm_24 (by decide) dX6_blown_32 ?_
      intro S7_
      refine r_iconst g dX6_blown_33 ?_
      exact r_iret g dX6_blown_34 rfl rfl
  · refine r_iload_n g dX6_blown_11 rfl ?_
    exact r_iret g dX6_blown_12 rfl rfl
theorem tX6_keepAll_2B {G : Gx}  (g : Ok G cX6_keepAll RX6 2 { frames := 0, cells := 0, slots := 0, locals := 0 } none)   {k2 : St → Int → Option (St)} (hk2 : ∀ (S' : St) (x1' : Int), Rg G oVS id (SHM, 0, 0) (SHM, 0, 0) S' 2 [some (vr G 0), some (vi (x1'))] [] (k2 S' x1')) {S : St} {x1 : Int} : Rg G oVS id (SHM, 0, 0) (SHM, 0, 0) S 2 [some (vr G 0), some (vi x1)] [] (pX6_keepAll_2B k2 S x1) := by
  unfold pX6_keepAll_2B
  refine r_iload_n g dX6_keepAll_2 rfl ?_
  refine r_iconst g dX6_keepAll_3 ?_
  refine r_icmp_ge g 25 dX6_keepAll_4 (by decide) ?_ ?_
  · refine r_aload_n g dX6_keepAll_25 rfl ?_
    refine r_aload_n g dX6_keepAll_26 rfl ?_
    refine r_getI g KX6 shm_0 34 rfl (by decide) w_904 dX6_keepAll_27 ?_
    refine r_putI g KX6 shm_0 46 rfl (by decide) rfl rfl w_916 dX6_keepAll_30 ?_
    intro S1_ _
    exact r_vret g dX6_keepAll_33 rfl rfl
  · refine r_aload_n g dX6_keepAll_7 rfl ?_
    refine r_getC (c0 := 26) g KX6 shm_0 45 rfl (by decide) w_915 dX6_keepAll_8 ?_
    refine r_iload_n g dX6_keepAll_11 rfl ?_
    refine r_aload_n g dX6_keepAll_12 rfl ?_
    refine r_getC (c0 := 21) g KX6 shm_0 29 rfl (by decide) w_899 dX6_keepAll_13 ?_
    refine r_iload_n g dX6_keepAll_16 rfl ?_
    refine r_iald g shm_21 (by decide) dX6_keepAll_17 ?_
    intro z2_
    refine r_iast g shm_26 (by decide) dX6_keepAll_18 ?_
    intro S3_
    refine r_iinc g dX6_keepAll_19 (by decide) rfl ?_
    intro x1_4_
    change Rg _ _ _ _ _ _ _ [some (vr G 0), some (vi x1_4_)] _ _
    refine r_goto g 2 dX6_keepAll_22 (by decide) ?_
    exact hk2 _ _
theorem tX6_keepAll_2 {G : Gx}  (g : Ok G cX6_keepAll RX6 2 { frames := 0, cells := 0, slots := 0, locals := 0 } none)   : ∀ (n_ : Nat) (S : St) (x1 : Int), Rg G oVS id (SHM, 0, 0) (SHM, 0, 0) S 2 [some (vr G 0), some (vi x1)] [] (lo2 (pX6_keepAll_2B) n_ S x1) := by
  intro n_
  induction n_ with
  | zero => intro S x1; exact r_none
  | succ n_ ih => intro S x1; exact tX6_keepAll_2B g   ih
theorem kX6_keepAll (S : St)  : Con yX6_keepAll cX6_keepAll 2 none { frames := 0, cells := 0, slots := 0, locals := 0 } false SHM (SHM, 0, 0) (fun b => [.ref (b + 0)]) S (fun _ => oVS) id (pX6_keepAll S) := by
  refine Con_of (fun b => [some (.ref (b + 0)), none]) (by decide) (fun _ => rfl) (fun _ => Nat.le_of_ble_eq_true rfl) ?_
  intro G g _ _ _
  change Ok G cX6_keepAll RX6 2 { frames := 0, cells := 0, slots := 0, locals := 0 } none at g
  show Rg G oVS id (SHM, 0, 0) (SHM, 0, 0) S 0 [some (vr G 0), none] [] (pX6_keepAll S)
  unfold pX6_keepAll
  refine r_iconst g dX6_keepAll_0 ?_
  refine r_istore_n g 1 dX6_keepAll_1 rfl (by decide) rfl ?_
  exact tX6_keepAll_2 g _ _ _
theorem tX6_putBack_2B {G : Gx}  (g : Ok G cX6_putBack RX6 2 { frames := 0, cells := 0, slots := 0, locals := 0 } none)   {k2 : St → Int → Option (St)} (hk2 : ∀ (S' : St) (x1' : Int), Rg G oVS id (SHM, 0, 0) (SHM, 0, 0) S' 2 [some (vr G 0), some (vi (x1'))] [] (k2 S' x1')) {S : St} {x1 : Int} : Rg G oVS id (SHM, 0, 0) (SHM, 0, 0) S 2 [some (vr G 0), some (vi x1)] [] (pX6_putBack_2B k2 S x1) := by
  unfold pX6_putBack_2B
  refine r_iload_n g dX6_putBack_2 rfl ?_
  refine r_iconst g dX6_putBack_3 ?_
  refine r_icmp_ge g 25 dX6_putBack_4 (by decide) ?_ ?_
  · refine r_aload_n g dX6_putBack_25 rfl ?_
    refine r_aload_n g dX6_putBack_26 rfl ?_
    refine r_getI g KX6 shm_0 46 rfl (by decide) w_916 dX6_putBack_27 ?_
    refine r_putI g KX6 shm_0 34 rfl (by decide) rfl rfl w_904 dX6_putBack_30 ?_
    intro S1_ _
    exact r_vret g dX6_putBack_33 rfl rfl
  · refine r_aload_n g dX6_putBack_7 rfl ?_
    refine r_getC (c0 := 21) g KX6 shm_0 29 rfl (by decide) w_899 dX6_putBack_8 ?_
    refine r_iload_n g dX6_putBack_11 rfl ?_
    refine r_aload_n g dX6_putBack_12 rfl ?_
    refine r_getC (c0 := 26) g KX6 shm_0 45 rfl (by decide) w_915 dX6_putBack_13 ?_
    refine r_iload_n g dX6_putBack_16 rfl ?_
    refine r_iald g shm_26 (by decide) dX6_putBack_17 ?_
    intro z2_
    refine r_iast g shm_21 (by decide) dX6_putBack_18 ?_
    intro S3_
    refine r_iinc g dX6_putBack_19 (by decide) rfl ?_
    intro x1_4_
    change Rg _ _ _ _ _ _ _ [some (vr G 0), some (vi x1_4_)] _ _
    refine r_goto g 2 dX6_putBack_22 (by decide) ?_
    exact hk2 _ _
theorem tX6_putBack_2 {G : Gx}  (g : Ok G cX6_putBack RX6 2 { frames := 0, cells := 0, slots := 0, locals := 0 } none)   : ∀ (n_ : Nat) (S : St) (x1 : Int), Rg G oVS id (SHM, 0, 0) (SHM, 0, 0) S 2 [some (vr G 0), some (vi x1)] [] (lo2 (pX6_putBack_2B) n_ S x1) := by
  intro n_
  induction n_ with
  | zero => intro S x1; exact r_none
  | succ n_ ih => intro S x1; exact tX6_putBack_2B g   ih
theorem kX6_putBack (S : St)  : Con yX6_putBack cX6_putBack 2 none { frames := 0, cells := 0, slots := 0, locals := 0 } false SHM (SHM, 0, 0) (fun b => [.ref (b + 0)]) S (fun _ => oVS) id (pX6_putBack S) := by
  refine Con_of (fun b => [some (.ref (b + 0)), none]) (by decide) (fun _ => rfl) (fun _ => Nat.le_of_ble_eq_true rfl) ?_
  intro G g _ _ _
  change Ok G cX6_putBack RX6 2 { frames := 0, cells := 0, slots := 0, locals := 0 } none at g
  show Rg G oVS id (SHM, 0, 0) (SHM, 0, 0) S 0 [some (vr G 0), none] [] (pX6_putBack S)
  unfold pX6_putBack
  refine r_iconst g dX6_putBack_0 ?_
  refine r_istore_n g 1 dX6_putBack_1 rfl (by decide) rfl ?_
  exact tX6_putBack_2 g _ _ _
theorem tX6_layEnd_95 {G : Gx}  {S : St} {s0 : Int} (g : Ok G cX6_layEnd RX6 5 { frames := 1, cells := 0, slots := 0, locals := 21 } none)   : Rg G oVS id (SHM, 0, 0) (SHM, 0, 0) S 95 [some (vr G 0), none, none, none, none] [vi s0, vr G 0] (pX6_layEnd_95 S s0) := by
  unfold pX6_layEnd_95
  refine r_putI g KX6 shm_0 34 rfl (by decide) rfl rfl w_904 dX6_layEnd_95 ?_
  intro S2_ _
  refine r_aload_n g dX6_layEnd_98 rfl ?_
  refine r_aload_n g dX6_layEnd_99 rfl ?_
  refine r_getI g KX6 shm_0 34 rfl (by decide) w_904 dX6_layEnd_100 ?_
  refine r_if_ge g 110 dX6_layEnd_103 (by decide) ?_ ?_
  · refine r_aload_n g dX6_layEnd_110 rfl ?_
    refine r_getI g KX6 shm_0 34 rfl (by decide) w_904 dX6_layEnd_111 ?_
    refine r_putI g KX6 shm_0 34 rfl (by decide) rfl rfl w_904 dX6_layEnd_114 ?_
    intro S3_ _
    exact r_vret g dX6_layEnd_117 rfl rfl
  · refine r_iconst g dX6_layEnd_106 ?_
    refine r_goto g 114 dX6_layEnd_107 (by decide) ?_
    refine r_putI g KX6 shm_0 34 rfl (by decide) rfl rfl w_904 dX6_layEnd_114 ?_
    intro S4_ _
    exact r_vret g dX6_layEnd_117 rfl rfl
theorem tX6_layEnd_64 {G : Gx} {k3 : St → Int → Option (St)} {S : St} {x1 : Int} {x2 : Int} {x3 : Int} {x4 : Int} {s0 : Int} {s1 : Int} (g : Ok G cX6_layEnd RX6 5 { frames := 1, cells := 0, slots := 0, locals := 21 } none) (hk3 : ∀ (S' : St) (x4' : Int), Rg G oVS id (SHM, 0, 0) (SHM, 0, 0) S' 3 [some (vr G 0), some (vi x1), some (vi x2), some (vi x3), some (vi (x4'))] [] (k3 S' x4'))  : Rg G oVS id (SHM, 0, 0) (SHM, 0, 0) S 64 [some (vr G 0), some (vi x1), some (vi x2), some (vi x3), some (vi x4)] [vi s0, vi s1, vr G 21] (pX6_layEnd_64 k3 S x1 x2 x3 x4 s0 s1) := by
  unfold pX6_layEnd_64
  refine r_iast g shm_21 (by decide) dX6_layEnd_64 ?_
  intro S8_
  refine r_iinc g dX6_layEnd_65 (by decide) rfl ?_
  intro x4_9_
  change Rg _ _ _ _ _ _ _ [some (vr G 0), some (vi x1), some (vi x2), some (vi x3), some (vi x4_9_)] _ _
  refine r_goto g 3 dX6_layEnd_68 (by decide) ?_
  exact hk3 _ _
theorem tX6_layEnd_3B {G : Gx} {x1 : Int} {x2 : Int} {x3 : Int} (g : Ok G cX6_layEnd RX6 5 { frames := 1, cells := 0, slots := 0, locals := 21 } none)   {k3 : St → Int → Option (St)} (hk3 : ∀ (S' : St) (x4' : Int), Rg G oVS id (SHM, 0, 0) (SHM, 0, 0) S' 3 [some (vr G 0), some (vi x1), some (vi x2), some (vi x3), some (vi (x4'))] [] (k3 S' x4')) {S : St} {x4 : Int} : Rg G oVS id (SHM, 0, 0) (SHM, 0, 0) S 3 [some (vr G 0), some (vi x1), some (vi x2), some (vi x3), some (vi x4)] [] (pX6_layEnd_3B x1 x2 x3 k3 S x4) := by
  unfold pX6_layEnd_3B
  refine r_iload g dX6_layEnd_3 rfl ?_
  refine r_iconst g dX6_layEnd_5 ?_
  refine r_icmp_ge g 71 dX6_layEnd_6 (by decide) ?_ ?_
  · refine r_aload_n g dX6_layEnd_71 rfl ?_
    refine r_iload_n g dX6_layEnd_72 rfl ?_
    refine r_iconst g dX6_layEnd_73 ?_
    refine r_callS_PI g (kX6_has S x1 4) mX6_has w_1282 w_1283 (by decide) (fun _ => rfl) rfl (Nat.le_of_ble_eq_true rfl) dX6_layEnd_74 ?_
    intro z1_
    refine r_if_eq g 89 dX6_layEnd_77 (by decide) ?_ ?_
    · refine r_aload_n g dX6_layEnd_89 rfl ?_
      refine r_getI g KX6 shm_0 46 rfl (by decide) w_916 dX6_layEnd_90 ?_
      refine r_iload_n g dX6_layEnd_93 rfl ?_
      refine r_isub g dX6_layEnd_94 ?_
      refine r_msk [true, false, false, false, false] rfl ?_
      exact tX6_layEnd_95 g
    · refine r_aload_n g dX6_layEnd_80 rfl ?_
      refine r_getI g KX6 shm_0 46 rfl (by decide) w_916 dX6_layEnd_81 ?_
      refine r_iload_n g dX6_layEnd_84 rfl ?_
      refine r_iadd g dX6_layEnd_85 ?_
      refine r_goto g 95 dX6_layEnd_86 (by decide) ?_
      refine r_msk [true, false, false, false, false] rfl ?_
      exact tX6_layEnd_95 g
  · refine r_aload_n g dX6_layEnd_9 rfl ?_
    refine r_getC (c0 := 21) g KX6 shm_0 29 rfl (by decide) w_899 dX6_layEnd_10 ?_
    refine r_iload g dX6_layEnd_13 rfl ?_
    refine r_aload_n g dX6_layEnd_15 rfl ?_
    refine r_iload g dX6_layEnd_16 rfl ?_
    refine r_callV_PI (q := 0) (as := fun b => [vi x4]) g (kX6_isRubber S x4) mX6_isRubber shm_0 rfl w_1210 w_1212 w_47 (by decide) (fun _ => rfl) rfl (Nat.le_of_ble_eq_true rfl) dX6_layEnd_18 ?_
    intro z5_
    refine r_if_ne g 34 dX6_layEnd_21 (by decide) ?_ ?_
    · refine r_iload_n g dX6_layEnd_34 rfl ?_
      refine r_iload g dX6_layEnd_35 rfl ?_
      refine r_callS_PI g (kX6_has S x1 x4) mX6_has w_1282 w_1283 (by decide) (fun _ => rfl) rfl (Nat.le_of_ble_eq_true rfl) dX6_layEnd_37 ?_
      intro z6_
      refine r_if_eq g 55 dX6_layEnd_40 (by decide) ?_ ?_
      · refine r_aload_n g dX6_layEnd_55 rfl ?_
        refine r_getC (c0 := 26) g KX6 shm_0 45 rfl (by decide) w_915 dX6_layEnd_56 ?_
        refine r_iload g dX6_layEnd_59 rfl ?_
        refine r_iald g shm_26 (by decide) dX6_layEnd_61 ?_
        intro z7_
        refine r_iload_n g dX6_layEnd_62 rfl ?_
        refine r_isub g dX6_layEnd_63 ?_
        exact tX6_layEnd_64 g hk3
      · refine r_aload_n g dX6_layEnd_43 rfl ?_
        refine r_getC (c0 := 26) g KX6 shm_0 45 rfl (by decide) w_915 dX6_layEnd_44 ?_
        refine r_iload g dX6_layEnd_47 rfl ?_
        refine r_iald g shm_26 (by decide) dX6_layEnd_49 ?_
        intro z10_
        refine r_iload_n g dX6_layEnd_50 rfl ?_
        refine r_iadd g dX6_layEnd_51 ?_
        refine r_goto g 64 dX6_layEnd_52 (by decide) ?_
        exact tX6_layEnd_64 g hk3
    · refine r_aload_n g dX6_layEnd_24 rfl ?_
      refine r_getC (c0 := 26) g KX6 shm_0 45 rfl (by decide) w_915 dX6_layEnd_25 ?_
      refine r_iload g dX6_layEnd_28 rfl ?_
      refine r_iald g shm_26 (by decide) dX6_layEnd_30 ?_
      intro z11_
      refine r_goto g 64 dX6_layEnd_31 (by decide) ?_
      exact tX6_layEnd_64 g hk3
theorem tX6_layEnd_3 {G : Gx} {x1 : Int} {x2 : Int} {x3 : Int} (g : Ok G cX6_layEnd RX6 5 { frames := 1, cells := 0, slots := 0, locals := 21 } none)   : ∀ (n_ : Nat) (S : St) (x4 : Int), Rg G oVS id (SHM, 0, 0) (SHM, 0, 0) S 3 [some (vr G 0), some (vi x1), some (vi x2), some (vi x3), some (vi x4)] [] (lo2 (pX6_layEnd_3B x1 x2 x3) n_ S x4) := by
  intro n_
  induction n_ with
  | zero => intro S x4; exact r_none
  | succ n_ ih => intro S x4; exact tX6_layEnd_3B g   ih
theorem kX6_layEnd (S : St) (x1 : Int) (x2 : Int) (x3 : Int)  : Con yX6_layEnd cX6_layEnd 5 none { frames := 1, cells := 0, slots := 0, locals := 21 } false SHM (SHM, 0, 0) (fun b => [.ref (b + 0), vi x1, vi x2, vi x3]) S (fun _ => oVS) id (pX6_layEnd S x1 x2 x3) := by
  refine Con_of (fun b => [some (.ref (b + 0)), some (vi x1), some (vi x2), some (vi x3), none]) (by decide) (fun _ => rfl) (fun _ => Nat.le_of_ble_eq_true rfl) ?_
  intro G g _ _ _
  change Ok G cX6_layEnd RX6 5 { frames := 1, cells := 0, slots := 0, locals := 21 } none at g
  show Rg G oVS id (SHM, 0, 0) (SHM, 0, 0) S 0 [some (vr G 0), some (vi x1), some (vi x2), some (vi x3), none] [] (pX6_layEnd S x1 x2 x3)
  unfold pX6_layEnd
  refine r_iconst g dX6_layEnd_0 ?_
  refine r_istore g dX6_layEnd_1 (by decide) rfl ?_
  exact tX6_layEnd_3 g _ _ _
theorem kX6_areEnds (S : St) (x0 : Int) (x1 : Int)  : Con yX6_areEnds cX6_areEnds 2 (some .boolean) { frames := 1, cells := 0, slots := 0, locals := 22 } false SHM (SHM, 0, 0) (fun b => [vi x0, vi x1]) S (fun _ => oI) (fun _ => S) (pX6_areEnds x0 x1) := by
  refine Con_of (fun b => [some (vi x0), some (vi x1)]) (by decide) (fun _ => rfl) (fun _ => Nat.le_of_ble_eq_true rfl) ?_
  intro G g _ _ _
  change Ok G cX6_areEnds RX6 2 { frames := 1, cells := 0, slots := 0, locals := 22 } (some .boolean) at g
  show Rg G oI (fun _ => S) (SHM, 0, 0) (SHM, 0, 0) S 0 [some (vi x0), some (vi x1)] [] (pX6_areEnds x0 x1)
  unfold pX6_areEnds
  refine r_iload_n g dX6_areEnds_0 rfl ?_
  refine r_iconst g dX6_areEnds_1 ?_
  refine r_bipush g dX6_areEnds_2 (by decide) ?_
  refine r_callS_PI g (kX6_in S x0 0 20) mX6_in w_1033 w_1034 (by decide) (fun _ => rfl) rfl (Nat.le_of_ble_eq_true rfl) dX6_areEnds_4 ?_
  intro z1_
  refine r_if_eq g 25 dX6_areEnds_7 (by decide) ?_ ?_
  · refine r_iconst g dX6_areEnds_25 ?_
    exact r_zret0 g (by decide) dX6_areEnds_26 rfl rfl
  · refine r_iload_n g dX6_areEnds_10 rfl ?_
    refine r_iconst g dX6_areEnds_11 ?_
    refine r_sipush g dX6_areEnds_12 (by decide) ?_
    refine r_callS_PI g (kX6_in S x1 0 999) mX6_in w_1033 w_1034 (by decide) (fun _ => rfl) rfl (Nat.le_of_ble_eq_true rfl) dX6_areEnds_15 ?_
    intro z2_
    refine r_if_eq g 25 dX6_areEnds_18 (by decide) ?_ ?_
    · refine r_iconst g dX6_areEnds_25 ?_
      exact r_zret0 g (by decide) dX6_areEnds_26 rfl rfl
    · refine r_iconst g dX6_areEnds_21 ?_
      refine r_goto g 26 dX6_areEnds_22 (by decide) ?_
      exact r_zret0 g (by decide) dX6_areEnds_26 rfl rfl
theorem tX6_ends_111 {G : Gx} {k37 : St → Int → Int → Int → Option (Int × St)} {S : St} {x1 : Int} {x2 : Int} {x3 : Int} {x5 : Int} {x9 : Int} {s0 : Int} (g : Ok G cX6_ends RX6 12 { frames := 4, cells := 0, slots := 0, locals := 90 } (some .int)) (hk37 : ∀ (S' : St) (x5' : Int) (x7' : Int) (x9' : Int), Rg G oIS (fun v => v.2) (SHM, 0, 0) (SHM, 0, 0) S' 37 [some (vr G 0), some (vi x1), some (vi x2), some (vi x3), none, some (vl (x5')), none, some (vl (x7')), none, some (vi (x9')), none, none] [] (k37 S' x5' x7' x9'))  : Rg G oIS (fun v => v.2) (SHM, 0, 0) (SHM, 0, 0) S 111 [some (vr G 0), some (vi x1), some (vi x2), some (vi x3), none, some (vl x5), none, none, none, some (vi x9), none, none] [vl s0] (pX6_ends_111 k37 S x1 x2 x3 x5 x9 s0) := by
  unfold pX6_ends_111
  refine r_lstore g dX6_ends_111 (by decide) rfl ?_
  refine r_iinc g dX6_ends_113 (by decide) rfl ?_
  intro x9_12_
  change Rg _ _ _ _ _ _ _ [some (vr G 0), some (vi x1), some (vi x2), some (vi x3), none, some (vl x5), none, some (vl s0), none, some (vi x9_12_), none, none] _ _
  refine r_goto g 37 dX6_ends_116 (by decide) ?_
  exact hk37 _ _ _ _
theorem tX6_ends_94 {G : Gx} {k37 : St → Int → Int → Int → Option (Int × St)} {S : St} {x1 : Int} {x2 : Int} {x3 : Int} {x7 : Int} {x9 : Int} {x10 : Int} {s0 : Int} (g : Ok G cX6_ends RX6 12 { frames := 4, cells := 0, slots := 0, locals := 90 } (some .int)) (hk37 : ∀ (S' : St) (x5' : Int) (x7' : Int) (x9' : Int), Rg G oIS (fun v => v.2) (SHM, 0, 0) (SHM, 0, 0) S' 37 [some (vr G 0), some (vi x1), some (vi x2), some (vi x3), none, some (vl (x5')), none, some (vl (x7')), none, some (vi (x9')), none, none] [] (k37 S' x5' x7' x9'))  : Rg G oIS (fun v => v.2) (SHM, 0, 0) (SHM, 0, 0) S 94 [some (vr G 0), some (vi x1), some (vi x2), some (vi x3), none, none, none, some (vl x7), none, some (vi x9), some (vl x10), none] [vl s0] (pX6_ends_94 k37 S x1 x2 x3 x7 x9 x10 s0) := by
  unfold pX6_ends_94
  refine r_lstore g dX6_ends_94 (by decide) rfl ?_
  refine r_lload g dX6_ends_96 rfl ?_
  refine r_lload g dX6_ends_98 rfl ?_
  refine r_lcmp_le g 109 dX6_ends_100 dX6_ends_101 (by decide) ?_ ?_
  · refine r_lload g dX6_ends_109 rfl ?_
    refine r_msk [true, true, true, true, false, true, false, false, false, true, false, false] rfl ?_
    exact tX6_ends_111 g hk37
  · refine r_lload g dX6_ends_104 rfl ?_
    refine r_goto g 111 dX6_ends_106 (by decide) ?_
    refine r_msk [true, true, true, true, false, true, false, false, false, true, false, false] rfl ?_
    exact tX6_ends_111 g hk37
theorem tX6_ends_87 {G : Gx} {k37 : St → Int → Int → Int → Option (Int × St)} {S : St} {x1 : Int} {x2 : Int} {x3 : Int} {x7 : Int} {x9 : Int} {x10 : Int} (g : Ok G cX6_ends RX6 12 { frames := 4, cells := 0, slots := 0, locals := 90 } (some .int)) (hk37 : ∀ (S' : St) (x5' : Int) (x7' : Int) (x9' : Int), Rg G oIS (fun v => v.2) (SHM, 0, 0) (SHM, 0, 0) S' 37 [some (vr G 0), some (vi x1), some (vi x2), some (vi x3), none, some (vl (x5')), none, some (vl (x7')), none, some (vi (x9')), none, none] [] (k37 S' x5' x7' x9'))  : Rg G oIS (fun v => v.2) (SHM, 0, 0) (SHM, 0, 0) S 87 [some (vr G 0), some (vi x1), some (vi x2), some (vi x3), none, none, none, some (vl x7), none, some (vi x9), some (vl x10), none] [] (pX6_ends_87 k37 S x1 x2 x3 x7 x9 x10) := by
  unfold pX6_ends_87
  refine r_lload g dX6_ends_87 rfl ?_
  refine r_goto g 94 dX6_ends_89 (by decide) ?_
  exact tX6_ends_94 g hk37
theorem tX6_ends_37B {G : Gx} {x1 : Int} {x2 : Int} {x3 : Int} (g : Ok G cX6_ends RX6 12 { frames := 4, cells := 0, slots := 0, locals := 90 } (some .int))   {k37 : St → Int → Int → Int → Option (Int × St)} (hk37 : ∀ (S' : St) (x5' : Int) (x7' : Int) (x9' : Int), Rg G oIS (fun v => v.2) (SHM, 0, 0) (SHM, 0, 0) S' 37 [some (vr G 0), some (vi x1), some (vi x2), some (vi x3), none, some (vl (x5')), none, some (vl (x7')), none, some (vi (x9')), none, none] [] (k37 S' x5' x7' x9')) {S : St} {x5 : Int} {x7 : Int} {x9 : Int} : Rg G oIS (fun v => v.2) (SHM, 0, 0) (SHM, 0, 0) S 37 [some (vr G 0), some (vi x1), some (vi x2), some (vi x3), none, some (vl x5), none, some (vl x7), none, some (vi x9), none, none] [] (pX6_ends_37B x1 x2 x3 k37 S x5 x7 x9) := by
  unfold pX6_ends_37B
  refine r_iload g dX6_ends_37 rfl ?_
  refine r_bipush g dX6_ends_39 (by decide) ?_
  refine r_icmp_ge g 119 dX6_ends_41 (by decide) ?_ ?_
  · refine r_aload_n g dX6_ends_119 rfl ?_
    refine r_callV_WV (q := 0) (as := fun b => []) g (kX6_putBack S) mX6_putBack shm_0 rfl w_1327 w_1329 w_61 (by decide) (fun _ => rfl) rfl (Nat.le_of_ble_eq_true rfl) dX6_ends_120 ?_
    intro S5_
    refine r_aload_n g dX6_ends_123 rfl ?_
    refine r_lload g dX6_ends_124 rfl ?_
    refine r_l2i g dX6_ends_126 ?_
    refine r_lload g dX6_ends_127 rfl ?_
    refine r_l2i g dX6_ends_129 ?_
    refine r_callV_WI (q := 0) (as := fun b => [vi x7, vi x5]) g (kX6_tells S5_ x7 x5) mX6_tells shm_0 rfl w_1067 w_1069 w_30 (by decide) (fun _ => rfl) rfl (Nat.le_of_ble_eq_true rfl) dX6_ends_130 ?_
    intro z6_ S7_
    exact r_iret g dX6_ends_133 rfl rfl
  · refine r_aload_n g dX6_ends_44 rfl ?_
    refine r_iload g dX6_ends_45 rfl ?_
    refine r_iload_n g dX6_ends_47 rfl ?_
    refine r_iload_n g dX6_ends_48 rfl ?_
    refine r_callV_WV (q := 0) (as := fun b => [vi x9, vi x2, vi x3]) g (kX6_layEnd S x9 x2 x3) mX6_layEnd shm_0 rfl w_1323 w_1325 w_60 (by decide) (fun _ => rfl) rfl (Nat.le_of_ble_eq_true rfl) dX6_ends_49 ?_
    intro S8_
    refine r_aload_n g dX6_ends_52 rfl ?_
    refine r_callV_WV (q := 0) (as := fun b => []) g (kX6_layRest S8_) mX6_layRest shm_0 rfl w_1231 w_1233 w_50 (by decide) (fun _ => rfl) rfl (Nat.le_of_ble_eq_true rfl) dX6_ends_53 ?_
    intro S9_
    refine r_aload_n g dX6_ends_56 rfl ?_
    refine r_iload_n g dX6_ends_57 rfl ?_
    refine r_callV_WV (q := 0) (as := fun b => [vi x1]) g (kX6_layPress S9_ x1) mX6_layPress shm_0 rfl w_1255 w_1257 w_55 (by decide) (fun _ => rfl) rfl (Nat.le_of_ble_eq_true rfl) dX6_ends_58 ?_
    intro S10_
    refine r_aload_n g dX6_ends_61 rfl ?_
    refine r_getL g KX6 shm_0 42 rfl (by decide) w_912 dX6_ends_62 ?_
    refine r_aload_n g dX6_ends_65 rfl ?_
    refine r_getL g KX6 shm_0 43 rfl (by decide) w_913 dX6_ends_66 ?_
    refine r_ldiv g dX6_ends_69 ?_
    intro z11_
    refine r_lstore g dX6_ends_70 (by decide) rfl ?_
    refine r_lload g dX6_ends_72 rfl ?_
    refine r_lconst (x := 0) g dX6_ends_74 (by decide) ?_
    refine r_lcmp_lt g 87 dX6_ends_75 dX6_ends_76 (by decide) ?_ ?_
    · refine r_msk [true, true, true, true, false, false, false, true, false, true, true, false] rfl ?_
      exact tX6_ends_87 g hk37
    · refine r_lload g dX6_ends_79 rfl ?_
      refine r_lload g dX6_ends_81 rfl ?_
      refine r_lcmp_ge g 92 dX6_ends_83 dX6_ends_84 (by decide) ?_ ?_
      · refine r_lload g dX6_ends_92 rfl ?_
        refine r_msk [true, true, true, true, false, false, false, true, false, true, true, false] rfl ?_
        exact tX6_ends_94 g hk37
      · refine r_msk [true, true, true, true, false, false, false, true, false, true, true, false] rfl ?_
        exact tX6_ends_87 g hk37
theorem tX6_ends_37 {G : Gx} {x1 : Int} {x2 : Int} {x3 : Int} (g : Ok G cX6_ends RX6 12 { frames := 4, cells := 0, slots := 0, locals := 90 } (some .int))   : ∀ (n_ : Nat) (S : St) (x5 : Int) (x7 : Int) (x9 : Int), Rg G oIS (fun v => v.2) (SHM, 0, 0) (SHM, 0, 0) S 37 [some (vr G 0), some (vi x1), some (vi x2), some (vi x3), none, some (vl x5), none, some (vl x7), none, some (vi x9), none, none] [] (lo4 (pX6_ends_37B x1 x2 x3) n_ S x5 x7 x9) := by
  intro n_
  induction n_ with
  | zero => intro S x5 x7 x9; exact r_none
  | succ n_ ih => intro S x5 x7 x9; exact tX6_ends_37B g   ih
theorem kX6_ends (S : St) (x1 : Int) (x2 : Int) (x3 : Int)  : Con yX6_ends cX6_ends 12 (some .int) { frames := 4, cells := 0, slots := 0, locals := 90 } false SHM (SHM, 0, 0) (fun b => [.ref (b + 0), vi x1, vi x2, vi x3]) S (fun _ => oIS) (fun v => v.2) (pX6_ends S x1 x2 x3) := by
  refine Con_of (fun b => [some (.ref (b + 0)), some (vi x1), some (vi x2), some (vi x3), none, none, none, none, none, none, none, none]) (by decide) (fun _ => rfl) (fun _ => Nat.le_of_ble_eq_true rfl) ?_
  intro G g _ _ _
  change Ok G cX6_ends RX6 12 { frames := 4, cells := 0, slots := 0, locals := 90 } (some .int) at g
  show Rg G oIS (fun v => v.2) (SHM, 0, 0) (SHM, 0, 0) S 0 [some (vr G 0), some (vi x1), some (vi x2), some (vi x3), none, none, none, none, none, none, none, none] [] (pX6_ends S x1 x2 x3)
  unfold pX6_ends
  refine r_aload_n g dX6_ends_0 rfl ?_
  refine r_iload_n g dX6_ends_1 rfl ?_
  refine r_iload_n g dX6_ends_2 rfl ?_
  refine r_callS_PI g (kX6_areEnds S x2 x3) mX6_areEnds w_1315 w_1316 (by decide) (fun _ => rfl) rfl (Nat.le_of_ble_eq_true rfl) dX6_ends_3 ?_
  intro z1_
  refine r_iload_n g dX6_ends_6 rfl ?_
  refine r_callV_WI (q := 0) (as := fun b => [vi z1_, vi x1]) g (kX6_needRubber S z1_ x1) mX6_needRubber shm_0 rfl w_1251 w_1253 w_54 (by decide) (fun _ => rfl) rfl (Nat.le_of_ble_eq_true rfl) dX6_ends_7 ?_
  intro z2_ S3_
  refine r_istore g dX6_ends_10 (by decide) rfl ?_
  refine r_iload g dX6_ends_12 rfl ?_
  refine r_if_ge g 20 dX6_ends_14 (by decide) ?_ ?_
  · refine r_aload_n g dX6_ends_20 rfl ?_
    refine r_callV_WV (q := 0) (as := fun b => []) g (kX6_keepAll S3_) mX6_keepAll shm_0 rfl w_1318 w_1320 w_59 (by decide) (fun _ => rfl) rfl (Nat.le_of_ble_eq_true rfl) dX6_ends_21 ?_
    intro S4_
    refine r_ldc2 (x := (-1)) g dX6_ends_24 w_1322 (by decide) ?_
    refine r_lstore g dX6_ends_27 (by decide) rfl ?_
    refine r_ldc2 (x := (-1)) g dX6_ends_29 w_1322 (by decide) ?_
    refine r_lstore g dX6_ends_32 (by decide) rfl ?_
    refine r_iconst g dX6_ends_34 ?_
    refine r_istore g dX6_ends_35 (by decide) rfl ?_
    refine r_msk [true, true, true, true, false, true, false, true, false, true, false, false] rfl ?_
    exact tX6_ends_37 g _ _ _ _ _
  · refine r_iload g dX6_ends_17 rfl ?_
    exact r_iret g dX6_ends_19 rfl rfl
