theorem tX5_through_89 {G : Gx}  {S : St} {q3 : Nat} {s0 : Int} (g : Ok G cX5_through RX5 8 { frames := 6, cells := 0, slots := 0, locals := 141 } (some .int))  (hq3 : isSeal q3 = true) : Rg G oIS (fun v => v.2) (SHC, 0, 0) (SHC, 0, 0) S 89 [some (vr G 0), none, none, some (vr G q3), none, none, none, none] [vl s0] (pX5_through_89 S q3 s0) := by
  unfold pX5_through_89
  refine r_lstore g dX5_through_89 (by decide) rfl ?_
  refine r_lload g dX5_through_91 rfl ?_
  refine r_lconst (x := 0) g dX5_through_93 (by decide) ?_
  refine r_lcmp_gt g 104 dX5_through_94 dX5_through_95 (by decide) ?_ ?_
  · refine r_aload_n g dX5_through_104 rfl ?_
    refine r_aload_n g dX5_through_105 rfl ?_
    refine r_callV_PR (q := 0) (as := fun b => [.ref (b + q3)]) g (kX5_stuffOf S q3 hq3) mX5_stuffOf shc_0 rfl w_561 w_563 w_12 (by decide) (fun _ => rfl) rfl (Nat.le_of_ble_eq_true rfl) dX5_through_106 ?_
    intro q6_
    refine r_chk ?_
    intro hq6_
    refine r_getI g KX3 (shStf hq6_) 6 rfl (by decide) w_131 dX5_through_109 ?_
    refine r_i2l g dX5_through_112 ?_
    refine r_aload_n g dX5_through_113 rfl ?_
    refine r_getC (c0 := 6) g KX5 shc_0 5 rfl (by decide) w_279 dX5_through_114 ?_
    refine r_iconst g dX5_through_117 ?_
    refine r_iald g shc_6 (by decide) dX5_through_118 ?_
    intro z7_
    refine r_i2l g dX5_through_119 ?_
    refine r_lmul g dX5_through_120 ?_
    refine r_aload_n g dX5_through_121 rfl ?_
    refine r_getI g KX2 (shSeal hq3) 4 rfl (by decide) w_254 dX5_through_122 ?_
    refine r_i2l g dX5_through_125 ?_
    refine r_lmul g dX5_through_126 ?_
    refine r_topl ?_
    intro x6_8_
    refine r_lstore g dX5_through_127 (by decide) rfl ?_
    refine r_aload_n g dX5_through_129 rfl ?_
    refine r_lload g dX5_through_130 rfl ?_
    refine r_aload_n g dX5_through_132 rfl ?_
    refine r_getC (c0 := 13) g KX5 shc_0 7 rfl (by decide) w_281 dX5_through_133 ?_
    refine r_getL g KX4 shc_13 9 rfl (by decide) w_205 dX5_through_136 ?_
    refine r_lmul g dX5_through_139 ?_
    refine r_lload g dX5_through_140 rfl ?_
    refine r_callV_WV (q := 0) (as := fun b => [vl (x6_8_ * (S 13 9)), vl s0]) g (kX5_tell S (x6_8_ * (S 13 9)) s0) mX5_tell shc_0 rfl w_474 w_476 w_7 (by decide) (fun _ => rfl) rfl (Nat.le_of_ble_eq_true rfl) dX5_through_142 ?_
    intro S9_
    refine r_iconst g dX5_through_145 ?_
    exact r_iret g dX5_through_146 rfl rfl
  · refine r_aload_n g dX5_through_98 rfl ?_
    refine r_iconst g dX5_through_99 ?_
    refine r_callV_WI (q := 0) (as := fun b => [vi 4]) g (kX5_found S 4) mX5_found shc_0 rfl w_327 w_329 w_0 (by decide) (fun _ => rfl) rfl (Nat.le_of_ble_eq_true rfl) dX5_through_100 ?_
    intro z10_ S11_
    exact r_iret g dX5_through_103 rfl rfl
theorem kX5_through (S : St) (x1 : Int)  : Con yX5_through cX5_through 8 (some .int) { frames := 6, cells := 0, slots := 0, locals := 141 } false SHC (SHC, 0, 0) (fun b => [.ref (b + 0), vi x1]) S (fun _ => oIS) (fun v => v.2) (pX5_through S x1) := by
  refine Con_of (fun b => [some (.ref (b + 0)), some (vi x1), none, none, none, none, none, none]) (by decide) (fun _ => rfl) (fun _ => Nat.le_of_ble_eq_true rfl) ?_
  intro G g _ _ _
  change Ok G cX5_through RX5 8 { frames := 6, cells := 0, slots := 0, locals := 141 } (some .int) at g
  show Rg G oIS (fun v => v.2) (SHC, 0, 0) (SHC, 0, 0) S 0 [some (vr G 0), some (vi x1), none, none, none, none, none, none] [] (pX5_through S x1)
  unfold pX5_through
  refine r_iload_n g dX5_through_0 rfl ?_
  refine r_callS_PI g (kX5_isPlace S x1) mX5_isPlace w_488 w_489 (by decide) (fun _ => rfl) rfl (Nat.le_of_ble_eq_true rfl) dX5_through_1 ?_
  intro z1_
  refine r_if_ne g 9 dX5_through_4 (by decide) ?_ ?_
  · refine r_aload_n g dX5_through_9 rfl ?_
    refine r_iload_n g dX5_through_10 rfl ?_
    refine r_iconst g dX5_through_11 ?_
    refine r_callV_PI (q := 0) (as := fun b => [vi x1, vi 1]) g (kX5_missed S x1 1) mX5_missed shc_0 rfl w_511 w_513 w_8 (by decide) (fun _ => rfl) rfl (Nat.le_of_ble_eq_true rfl) dX5_through_12 ?_
    intro z2_
    refine r_istore_n g 2 dX5_through_15 rfl (by decide) rfl ?_
    refine r_iload_n g dX5_through_16 rfl ?_
    refine r_if_eq g 26 dX5_through_17 (by decide) ?_ ?_
    · refine r_aload_n g dX5_through_26 rfl ?_
      refine r_callV_WV (q := 0) (as := fun b => []) g (kX5_settleAsIs S) mX5_settleAsIs shc_0 rfl w_553 w_555 w_10 (by decide) (fun _ => rfl) rfl (Nat.le_of_ble_eq_true rfl) dX5_through_27 ?_
      intro S3_
      refine r_aload_n g dX5_through_30 rfl ?_
      refine r_getC (c0 := 4) g KX5 shc_0 3 rfl (by decide) w_277 dX5_through_31 ?_
      refine r_iload_n g dX5_through_34 rfl ?_
      refine r_aaldA (P := isSeal) g 2 (fun _ => rfl) shc_4 (by decide) (by decide) dX5_through_35 ?_
      intro q4_ hq4_
      refine r_astore_n g 3 dX5_through_36 rfl (by decide) rfl ?_
      refine r_aload_n g dX5_through_37 rfl ?_
      refine r_getC (c0 := 13) g KX5 shc_0 7 rfl (by decide) w_281 dX5_through_38 ?_
      refine r_iload_n g dX5_through_41 rfl ?_
      refine r_callV_PL (q := 13) (as := fun b => [vi x1]) g (kX4_squeezed S3_ x1) mX4_squeezed shc_13 rfl w_666 w_607 w_608 (by decide) (fun _ => rfl) rfl (Nat.le_of_ble_eq_true rfl) dX5_through_42 ?_
      intro z5_
      refine r_lconst (x := 0) g dX5_through_45 (by decide) ?_
      refine r_lcmp_le g 76 dX5_through_46 dX5_through_47 (by decide) ?_ ?_
      · refine r_aload_n g dX5_through_76 rfl ?_
        refine r_getI g KX2 (shSeal hq4_) 3 rfl (by decide) w_251 dX5_through_77 ?_
        refine r_i2l g dX5_through_80 ?_
        refine r_aload_n g dX5_through_81 rfl ?_
        refine r_getC (c0 := 13) g KX5 shc_0 7 rfl (by decide) w_281 dX5_through_82 ?_
        refine r_getL g KX4 shc_13 9 rfl (by decide) w_205 dX5_through_85 ?_
        refine r_lmul g dX5_through_88 ?_
        refine r_msk [true, false, false, true, false, false, false, false] rfl ?_
        exact tX5_through_89 g hq4_
      · refine r_aload_n g dX5_through_50 rfl ?_
        refine r_getC (c0 := 13) g KX5 shc_0 7 rfl (by decide) w_281 dX5_through_51 ?_
        refine r_getL g KX4 shc_13 8 rfl (by decide) w_203 dX5_through_54 ?_
        refine r_aload_n g dX5_through_57 rfl ?_
        refine r_getC (c0 := 5) g KX5 shc_0 4 rfl (by decide) w_278 dX5_through_58 ?_
        refine r_iload_n g dX5_through_61 rfl ?_
        refine r_iald g shc_5 (by decide) dX5_through_62 ?_
        intro z12_
        refine r_i2l g dX5_through_63 ?_
        refine r_aload_n g dX5_through_64 rfl ?_
        refine r_getC (c0 := 13) g KX5 shc_0 7 rfl (by decide) w_281 dX5_through_65 ?_
        refine r_getL g KX4 shc_13 9 rfl (by decide) w_205 dX5_through_68 ?_
        refine r_lmul g dX5_through_71 ?_
        refine r_ladd g dX5_through_72 ?_
        refine r_goto g 89 dX5_through_73 (by decide) ?_
        refine r_msk [true, false, false, true, false, false, false, false] rfl ?_
        exact tX5_through_89 g hq4_
    · refine r_aload_n g dX5_through_20 rfl ?_
      refine r_iload_n g dX5_through_21 rfl ?_
      refine r_callV_WI (q := 0) (as := fun b => [vi z2_]) g (kX5_found S z2_) mX5_found shc_0 rfl w_327 w_329 w_0 (by decide) (fun _ => rfl) rfl (Nat.le_of_ble_eq_true rfl) dX5_through_22 ?_
      intro z13_ S14_
      exact r_iret g dX5_through_25 rfl rfl
  · refine r_iconst g dX5_through_7 ?_
    exact r_iret g dX5_through_8 rfl rfl
theorem tX5_age_115 {G : Gx} {k20 : St → Int → Int → Option (Int × St)} {S : St} {x1 : Int} {x2 : Int} {x3 : Int} (g : Ok G cX5_age RX5 6 { frames := 6, cells := 0, slots := 0, locals := 141 } (some .int)) (hk20 : ∀ (S' : St) (x2' : Int) (x3' : Int), Rg G oIS (fun v => v.2) (SHC, 0, 0) (SHC, 0, 0) S' 20 [some (vr G 0), some (vi x1), some (vi (x2')), some (vi (x3')), none, none] [] (k20 S' x2' x3'))  : Rg G oIS (fun v => v.2) (SHC, 0, 0) (SHC, 0, 0) S 115 [some (vr G 0), some (vi x1), some (vi x2), some (vi x3), none, none] [] (pX5_age_115 k20 S x1 x2 x3) := by
  unfold pX5_age_115
  refine r_iinc g dX5_age_115 (by decide) rfl ?_
  intro x3_11_
  change Rg _ _ _ _ _ _ _ [some (vr G 0), some (vi x1), some (vi x2), some (vi x3_11_), none, none] _ _
  refine r_goto g 20 dX5_age_118 (by decide) ?_
  exact hk20 _ _ _
theorem tX5_age_20B {G : Gx} {x1 : Int} (g : Ok G cX5_age RX5 6 { frames := 6, cells := 0, slots := 0, locals := 141 } (some .int))   {k20 : St → Int → Int → Option (Int × St)} (hk20 : ∀ (S' : St) (x2' : Int) (x3' : Int), Rg G oIS (fun v => v.2) (SHC, 0, 0) (SHC, 0, 0) S' 20 [some (vr G 0), some (vi x1), some (vi (x2')), some (vi (x3')), none, none] [] (k20 S' x2' x3')) {S : St} {x2 : Int} {x3 : Int} : Rg G oIS (fun v => v.2) (SHC, 0, 0) (SHC, 0, 0) S 20 [some (vr G 0), some (vi x1), some (vi x2), some (vi x3), none, none] [] (pX5_age_20B x1 k20 S x2 x3) := by
  unfold pX5_age_20B
  refine r_iload_n g dX5_age_20 rfl ?_
  refine r_iconst g dX5_age_21 ?_
  refine r_icmp_ge g 121 dX5_age_22 (by decide) ?_ ?_
  · refine r_iload_n g dX5_age_121 rfl ?_
    exact r_iret g dX5_age_122 rfl rfl
  · refine r_aload_n g dX5_age_25 rfl ?_
    refine r_getC (c0 := 13) g KX5 shc_0 7 rfl (by decide) w_281 dX5_age_26 ?_
    refine r_getC (c0 := 15) g KX4 shc_13 1 rfl (by decide) w_190 dX5_age_29 ?_
    refine r_iload_n g dX5_age_32 rfl ?_
    refine r_zald g shc_15 (by decide) dX5_age_33 ?_
    intro z3_
    refine r_if_ne g 40 dX5_age_34 (by decide) ?_ ?_
    · refine r_bipush g dX5_age_40 (by decide) ?_
      refine r_aload_n g dX5_age_42 rfl ?_
      refine r_aload_n g dX5_age_43 rfl ?_
      refine r_getC (c0 := 4) g KX5 shc_0 3 rfl (by decide) w_277 dX5_age_44 ?_
      refine r_iload_n g dX5_age_47 rfl ?_
      refine r_aaldA (P := isSeal) g 2 (fun _ => rfl) shc_4 (by decide) (by decide) dX5_age_48 ?_
      intro q4_ hq4_
      refine r_callV_PR (q := 0) (as := fun b => [.ref (b + q4_)]) g (kX5_stuffOf S q4_ hq4_) mX5_stuffOf shc_0 rfl w_561 w_563 w_12 (by decide) (fun _ => rfl) rfl (Nat.le_of_ble_eq_true rfl) dX5_age_49 ?_
      intro q5_
      refine r_chk ?_
      intro hq5_
      refine r_getI g KX3 (shStf hq5_) 3 rfl (by decide) w_122 dX5_age_52 ?_
      refine r_iload_n g dX5_age_55 rfl ?_
      refine r_imul g dX5_age_56 ?_
      refine rJ9_min_7cf53 g w_671 w_336 w_77 w_337 ⟨by decide, Nat.le_of_ble_eq_true rfl⟩ dX5_age_57 ?_
      intro z6_
      refine r_istore g dX5_age_60 (by decide) rfl ?_
      refine r_aload_n g dX5_age_62 rfl ?_
      refine r_getC (c0 := 13) g KX5 shc_0 7 rfl (by decide) w_281 dX5_age_63 ?_
      refine r_iload_n g dX5_age_66 rfl ?_
      refine r_callV_PL (q := 13) (as := fun b => [vi x3]) g (kX4_squeezed S x3) mX4_squeezed shc_13 rfl w_666 w_607 w_608 (by decide) (fun _ => rfl) rfl (Nat.le_of_ble_eq_true rfl) dX5_age_67 ?_
      intro z7_
      refine r_iload g dX5_age_70 rfl ?_
      refine r_i2l g dX5_age_72 ?_
      refine r_lmul g dX5_age_73 ?_
      refine r_ldc2 (x := 100) g dX5_age_74 w_672 (by decide) ?_
      refine r_aload_n g dX5_age_77 rfl ?_
      refine r_getC (c0 := 13) g KX5 shc_0 7 rfl (by decide) w_281 dX5_age_78 ?_
      refine r_getL g KX4 shc_13 9 rfl (by decide) w_205 dX5_age_81 ?_
      refine r_lmul g dX5_age_84 ?_
      refine r_callS_PL g (kX5_cut S (z7_ * z6_) (100 * (S 13 9))) mX5_cut w_673 w_611 (by decide) (fun _ => rfl) rfl (Nat.le_of_ble_eq_true rfl) dX5_age_85 ?_
      intro z8_
      refine r_l2i g dX5_age_88 ?_
      refine r_istore g dX5_age_89 (by decide) rfl ?_
      refine r_aload_n g dX5_age_91 rfl ?_
      refine r_getC (c0 := 4) g KX5 shc_0 3 rfl (by decide) w_277 dX5_age_92 ?_
      refine r_iload_n g dX5_age_95 rfl ?_
      refine r_aaldA (P := isSeal) g 2 (fun _ => rfl) shc_4 (by decide) (by decide) dX5_age_96 ?_
      intro q9_ hq9_
      refine r_dup g dX5_age_97 rfl ?_
      refine r_getI g KX2 (shSeal hq9_) 3 rfl (by decide) w_251 dX5_age_98 ?_
      refine r_iload g dX5_age_101 rfl ?_
      refine r_isub g dX5_age_103 ?_
      refine r_putI g KX2 (shSeal hq9_) 3 rfl (by decide) rfl rfl w_251 dX5_age_104 ?_
      intro S10_ _
      refine r_iload g dX5_age_107 rfl ?_
      refine r_if_le g 115 dX5_age_109 (by decide) ?_ ?_
      · refine r_msk [true, true, true, true, false, false] rfl ?_
        exact tX5_age_115 g hk20
      · refine r_iinc g dX5_age_112 (by decide) rfl ?_
        intro x2_12_
        change Rg _ _ _ _ _ _ _ [some (vr G 0), some (vi x1), some (vi x2_12_), some (vi x3), some (vi z6_), some (vi z8_)] _ _
        refine r_msk [true, true, true, true, false, false] rfl ?_
        exact tX5_age_115 g hk20
    · refine r_goto g 115 dX5_age_37 (by decide) ?_
      exact tX5_age_115 g hk20
theorem tX5_age_20 {G : Gx} {x1 : Int} (g : Ok G cX5_age RX5 6 { frames := 6, cells := 0, slots := 0, locals := 141 } (some .int))   : ∀ (n_ : Nat) (S : St) (x2 : Int) (x3 : Int), Rg G oIS (fun v => v.2) (SHC, 0, 0) (SHC, 0, 0) S 20 [some (vr G 0), some (vi x1), some (vi x2), some (vi x3), none, none] [] (lo3 (pX5_age_20B x1) n_ S x2 x3) := by
  intro n_
  induction n_ with
  | zero => intro S x2 x3; exact r_none
  | succ n_ ih => intro S x2 x3; exact tX5_age_20B g   ih
theorem kX5_age (S : St) (x1 : Int)  : Con yX5_age cX5_age 6 (some .int) { frames := 6, cells := 0, slots := 0, locals := 141 } false SHC (SHC, 0, 0) (fun b => [.ref (b + 0), vi x1]) S (fun _ => oIS) (fun v => v.2) (pX5_age S x1) := by
  refine Con_of (fun b => [some (.ref (b + 0)), some (vi x1), none, none, none, none]) (by decide) (fun _ => rfl) (fun _ => Nat.le_of_ble_eq_true rfl) ?_
  intro G g _ _ _
  change Ok G cX5_age RX5 6 { frames := 6, cells := 0, slots := 0, locals := 141 } (some .int) at g
  show Rg G oIS (fun v => v.2) (SHC, 0, 0) (SHC, 0, 0) S 0 [some (vr G 0), some (vi x1), none, none, none, none] [] (pX5_age S x1)
  unfold pX5_age
  refine r_iload_n g dX5_age_0 rfl ?_
  refine r_iconst g dX5_age_1 ?_
  refine r_bipush g dX5_age_2 (by decide) ?_
  refine r_callS_PI g (kX5_within S x1 1 9) mX5_within w_324 w_325 (by decide) (fun _ => rfl) rfl (Nat.le_of_ble_eq_true rfl) dX5_age_4 ?_
  intro z1_
  refine r_if_ne g 12 dX5_age_7 (by decide) ?_ ?_
  · refine r_aload_n g dX5_age_12 rfl ?_
    refine r_callV_WV (q := 0) (as := fun b => []) g (kX5_settleAsIs S) mX5_settleAsIs shc_0 rfl w_553 w_555 w_10 (by decide) (fun _ => rfl) rfl (Nat.le_of_ble_eq_true rfl) dX5_age_13 ?_
    intro S2_
    refine r_iconst g dX5_age_16 ?_
    refine r_istore_n g 2 dX5_age_17 rfl (by decide) rfl ?_
    refine r_iconst g dX5_age_18 ?_
    refine r_istore_n g 3 dX5_age_19 rfl (by decide) rfl ?_
    exact tX5_age_20 g _ _ _ _
  · refine r_iconst g dX5_age_10 ?_
    exact r_iret g dX5_age_11 rfl rfl
theorem tX5_swell_73 {G : Gx} {k4 : St → Int → Int → Option (Int × St)} {S : St} {x1 : Int} {x2 : Int} (g : Ok G cX5_swell RX5 5 { frames := 3, cells := 0, slots := 0, locals := 63 } (some .int)) (hk4 : ∀ (S' : St) (x1' : Int) (x2' : Int), Rg G oIS (fun v => v.2) (SHC, 0, 0) (SHC, 0, 0) S' 4 [some (vr G 0), some (vi (x1')), some (vi (x2')), none, none] [] (k4 S' x1' x2'))  : Rg G oIS (fun v => v.2) (SHC, 0, 0) (SHC, 0, 0) S 73 [some (vr G 0), some (vi x1), some (vi x2), none, none] [] (pX5_swell_73 k4 S x1 x2) := by
  unfold pX5_swell_73
  refine r_iinc g dX5_swell_73 (by decide) rfl ?_
  intro x2_8_
  change Rg _ _ _ _ _ _ _ [some (vr G 0), some (vi x1), some (vi x2_8_), none, none] _ _
  refine r_goto g 4 dX5_swell_76 (by decide) ?_
  exact hk4 _ _ _
theorem tX5_swell_4B {G : Gx}  (g : Ok G cX5_swell RX5 5 { frames := 3, cells := 0, slots := 0, locals := 63 } (some .int))   {k4 : St → Int → Int → Option (Int × St)} (hk4 : ∀ (S' : St) (x1' : Int) (x2' : Int), Rg G oIS (fun v => v.2) (SHC, 0, 0) (SHC, 0, 0) S' 4 [some (vr G 0), some (vi (x1')), some (vi (x2')), none, none] [] (k4 S' x1' x2')) {S : St} {x1 : Int} {x2 : Int} : Rg G oIS (fun v => v.2) (SHC, 0, 0) (SHC, 0, 0) S 4 [some (vr G 0), some (vi x1), some (vi x2), none, none] [] (pX5_swell_4B k4 S x1 x2) := by
  unfold pX5_swell_4B
  refine r_iload_n g dX5_swell_4 rfl ?_
  refine r_iconst g dX5_swell_5 ?_
  refine r_icmp_ge g 79 dX5_swell_6 (by decide) ?_ ?_
  · refine r_iload_n g dX5_swell_79 rfl ?_
    exact r_iret g dX5_swell_80 rfl rfl
  · refine r_aload_n g dX5_swell_9 rfl ?_
    refine r_getC (c0 := 4) g KX5 shc_0 3 rfl (by decide) w_277 dX5_swell_10 ?_
    refine r_iload_n g dX5_swell_13 rfl ?_
    refine r_aaldA (P := isSeal) g 2 (fun _ => rfl) shc_4 (by decide) (by decide) dX5_swell_14 ?_
    intro q1_ hq1_
    refine r_astore_n g 3 dX5_swell_15 rfl (by decide) rfl ?_
    refine r_aload_n g dX5_swell_16 rfl ?_
    refine r_iconst g dX5_swell_17 ?_
    refine r_callV_PI (q := q1_) (as := fun b => [vi 1]) g (kX2_is S q1_ 1 hq1_) mX2_is (shSeal hq1_) rfl w_515 w_516 w_517 (by decide) (fun _ => rfl) rfl (Nat.le_of_ble_eq_true rfl) dX5_swell_18 ?_
    intro z2_
    refine r_if_ne g 27 dX5_swell_21 (by decide) ?_ ?_
    · refine r_sipush g dX5_swell_27 (by decide) ?_
      refine r_aload_n g dX5_swell_30 rfl ?_
      refine r_getI g KX2 (shSeal hq1_) 3 rfl (by decide) w_251 dX5_swell_31 ?_
      refine r_aload_n g dX5_swell_34 rfl ?_
      refine r_getI g KX2 (shSeal hq1_) 3 rfl (by decide) w_251 dX5_swell_35 ?_
      refine r_aload_n g dX5_swell_38 rfl ?_
      refine r_aload_n g dX5_swell_39 rfl ?_
      refine r_callV_PR (q := 0) (as := fun b => [.ref (b + q1_)]) g (kX5_stuffOf S q1_ hq1_) mX5_stuffOf shc_0 rfl w_561 w_563 w_12 (by decide) (fun _ => rfl) rfl (Nat.le_of_ble_eq_true rfl) dX5_swell_40 ?_
      intro q3_
      refine r_chk ?_
      intro hq3_
      refine r_getI g KX3 (shStf hq3_) 5 rfl (by decide) w_128 dX5_swell_43 ?_
      refine r_imul g dX5_swell_46 ?_
      refine r_sipush g dX5_swell_47 (by decide) ?_
      refine r_idiv g dX5_swell_50 ?_
      intro z4_
      refine r_iadd g dX5_swell_51 ?_
      refine rJ9_min_7cf53 g w_671 w_336 w_77 w_337 ⟨by decide, Nat.le_of_ble_eq_true rfl⟩ dX5_swell_52 ?_
      intro z5_
      refine r_istore g dX5_swell_55 (by decide) rfl ?_
      refine r_iload_n g dX5_swell_57 rfl ?_
      refine r_iload g dX5_swell_58 rfl ?_
      refine r_aload_n g dX5_swell_60 rfl ?_
      refine r_getI g KX2 (shSeal hq1_) 3 rfl (by decide) w_251 dX5_swell_61 ?_
      refine r_isub g dX5_swell_64 ?_
      refine r_iadd g dX5_swell_65 ?_
      refine r_topi ?_
      intro x1_6_
      refine r_istore_n g 1 dX5_swell_66 rfl (by decide) rfl ?_
      refine r_aload_n g dX5_swell_67 rfl ?_
      refine r_iload g dX5_swell_68 rfl ?_
      refine r_putI g KX2 (shSeal hq1_) 3 rfl (by decide) rfl rfl w_251 dX5_swell_70 ?_
      intro S7_ _
      refine r_msk [true, true, true, false, false] rfl ?_
      exact tX5_swell_73 g hk4
    · refine r_goto g 73 dX5_swell_24 (by decide) ?_
      refine r_msk [true, true, true, false, false] rfl ?_
      exact tX5_swell_73 g hk4
theorem tX5_swell_4 {G : Gx}  (g : Ok G cX5_swell RX5 5 { frames := 3, cells := 0, slots := 0, locals := 63 } (some .int))   : ∀ (n_ : Nat) (S : St) (x1 : Int) (x2 : Int), Rg G oIS (fun v => v.2) (SHC, 0, 0) (SHC, 0, 0) S 4 [some (vr G 0), some (vi x1), some (vi x2), none, none] [] (lo3 (pX5_swell_4B) n_ S x1 x2) := by
  intro n_
  induction n_ with
  | zero => intro S x1 x2; exact r_none
  | succ n_ ih => intro S x1 x2; exact tX5_swell_4B g   ih
theorem kX5_swell (S : St)  : Con yX5_swell cX5_swell 5 (some .int) { frames := 3, cells := 0, slots := 0, locals := 63 } false SHC (SHC, 0, 0) (fun b => [.ref (b + 0)]) S (fun _ => oIS) (fun v => v.2) (pX5_swell S) := by
  refine Con_of (fun b => [some (.ref (b + 0)), none, none, none, none]) (by decide) (fun _ => rfl) (fun _ => Nat.le_of_ble_eq_true rfl) ?_
  intro G g _ _ _
  change Ok G cX5_swell RX5 5 { frames := 3, cells := 0, slots := 0, locals := 63 } (some .int) at g
  show Rg G oIS (fun v => v.2) (SHC, 0, 0) (SHC, 0, 0) S 0 [some (vr G 0), none, none, none, none] [] (pX5_swell S)
  unfold pX5_swell
  refine r_iconst g dX5_swell_0 ?_
  refine r_istore_n g 1 dX5_swell_1 rfl (by decide) rfl ?_
  refine r_iconst g dX5_swell_2 ?_
  refine r_istore_n g 2 dX5_swell_3 rfl (by decide) rfl ?_
  exact tX5_swell_4 g _ _ _ _
theorem kX5_renew (S : St) (x1 : Int)  : Con yX5_renew cX5_renew 3 (some .int) { frames := 2, cells := 0, slots := 0, locals := 43 } false SHC (SHC, 0, 0) (fun b => [.ref (b + 0), vi x1]) S (fun _ => oIS) (fun v => v.2) (pX5_renew S x1) := by
  refine Con_of (fun b => [some (.ref (b + 0)), some (vi x1), none]) (by decide) (fun _ => rfl) (fun _ => Nat.le_of_ble_eq_true rfl) ?_
  intro G g _ _ _
  change Ok G cX5_renew RX5 3 { frames := 2, cells := 0, slots := 0, locals := 43 } (some .int) at g
  show Rg G oIS (fun v => v.2) (SHC, 0, 0) (SHC, 0, 0) S 0 [some (vr G 0), some (vi x1), none] [] (pX5_renew S x1)
  unfold pX5_renew
  refine r_iload_n g dX5_renew_0 rfl ?_
  refine r_callS_PI g (kX5_isPlace S x1) mX5_isPlace w_488 w_489 (by decide) (fun _ => rfl) rfl (Nat.le_of_ble_eq_true rfl) dX5_renew_1 ?_
  intro z1_
  refine r_if_ne g 9 dX5_renew_4 (by decide) ?_ ?_
  · refine r_aload_n g dX5_renew_9 rfl ?_
    refine r_getC (c0 := 4) g KX5 shc_0 3 rfl (by decide) w_277 dX5_renew_10 ?_
    refine r_iload_n g dX5_renew_13 rfl ?_
    refine r_aaldA (P := isSeal) g 2 (fun _ => rfl) shc_4 (by decide) (by decide) dX5_renew_14 ?_
    intro q2_ hq2_
    refine r_astore_n g 2 dX5_renew_15 rfl (by decide) rfl ?_
    refine r_aload_n g dX5_renew_16 rfl ?_
    refine r_callV_PI (q := q2_) (as := fun b => []) g (kX2_isMissing S q2_ hq2_) mX2_isMissing (shSeal hq2_) rfl w_499 w_500 w_501 (by decide) (fun _ => rfl) rfl (Nat.le_of_ble_eq_true rfl) dX5_renew_17 ?_
    intro z3_
    refine r_if_eq g 29 dX5_renew_20 (by decide) ?_ ?_
    · refine r_aload_n g dX5_renew_29 rfl ?_
      refine r_aload_n g dX5_renew_30 rfl ?_
      refine r_getI g KX2 (shSeal hq2_) 2 rfl (by decide) w_248 dX5_renew_31 ?_
      refine r_aload_n g dX5_renew_34 rfl ?_
      refine r_getI g KX2 (shSeal hq2_) 3 rfl (by decide) w_251 dX5_renew_35 ?_
      refine r_isub g dX5_renew_38 ?_
      refine r_putI g KX5 shc_0 11 rfl (by decide) rfl rfl w_285 dX5_renew_39 ?_
      intro S4_ _
      refine r_aload_n g dX5_renew_42 rfl ?_
      refine r_aload_n g dX5_renew_43 rfl ?_
      refine r_getI g KX2 (shSeal hq2_) 2 rfl (by decide) w_248 dX5_renew_44 ?_
      refine r_putI g KX2 (shSeal hq2_) 3 rfl (by decide) rfl rfl w_251 dX5_renew_47 ?_
      intro S5_ _
      refine r_aload_n g dX5_renew_50 rfl ?_
      refine r_iconst g dX5_renew_51 ?_
      refine r_putI g KX2 (shSeal hq2_) 5 rfl (by decide) rfl rfl w_256 dX5_renew_52 ?_
      intro S6_ _
      refine r_iconst g dX5_renew_55 ?_
      exact r_iret g dX5_renew_56 rfl rfl
    · refine r_aload_n g dX5_renew_23 rfl ?_
      refine r_iconst g dX5_renew_24 ?_
      refine r_callV_WI (q := 0) (as := fun b => [vi 1]) g (kX5_found S 1) mX5_found shc_0 rfl w_327 w_329 w_0 (by decide) (fun _ => rfl) rfl (Nat.le_of_ble_eq_true rfl) dX5_renew_25 ?_
      intro z7_ S8_
      exact r_iret g dX5_renew_28 rfl rfl
  · refine r_iconst g dX5_renew_7 ?_
    exact r_iret g dX5_renew_8 rfl rfl
theorem kX5_blown (S : St) (x1 : Int)  : Con yX5_blown cX5_blown 6 (some .int) { frames := 3, cells := 0, slots := 0, locals := 67 } false SHC (SHC, 0, 0) (fun b => [.ref (b + 0), vi x1]) S (fun _ => oIS) (fun v => v.2) (pX5_blown S x1) := by
  refine Con_of (fun b => [some (.ref (b + 0)), some (vi x1), none, none, none, none]) (by decide) (fun _ => rfl) (fun _ => Nat.le_of_ble_eq_true rfl) ?_
  intro G g _ _ _
  change Ok G cX5_blown RX5 6 { frames := 3, cells := 0, slots := 0, locals := 67 } (some .int) at g
  show Rg G oIS (fun v => v.2) (SHC, 0, 0) (SHC, 0, 0) S 0 [some (vr G 0), some (vi x1), none, none, none, none] [] (pX5_blown S x1)
  unfold pX5_blown
  refine r_iload_n g dX5_blown_0 rfl ?_
  refine r_callS_PI g (kX5_isPlace S x1) mX5_isPlace w_488 w_489 (by decide) (fun _ => rfl) rfl (Nat.le_of_ble_eq_true rfl) dX5_blown_1 ?_
  intro z1_
  refine r_if_ne g 9 dX5_blown_4 (by decide) ?_ ?_
  · refine r_aload_n g dX5_blown_9 rfl ?_
    refine r_iload_n g dX5_blown_10 rfl ?_
    refine r_iconst g dX5_blown_11 ?_
    refine r_callV_PI (q := 0) (as := fun b => [vi x1, vi 1]) g (kX5_missed S x1 1) mX5_missed shc_0 rfl w_511 w_513 w_8 (by decide) (fun _ => rfl) rfl (Nat.le_of_ble_eq_true rfl) dX5_blown_12 ?_
    intro z2_
    refine r_istore_n g 2 dX5_blown_15 rfl (by decide) rfl ?_
    refine r_iload_n g dX5_blown_16 rfl ?_
    refine r_if_eq g 26 dX5_blown_17 (by decide) ?_ ?_
    · refine r_aload_n g dX5_blown_26 rfl ?_
      refine r_getC (c0 := 4) g KX5 shc_0 3 rfl (by decide) w_277 dX5_blown_27 ?_
      refine r_iload_n g dX5_blown_30 rfl ?_
      refine r_aaldA (P := isSeal) g 2 (fun _ => rfl) shc_4 (by decide) (by decide) dX5_blown_31 ?_
      intro q3_ hq3_
      refine r_astore_n g 3 dX5_blown_32 rfl (by decide) rfl ?_
      refine r_aload_n g dX5_blown_33 rfl ?_
      refine r_iconst g dX5_blown_34 ?_
      refine r_callV_PI (q := q3_) (as := fun b => [vi 4]) g (kX2_is S q3_ 4 hq3_) mX2_is (shSeal hq3_) rfl w_515 w_516 w_517 (by decide) (fun _ => rfl) rfl (Nat.le_of_ble_eq_true rfl) dX5_blown_35 ?_
      intro z4_
      refine r_if_eq g 53 dX5_blown_38 (by decide) ?_ ?_
      · refine r_aload_n g dX5_blown_53 rfl ?_
        refine r_getC (c0 := 6) g KX5 shc_0 5 rfl (by decide) w_279 dX5_blown_54 ?_
        refine r_iconst g dX5_blown_57 ?_
        refine r_iald g shc_6 (by decide) dX5_blown_58 ?_
        intro z5_
        refine r_i2l g dX5_blown_59 ?_
        refine r_aload_n g dX5_blown_60 rfl ?_
        refine r_getC (c0 := 6) g KX5 shc_0 5 rfl (by decide) w_279 dX5_blown_61 ?_
        refine r_iconst g dX5_blown_64 ?_
        refine r_iald g shc_6 (by decide) dX5_blown_65 ?_
        intro z6_
        refine r_i2l g dX5_blown_66 ?_
        refine r_lmul g dX5_blown_67 ?_
        refine r_ldc2 (x := 232792560) g dX5_blown_68 w_473 (by decide) ?_
        refine r_lmul g dX5_blown_71 ?_
        refine r_topl ?_
        intro x4_7_
        refine r_lstore g dX5_blown_72 (by decide) rfl ?_
        refine r_lload g dX5_blown_74 rfl ?_
        refine r_ldc2 (x := 100) g dX5_blown_76 w_672 (by decide) ?_
        refine r_aload_n g dX5_blown_79 rfl ?_
        refine r_aload_n g dX5_blown_80 rfl ?_
        refine r_callV_PR (q := 0) (as := fun b => [.ref (b + q3_)]) g (kX5_stuffOf S q3_ hq3_) mX5_stuffOf shc_0 rfl w_561 w_563 w_12 (by decide) (fun _ => rfl) rfl (Nat.le_of_ble_eq_true rfl) dX5_blown_81 ?_
        intro q8_
        refine r_chk ?_
        intro hq8_
        refine r_bipush g dX5_blown_84 (by decide) ?_
        refine r_callV_PL (q := q8_) (as := fun b => [vi 10]) g (kX3_scaledPush S q8_ 10 hq8_) mX3_scaledPush (shStf hq8_) rfl w_455 w_456 w_457 (by decide) (fun _ => rfl) rfl (Nat.le_of_ble_eq_true rfl) dX5_blown_86 ?_
        intro z9_
        refine r_lmul g dX5_blown_89 ?_
        refine r_lcmp_le g 98 dX5_blown_90 dX5_blown_91 (by decide) ?_ ?_
        · refine r_iconst g dX5_blown_98 ?_
          exact r_iret g dX5_blown_99 rfl rfl
        · refine r_iconst g dX5_blown_94 ?_
          refine r_goto g 99 dX5_blown_95 (by decide) ?_
          exact r_iret g dX5_blown_99 rfl rfl
      · refine r_aload_n g dX5_blown_41 rfl ?_
        refine r_dup g dX5_blown_42 rfl ?_
        refine r_getI g KX2 (shSeal hq3_) 6 rfl (by decide) w_258 dX5_blown_43 ?_
        refine r_iconst g dX5_blown_46 ?_
        refine r_iadd g dX5_blown_47 ?_
        refine r_putI g KX2 (shSeal hq3_) 6 rfl (by decide) rfl rfl w_258 dX5_blown_48 ?_
        intro S10_ _
        refine r_iconst g dX5_blown_51 ?_
        exact r_iret g dX5_blown_52 rfl rfl
    · refine r_aload_n g dX5_blown_20 rfl ?_
      refine r_iload_n g dX5_blown_21 rfl ?_
      refine r_callV_WI (q := 0) (as := fun b => [vi z2_]) g (kX5_found S z2_) mX5_found shc_0 rfl w_327 w_329 w_0 (by decide) (fun _ => rfl) rfl (Nat.le_of_ble_eq_true rfl) dX5_blown_22 ?_
      intro z11_ S12_
      exact r_iret g dX5_blown_25 rfl rfl
  · refine r_iconst g dX5_blown_7 ?_
    exact r_iret g dX5_blown_8 rfl rfl
theorem kX5_areEnds (S : St) (x0 : Int) (x1 : Int)  : Con yX5_areEnds cX5_areEnds 2 (some .boolean) { frames := 1, cells := 0, slots := 0, locals := 22 } false SHC (SHC, 0, 0) (fun b => [vi x0, vi x1]) S (fun _ => oI) (fun _ => S) (pX5_areEnds x0 x1) := by
  refine Con_of (fun b => [some (vi x0), some (vi x1)]) (by decide) (fun _ => rfl) (fun _ => Nat.le_of_ble_eq_true rfl) ?_
  intro G g _ _ _
  change Ok G cX5_areEnds RX5 2 { frames := 1, cells := 0, slots := 0, locals := 22 } (some .boolean) at g
  show Rg G oI (fun _ => S) (SHC, 0, 0) (SHC, 0, 0) S 0 [some (vi x0), some (vi x1)] [] (pX5_areEnds x0 x1)
  unfold pX5_areEnds
  refine r_iload_n g dX5_areEnds_0 rfl ?_
  refine r_iconst g dX5_areEnds_1 ?_
  refine r_bipush g dX5_areEnds_2 (by decide) ?_
  refine r_callS_PI g (kX5_within S x0 0 20) mX5_within w_324 w_325 (by decide) (fun _ => rfl) rfl (Nat.le_of_ble_eq_true rfl) dX5_areEnds_4 ?_
  intro z1_
  refine r_if_eq g 25 dX5_areEnds_7 (by decide) ?_ ?_
  · refine r_iconst g dX5_areEnds_25 ?_
    exact r_zret0 g (by decide) dX5_areEnds_26 rfl rfl
  · refine r_iload_n g dX5_areEnds_10 rfl ?_
    refine r_iconst g dX5_areEnds_11 ?_
    refine r_sipush g dX5_areEnds_12 (by decide) ?_
    refine r_callS_PI g (kX5_within S x1 0 999) mX5_within w_324 w_325 (by decide) (fun _ => rfl) rfl (Nat.le_of_ble_eq_true rfl) dX5_areEnds_15 ?_
    intro z2_
    refine r_if_eq g 25 dX5_areEnds_18 (by decide) ?_ ?_
    · refine r_iconst g dX5_areEnds_25 ?_
      exact r_zret0 g (by decide) dX5_areEnds_26 rfl rfl
    · refine r_iconst g dX5_areEnds_21 ?_
      refine r_goto g 26 dX5_areEnds_22 (by decide) ?_
      exact r_zret0 g (by decide) dX5_areEnds_26 rfl rfl
theorem kX5_holds (S : St) (x0 : Int) (x1 : Int)  : Con yX5_holds cX5_holds 2 (some .boolean) { frames := 0, cells := 0, slots := 0, locals := 0 } false SHC (SHC, 0, 0) (fun b => [vi x0, vi x1]) S (fun _ => oI) (fun _ => S) (pX5_holds x0 x1) := by
  refine Con_of (fun b => [some (vi x0), some (vi x1)]) (by decide) (fun _ => rfl) (fun _ => Nat.le_of_ble_eq_true rfl) ?_
  intro G g _ _ _
  change Ok G cX5_holds RX5 2 { frames := 0, cells := 0, slots := 0, locals := 0 } (some .boolean) at g
  show Rg G oI (fun _ => S) (SHC, 0, 0) (SHC, 0, 0) S 0 [some (vi x0), some (vi x1)] [] (pX5_holds x0 x1)
  unfold pX5_holds
  refine r_iload_n g dX5_holds_0 rfl ?_
  refine r_iload_n g dX5_holds_1 rfl ?_
  refine r_ishr g dX5_holds_2 ?_
  intro z1_
  refine r_iconst g dX5_holds_3 ?_
  refine r_iand g dX5_holds_4 ?_
  intro z2_
  refine r_if_eq g 12 dX5_holds_5 (by decide) ?_ ?_
  · refine r_iconst g dX5_holds_12 ?_
    exact r_zret0 g (by decide) dX5_holds_13 rfl rfl
  · refine r_iconst g dX5_holds_8 ?_
    refine r_goto g 13 dX5_holds_9 (by decide) ?_
    exact r_zret0 g (by decide) dX5_holds_13 rfl rfl
theorem tX5_settleAtEnd_86 {G : Gx}  {S : St} {s0 : Int} {s1 : Int} {s2 : Int} (g : Ok G cX5_settleAtEnd RX5 5 { frames := 5, cells := 0, slots := 0, locals := 121 } none)   : Rg G oVS id (SHC, 0, 0) (SHC, 0, 0) S 86 [some (vr G 0), none, none, none, none] [vi s0, vi s1, vi s2, vr G 13] (pX5_settleAtEnd_86 S s0 s1 s2) := by
  unfold pX5_settleAtEnd_86
  refine r_iadd g dX5_settleAtEnd_86 ?_
  refine rJ9_max_7cf53 g w_701 w_155 w_77 w_156 ⟨by decide, Nat.le_of_ble_eq_true rfl⟩ dX5_settleAtEnd_87 ?_
  intro z3_
  refine r_putI g KX4 shc_13 5 rfl (by decide) rfl rfl w_197 dX5_settleAtEnd_90 ?_
  intro S4_ _
  refine r_aload_n g dX5_settleAtEnd_93 rfl ?_
  refine r_getC (c0 := 13) g KX5 shc_0 7 rfl (by decide) w_281 dX5_settleAtEnd_94 ?_
  refine r_callV_WV (q := 13) (as := fun b => []) g (kX4_settle S4_) mX4_settle shc_13 rfl w_572 w_573 w_574 (by decide) (fun _ => rfl) rfl (Nat.le_of_ble_eq_true rfl) dX5_settleAtEnd_97 ?_
  intro S5_
  exact r_vret g dX5_settleAtEnd_100 rfl rfl
theorem tX5_settleAtEnd_54 {G : Gx} {k7 : St → Int → Option (St)} {S : St} {x1 : Int} {x2 : Int} {x3 : Int} {x4 : Int} (g : Ok G cX5_settleAtEnd RX5 5 { frames := 5, cells := 0, slots := 0, locals := 121 } none) (hk7 : ∀ (S' : St) (x4' : Int), Rg G oVS id (SHC, 0, 0) (SHC, 0, 0) S' 7 [some (vr G 0), some (vi x1), some (vi x2), some (vi x3), some (vi (x4'))] [] (k7 S' x4'))  : Rg G oVS id (SHC, 0, 0) (SHC, 0, 0) S 54 [some (vr G 0), some (vi x1), some (vi x2), some (vi x3), some (vi x4)] [] (pX5_settleAtEnd_54 k7 S x1 x2 x3 x4) := by
  unfold pX5_settleAtEnd_54
  refine r_iinc g dX5_settleAtEnd_54 (by decide) rfl ?_
  intro x4_7_
  change Rg _ _ _ _ _ _ _ [some (vr G 0), some (vi x1), some (vi x2), some (vi x3), some (vi x4_7_)] _ _
  refine r_goto g 7 dX5_settleAtEnd_57 (by decide) ?_
  exact hk7 _ _
theorem tX5_settleAtEnd_52 {G : Gx} {k7 : St → Int → Option (St)} {S : St} {x1 : Int} {x2 : Int} {x3 : Int} {x4 : Int} {s0 : Int} {s1 : Int} {s2 : Int} (g : Ok G cX5_settleAtEnd RX5 5 { frames := 5, cells := 0, slots := 0, locals := 121 } none) (hk7 : ∀ (S' : St) (x4' : Int), Rg G oVS id (SHC, 0, 0) (SHC, 0, 0) S' 7 [some (vr G 0), some (vi x1), some (vi x2), some (vi x3), some (vi (x4'))] [] (k7 S' x4'))  : Rg G oVS id (SHC, 0, 0) (SHC, 0, 0) S 52 [some (vr G 0), some (vi x1), some (vi x2), some (vi x3), some (vi x4)] [vi s0, vi s1, vi s2, vr G 16] (pX5_settleAtEnd_52 k7 S x1 x2 x3 x4 s0 s1 s2) := by
  unfold pX5_settleAtEnd_52
  refine r_iadd g dX5_settleAtEnd_52 ?_
  refine r_iast g shc_16 (by decide) dX5_settleAtEnd_53 ?_
  intro S10_
  exact tX5_settleAtEnd_54 g hk7
theorem tX5_settleAtEnd_7B {G : Gx} {x1 : Int} {x2 : Int} {x3 : Int} (g : Ok G cX5_settleAtEnd RX5 5 { frames := 5, cells := 0, slots := 0, locals := 121 } none)   {k7 : St → Int → Option (St)} (hk7 : ∀ (S' : St) (x4' : Int), Rg G oVS id (SHC, 0, 0) (SHC, 0, 0) S' 7 [some (vr G 0), some (vi x1), some (vi x2), some (vi x3), some (vi (x4'))] [] (k7 S' x4')) {S : St} {x4 : Int} : Rg G oVS id (SHC, 0, 0) (SHC, 0, 0) S 7 [some (vr G 0), some (vi x1), some (vi x2), some (vi x3), some (vi x4)] [] (pX5_settleAtEnd_7B x1 x2 x3 k7 S x4) := by
  unfold pX5_settleAtEnd_7B
  refine r_iload g dX5_settleAtEnd_7 rfl ?_
  refine r_iconst g dX5_settleAtEnd_9 ?_
  refine r_icmp_ge g 60 dX5_settleAtEnd_10 (by decide) ?_ ?_
  · refine r_aload_n g dX5_settleAtEnd_60 rfl ?_
    refine r_getC (c0 := 13) g KX5 shc_0 7 rfl (by decide) w_281 dX5_settleAtEnd_61 ?_
    refine r_iconst g dX5_settleAtEnd_64 ?_
    refine r_aload_n g dX5_settleAtEnd_65 rfl ?_
    refine r_getC (c0 := 13) g KX5 shc_0 7 rfl (by decide) w_281 dX5_settleAtEnd_66 ?_
    refine r_getI g KX4 shc_13 5 rfl (by decide) w_197 dX5_settleAtEnd_69 ?_
    refine r_iload_n g dX5_settleAtEnd_72 rfl ?_
    refine r_iconst g dX5_settleAtEnd_73 ?_
    refine r_callS_PI g (kX5_holds S x1 4) mX5_holds w_698 w_699 (by decide) (fun _ => rfl) rfl (Nat.le_of_ble_eq_true rfl) dX5_settleAtEnd_74 ?_
    intro z2_
    refine r_if_eq g 84 dX5_settleAtEnd_77 (by decide) ?_ ?_
    · refine r_iload_n g dX5_settleAtEnd_84 rfl ?_
      refine r_ineg g dX5_settleAtEnd_85 ?_
      refine r_msk [true, false, false, false, false] rfl ?_
      exact tX5_settleAtEnd_86 g
    · refine r_iload_n g dX5_settleAtEnd_80 rfl ?_
      refine r_goto g 86 dX5_settleAtEnd_81 (by decide) ?_
      refine r_msk [true, false, false, false, false] rfl ?_
      exact tX5_settleAtEnd_86 g
  · refine r_aload_n g dX5_settleAtEnd_13 rfl ?_
    refine r_getC (c0 := 13) g KX5 shc_0 7 rfl (by decide) w_281 dX5_settleAtEnd_14 ?_
    refine r_getC (c0 := 15) g KX4 shc_13 1 rfl (by decide) w_190 dX5_settleAtEnd_17 ?_
    refine r_iload g dX5_settleAtEnd_20 rfl ?_
    refine r_zald g shc_15 (by decide) dX5_settleAtEnd_22 ?_
    intro z6_
    refine r_if_eq g 54 dX5_settleAtEnd_23 (by decide) ?_ ?_
    · exact tX5_settleAtEnd_54 g hk7
    · refine r_aload_n g dX5_settleAtEnd_26 rfl ?_
      refine r_getC (c0 := 13) g KX5 shc_0 7 rfl (by decide) w_281 dX5_settleAtEnd_27 ?_
      refine r_getC (c0 := 16) g KX4 shc_13 2 rfl (by decide) w_192 dX5_settleAtEnd_30 ?_
      refine r_iload g dX5_settleAtEnd_33 rfl ?_
      refine r_dup2 g dX5_settleAtEnd_35 rfl rfl ?_
      refine r_iald g shc_16 (by decide) dX5_settleAtEnd_36 ?_
      intro z8_
      refine r_iload_n g dX5_settleAtEnd_37 rfl ?_
      refine r_iload g dX5_settleAtEnd_38 rfl ?_
      refine r_callS_PI g (kX5_holds S x1 x4) mX5_holds w_698 w_699 (by decide) (fun _ => rfl) rfl (Nat.le_of_ble_eq_true rfl) dX5_settleAtEnd_40 ?_
      intro z9_
      refine r_if_eq g 50 dX5_settleAtEnd_43 (by decide) ?_ ?_
      · refine r_iload_n g dX5_settleAtEnd_50 rfl ?_
        refine r_ineg g dX5_settleAtEnd_51 ?_
        exact tX5_settleAtEnd_52 g hk7
      · refine r_iload_n g dX5_settleAtEnd_46 rfl ?_
        refine r_goto g 52 dX5_settleAtEnd_47 (by decide) ?_
        exact tX5_settleAtEnd_52 g hk7
theorem tX5_settleAtEnd_7 {G : Gx} {x1 : Int} {x2 : Int} {x3 : Int} (g : Ok G cX5_settleAtEnd RX5 5 { frames := 5, cells := 0, slots := 0, locals := 121 } none)   : ∀ (n_ : Nat) (S : St) (x4 : Int), Rg G oVS id (SHC, 0, 0) (SHC, 0, 0) S 7 [some (vr G 0), some (vi x1), some (vi x2), some (vi x3), some (vi x4)] [] (lo2 (pX5_settleAtEnd_7B x1 x2 x3) n_ S x4) := by
  intro n_
  induction n_ with
  | zero => intro S x4; exact r_none
  | succ n_ ih => intro S x4; exact tX5_settleAtEnd_7B g   ih
theorem kX5_settleAtEnd (S : St) (x1 : Int) (x2 : Int) (x3 : Int)  : Con yX5_settleAtEnd cX5_settleAtEnd 5 none { frames := 5, cells := 0, slots := 0, locals := 121 } false SHC (SHC, 0, 0) (fun b => [.ref (b + 0), vi x1, vi x2, vi x3]) S (fun _ => oVS) id (pX5_settleAtEnd S x1 x2 x3) := by
  refine Con_of (fun b => [some (.ref (b + 0)), some (vi x1), some (vi x2), some (vi x3), none]) (by decide) (fun _ => rfl) (fun _ => Nat.le_of_ble_eq_true rfl) ?_
  intro G g _ _ _
  change Ok G cX5_settleAtEnd RX5 5 { frames := 5, cells := 0, slots := 0, locals := 121 } none at g
  show Rg G oVS id (SHC, 0, 0) (SHC, 0, 0) S 0 [some (vr G 0), some (vi x1), some (vi x2), some (vi x3), none] [] (pX5_settleAtEnd S x1 x2 x3)
  unfold pX5_settleAtEnd
  refine r_aload_n g dX5_settleAtEnd_0 rfl ?_
  refine r_callV_WV (q := 0) (as := fun b => []) g (kX5_layOut S) mX5_layOut shc_0 rfl w_557 w_559 w_11 (by decide) (fun _ => rfl) rfl (Nat.le_of_ble_eq_true rfl) dX5_settleAtEnd_1 ?_
  intro S1_
  refine r_iconst g dX5_settleAtEnd_4 ?_
  refine r_istore g dX5_settleAtEnd_5 (by decide) rfl ?_
  exact tX5_settleAtEnd_7 g _ _ _
theorem tX5_ends_48B {G : Gx} {x1 : Int} {x2 : Int} {x3 : Int} (g : Ok G cX5_ends RX5 9 { frames := 6, cells := 0, slots := 0, locals := 145 } (some .int))   {k48 : St → Int → Int → Int → Option (Int × St)} (hk48 : ∀ (S' : St) (x5' : Int) (x6' : Int) (x7' : Int), Rg G oIS (fun v => v.2) (SHC, 0, 0) (SHC, 0, 0) S' 48 [some (vr G 0), some (vi x1), some (vi x2), some (vi x3), none, some (vi (x5')), some (vi (x6')), some (vi (x7')), none] [] (k48 S' x5' x6' x7')) {S : St} {x5 : Int} {x6 : Int} {x7 : Int} : Rg G oIS (fun v => v.2) (SHC, 0, 0) (SHC, 0, 0) S 48 [some (vr G 0), some (vi x1), some (vi x2), some (vi x3), none, some (vi x5), some (vi x6), some (vi x7), none] [] (pX5_ends_48B x1 x2 x3 k48 S x5 x6 x7) := by
  unfold pX5_ends_48B
  refine r_iload g dX5_ends_48 rfl ?_
  refine r_bipush g dX5_ends_50 (by decide) ?_
  refine r_icmp_ge g 97 dX5_ends_52 (by decide) ?_ ?_
  · refine r_aload_n g dX5_ends_97 rfl ?_
    refine r_iload g dX5_ends_98 rfl ?_
    refine r_putI g KX5 shc_0 11 rfl (by decide) rfl rfl w_285 dX5_ends_100 ?_
    intro S4_ _
    refine r_iload g dX5_ends_103 rfl ?_
    exact r_iret g dX5_ends_105 rfl rfl
  · refine r_aload_n g dX5_ends_55 rfl ?_
    refine r_iload g dX5_ends_56 rfl ?_
    refine r_iload_n g dX5_ends_58 rfl ?_
    refine r_iload_n g dX5_ends_59 rfl ?_
    refine r_callV_WV (q := 0) (as := fun b => [vi x7, vi x2, vi x3]) g (kX5_settleAtEnd S x7 x2 x3) mX5_settleAtEnd shc_0 rfl w_694 w_696 w_19 (by decide) (fun _ => rfl) rfl (Nat.le_of_ble_eq_true rfl) dX5_ends_60 ?_
    intro S5_
    refine r_aload_n g dX5_ends_63 rfl ?_
    refine r_getC (c0 := 13) g KX5 shc_0 7 rfl (by decide) w_281 dX5_ends_64 ?_
    refine r_iload_n g dX5_ends_67 rfl ?_
    refine r_callV_PI (q := 13) (as := fun b => [vi x1]) g (kX4_cutPress S5_ x1) mX4_cutPress shc_13 rfl w_650 w_651 w_652 (by decide) (fun _ => rfl) rfl (Nat.le_of_ble_eq_true rfl) dX5_ends_68 ?_
    intro z6_
    refine r_istore g dX5_ends_71 (by decide) rfl ?_
    refine r_iload g dX5_ends_73 rfl ?_
    refine r_iload g dX5_ends_75 rfl ?_
    refine rJ9_min_7cf53 g w_671 w_336 w_77 w_337 ⟨by decide, Nat.le_of_ble_eq_true rfl⟩ dX5_ends_77 ?_
    intro z7_
    refine r_istore g dX5_ends_80 (by decide) rfl ?_
    refine r_iload g dX5_ends_82 rfl ?_
    refine r_iload g dX5_ends_84 rfl ?_
    refine rJ9_max_7cf53 g w_701 w_155 w_77 w_156 ⟨by decide, Nat.le_of_ble_eq_true rfl⟩ dX5_ends_86 ?_
    intro z8_
    refine r_istore g dX5_ends_89 (by decide) rfl ?_
    refine r_iinc g dX5_ends_91 (by decide) rfl ?_
    intro x7_9_
    change Rg _ _ _ _ _ _ _ [some (vr G 0), some (vi x1), some (vi x2), some (vi x3), none, some (vi z7_), some (vi z8_), some (vi x7_9_), some (vi z6_)] _ _
    refine r_goto g 48 dX5_ends_94 (by decide) ?_
    refine r_msk [true, true, true, true, false, true, true, true, false] rfl ?_
    exact hk48 _ _ _ _
theorem tX5_ends_48 {G : Gx} {x1 : Int} {x2 : Int} {x3 : Int} (g : Ok G cX5_ends RX5 9 { frames := 6, cells := 0, slots := 0, locals := 145 } (some .int))   : ∀ (n_ : Nat) (S : St) (x5 : Int) (x6 : Int) (x7 : Int), Rg G oIS (fun v => v.2) (SHC, 0, 0) (SHC, 0, 0) S 48 [some (vr G 0), some (vi x1), some (vi x2), some (vi x3), none, some (vi x5), some (vi x6), some (vi x7), none] [] (lo4 (pX5_ends_48B x1 x2 x3) n_ S x5 x6 x7) := by
  intro n_
  induction n_ with
  | zero => intro S x5 x6 x7; exact r_none
  | succ n_ ih => intro S x5 x6 x7; exact tX5_ends_48B g   ih
theorem kX5_ends (S : St) (x1 : Int) (x2 : Int) (x3 : Int)  : Con yX5_ends cX5_ends 9 (some .int) { frames := 6, cells := 0, slots := 0, locals := 145 } false SHC (SHC, 0, 0) (fun b => [.ref (b + 0), vi x1, vi x2, vi x3]) S (fun _ => oIS) (fun v => v.2) (pX5_ends S x1 x2 x3) := by
  refine Con_of (fun b => [some (.ref (b + 0)), some (vi x1), some (vi x2), some (vi x3), none, none, none, none, none]) (by decide) (fun _ => rfl) (fun _ => Nat.le_of_ble_eq_true rfl) ?_
  intro G g _ _ _
  change Ok G cX5_ends RX5 9 { frames := 6, cells := 0, slots := 0, locals := 145 } (some .int) at g
  show Rg G oIS (fun v => v.2) (SHC, 0, 0) (SHC, 0, 0) S 0 [some (vr G 0), some (vi x1), some (vi x2), some (vi x3), none, none, none, none, none] [] (pX5_ends S x1 x2 x3)
  unfold pX5_ends
  refine r_iload_n g dX5_ends_0 rfl ?_
  refine r_callS_PI g (kX5_isPlace S x1) mX5_isPlace w_488 w_489 (by decide) (fun _ => rfl) rfl (Nat.le_of_ble_eq_true rfl) dX5_ends_1 ?_
  intro z1_
  refine r_if_eq g 15 dX5_ends_4 (by decide) ?_ ?_
  · refine r_iconst g dX5_ends_15 ?_
    exact r_iret g dX5_ends_16 rfl rfl
  · refine r_iload_n g dX5_ends_7 rfl ?_
    refine r_iload_n g dX5_ends_8 rfl ?_
    refine r_callS_PI g (kX5_areEnds S x2 x3) mX5_areEnds w_690 w_691 (by decide) (fun _ => rfl) rfl (Nat.le_of_ble_eq_true rfl) dX5_ends_9 ?_
    intro z2_
    refine r_if_ne g 17 dX5_ends_12 (by decide) ?_ ?_
    · refine r_aload_n g dX5_ends_17 rfl ?_
      refine r_iload_n g dX5_ends_18 rfl ?_
      refine r_iconst g dX5_ends_19 ?_
      refine r_callV_PI (q := 0) (as := fun b => [vi x1, vi 1]) g (kX5_missed S x1 1) mX5_missed shc_0 rfl w_511 w_513 w_8 (by decide) (fun _ => rfl) rfl (Nat.le_of_ble_eq_true rfl) dX5_ends_20 ?_
      intro z3_
      refine r_istore g dX5_ends_23 (by decide) rfl ?_
      refine r_iload g dX5_ends_25 rfl ?_
      refine r_if_eq g 37 dX5_ends_27 (by decide) ?_ ?_
      · refine r_ldcw (x := 1000000000) g dX5_ends_37 w_693 (by decide) ?_
        refine r_istore g dX5_ends_40 (by decide) rfl ?_
        refine r_iconst g dX5_ends_42 ?_
        refine r_istore g dX5_ends_43 (by decide) rfl ?_
        refine r_iconst g dX5_ends_45 ?_
        refine r_istore g dX5_ends_46 (by decide) rfl ?_
        refine r_msk [true, true, true, true, false, true, true, true, false] rfl ?_
        exact tX5_ends_48 g _ _ _ _ _
      · refine r_aload_n g dX5_ends_30 rfl ?_
        refine r_iload g dX5_ends_31 rfl ?_
        refine r_callV_WI (q := 0) (as := fun b => [vi z3_]) g (kX5_found S z3_) mX5_found shc_0 rfl w_327 w_329 w_0 (by decide) (fun _ => rfl) rfl (Nat.le_of_ble_eq_true rfl) dX5_ends_33 ?_
        intro z10_ S11_
        exact r_iret g dX5_ends_36 rfl rfl
    · refine r_iconst g dX5_ends_15 ?_
      exact r_iret g dX5_ends_16 rfl rfl
theorem tX5_sure_51 {G : Gx} {k18 : St → Int → Int → Int → Option (Int × St)} {S : St} {x1 : Int} {x2 : Int} {x3 : Int} {x4 : Int} {x5 : Int} (g : Ok G cX5_sure RX5 6 { frames := 6, cells := 0, slots := 0, locals := 145 } (some .int)) (hk18 : ∀ (S' : St) (x3' : Int) (x4' : Int) (x5' : Int), Rg G oIS (fun v => v.2) (SHC, 0, 0) (SHC, 0, 0) S' 18 [some (vr G 0), some (vi x1), some (vi x2), some (vi (x3')), some (vi (x4')), some (vi (x5'))] [] (k18 S' x3' x4' x5'))  : Rg G oIS (fun v => v.2) (SHC, 0, 0) (SHC, 0, 0) S 51 [some (vr G 0), some (vi x1), some (vi x2), some (vi x3), some (vi x4), some (vi x5)] [] (pX5_sure_51 k18 S x1 x2 x3 x4 x5) := by
  unfold pX5_sure_51
  refine r_iinc g dX5_sure_51 (by decide) rfl ?_
  intro x5_4_
  change Rg _ _ _ _ _ _ _ [some (vr G 0), some (vi x1), some (vi x2), some (vi x3), some (vi x4), some (vi x5_4_)] _ _
  refine r_goto g 18 dX5_sure_54 (by decide) ?_
  exact hk18 _ _ _ _
theorem tX5_sure_18B {G : Gx} {x1 : Int} {x2 : Int} (g : Ok G cX5_sure RX5 6 { frames := 6, cells := 0, slots := 0, locals := 145 } (some .int))   {k18 : St → Int → Int → Int → Option (Int × St)} (hk18 : ∀ (S' : St) (x3' : Int) (x4' : Int) (x5' : Int), Rg G oIS (fun v => v.2) (SHC, 0, 0) (SHC, 0, 0) S' 18 [some (vr G 0), some (vi x1), some (vi x2), some (vi (x3')), some (vi (x4')), some (vi (x5'))] [] (k18 S' x3' x4' x5')) {S : St} {x3 : Int} {x4 : Int} {x5 : Int} : Rg G oIS (fun v => v.2) (SHC, 0, 0) (SHC, 0, 0) S 18 [some (vr G 0), some (vi x1), some (vi x2), some (vi x3), some (vi x4), some (vi x5)] [] (pX5_sure_18B x1 x2 k18 S x3 x4 x5) := by
  unfold pX5_sure_18B
  refine r_iload g dX5_sure_18 rfl ?_
  refine r_bipush g dX5_sure_20 (by decide) ?_
  refine r_icmp_ge g 57 dX5_sure_22 (by decide) ?_ ?_
  · refine r_iload_n g dX5_sure_57 rfl ?_
    refine r_if_ne g 63 dX5_sure_58 (by decide) ?_ ?_
    · refine r_iload g dX5_sure_63 rfl ?_
      refine r_if_eq g 72 dX5_sure_65 (by decide) ?_ ?_
      · refine r_iconst g dX5_sure_72 ?_
        exact r_iret g dX5_sure_73 rfl rfl
      · refine r_iconst g dX5_sure_68 ?_
        refine r_goto g 73 dX5_sure_69 (by decide) ?_
        exact r_iret g dX5_sure_73 rfl rfl
    · refine r_iconst g dX5_sure_61 ?_
      exact r_iret g dX5_sure_62 rfl rfl
  · refine r_aload_n g dX5_sure_25 rfl ?_
    refine r_iload g dX5_sure_26 rfl ?_
    refine r_iload_n g dX5_sure_28 rfl ?_
    refine r_iload_n g dX5_sure_29 rfl ?_
    refine r_callV_WV (q := 0) (as := fun b => [vi x5, vi x1, vi x2]) g (kX5_settleAtEnd S x5 x1 x2) mX5_settleAtEnd shc_0 rfl w_694 w_696 w_19 (by decide) (fun _ => rfl) rfl (Nat.le_of_ble_eq_true rfl) dX5_sure_30 ?_
    intro S2_
    refine r_aload_n g dX5_sure_33 rfl ?_
    refine r_getC (c0 := 13) g KX5 shc_0 7 rfl (by decide) w_281 dX5_sure_34 ?_
    refine r_callV_PI (q := 13) (as := fun b => []) g (kX4_openPlaces S2_) mX4_openPlaces shc_13 rfl w_637 w_638 w_639 (by decide) (fun _ => rfl) rfl (Nat.le_of_ble_eq_true rfl) dX5_sure_37 ?_
    intro z3_
    refine r_if_ne g 49 dX5_sure_40 (by decide) ?_ ?_
    · refine r_iconst g dX5_sure_49 ?_
      refine r_istore_n g 3 dX5_sure_50 rfl (by decide) rfl ?_
      exact tX5_sure_51 g hk18
    · refine r_iconst g dX5_sure_43 ?_
      refine r_istore g dX5_sure_44 (by decide) rfl ?_
      refine r_goto g 51 dX5_sure_46 (by decide) ?_
      exact tX5_sure_51 g hk18
theorem tX5_sure_18 {G : Gx} {x1 : Int} {x2 : Int} (g : Ok G cX5_sure RX5 6 { frames := 6, cells := 0, slots := 0, locals := 145 } (some .int))   : ∀ (n_ : Nat) (S : St) (x3 : Int) (x4 : Int) (x5 : Int), Rg G oIS (fun v => v.2) (SHC, 0, 0) (SHC, 0, 0) S 18 [some (vr G 0), some (vi x1), some (vi x2), some (vi x3), some (vi x4), some (vi x5)] [] (lo4 (pX5_sure_18B x1 x2) n_ S x3 x4 x5) := by
  intro n_
  induction n_ with
  | zero => intro S x3 x4 x5; exact r_none
  | succ n_ ih => intro S x3 x4 x5; exact tX5_sure_18B g   ih
theorem kX5_sure (S : St) (x1 : Int) (x2 : Int)  : Con yX5_sure cX5_sure 6 (some .int) { frames := 6, cells := 0, slots := 0, locals := 145 } false SHC (SHC, 0, 0) (fun b => [.ref (b + 0), vi x1, vi x2]) S (fun _ => oIS) (fun v => v.2) (pX5_sure S x1 x2) := by
  refine Con_of (fun b => [some (.ref (b + 0)), some (vi x1), some (vi x2), none, none, none]) (by decide) (fun _ => rfl) (fun _ => Nat.le_of_ble_eq_true rfl) ?_
  intro G g _ _ _
  change Ok G cX5_sure RX5 6 { frames := 6, cells := 0, slots := 0, locals := 145 } (some .int) at g
  show Rg G oIS (fun v => v.2) (SHC, 0, 0) (SHC, 0, 0) S 0 [some (vr G 0), some (vi x1), some (vi x2), none, none, none] [] (pX5_sure S x1 x2)
  unfold pX5_sure
  refine r_iload_n g dX5_sure_0 rfl ?_
  refine r_iload_n g dX5_sure_1 rfl ?_
  refine r_callS_PI g (kX5_areEnds S x1 x2) mX5_areEnds w_690 w_691 (by decide) (fun _ => rfl) rfl (Nat.le_of_ble_eq_true rfl) dX5_sure_2 ?_
  intro z1_
  refine r_if_ne g 10 dX5_sure_5 (by decide) ?_ ?_
  · refine r_iconst g dX5_sure_10 ?_
    refine r_istore_n g 3 dX5_sure_11 rfl (by decide) rfl ?_
    refine r_iconst g dX5_sure_12 ?_
    refine r_istore g dX5_sure_13 (by decide) rfl ?_
    refine r_iconst g dX5_sure_15 ?_
    refine r_istore g dX5_sure_16 (by decide) rfl ?_
    exact tX5_sure_18 g _ _ _ _ _
  · refine r_iconst g dX5_sure_8 ?_
    exact r_iret g dX5_sure_9 rfl rfl
theorem kX5_follows (S : St) (x1 : Int) (x2 : Int) (x3 : Int)  : Con yX5_follows cX5_follows 10 (some .int) { frames := 3, cells := 0, slots := 0, locals := 67 } false SHC (SHC, 0, 0) (fun b => [.ref (b + 0), vi x1, vi x2, vi x3]) S (fun _ => oIS) (fun v => v.2) (pX5_follows S x1 x2 x3) := by
  refine Con_of (fun b => [some (.ref (b + 0)), some (vi x1), some (vi x2), some (vi x3), none, none, none, none, none, none]) (by decide) (fun _ => rfl) (fun _ => Nat.le_of_ble_eq_true rfl) ?_
  intro G g _ _ _
  change Ok G cX5_follows RX5 10 { frames := 3, cells := 0, slots := 0, locals := 67 } (some .int) at g
  show Rg G oIS (fun v => v.2) (SHC, 0, 0) (SHC, 0, 0) S 0 [some (vr G 0), some (vi x1), some (vi x2), some (vi x3), none, none, none, none, none, none] [] (pX5_follows S x1 x2 x3)
  unfold pX5_follows
  refine r_iload_n g dX5_follows_0 rfl ?_
  refine r_callS_PI g (kX5_isPlace S x1) mX5_isPlace w_488 w_489 (by decide) (fun _ => rfl) rfl (Nat.le_of_ble_eq_true rfl) dX5_follows_1 ?_
  intro z1_
  refine r_if_eq g 28 dX5_follows_4 (by decide) ?_ ?_
  · refine r_iconst g dX5_follows_28 ?_
    exact r_iret g dX5_follows_29 rfl rfl
  · refine r_iload_n g dX5_follows_7 rfl ?_
    refine r_iconst g dX5_follows_8 ?_
    refine r_sipush g dX5_follows_9 (by decide) ?_
    refine r_callS_PI g (kX5_within S x2 1 9999) mX5_within w_324 w_325 (by decide) (fun _ => rfl) rfl (Nat.le_of_ble_eq_true rfl) dX5_follows_12 ?_
    intro z2_
    refine r_if_eq g 28 dX5_follows_15 (by decide) ?_ ?_
    · refine r_iconst g dX5_follows_28 ?_
      exact r_iret g dX5_follows_29 rfl rfl
    · refine r_iload_n g dX5_follows_18 rfl ?_
      refine r_iconst g dX5_follows_19 ?_
      refine r_bipush g dX5_follows_20 (by decide) ?_
      refine r_callS_PI g (kX5_within S x3 1 20) mX5_within w_324 w_325 (by decide) (fun _ => rfl) rfl (Nat.le_of_ble_eq_true rfl) dX5_follows_22 ?_
      intro z3_
      refine r_if_ne g 30 dX5_follows_25 (by decide) ?_ ?_
      · refine r_aload_n g dX5_follows_30 rfl ?_
        refine r_iload_n g dX5_follows_31 rfl ?_
        refine r_iconst g dX5_follows_32 ?_
        refine r_callV_PI (q := 0) (as := fun b => [vi x1, vi 3]) g (kX5_missed S x1 3) mX5_missed shc_0 rfl w_511 w_513 w_8 (by decide) (fun _ => rfl) rfl (Nat.le_of_ble_eq_true rfl) dX5_follows_33 ?_
        intro z4_
        refine r_istore g dX5_follows_36 (by decide) rfl ?_
        refine r_iload g dX5_follows_38 rfl ?_
        refine r_if_eq g 50 dX5_follows_40 (by decide) ?_ ?_
        · refine r_aload_n g dX5_follows_50 rfl ?_
          refine r_getC (c0 := 4) g KX5 shc_0 3 rfl (by decide) w_277 dX5_follows_51 ?_
          refine r_iload_n g dX5_follows_54 rfl ?_
          refine r_aaldA (P := isSeal) g 2 (fun _ => rfl) shc_4 (by decide) (by decide) dX5_follows_55 ?_
          intro q5_ hq5_
          refine r_astore g dX5_follows_56 (by decide) rfl ?_
          refine r_aload g dX5_follows_58 rfl ?_
          refine r_dup g dX5_follows_60 rfl ?_
          refine r_getI g KX2 (shSeal hq5_) 6 rfl (by decide) w_258 dX5_follows_61 ?_
          refine r_iconst g dX5_follows_64 ?_
          refine r_iadd g dX5_follows_65 ?_
          refine r_putI g KX2 (shSeal hq5_) 6 rfl (by decide) rfl rfl w_258 dX5_follows_66 ?_
          intro S6_ _
          refine r_ldc2 (x := 10) g dX5_follows_69 w_710 (by decide) ?_
          refine r_aload_n g dX5_follows_72 rfl ?_
          refine r_aload g dX5_follows_73 rfl ?_
          refine r_callV_PR (q := 0) (as := fun b => [.ref (b + q5_)]) g (kX5_stuffOf S6_ q5_ hq5_) mX5_stuffOf shc_0 rfl w_561 w_563 w_12 (by decide) (fun _ => rfl) rfl (Nat.le_of_ble_eq_true rfl) dX5_follows_75 ?_
          intro q7_
          refine r_chk ?_
          intro hq7_
          refine r_iload_n g dX5_follows_78 rfl ?_
          refine r_callV_PL (q := q7_) (as := fun b => [vi x3]) g (kX3_scaledPush S6_ q7_ x3 hq7_) mX3_scaledPush (shStf hq7_) rfl w_455 w_456 w_457 (by decide) (fun _ => rfl) rfl (Nat.le_of_ble_eq_true rfl) dX5_follows_79 ?_
          intro z8_
          refine r_lmul g dX5_follows_82 ?_
          refine r_ldc2 (x := 232792560) g dX5_follows_83 w_473 (by decide) ?_
          refine r_ldiv g dX5_follows_86 ?_
          intro z9_
          refine r_lstore g dX5_follows_87 (by decide) rfl ?_
          refine r_iload_n g dX5_follows_89 rfl ?_
          refine r_i2l g dX5_follows_90 ?_
          refine r_iload_n g dX5_follows_91 rfl ?_
          refine r_i2l g dX5_follows_92 ?_
          refine r_lmul g dX5_follows_93 ?_
          refine r_topl ?_
          intro x8_10_
          refine r_lstore g dX5_follows_94 (by decide) rfl ?_
          refine r_ldc2 (x := 2) g dX5_follows_96 w_711 (by decide) ?_
          refine r_lload g dX5_follows_99 rfl ?_
          refine r_lmul g dX5_follows_101 ?_
          refine r_lload g dX5_follows_102 rfl ?_
          refine r_lcmp_gt g 110 dX5_follows_104 dX5_follows_105 (by decide) ?_ ?_
          · refine r_lload g dX5_follows_110 rfl ?_
            refine r_lload g dX5_follows_112 rfl ?_
            refine r_lcmp_le g 122 dX5_follows_114 dX5_follows_115 (by decide) ?_ ?_
            · refine r_iconst g dX5_follows_122 ?_
              exact r_iret g dX5_follows_123 rfl rfl
            · refine r_iconst g dX5_follows_118 ?_
              refine r_goto g 123 dX5_follows_119 (by decide) ?_
              exact r_iret g dX5_follows_123 rfl rfl
          · refine r_iconst g dX5_follows_108 ?_
            exact r_iret g dX5_follows_109 rfl rfl
        · refine r_aload_n g dX5_follows_43 rfl ?_
          refine r_iload g dX5_follows_44 rfl ?_
          refine r_callV_WI (q := 0) (as := fun b => [vi z4_]) g (kX5_found S z4_) mX5_found shc_0 rfl w_327 w_329 w_0 (by decide) (fun _ => rfl) rfl (Nat.le_of_ble_eq_true rfl) dX5_follows_46 ?_
          intro z11_ S12_
          exact r_iret g dX5_follows_49 rfl rfl
      · refine r_iconst g dX5_follows_28 ?_
        exact r_iret g dX5_follows_29 rfl rfl
theorem tX5_strip_55 {G : Gx}  {S : St}  (g : Ok G cX5_strip RX5 6 { frames := 4, cells := 0, slots := 0, locals := 92 } (some .int))   : Rg G oIS (fun v => v.2) (SHC, 0, 0) (SHC, 0, 0) S 55 [some (vr G 0), none, none, none, none, none] [] (pX5_strip_55 S) := by
  unfold pX5_strip_55
  refine r_aload_n g dX5_strip_55 rfl ?_
  refine r_iconst g dX5_strip_56 ?_
  refine r_callV_WI (q := 0) (as := fun b => [vi 5]) g (kX5_found S 5) mX5_found shc_0 rfl w_327 w_329 w_0 (by decide) (fun _ => rfl) rfl (Nat.le_of_ble_eq_true rfl) dX5_strip_57 ?_
  intro z5_ S6_
  exact r_iret g dX5_strip_60 rfl rfl
theorem tX5_strip_172 {G : Gx} {k128 : Int → Int → Option (Int × St)} {S : St} {x2 : Int} {q3 : Nat} {x4 : Int} {x5 : Int} (g : Ok G cX5_strip RX5 6 { frames := 4, cells := 0, slots := 0, locals := 92 } (some .int)) (hk128 : ∀ (x4' : Int) (x5' : Int), Rg G oIS (fun v => v.2) (SHC, 0, 0) (SHC, 0, 0) S 128 [some (vr G 0), none, some (vi x2), some (vr G q3), some (vi (x4')), some (vi (x5'))] [] (k128 x4' x5')) (hq3 : isRow q3 = true) : Rg G oIS (fun v => v.2) (SHC, 0, 0) (SHC, 0, 0) S 172 [some (vr G 0), none, some (vi x2), some (vr G q3), some (vi x4), some (vi x5)] [] (pX5_strip_172 k128 S x2 q3 x4 x5) := by
  unfold pX5_strip_172
  refine r_iinc g dX5_strip_172 (by decide) rfl ?_
  intro x5_10_
  change Rg _ _ _ _ _ _ _ [some (vr G 0), none, some (vi x2), some (vr G q3), some (vi x4), some (vi x5_10_)] _ _
  refine r_goto g 128 dX5_strip_175 (by decide) ?_
  exact hk128 _ _
theorem tX5_strip_128B {G : Gx} {S : St} {x2 : Int} {q3 : Nat} (g : Ok G cX5_strip RX5 6 { frames := 4, cells := 0, slots := 0, locals := 92 } (some .int))  (hq3 : isRow q3 = true) {k128 : Int → Int → Option (Int × St)} (hk128 : ∀ (x4' : Int) (x5' : Int), Rg G oIS (fun v => v.2) (SHC, 0, 0) (SHC, 0, 0) S 128 [some (vr G 0), none, some (vi x2), some (vr G q3), some (vi (x4')), some (vi (x5'))] [] (k128 x4' x5')) {x4 : Int} {x5 : Int} : Rg G oIS (fun v => v.2) (SHC, 0, 0) (SHC, 0, 0) S 128 [some (vr G 0), none, some (vi x2), some (vr G q3), some (vi x4), some (vi x5)] [] (pX5_strip_128B S x2 q3 k128 x4 x5) := by
  unfold pX5_strip_128B
  refine r_iload g dX5_strip_128 rfl ?_
  refine r_bipush g dX5_strip_130 (by decide) ?_
  refine r_icmp_ge g 178 dX5_strip_132 (by decide) ?_ ?_
  · refine r_iload g dX5_strip_178 rfl ?_
    exact r_iret g dX5_strip_180 rfl rfl
  · refine r_aload_n g dX5_strip_135 rfl ?_
    refine r_getC (c0 := 3) g KX5 shc_0 2 rfl (by decide) w_276 dX5_strip_136 ?_
    refine r_iload g dX5_strip_139 rfl ?_
    refine r_aaldA (P := isStf) g 1 (fun _ => rfl) shc_3 (by decide) (by decide) dX5_strip_141 ?_
    intro q8_ hq8_
    refine r_callV_PI (q := q8_) (as := fun b => []) g (kX3_isMissing S q8_ hq8_) mX3_isMissing (shStf hq8_) rfl w_446 w_428 w_429 (by decide) (fun _ => rfl) rfl (Nat.le_of_ble_eq_true rfl) dX5_strip_142 ?_
    intro z9_
    refine r_if_ne g 172 dX5_strip_145 (by decide) ?_ ?_
    · exact tX5_strip_172 g hk128 hq3
    · refine r_aload_n g dX5_strip_148 rfl ?_
      refine r_getC (c0 := 3) g KX5 shc_0 2 rfl (by decide) w_276 dX5_strip_149 ?_
      refine r_iload g dX5_strip_152 rfl ?_
      refine r_aaldA (P := isStf) g 1 (fun _ => rfl) shc_3 (by decide) (by decide) dX5_strip_154 ?_
      intro q11_ hq11_
      refine r_aload_n g dX5_strip_155 rfl ?_
      refine r_iload_n g dX5_strip_156 rfl ?_
      refine r_callV_PI (q := q11_) (as := fun b => [.ref (b + q3), vi x2]) g (kX3_fits S q11_ q3 x2 hq11_ hq3) mX3_fits (shStf hq11_) rfl w_716 w_717 w_718 (by decide) (fun _ => rfl) rfl (Nat.le_of_ble_eq_true rfl) dX5_strip_157 ?_
      intro z12_
      refine r_if_eq g 172 dX5_strip_160 (by decide) ?_ ?_
      · exact tX5_strip_172 g hk128 hq3
      · refine r_iload g dX5_strip_163 rfl ?_
        refine r_iconst g dX5_strip_165 ?_
        refine r_iload g dX5_strip_166 rfl ?_
        refine r_ishl g dX5_strip_168 ?_
        intro z13_
        refine r_ior g dX5_strip_169 ?_
        intro z14_
        refine r_istore g dX5_strip_170 (by decide) rfl ?_
        exact tX5_strip_172 g hk128 hq3
theorem tX5_strip_128 {G : Gx} {S : St} {x2 : Int} {q3 : Nat} (g : Ok G cX5_strip RX5 6 { frames := 4, cells := 0, slots := 0, locals := 92 } (some .int))  (hq3 : isRow q3 = true) : ∀ (n_ : Nat) (x4 : Int) (x5 : Int), Rg G oIS (fun v => v.2) (SHC, 0, 0) (SHC, 0, 0) S 128 [some (vr G 0), none, some (vi x2), some (vr G q3), some (vi x4), some (vi x5)] [] (lo2 (pX5_strip_128B S x2 q3) n_ x4 x5) := by
  intro n_
  induction n_ with
  | zero => intro x4 x5; exact r_none
  | succ n_ ih => intro x4 x5; exact tX5_strip_128B g  hq3 ih
theorem tX5_strip_110 {G : Gx}  {S : St}  (g : Ok G cX5_strip RX5 6 { frames := 4, cells := 0, slots := 0, locals := 92 } (some .int))   : Rg G oIS (fun v => v.2) (SHC, 0, 0) (SHC, 0, 0) S 110 [some (vr G 0), none, none, none, none, none] [] (pX5_strip_110 S) := by
  unfold pX5_strip_110
  refine r_aload_n g dX5_strip_110 rfl ?_
  refine r_iconst g dX5_strip_111 ?_
  refine r_callV_WI (q := 0) (as := fun b => [vi 3]) g (kX5_found S 3) mX5_found shc_0 rfl w_327 w_329 w_0 (by decide) (fun _ => rfl) rfl (Nat.le_of_ble_eq_true rfl) dX5_strip_112 ?_
  intro z17_ S18_
  exact r_iret g dX5_strip_115 rfl rfl
theorem tX5_strip_64B {G : Gx} {S : St} {x2 : Int} {q3 : Nat} (g : Ok G cX5_strip RX5 6 { frames := 4, cells := 0, slots := 0, locals := 92 } (some .int))  (hq3 : isRow q3 = true) {k64 : Int → Option (Int × St)} (hk64 : ∀ (x4' : Int), Rg G oIS (fun v => v.2) (SHC, 0, 0) (SHC, 0, 0) S 64 [some (vr G 0), none, some (vi x2), some (vr G q3), some (vi (x4')), none] [] (k64 x4')) {x4 : Int} : Rg G oIS (fun v => v.2) (SHC, 0, 0) (SHC, 0, 0) S 64 [some (vr G 0), none, some (vi x2), some (vr G q3), some (vi x4), none] [] (pX5_strip_64B S x2 q3 k64 x4) := by
  unfold pX5_strip_64B
  refine r_iload g dX5_strip_64 rfl ?_
  refine r_iconst g dX5_strip_66 ?_
  refine r_iadd g dX5_strip_67 ?_
  refine r_aload_n g dX5_strip_68 rfl ?_
  refine r_getI g KX1 (shRow hq3) 1 rfl (by decide) w_163 dX5_strip_69 ?_
  refine r_icmp_ge g 122 dX5_strip_72 (by decide) ?_ ?_
  · refine r_iconst g dX5_strip_122 ?_
    refine r_istore g dX5_strip_123 (by decide) rfl ?_
    refine r_iconst g dX5_strip_125 ?_
    refine r_istore g dX5_strip_126 (by decide) rfl ?_
    exact tX5_strip_128 g hq3 _ _ _
  · refine r_aload_n g dX5_strip_75 rfl ?_
    refine r_getC (c0 := q3 + 1) g KX1 (shRow hq3) 0 rfl (by decide) w_159 dX5_strip_76 ?_
    refine r_iload g dX5_strip_79 rfl ?_
    refine r_iald g (shRowA hq3) (rlen_le _) dX5_strip_81 ?_
    intro z15_
    refine r_iconst g dX5_strip_82 ?_
    refine r_bipush g dX5_strip_83 (by decide) ?_
    refine r_callS_PI g (kX5_within S z15_ 0 20) mX5_within w_324 w_325 (by decide) (fun _ => rfl) rfl (Nat.le_of_ble_eq_true rfl) dX5_strip_85 ?_
    intro z16_
    refine r_if_eq g 110 dX5_strip_88 (by decide) ?_ ?_
    · refine r_msk [true, false, false, false, false, false] rfl ?_
      exact tX5_strip_110 g
    · refine r_aload_n g dX5_strip_91 rfl ?_
      refine r_getC (c0 := q3 + 1) g KX1 (shRow hq3) 0 rfl (by decide) w_159 dX5_strip_92 ?_
      refine r_iload g dX5_strip_95 rfl ?_
      refine r_iconst g dX5_strip_97 ?_
      refine r_iadd g dX5_strip_98 ?_
      refine r_iald g (shRowA hq3) (rlen_le _) dX5_strip_99 ?_
      intro z19_
      refine r_iconst g dX5_strip_100 ?_
      refine r_sipush g dX5_strip_101 (by decide) ?_
      refine r_callS_PI g (kX5_within S z19_ 0 9999) mX5_within w_324 w_325 (by decide) (fun _ => rfl) rfl (Nat.le_of_ble_eq_true rfl) dX5_strip_104 ?_
      intro z20_
      refine r_if_ne g 116 dX5_strip_107 (by decide) ?_ ?_
      · refine r_iinc g dX5_strip_116 (by decide) rfl ?_
        intro x4_21_
        change Rg _ _ _ _ _ _ _ [some (vr G 0), none, some (vi x2), some (vr G q3), some (vi x4_21_), none] _ _
        refine r_goto g 64 dX5_strip_119 (by decide) ?_
        exact hk64 _
      · refine r_msk [true, false, false, false, false, false] rfl ?_
        exact tX5_strip_110 g
theorem tX5_strip_64 {G : Gx} {S : St} {x2 : Int} {q3 : Nat} (g : Ok G cX5_strip RX5 6 { frames := 4, cells := 0, slots := 0, locals := 92 } (some .int))  (hq3 : isRow q3 = true) : ∀ (n_ : Nat) (x4 : Int), Rg G oIS (fun v => v.2) (SHC, 0, 0) (SHC, 0, 0) S 64 [some (vr G 0), none, some (vi x2), some (vr G q3), some (vi x4), none] [] (lo1 (pX5_strip_64B S x2 q3) n_ x4) := by
  intro n_
  induction n_ with
  | zero => intro x4; exact r_none
  | succ n_ ih => intro x4; exact tX5_strip_64B g  hq3 ih
theorem kX5_strip (S : St) (x1 : Int) (x2 : Int)  : Con yX5_strip cX5_strip 6 (some .int) { frames := 4, cells := 0, slots := 0, locals := 92 } false SHC (SHC, 0, 0) (fun b => [.ref (b + 0), vi x1, vi x2]) S (fun _ => oIS) (fun v => v.2) (pX5_strip S x1 x2) := by
  refine Con_of (fun b => [some (.ref (b + 0)), some (vi x1), some (vi x2), none, none, none]) (by decide) (fun _ => rfl) (fun _ => Nat.le_of_ble_eq_true rfl) ?_
  intro G g _ _ _
  change Ok G cX5_strip RX5 6 { frames := 4, cells := 0, slots := 0, locals := 92 } (some .int) at g
  show Rg G oIS (fun v => v.2) (SHC, 0, 0) (SHC, 0, 0) S 0 [some (vr G 0), some (vi x1), some (vi x2), none, none, none] [] (pX5_strip S x1 x2)
  unfold pX5_strip
  refine r_iload_n g dX5_strip_0 rfl ?_
  refine r_callS_PI g (kX5_isRow S x1) mX5_isRow w_321 w_322 (by decide) (fun _ => rfl) rfl (Nat.le_of_ble_eq_true rfl) dX5_strip_1 ?_
  intro z1_
  refine r_if_eq g 17 dX5_strip_4 (by decide) ?_ ?_
  · refine r_iconst g dX5_strip_17 ?_
    exact r_iret g dX5_strip_18 rfl rfl
  · refine r_iload_n g dX5_strip_7 rfl ?_
    refine r_iconst g dX5_strip_8 ?_
    refine r_bipush g dX5_strip_9 (by decide) ?_
    refine r_callS_PI g (kX5_within S x2 0 99) mX5_within w_324 w_325 (by decide) (fun _ => rfl) rfl (Nat.le_of_ble_eq_true rfl) dX5_strip_11 ?_
    intro z2_
    refine r_if_ne g 19 dX5_strip_14 (by decide) ?_ ?_
    · refine r_aload_n g dX5_strip_19 rfl ?_
      refine r_getC (c0 := 1) g KX5 shc_0 0 rfl (by decide) w_274 dX5_strip_20 ?_
      refine r_iload_n g dX5_strip_23 rfl ?_
      refine r_aaldA (P := isRow) g 0 (fun _ => rfl) shc_1 (by decide) (by decide) dX5_strip_24 ?_
      intro q3_ hq3_
      refine r_astore_n g 3 dX5_strip_25 rfl (by decide) rfl ?_
      refine r_aload_n g dX5_strip_26 rfl ?_
      refine r_callV_PI (q := q3_) (as := fun b => []) g (kX1_isMissing S q3_ hq3_) mX1_isMissing (shRow hq3_) rfl w_342 w_343 w_344 (by decide) (fun _ => rfl) rfl (Nat.le_of_ble_eq_true rfl) dX5_strip_27 ?_
      intro z4_
      refine r_if_eq g 39 dX5_strip_30 (by decide) ?_ ?_
      · refine r_aload_n g dX5_strip_39 rfl ?_
        refine r_getI g KX1 (shRow hq3_) 1 rfl (by decide) w_163 dX5_strip_40 ?_
        refine r_if_eq g 55 dX5_strip_43 (by decide) ?_ ?_
        · refine r_msk [true, false, false, false, false, false] rfl ?_
          exact tX5_strip_55 g
        · refine r_aload_n g dX5_strip_46 rfl ?_
          refine r_getI g KX1 (shRow hq3_) 1 rfl (by decide) w_163 dX5_strip_47 ?_
          refine r_iconst g dX5_strip_50 ?_
          refine r_irem g dX5_strip_51 ?_
          intro z7_
          refine r_if_eq g 61 dX5_strip_52 (by decide) ?_ ?_
          · refine r_iconst g dX5_strip_61 ?_
            refine r_istore g dX5_strip_62 (by decide) rfl ?_
            refine r_msk [true, false, true, true, true, false] rfl ?_
            exact tX5_strip_64 g hq3_ _ _
          · refine r_msk [true, false, false, false, false, false] rfl ?_
            exact tX5_strip_55 g
      · refine r_aload_n g dX5_strip_33 rfl ?_
        refine r_iconst g dX5_strip_34 ?_
        refine r_callV_WI (q := 0) (as := fun b => [vi 1]) g (kX5_found S 1) mX5_found shc_0 rfl w_327 w_329 w_0 (by decide) (fun _ => rfl) rfl (Nat.le_of_ble_eq_true rfl) dX5_strip_35 ?_
        intro z22_ S23_
        exact r_iret g dX5_strip_38 rfl rfl
    · refine r_iconst g dX5_strip_17 ?_
      exact r_iret g dX5_strip_18 rfl rfl
theorem kX5_isSet (S : St) (x0 : Int)  : Con yX5_isSet cX5_isSet 1 (some .boolean) { frames := 1, cells := 0, slots := 0, locals := 22 } false SHC (SHC, 0, 0) (fun b => [vi x0]) S (fun _ => oI) (fun _ => S) (pX5_isSet x0) := by
  refine Con_of (fun b => [some (vi x0)]) (by decide) (fun _ => rfl) (fun _ => Nat.le_of_ble_eq_true rfl) ?_
  intro G g _ _ _
  change Ok G cX5_isSet RX5 1 { frames := 1, cells := 0, slots := 0, locals := 22 } (some .boolean) at g
  show Rg G oI (fun _ => S) (SHC, 0, 0) (SHC, 0, 0) S 0 [some (vi x0)] [] (pX5_isSet x0)
  unfold pX5_isSet
  refine r_iload_n g dX5_isSet_0 rfl ?_
  refine r_iconst g dX5_isSet_1 ?_
  refine r_bipush g dX5_isSet_2 (by decide) ?_
  refine r_callS_PI g (kX5_within S x0 0 63) mX5_within w_324 w_325 (by decide) (fun _ => rfl) rfl (Nat.le_of_ble_eq_true rfl) dX5_isSet_4 ?_
  intro z1_
  exact r_zret g dX5_isSet_7 rfl rfl
theorem kJ6_bitCount_0f7a4 (S : St) (x0 : Int)  : Con yJ6_bitCount_0f7a4 cJ6_bitCount_0f7a4 1 (some .int) { frames := 0, cells := 0, slots := 0, locals := 0 } false SHC (SHC, 0, 0) (fun b => [vi x0]) S (fun _ => oI) (fun _ => S) (pJ6_bitCount_0f7a4 x0) := by
  refine Con_of (fun b => [some (vi x0)]) (by decide) (fun _ => rfl) (fun _ => Nat.le_of_ble_eq_true rfl) ?_
  intro G g _ _ _
  change Ok G cJ6_bitCount_0f7a4 RJ6 1 { frames := 0, cells := 0, slots := 0, locals := 0 } (some .int) at g
  show Rg G oI (fun _ => S) (SHC, 0, 0) (SHC, 0, 0) S 0 [some (vi x0)] [] (pJ6_bitCount_0f7a4 x0)
  unfold pJ6_bitCount_0f7a4
  refine r_iload_n g dJ6_bitCount_0f7a4_0 rfl ?_
  refine r_iload_n g dJ6_bitCount_0f7a4_1 rfl ?_
  refine r_iconst g dJ6_bitCount_0f7a4_2 ?_
  refine r_iushr g dJ6_bitCount_0f7a4_3 ?_
  intro z1_
  refine r_ldcw (x := 1431655765) g dJ6_bitCount_0f7a4_4 w_734 (by decide) ?_
  refine r_iand g dJ6_bitCount_0f7a4_7 ?_
  intro z2_
  refine r_isub g dJ6_bitCount_0f7a4_8 ?_
  refine r_topi ?_
  intro x0_3_
  refine r_istore_n g 0 dJ6_bitCount_0f7a4_9 rfl (by decide) rfl ?_
  refine r_iload_n g dJ6_bitCount_0f7a4_10 rfl ?_
  refine r_ldcw (x := 858993459) g dJ6_bitCount_0f7a4_11 w_735 (by decide) ?_
  refine r_iand g dJ6_bitCount_0f7a4_14 ?_
  intro z4_
  refine r_iload_n g dJ6_bitCount_0f7a4_15 rfl ?_
  refine r_iconst g dJ6_bitCount_0f7a4_16 ?_
  refine r_iushr g dJ6_bitCount_0f7a4_17 ?_
  intro z5_
  refine r_ldcw (x := 858993459) g dJ6_bitCount_0f7a4_18 w_735 (by decide) ?_
  refine r_iand g dJ6_bitCount_0f7a4_21 ?_
  intro z6_
  refine r_iadd g dJ6_bitCount_0f7a4_22 ?_
  refine r_topi ?_
  intro x0_7_
  refine r_istore_n g 0 dJ6_bitCount_0f7a4_23 rfl (by decide) rfl ?_
  refine r_iload_n g dJ6_bitCount_0f7a4_24 rfl ?_
  refine r_iload_n g dJ6_bitCount_0f7a4_25 rfl ?_
  refine r_iconst g dJ6_bitCount_0f7a4_26 ?_
  refine r_iushr g dJ6_bitCount_0f7a4_27 ?_
  intro z8_
  refine r_iadd g dJ6_bitCount_0f7a4_28 ?_
  refine r_ldcw (x := 252645135) g dJ6_bitCount_0f7a4_29 w_736 (by decide) ?_
  refine r_iand g dJ6_bitCount_0f7a4_32 ?_
  intro z9_
  refine r_istore_n g 0 dJ6_bitCount_0f7a4_33 rfl (by decide) rfl ?_
  refine r_iload_n g dJ6_bitCount_0f7a4_34 rfl ?_
  refine r_iload_n g dJ6_bitCount_0f7a4_35 rfl ?_
  refine r_bipush g dJ6_bitCount_0f7a4_36 (by decide) ?_
  refine r_iushr g dJ6_bitCount_0f7a4_38 ?_
  intro z10_
  refine r_iadd g dJ6_bitCount_0f7a4_39 ?_
  refine r_topi ?_
  intro x0_11_
  refine r_istore_n g 0 dJ6_bitCount_0f7a4_40 rfl (by decide) rfl ?_
  refine r_iload_n g dJ6_bitCount_0f7a4_41 rfl ?_
  refine r_iload_n g dJ6_bitCount_0f7a4_42 rfl ?_
  refine r_bipush g dJ6_bitCount_0f7a4_43 (by decide) ?_
  refine r_iushr g dJ6_bitCount_0f7a4_45 ?_
  intro z12_
  refine r_iadd g dJ6_bitCount_0f7a4_46 ?_
  refine r_topi ?_
  intro x0_13_
  refine r_istore_n g 0 dJ6_bitCount_0f7a4_47 rfl (by decide) rfl ?_
  refine r_iload_n g dJ6_bitCount_0f7a4_48 rfl ?_
  refine r_bipush g dJ6_bitCount_0f7a4_49 (by decide) ?_
  refine r_iand g dJ6_bitCount_0f7a4_51 ?_
  intro z14_
  exact r_iret g dJ6_bitCount_0f7a4_52 rfl rfl
theorem tX5_lacksOneOf_30 {G : Gx} {k2 : Int → Option (Int)} {S : St} {x1 : Int} {x2 : Int} (g : Ok G cX5_lacksOneOf RX5 3 { frames := 1, cells := 0, slots := 0, locals := 21 } (some .boolean)) (hk2 : ∀ (x2' : Int), Rg G oI (fun _ => S) (SHC, 0, 0) (SHC, 0, 0) S 2 [some (vr G 0), some (vi x1), some (vi (x2'))] [] (k2 x2'))  : Rg G oI (fun _ => S) (SHC, 0, 0) (SHC, 0, 0) S 30 [some (vr G 0), some (vi x1), some (vi x2)] [] (pX5_lacksOneOf_30 k2 S x1 x2) := by
  unfold pX5_lacksOneOf_30
  refine r_iinc g dX5_lacksOneOf_30 (by decide) rfl ?_
  intro x2_2_
  change Rg _ _ _ _ _ _ _ [some (vr G 0), some (vi x1), some (vi x2_2_)] _ _
  refine r_goto g 2 dX5_lacksOneOf_33 (by decide) ?_
  exact hk2 _
theorem tX5_lacksOneOf_2B {G : Gx} {S : St} {x1 : Int} (g : Ok G cX5_lacksOneOf RX5 3 { frames := 1, cells := 0, slots := 0, locals := 21 } (some .boolean))   {k2 : Int → Option (Int)} (hk2 : ∀ (x2' : Int), Rg G oI (fun _ => S) (SHC, 0, 0) (SHC, 0, 0) S 2 [some (vr G 0), some (vi x1), some (vi (x2'))] [] (k2 x2')) {x2 : Int} : Rg G oI (fun _ => S) (SHC, 0, 0) (SHC, 0, 0) S 2 [some (vr G 0), some (vi x1), some (vi x2)] [] (pX5_lacksOneOf_2B S x1 k2 x2) := by
  unfold pX5_lacksOneOf_2B
  refine r_iload_n g dX5_lacksOneOf_2 rfl ?_
  refine r_bipush g dX5_lacksOneOf_3 (by decide) ?_
  refine r_icmp_ge g 36 dX5_lacksOneOf_5 (by decide) ?_ ?_
  · refine r_iconst g dX5_lacksOneOf_36 ?_
    exact r_zret0 g (by decide) dX5_lacksOneOf_37 rfl rfl
  · refine r_iload_n g dX5_lacksOneOf_8 rfl ?_
    refine r_iload_n g dX5_lacksOneOf_9 rfl ?_
    refine r_callS_PI g (kX5_holds S x1 x2) mX5_holds w_698 w_699 (by decide) (fun _ => rfl) rfl (Nat.le_of_ble_eq_true rfl) dX5_lacksOneOf_10 ?_
    intro z1_
    refine r_if_eq g 30 dX5_lacksOneOf_13 (by decide) ?_ ?_
    · exact tX5_lacksOneOf_30 g hk2
    · refine r_aload_n g dX5_lacksOneOf_16 rfl ?_
      refine r_getC (c0 := 3) g KX5 shc_0 2 rfl (by decide) w_276 dX5_lacksOneOf_17 ?_
      refine r_iload_n g dX5_lacksOneOf_20 rfl ?_
      refine r_aaldA (P := isStf) g 1 (fun _ => rfl) shc_3 (by decide) (by decide) dX5_lacksOneOf_21 ?_
      intro q3_ hq3_
      refine r_callV_PI (q := q3_) (as := fun b => []) g (kX3_isMissing S q3_ hq3_) mX3_isMissing (shStf hq3_) rfl w_446 w_428 w_429 (by decide) (fun _ => rfl) rfl (Nat.le_of_ble_eq_true rfl) dX5_lacksOneOf_22 ?_
      intro z4_
      refine r_if_eq g 30 dX5_lacksOneOf_25 (by decide) ?_ ?_
      · exact tX5_lacksOneOf_30 g hk2
      · refine r_iconst g dX5_lacksOneOf_28 ?_
        exact r_zret0 g (by decide) dX5_lacksOneOf_29 rfl rfl
theorem tX5_lacksOneOf_2 {G : Gx} {S : St} {x1 : Int} (g : Ok G cX5_lacksOneOf RX5 3 { frames := 1, cells := 0, slots := 0, locals := 21 } (some .boolean))   : ∀ (n_ : Nat) (x2 : Int), Rg G oI (fun _ => S) (SHC, 0, 0) (SHC, 0, 0) S 2 [some (vr G 0), some (vi x1), some (vi x2)] [] (lo1 (pX5_lacksOneOf_2B S x1) n_ x2) := by
  intro n_
  induction n_ with
  | zero => intro x2; exact r_none
  | succ n_ ih => intro x2; exact tX5_lacksOneOf_2B g   ih
theorem kX5_lacksOneOf (S : St) (x1 : Int)  : Con yX5_lacksOneOf cX5_lacksOneOf 3 (some .boolean) { frames := 1, cells := 0, slots := 0, locals := 21 } false SHC (SHC, 0, 0) (fun b => [.ref (b + 0), vi x1]) S (fun _ => oI) (fun _ => S) (pX5_lacksOneOf S x1) := by
  refine Con_of (fun b => [some (.ref (b + 0)), some (vi x1), none]) (by decide) (fun _ => rfl) (fun _ => Nat.le_of_ble_eq_true rfl) ?_
  intro G g _ _ _
  change Ok G cX5_lacksOneOf RX5 3 { frames := 1, cells := 0, slots := 0, locals := 21 } (some .boolean) at g
  show Rg G oI (fun _ => S) (SHC, 0, 0) (SHC, 0, 0) S 0 [some (vr G 0), some (vi x1), none] [] (pX5_lacksOneOf S x1)
  unfold pX5_lacksOneOf
  refine r_iconst g dX5_lacksOneOf_0 ?_
  refine r_istore_n g 2 dX5_lacksOneOf_1 rfl (by decide) rfl ?_
  exact tX5_lacksOneOf_2 g _ _
theorem tX5_spread_58 {G : Gx} {k10 : Int → Int → Int → Option (Int)} {S : St} {x1 : Int} {x2 : Int} {x3 : Int} {x5 : Int} {x7 : Int} (g : Ok G cX5_spread RX5 10 { frames := 3, cells := 0, slots := 0, locals := 67 } (some .long)) (hk10 : ∀ (x3' : Int) (x5' : Int) (x7' : Int), Rg G oL (fun _ => S) (SHC, 0, 0) (SHC, 0, 0) S 10 [some (vr G 0), some (vi x1), some (vi x2), some (vl (x3')), none, some (vl (x5')), none, some (vi (x7')), none, none] [] (k10 x3' x5' x7'))  : Rg G oL (fun _ => S) (SHC, 0, 0) (SHC, 0, 0) S 58 [some (vr G 0), some (vi x1), some (vi x2), some (vl x3), none, some (vl x5), none, some (vi x7), none, none] [] (pX5_spread_58 k10 S x1 x2 x3 x5 x7) := by
  unfold pX5_spread_58
  refine r_iinc g dX5_spread_58 (by decide) rfl ?_
  intro x7_6_
  change Rg _ _ _ _ _ _ _ [some (vr G 0), some (vi x1), some (vi x2), some (vl x3), none, some (vl x5), none, some (vi x7_6_), none, none] _ _
  refine r_goto g 10 dX5_spread_61 (by decide) ?_
  exact hk10 _ _ _
theorem tX5_spread_10B {G : Gx} {S : St} {x1 : Int} {x2 : Int} (g : Ok G cX5_spread RX5 10 { frames := 3, cells := 0, slots := 0, locals := 67 } (some .long))   {k10 : Int → Int → Int → Option (Int)} (hk10 : ∀ (x3' : Int) (x5' : Int) (x7' : Int), Rg G oL (fun _ => S) (SHC, 0, 0) (SHC, 0, 0) S 10 [some (vr G 0), some (vi x1), some (vi x2), some (vl (x3')), none, some (vl (x5')), none, some (vi (x7')), none, none] [] (k10 x3' x5' x7')) {x3 : Int} {x5 : Int} {x7 : Int} : Rg G oL (fun _ => S) (SHC, 0, 0) (SHC, 0, 0) S 10 [some (vr G 0), some (vi x1), some (vi x2), some (vl x3), none, some (vl x5), none, some (vi x7), none, none] [] (pX5_spread_10B S x1 x2 k10 x3 x5 x7) := by
  unfold pX5_spread_10B
  refine r_iload g dX5_spread_10 rfl ?_
  refine r_bipush g dX5_spread_12 (by decide) ?_
  refine r_icmp_ge g 64 dX5_spread_14 (by decide) ?_ ?_
  · refine r_lload g dX5_spread_64 rfl ?_
    refine r_lload_n g dX5_spread_66 rfl ?_
    refine r_lsub g dX5_spread_67 ?_
    exact r_lret g dX5_spread_68 rfl rfl
  · refine r_iload_n g dX5_spread_17 rfl ?_
    refine r_iload g dX5_spread_18 rfl ?_
    refine r_callS_PI g (kX5_holds S x1 x7) mX5_holds w_698 w_699 (by decide) (fun _ => rfl) rfl (Nat.le_of_ble_eq_true rfl) dX5_spread_20 ?_
    intro z1_
    refine r_if_ne g 29 dX5_spread_23 (by decide) ?_ ?_
    · refine r_aload_n g dX5_spread_29 rfl ?_
      refine r_getC (c0 := 3) g KX5 shc_0 2 rfl (by decide) w_276 dX5_spread_30 ?_
      refine r_iload g dX5_spread_33 rfl ?_
      refine r_aaldA (P := isStf) g 1 (fun _ => rfl) shc_3 (by decide) (by decide) dX5_spread_35 ?_
      intro q2_ hq2_
      refine r_iload_n g dX5_spread_36 rfl ?_
      refine r_callV_PL (q := q2_) (as := fun b => [vi x2]) g (kX3_scaledPush S q2_ x2 hq2_) mX3_scaledPush (shStf hq2_) rfl w_455 w_456 w_457 (by decide) (fun _ => rfl) rfl (Nat.le_of_ble_eq_true rfl) dX5_spread_37 ?_
      intro z3_
      refine r_lstore g dX5_spread_40 (by decide) rfl ?_
      refine r_lload_n g dX5_spread_42 rfl ?_
      refine r_lload g dX5_spread_43 rfl ?_
      refine rJ9_min_f86c9 g w_747 w_748 w_77 w_749 ⟨by decide, Nat.le_of_ble_eq_true rfl⟩ dX5_spread_45 ?_
      intro z4_
      refine r_lstore_n g 3 dX5_spread_48 rfl (by decide) rfl ?_
      refine r_lload g dX5_spread_49 rfl ?_
      refine r_lload g dX5_spread_51 rfl ?_
      refine rJ9_max_f86c9 g w_481 w_482 w_77 w_483 ⟨by decide, Nat.le_of_ble_eq_true rfl⟩ dX5_spread_53 ?_
      intro z5_
      refine r_lstore g dX5_spread_56 (by decide) rfl ?_
      refine r_msk [true, true, true, true, false, true, false, true, false, false] rfl ?_
      exact tX5_spread_58 g hk10
    · refine r_goto g 58 dX5_spread_26 (by decide) ?_
      exact tX5_spread_58 g hk10
theorem tX5_spread_10 {G : Gx} {S : St} {x1 : Int} {x2 : Int} (g : Ok G cX5_spread RX5 10 { frames := 3, cells := 0, slots := 0, locals := 67 } (some .long))   : ∀ (n_ : Nat) (x3 : Int) (x5 : Int) (x7 : Int), Rg G oL (fun _ => S) (SHC, 0, 0) (SHC, 0, 0) S 10 [some (vr G 0), some (vi x1), some (vi x2), some (vl x3), none, some (vl x5), none, some (vi x7), none, none] [] (lo3 (pX5_spread_10B S x1 x2) n_ x3 x5 x7) := by
  intro n_
  induction n_ with
  | zero => intro x3 x5 x7; exact r_none
  | succ n_ ih => intro x3 x5 x7; exact tX5_spread_10B g   ih
theorem kX5_spread (S : St) (x1 : Int) (x2 : Int)  : Con yX5_spread cX5_spread 10 (some .long) { frames := 3, cells := 0, slots := 0, locals := 67 } false SHC (SHC, 0, 0) (fun b => [.ref (b + 0), vi x1, vi x2]) S (fun _ => oL) (fun _ => S) (pX5_spread S x1 x2) := by
  refine Con_of (fun b => [some (.ref (b + 0)), some (vi x1), some (vi x2), none, none, none, none, none, none, none]) (by decide) (fun _ => rfl) (fun _ => Nat.le_of_ble_eq_true rfl) ?_
  intro G g _ _ _
  change Ok G cX5_spread RX5 10 { frames := 3, cells := 0, slots := 0, locals := 67 } (some .long) at g
  show Rg G oL (fun _ => S) (SHC, 0, 0) (SHC, 0, 0) S 0 [some (vr G 0), some (vi x1), some (vi x2), none, none, none, none, none, none, none] [] (pX5_spread S x1 x2)
  unfold pX5_spread
  refine r_ldc2 (x := 232792560000000000) g dX5_spread_0 w_746 (by decide) ?_
  refine r_lstore_n g 3 dX5_spread_3 rfl (by decide) rfl ?_
  refine r_lconst (x := 0) g dX5_spread_4 (by decide) ?_
  refine r_lstore g dX5_spread_5 (by decide) rfl ?_
  refine r_iconst g dX5_spread_7 ?_
  refine r_istore g dX5_spread_8 (by decide) rfl ?_
  exact tX5_spread_10 g _ _ _ _
theorem tX5_parting_69 {G : Gx} {k40 : Int → Int → Int → Option (Int × St)} {S : St} {x1 : Int} {x2 : Int} {x3 : Int} {x5 : Int} (g : Ok G cX5_parting RX5 8 { frames := 4, cells := 0, slots := 0, locals := 96 } (some .int)) (hk40 : ∀ (x2' : Int) (x3' : Int) (x5' : Int), Rg G oIS (fun v => v.2) (SHC, 0, 0) (SHC, 0, 0) S 40 [some (vr G 0), some (vi x1), some (vi (x2')), some (vl (x3')), none, some (vi (x5')), none, none] [] (k40 x2' x3' x5'))  : Rg G oIS (fun v => v.2) (SHC, 0, 0) (SHC, 0, 0) S 69 [some (vr G 0), some (vi x1), some (vi x2), some (vl x3), none, some (vi x5), none, none] [] (pX5_parting_69 k40 S x1 x2 x3 x5) := by
  unfold pX5_parting_69
  refine r_iinc g dX5_parting_69 (by decide) rfl ?_
  intro x5_7_
  change Rg _ _ _ _ _ _ _ [some (vr G 0), some (vi x1), some (vi x2), some (vl x3), none, some (vi x5_7_), none, none] _ _
  refine r_goto g 40 dX5_parting_72 (by decide) ?_
  exact hk40 _ _ _
theorem tX5_parting_40B {G : Gx} {S : St} {x1 : Int} (g : Ok G cX5_parting RX5 8 { frames := 4, cells := 0, slots := 0, locals := 96 } (some .int))   {k40 : Int → Int → Int → Option (Int × St)} (hk40 : ∀ (x2' : Int) (x3' : Int) (x5' : Int), Rg G oIS (fun v => v.2) (SHC, 0, 0) (SHC, 0, 0) S 40 [some (vr G 0), some (vi x1), some (vi (x2')), some (vl (x3')), none, some (vi (x5')), none, none] [] (k40 x2' x3' x5')) {x2 : Int} {x3 : Int} {x5 : Int} : Rg G oIS (fun v => v.2) (SHC, 0, 0) (SHC, 0, 0) S 40 [some (vr G 0), some (vi x1), some (vi x2), some (vl x3), none, some (vi x5), none, none] [] (pX5_parting_40B S x1 k40 x2 x3 x5) := by
  unfold pX5_parting_40B
  refine r_iload g dX5_parting_40 rfl ?_
  refine r_bipush g dX5_parting_42 (by decide) ?_
  refine r_icmp_gt g 75 dX5_parting_44 (by decide) ?_ ?_
  · refine r_aload_n g dX5_parting_75 rfl ?_
    refine r_lload_n g dX5_parting_76 rfl ?_
    refine r_ldc2 (x := 232792560) g dX5_parting_77 w_473 (by decide) ?_
    refine r_ldiv g dX5_parting_80 ?_
    intro z4_
    refine r_l2i g dX5_parting_81 ?_
    refine r_putI g KX5 shc_0 11 rfl (by decide) rfl rfl w_285 dX5_parting_82 ?_
    intro S5_ _
    refine r_iload_n g dX5_parting_85 rfl ?_
    exact r_iret g dX5_parting_86 rfl rfl
  · refine r_aload_n g dX5_parting_47 rfl ?_
    refine r_iload_n g dX5_parting_48 rfl ?_
    refine r_iload g dX5_parting_49 rfl ?_
    refine r_callV_PL (q := 0) (as := fun b => [vi x1, vi x5]) g (kX5_spread S x1 x5) mX5_spread shc_0 rfl w_742 w_744 w_21 (by decide) (fun _ => rfl) rfl (Nat.le_of_ble_eq_true rfl) dX5_parting_51 ?_
    intro z6_
    refine r_lstore g dX5_parting_54 (by decide) rfl ?_
    refine r_lload g dX5_parting_56 rfl ?_
    refine r_lload_n g dX5_parting_58 rfl ?_
    refine r_lcmp_le g 69 dX5_parting_59 dX5_parting_60 (by decide) ?_ ?_
    · refine r_msk [true, true, true, true, false, true, false, false] rfl ?_
      exact tX5_parting_69 g hk40
    · refine r_lload g dX5_parting_63 rfl ?_
      refine r_lstore_n g 3 dX5_parting_65 rfl (by decide) rfl ?_
      refine r_iload g dX5_parting_66 rfl ?_
      refine r_istore_n g 2 dX5_parting_68 rfl (by decide) rfl ?_
      refine r_msk [true, true, true, true, false, true, false, false] rfl ?_
      exact tX5_parting_69 g hk40
theorem tX5_parting_40 {G : Gx} {S : St} {x1 : Int} (g : Ok G cX5_parting RX5 8 { frames := 4, cells := 0, slots := 0, locals := 96 } (some .int))   : ∀ (n_ : Nat) (x2 : Int) (x3 : Int) (x5 : Int), Rg G oIS (fun v => v.2) (SHC, 0, 0) (SHC, 0, 0) S 40 [some (vr G 0), some (vi x1), some (vi x2), some (vl x3), none, some (vi x5), none, none] [] (lo3 (pX5_parting_40B S x1) n_ x2 x3 x5) := by
  intro n_
  induction n_ with
  | zero => intro x2 x3 x5; exact r_none
  | succ n_ ih => intro x2 x3 x5; exact tX5_parting_40B g   ih
theorem kX5_parting (S : St) (x1 : Int)  : Con yX5_parting cX5_parting 8 (some .int) { frames := 4, cells := 0, slots := 0, locals := 96 } false SHC (SHC, 0, 0) (fun b => [.ref (b + 0), vi x1]) S (fun _ => oIS) (fun v => v.2) (pX5_parting S x1) := by
  refine Con_of (fun b => [some (.ref (b + 0)), some (vi x1), none, none, none, none, none, none]) (by decide) (fun _ => rfl) (fun _ => Nat.le_of_ble_eq_true rfl) ?_
  intro G g _ _ _
  change Ok G cX5_parting RX5 8 { frames := 4, cells := 0, slots := 0, locals := 96 } (some .int) at g
  show Rg G oIS (fun v => v.2) (SHC, 0, 0) (SHC, 0, 0) S 0 [some (vr G 0), some (vi x1), none, none, none, none, none, none] [] (pX5_parting S x1)
  unfold pX5_parting
  refine r_iload_n g dX5_parting_0 rfl ?_
  refine r_callS_PI g (kX5_isSet S x1) mX5_isSet w_728 w_729 (by decide) (fun _ => rfl) rfl (Nat.le_of_ble_eq_true rfl) dX5_parting_1 ?_
  intro z1_
  refine r_if_eq g 15 dX5_parting_4 (by decide) ?_ ?_
  · refine r_iconst g dX5_parting_15 ?_
    exact r_iret g dX5_parting_16 rfl rfl
  · refine r_iload_n g dX5_parting_7 rfl ?_
    refine r_callS_PI g (kJ6_bitCount_0f7a4 S x1) mJ6_bitCount_0f7a4 w_731 w_732 (by decide) (fun _ => rfl) rfl (Nat.le_of_ble_eq_true rfl) dX5_parting_8 ?_
    intro z2_
    refine r_iconst g dX5_parting_11 ?_
    refine r_icmp_ge g 17 dX5_parting_12 (by decide) ?_ ?_
    · refine r_aload_n g dX5_parting_17 rfl ?_
      refine r_iload_n g dX5_parting_18 rfl ?_
      refine r_callV_PI (q := 0) (as := fun b => [vi x1]) g (kX5_lacksOneOf S x1) mX5_lacksOneOf shc_0 rfl w_737 w_739 w_20 (by decide) (fun _ => rfl) rfl (Nat.le_of_ble_eq_true rfl) dX5_parting_19 ?_
      intro z3_
      refine r_if_eq g 31 dX5_parting_22 (by decide) ?_ ?_
      · refine r_iconst g dX5_parting_31 ?_
        refine r_istore_n g 2 dX5_parting_32 rfl (by decide) rfl ?_
        refine r_ldc2 (x := (-1)) g dX5_parting_33 w_741 (by decide) ?_
        refine r_lstore_n g 3 dX5_parting_36 rfl (by decide) rfl ?_
        refine r_iconst g dX5_parting_37 ?_
        refine r_istore g dX5_parting_38 (by decide) rfl ?_
        exact tX5_parting_40 g _ _ _ _
      · refine r_aload_n g dX5_parting_25 rfl ?_
        refine r_iconst g dX5_parting_26 ?_
        refine r_callV_WI (q := 0) (as := fun b => [vi 1]) g (kX5_found S 1) mX5_found shc_0 rfl w_327 w_329 w_0 (by decide) (fun _ => rfl) rfl (Nat.le_of_ble_eq_true rfl) dX5_parting_27 ?_
        intro z8_ S9_
        exact r_iret g dX5_parting_30 rfl rfl
    · refine r_iconst g dX5_parting_15 ?_
      exact r_iret g dX5_parting_16 rfl rfl
theorem tX5_picks_16B {G : Gx} {S : St} {x0 : Int} {x1 : Int} (g : Ok G cX5_picks RX5 5 { frames := 0, cells := 0, slots := 0, locals := 0 } (some .long))   {k16 : Int → Int → Option (Int)} (hk16 : ∀ (x2' : Int) (x4' : Int), Rg G oL (fun _ => S) (SHC, 0, 0) (SHC, 0, 0) S 16 [some (vi x0), some (vi x1), some (vl (x2')), none, some (vi (x4'))] [] (k16 x2' x4')) {x2 : Int} {x4 : Int} : Rg G oL (fun _ => S) (SHC, 0, 0) (SHC, 0, 0) S 16 [some (vi x0), some (vi x1), some (vl x2), none, some (vi x4)] [] (pX5_picks_16B x0 x1 k16 x2 x4) := by
  unfold pX5_picks_16B
  refine r_iload g dX5_picks_16 rfl ?_
  refine r_iload_n g dX5_picks_18 rfl ?_
  refine r_icmp_ge g 42 dX5_picks_19 (by decide) ?_ ?_
  · refine r_lload_n g dX5_picks_42 rfl ?_
    exact r_lret g dX5_picks_43 rfl rfl
  · refine r_lload_n g dX5_picks_22 rfl ?_
    refine r_iload_n g dX5_picks_23 rfl ?_
    refine r_iload g dX5_picks_24 rfl ?_
    refine r_isub g dX5_picks_26 ?_
    refine r_i2l g dX5_picks_27 ?_
    refine r_lmul g dX5_picks_28 ?_
    refine r_iload g dX5_picks_29 rfl ?_
    refine r_iconst g dX5_picks_31 ?_
    refine r_iadd g dX5_picks_32 ?_
    refine r_i2l g dX5_picks_33 ?_
    refine r_ldiv g dX5_picks_34 ?_
    intro z1_
    refine r_lstore_n g 2 dX5_picks_35 rfl (by decide) rfl ?_
    refine r_iinc g dX5_picks_36 (by decide) rfl ?_
    intro x4_2_
    change Rg _ _ _ _ _ _ _ [some (vi x0), some (vi x1), some (vl z1_), none, some (vi x4_2_)] _ _
    refine r_goto g 16 dX5_picks_39 (by decide) ?_
    exact hk16 _ _
theorem tX5_picks_16 {G : Gx} {S : St} {x0 : Int} {x1 : Int} (g : Ok G cX5_picks RX5 5 { frames := 0, cells := 0, slots := 0, locals := 0 } (some .long))   : ∀ (n_ : Nat) (x2 : Int) (x4 : Int), Rg G oL (fun _ => S) (SHC, 0, 0) (SHC, 0, 0) S 16 [some (vi x0), some (vi x1), some (vl x2), none, some (vi x4)] [] (lo2 (pX5_picks_16B x0 x1) n_ x2 x4) := by
  intro n_
  induction n_ with
  | zero => intro x2 x4; exact r_none
  | succ n_ ih => intro x2 x4; exact tX5_picks_16B g   ih
theorem kX5_picks (S : St) (x0 : Int) (x1 : Int)  : Con yX5_picks cX5_picks 5 (some .long) { frames := 0, cells := 0, slots := 0, locals := 0 } false SHC (SHC, 0, 0) (fun b => [vi x0, vi x1]) S (fun _ => oL) (fun _ => S) (pX5_picks x0 x1) := by
  refine Con_of (fun b => [some (vi x0), some (vi x1), none, none, none]) (by decide) (fun _ => rfl) (fun _ => Nat.le_of_ble_eq_true rfl) ?_
  intro G g _ _ _
  change Ok G cX5_picks RX5 5 { frames := 0, cells := 0, slots := 0, locals := 0 } (some .long) at g
  show Rg G oL (fun _ => S) (SHC, 0, 0) (SHC, 0, 0) S 0 [some (vi x0), some (vi x1), none, none, none] [] (pX5_picks x0 x1)
  unfold pX5_picks
  refine r_iload_n g dX5_picks_0 rfl ?_
  refine r_if_lt g 9 dX5_picks_1 (by decide) ?_ ?_
  · refine r_lconst (x := 0) g dX5_picks_9 (by decide) ?_
    exact r_lret g dX5_picks_10 rfl rfl
  · refine r_iload_n g dX5_picks_4 rfl ?_
    refine r_iload_n g dX5_picks_5 rfl ?_
    refine r_icmp_le g 11 dX5_picks_6 (by decide) ?_ ?_
    · refine r_lconst (x := 1) g dX5_picks_11 (by decide) ?_
      refine r_lstore_n g 2 dX5_picks_12 rfl (by decide) rfl ?_
      refine r_iconst g dX5_picks_13 ?_
      refine r_istore g dX5_picks_14 (by decide) rfl ?_
      exact tX5_picks_16 g _ _ _
    · refine r_lconst (x := 0) g dX5_picks_9 (by decide) ?_
      exact r_lret g dX5_picks_10 rfl rfl
theorem tX5_batch_53B {G : Gx} {S : St} {x1 : Int} {x2 : Int} {x3 : Int} {x4 : Int} (g : Ok G cX5_batch RX5 8 { frames := 2, cells := 0, slots := 0, locals := 56 } (some .int))   {k53 : Int → Int → Option (Int × St)} (hk53 : ∀ (x5' : Int) (x7' : Int), Rg G oIS (fun v => v.2) (SHC, 0, 0) (SHC, 0, 0) S 53 [some (vr G 0), some (vi x1), some (vi x2), some (vi x3), some (vi x4), some (vl (x5')), none, some (vi (x7'))] [] (k53 x5' x7')) {x5 : Int} {x7 : Int} : Rg G oIS (fun v => v.2) (SHC, 0, 0) (SHC, 0, 0) S 53 [some (vr G 0), some (vi x1), some (vi x2), some (vi x3), some (vi x4), some (vl x5), none, some (vi x7)] [] (pX5_batch_53B S x1 x2 x3 x4 k53 x5 x7) := by
  unfold pX5_batch_53B
  refine r_iload g dX5_batch_53 rfl ?_
  refine r_iload g dX5_batch_55 rfl ?_
  refine r_icmp_gt g 88 dX5_batch_57 (by decide) ?_ ?_
  · refine r_aload_n g dX5_batch_88 rfl ?_
    refine r_lload g dX5_batch_89 rfl ?_
    refine r_iload_n g dX5_batch_91 rfl ?_
    refine r_iload_n g dX5_batch_92 rfl ?_
    refine r_callS_PL g (kX5_picks S x1 x3) mX5_picks w_754 w_755 (by decide) (fun _ => rfl) rfl (Nat.le_of_ble_eq_true rfl) dX5_batch_93 ?_
    intro z6_
    refine r_callV_WV (q := 0) (as := fun b => [vl x5, vl z6_]) g (kX5_tell S x5 z6_) mX5_tell shc_0 rfl w_474 w_476 w_7 (by decide) (fun _ => rfl) rfl (Nat.le_of_ble_eq_true rfl) dX5_batch_96 ?_
    intro S7_
    refine r_iconst g dX5_batch_99 ?_
    exact r_iret g dX5_batch_100 rfl rfl
  · refine r_lload g dX5_batch_60 rfl ?_
    refine r_iload_n g dX5_batch_62 rfl ?_
    refine r_iload g dX5_batch_63 rfl ?_
    refine r_callS_PL g (kX5_picks S x2 x7) mX5_picks w_754 w_755 (by decide) (fun _ => rfl) rfl (Nat.le_of_ble_eq_true rfl) dX5_batch_65 ?_
    intro z8_
    refine r_iload_n g dX5_batch_68 rfl ?_
    refine r_iload_n g dX5_batch_69 rfl ?_
    refine r_isub g dX5_batch_70 ?_
    refine r_iload_n g dX5_batch_71 rfl ?_
    refine r_iload g dX5_batch_72 rfl ?_
    refine r_isub g dX5_batch_74 ?_
    refine r_callS_PL g (kX5_picks S (x1 - x2) (x3 - x7)) mX5_picks w_754 w_755 (by decide) (fun _ => rfl) rfl (Nat.le_of_ble_eq_true rfl) dX5_batch_75 ?_
    intro z9_
    refine r_lmul g dX5_batch_78 ?_
    refine r_ladd g dX5_batch_79 ?_
    refine r_topl ?_
    intro x5_10_
    refine r_lstore g dX5_batch_80 (by decide) rfl ?_
    refine r_iinc g dX5_batch_82 (by decide) rfl ?_
    intro x7_11_
    change Rg _ _ _ _ _ _ _ [some (vr G 0), some (vi x1), some (vi x2), some (vi x3), some (vi x4), some (vl x5_10_), none, some (vi x7_11_)] _ _
    refine r_goto g 53 dX5_batch_85 (by decide) ?_
    exact hk53 _ _
theorem tX5_batch_53 {G : Gx} {S : St} {x1 : Int} {x2 : Int} {x3 : Int} {x4 : Int} (g : Ok G cX5_batch RX5 8 { frames := 2, cells := 0, slots := 0, locals := 56 } (some .int))   : ∀ (n_ : Nat) (x5 : Int) (x7 : Int), Rg G oIS (fun v => v.2) (SHC, 0, 0) (SHC, 0, 0) S 53 [some (vr G 0), some (vi x1), some (vi x2), some (vi x3), some (vi x4), some (vl x5), none, some (vi x7)] [] (lo2 (pX5_batch_53B S x1 x2 x3 x4) n_ x5 x7) := by
  intro n_
  induction n_ with
  | zero => intro x5 x7; exact r_none
  | succ n_ ih => intro x5 x7; exact tX5_batch_53B g   ih
theorem kX5_batch (S : St) (x1 : Int) (x2 : Int) (x3 : Int) (x4 : Int)  : Con yX5_batch cX5_batch 8 (some .int) { frames := 2, cells := 0, slots := 0, locals := 56 } false SHC (SHC, 0, 0) (fun b => [.ref (b + 0), vi x1, vi x2, vi x3, vi x4]) S (fun _ => oIS) (fun v => v.2) (pX5_batch S x1 x2 x3 x4) := by
  refine Con_of (fun b => [some (.ref (b + 0)), some (vi x1), some (vi x2), some (vi x3), some (vi x4), none, none, none]) (by decide) (fun _ => rfl) (fun _ => Nat.le_of_ble_eq_true rfl) ?_
  intro G g _ _ _
  change Ok G cX5_batch RX5 8 { frames := 2, cells := 0, slots := 0, locals := 56 } (some .int) at g
  show Rg G oIS (fun v => v.2) (SHC, 0, 0) (SHC, 0, 0) S 0 [some (vr G 0), some (vi x1), some (vi x2), some (vi x3), some (vi x4), none, none, none] [] (pX5_batch S x1 x2 x3 x4)
  unfold pX5_batch
  refine r_iload_n g dX5_batch_0 rfl ?_
  refine r_iconst g dX5_batch_1 ?_
  refine r_bipush g dX5_batch_2 (by decide) ?_
  refine r_callS_PI g (kX5_within S x1 1 40) mX5_within w_324 w_325 (by decide) (fun _ => rfl) rfl (Nat.le_of_ble_eq_true rfl) dX5_batch_4 ?_
  intro z1_
  refine r_if_eq g 19 dX5_batch_7 (by decide) ?_ ?_
  · refine r_iconst g dX5_batch_19 ?_
    exact r_iret g dX5_batch_20 rfl rfl
  · refine r_iload_n g dX5_batch_10 rfl ?_
    refine r_iconst g dX5_batch_11 ?_
    refine r_iload_n g dX5_batch_12 rfl ?_
    refine r_callS_PI g (kX5_within S x2 0 x1) mX5_within w_324 w_325 (by decide) (fun _ => rfl) rfl (Nat.le_of_ble_eq_true rfl) dX5_batch_13 ?_
    intro z2_
    refine r_if_ne g 21 dX5_batch_16 (by decide) ?_ ?_
    · refine r_iload_n g dX5_batch_21 rfl ?_
      refine r_iconst g dX5_batch_22 ?_
      refine r_bipush g dX5_batch_23 (by decide) ?_
      refine r_iload_n g dX5_batch_25 rfl ?_
      refine rJ9_min_7cf53 g w_671 w_336 w_77 w_337 ⟨by decide, Nat.le_of_ble_eq_true rfl⟩ dX5_batch_26 ?_
      intro z3_
      refine r_callS_PI g (kX5_within S x3 1 z3_) mX5_within w_324 w_325 (by decide) (fun _ => rfl) rfl (Nat.le_of_ble_eq_true rfl) dX5_batch_29 ?_
      intro z4_
      refine r_if_eq g 45 dX5_batch_32 (by decide) ?_ ?_
      · refine r_iconst g dX5_batch_45 ?_
        exact r_iret g dX5_batch_46 rfl rfl
      · refine r_iload g dX5_batch_35 rfl ?_
        refine r_iconst g dX5_batch_37 ?_
        refine r_iload_n g dX5_batch_38 rfl ?_
        refine r_callS_PI g (kX5_within S x4 0 x3) mX5_within w_324 w_325 (by decide) (fun _ => rfl) rfl (Nat.le_of_ble_eq_true rfl) dX5_batch_39 ?_
        intro z5_
        refine r_if_ne g 47 dX5_batch_42 (by decide) ?_ ?_
        · refine r_lconst (x := 0) g dX5_batch_47 (by decide) ?_
          refine r_lstore g dX5_batch_48 (by decide) rfl ?_
          refine r_iconst g dX5_batch_50 ?_
          refine r_istore g dX5_batch_51 (by decide) rfl ?_
          exact tX5_batch_53 g _ _ _
        · refine r_iconst g dX5_batch_45 ?_
          exact r_iret g dX5_batch_46 rfl rfl
    · refine r_iconst g dX5_batch_19 ?_
      exact r_iret g dX5_batch_20 rfl rfl
theorem kX5_lostBy (S : St) (x0 : Int) (q1 : Nat) (hq1 : isSeal q1 = true) : Con yX5_lostBy cX5_lostBy 2 (some .int) { frames := 1, cells := 0, slots := 0, locals := 24 } false SHC (SHC, 0, 0) (fun b => [vi x0, .ref (b + q1)]) S (fun _ => oI) (fun _ => S) (pX5_lostBy S x0 q1) := by
  refine Con_of (fun b => [some (vi x0), some (.ref (b + q1))]) (by decide) (fun _ => rfl) (fun _ => Nat.le_of_ble_eq_true rfl) ?_
  intro G g _ _ _
  change Ok G cX5_lostBy RX5 2 { frames := 1, cells := 0, slots := 0, locals := 24 } (some .int) at g
  show Rg G oI (fun _ => S) (SHC, 0, 0) (SHC, 0, 0) S 0 [some (vi x0), some (vr G q1)] [] (pX5_lostBy S x0 q1)
  unfold pX5_lostBy
  refine r_iload_n g dX5_lostBy_0 rfl ?_
  refine r_if_ne g 18 dX5_lostBy_1 (by decide) ?_ ?_
  · refine r_aload_n g dX5_lostBy_18 rfl ?_
    refine r_getI g KX2 (shSeal hq1) 2 rfl (by decide) w_248 dX5_lostBy_19 ?_
    refine r_aload_n g dX5_lostBy_22 rfl ?_
    refine r_callV_PI (q := q1) (as := fun b => []) g (kX2_stretchedHeight S q1 hq1) mX2_stretchedHeight (shSeal hq1) rfl w_519 w_520 w_521 (by decide) (fun _ => rfl) rfl (Nat.le_of_ble_eq_true rfl) dX5_lostBy_23 ?_
    intro z1_
    refine r_isub g dX5_lostBy_26 ?_
    exact r_iret g dX5_lostBy_27 rfl rfl
  · refine r_iconst g dX5_lostBy_4 ?_
    refine r_aload_n g dX5_lostBy_5 rfl ?_
    refine r_callV_PI (q := q1) (as := fun b => []) g (kX2_stretchedHeight S q1 hq1) mX2_stretchedHeight (shSeal hq1) rfl w_519 w_520 w_521 (by decide) (fun _ => rfl) rfl (Nat.le_of_ble_eq_true rfl) dX5_lostBy_6 ?_
    intro z2_
    refine r_aload_n g dX5_lostBy_9 rfl ?_
    refine r_getI g KX2 (shSeal hq1) 3 rfl (by decide) w_251 dX5_lostBy_10 ?_
    refine r_isub g dX5_lostBy_13 ?_
    refine rJ9_max_7cf53 g w_701 w_155 w_77 w_156 ⟨by decide, Nat.le_of_ble_eq_true rfl⟩ dX5_lostBy_14 ?_
    intro z3_
    exact r_iret g dX5_lostBy_17 rfl rfl
theorem tX5_remove_79 {G : Gx} {k40 : St → Int → Option (St)} {S : St} {x1 : Int} {x2 : Int} (g : Ok G cX5_remove RX5 3 { frames := 2, cells := 0, slots := 0, locals := 45 } none) (hk40 : ∀ (S' : St) (x2' : Int), Rg G oVS id (SHC, 0, 0) (SHC, 0, 0) S' 40 [some (vr G 0), some (vi x1), some (vi (x2'))] [] (k40 S' x2'))  : Rg G oVS id (SHC, 0, 0) (SHC, 0, 0) S 79 [some (vr G 0), some (vi x1), some (vi x2)] [] (pX5_remove_79 k40 S x1 x2) := by
  unfold pX5_remove_79
  refine r_iinc g dX5_remove_79 (by decide) rfl ?_
  intro x2_2_
  change Rg _ _ _ _ _ _ _ [some (vr G 0), some (vi x1), some (vi x2_2_)] _ _
  refine r_goto g 40 dX5_remove_82 (by decide) ?_
  exact hk40 _ _
theorem tX5_remove_40B {G : Gx} {x1 : Int} (g : Ok G cX5_remove RX5 3 { frames := 2, cells := 0, slots := 0, locals := 45 } none)   {k40 : St → Int → Option (St)} (hk40 : ∀ (S' : St) (x2' : Int), Rg G oVS id (SHC, 0, 0) (SHC, 0, 0) S' 40 [some (vr G 0), some (vi x1), some (vi (x2'))] [] (k40 S' x2')) {S : St} {x2 : Int} : Rg G oVS id (SHC, 0, 0) (SHC, 0, 0) S 40 [some (vr G 0), some (vi x1), some (vi x2)] [] (pX5_remove_40B x1 k40 S x2) := by
  unfold pX5_remove_40B
  refine r_iload_n g dX5_remove_40 rfl ?_
  refine r_iconst g dX5_remove_41 ?_
  refine r_icmp_ge g 85 dX5_remove_42 (by decide) ?_ ?_
  · exact r_vret g dX5_remove_85 rfl rfl
  · refine r_aload_n g dX5_remove_45 rfl ?_
    refine r_getC (c0 := 13) g KX5 shc_0 7 rfl (by decide) w_281 dX5_remove_46 ?_
    refine r_getC (c0 := 15) g KX4 shc_13 1 rfl (by decide) w_190 dX5_remove_49 ?_
    refine r_iload_n g dX5_remove_52 rfl ?_
    refine r_zald g shc_15 (by decide) dX5_remove_53 ?_
    intro z1_
    refine r_if_eq g 79 dX5_remove_54 (by decide) ?_ ?_
    · exact tX5_remove_79 g hk40
    · refine r_aload_n g dX5_remove_57 rfl ?_
      refine r_getC (c0 := 13) g KX5 shc_0 7 rfl (by decide) w_281 dX5_remove_58 ?_
      refine r_getC (c0 := 16) g KX4 shc_13 2 rfl (by decide) w_192 dX5_remove_61 ?_
      refine r_iload_n g dX5_remove_64 rfl ?_
      refine r_dup2 g dX5_remove_65 rfl rfl ?_
      refine r_iald g shc_16 (by decide) dX5_remove_66 ?_
      intro z3_
      refine r_iload_n g dX5_remove_67 rfl ?_
      refine r_aload_n g dX5_remove_68 rfl ?_
      refine r_getC (c0 := 4) g KX5 shc_0 3 rfl (by decide) w_277 dX5_remove_69 ?_
      refine r_iload_n g dX5_remove_72 rfl ?_
      refine r_aaldA (P := isSeal) g 2 (fun _ => rfl) shc_4 (by decide) (by decide) dX5_remove_73 ?_
      intro q4_ hq4_
      refine r_callS_PI g (kX5_lostBy S x1 q4_ hq4_) mX5_lostBy w_765 w_766 (by decide) (fun _ => rfl) rfl (Nat.le_of_ble_eq_true rfl) dX5_remove_74 ?_
      intro z5_
      refine r_iadd g dX5_remove_77 ?_
      refine r_iast g shc_16 (by decide) dX5_remove_78 ?_
      intro S6_
      exact tX5_remove_79 g hk40
theorem tX5_remove_40 {G : Gx} {x1 : Int} (g : Ok G cX5_remove RX5 3 { frames := 2, cells := 0, slots := 0, locals := 45 } none)   : ∀ (n_ : Nat) (S : St) (x2 : Int), Rg G oVS id (SHC, 0, 0) (SHC, 0, 0) S 40 [some (vr G 0), some (vi x1), some (vi x2)] [] (lo2 (pX5_remove_40B x1) n_ S x2) := by
  intro n_
  induction n_ with
  | zero => intro S x2; exact r_none
  | succ n_ ih => intro S x2; exact tX5_remove_40B g   ih
theorem kX5_remove (S : St) (x1 : Int)  : Con yX5_remove cX5_remove 3 none { frames := 2, cells := 0, slots := 0, locals := 45 } false SHC (SHC, 0, 0) (fun b => [.ref (b + 0), vi x1]) S (fun _ => oVS) id (pX5_remove S x1) := by
  refine Con_of (fun b => [some (.ref (b + 0)), some (vi x1), none]) (by decide) (fun _ => rfl) (fun _ => Nat.le_of_ble_eq_true rfl) ?_
  intro G g _ _ _
  change Ok G cX5_remove RX5 3 { frames := 2, cells := 0, slots := 0, locals := 45 } none at g
  show Rg G oVS id (SHC, 0, 0) (SHC, 0, 0) S 0 [some (vr G 0), some (vi x1), none] [] (pX5_remove S x1)
  unfold pX5_remove
  refine r_iload_n g dX5_remove_0 rfl ?_
  refine r_iconst g dX5_remove_1 ?_
  refine r_icmp_ne g 17 dX5_remove_2 (by decide) ?_ ?_
  · refine r_iload_n g dX5_remove_17 rfl ?_
    refine r_iconst g dX5_remove_18 ?_
    refine r_icmp_ne g 38 dX5_remove_19 (by decide) ?_ ?_
    · refine r_iconst g dX5_remove_38 ?_
      refine r_istore_n g 2 dX5_remove_39 rfl (by decide) rfl ?_
      exact tX5_remove_40 g _ _ _
    · refine r_aload_n g dX5_remove_22 rfl ?_
      refine r_getC (c0 := 13) g KX5 shc_0 7 rfl (by decide) w_281 dX5_remove_23 ?_
      refine r_dup g dX5_remove_26 rfl ?_
      refine r_getI g KX4 shc_13 7 rfl (by decide) w_201 dX5_remove_27 ?_
      refine r_iconst g dX5_remove_30 ?_
      refine r_idiv g dX5_remove_31 ?_
      intro z7_
      refine r_putI g KX4 shc_13 7 rfl (by decide) rfl rfl w_201 dX5_remove_32 ?_
      intro S8_ _
      refine r_goto g 85 dX5_remove_35 (by decide) ?_
      exact r_vret g dX5_remove_85 rfl rfl
  · refine r_aload_n g dX5_remove_5 rfl ?_
    refine r_getC (c0 := 13) g KX5 shc_0 7 rfl (by decide) w_281 dX5_remove_6 ?_
    refine r_bipush g dX5_remove_9 (by decide) ?_
    refine r_putI g KX4 shc_13 6 rfl (by decide) rfl rfl w_199 dX5_remove_11 ?_
    intro S9_ _
    refine r_goto g 85 dX5_remove_14 (by decide) ?_
    exact r_vret g dX5_remove_85 rfl rfl
theorem tX5_led_58 {G : Gx} {k21 : St → Int → Int → Option (Int × St)} {S : St} {x1 : Int} {x2 : Int} (g : Ok G cX5_led RX5 3 { frames := 6, cells := 0, slots := 0, locals := 141 } (some .int)) (hk21 : ∀ (S' : St) (x1' : Int) (x2' : Int), Rg G oIS (fun v => v.2) (SHC, 0, 0) (SHC, 0, 0) S' 21 [some (vr G 0), some (vi (x1')), some (vi (x2'))] [] (k21 S' x1' x2'))  : Rg G oIS (fun v => v.2) (SHC, 0, 0) (SHC, 0, 0) S 58 [some (vr G 0), some (vi x1), some (vi x2)] [] (pX5_led_58 k21 S x1 x2) := by
  unfold pX5_led_58
  refine r_iinc g dX5_led_58 (by decide) rfl ?_
  intro x2_7_
  change Rg _ _ _ _ _ _ _ [some (vr G 0), some (vi x1), some (vi x2_7_)] _ _
  refine r_goto g 21 dX5_led_61 (by decide) ?_
  exact hk21 _ _ _
theorem tX5_led_21B {G : Gx}  (g : Ok G cX5_led RX5 3 { frames := 6, cells := 0, slots := 0, locals := 141 } (some .int))   {k21 : St → Int → Int → Option (Int × St)} (hk21 : ∀ (S' : St) (x1' : Int) (x2' : Int), Rg G oIS (fun v => v.2) (SHC, 0, 0) (SHC, 0, 0) S' 21 [some (vr G 0), some (vi (x1')), some (vi (x2'))] [] (k21 S' x1' x2')) {S : St} {x1 : Int} {x2 : Int} : Rg G oIS (fun v => v.2) (SHC, 0, 0) (SHC, 0, 0) S 21 [some (vr G 0), some (vi x1), some (vi x2)] [] (pX5_led_21B k21 S x1 x2) := by
  unfold pX5_led_21B
  refine r_iload_n g dX5_led_21 rfl ?_
  refine r_iconst g dX5_led_22 ?_
  refine r_icmp_gt g 64 dX5_led_23 (by decide) ?_ ?_
  · refine r_iload_n g dX5_led_64 rfl ?_
    exact r_iret g dX5_led_65 rfl rfl
  · refine r_aload_n g dX5_led_26 rfl ?_
    refine r_callV_WV (q := 0) (as := fun b => []) g (kX5_layOut S) mX5_layOut shc_0 rfl w_557 w_559 w_11 (by decide) (fun _ => rfl) rfl (Nat.le_of_ble_eq_true rfl) dX5_led_27 ?_
    intro S3_
    refine r_aload_n g dX5_led_30 rfl ?_
    refine r_iload_n g dX5_led_31 rfl ?_
    refine r_callV_WV (q := 0) (as := fun b => [vi x2]) g (kX5_remove S3_ x2) mX5_remove shc_0 rfl w_761 w_763 w_22 (by decide) (fun _ => rfl) rfl (Nat.le_of_ble_eq_true rfl) dX5_led_32 ?_
    intro S4_
    refine r_aload_n g dX5_led_35 rfl ?_
    refine r_getC (c0 := 13) g KX5 shc_0 7 rfl (by decide) w_281 dX5_led_36 ?_
    refine r_callV_WV (q := 13) (as := fun b => []) g (kX4_settle S4_) mX4_settle shc_13 rfl w_572 w_573 w_574 (by decide) (fun _ => rfl) rfl (Nat.le_of_ble_eq_true rfl) dX5_led_39 ?_
    intro S5_
    refine r_aload_n g dX5_led_42 rfl ?_
    refine r_getC (c0 := 13) g KX5 shc_0 7 rfl (by decide) w_281 dX5_led_43 ?_
    refine r_callV_PI (q := 13) (as := fun b => []) g (kX4_openPlaces S5_) mX4_openPlaces shc_13 rfl w_637 w_638 w_639 (by decide) (fun _ => rfl) rfl (Nat.le_of_ble_eq_true rfl) dX5_led_46 ?_
    intro z6_
    refine r_if_ne g 58 dX5_led_49 (by decide) ?_ ?_
    · exact tX5_led_58 g hk21
    · refine r_iload_n g dX5_led_52 rfl ?_
      refine r_iconst g dX5_led_53 ?_
      refine r_iload_n g dX5_led_54 rfl ?_
      refine r_ishl g dX5_led_55 ?_
      intro z8_
      refine r_ior g dX5_led_56 ?_
      intro z9_
      refine r_istore_n g 1 dX5_led_57 rfl (by decide) rfl ?_
      exact tX5_led_58 g hk21
theorem tX5_led_21 {G : Gx}  (g : Ok G cX5_led RX5 3 { frames := 6, cells := 0, slots := 0, locals := 141 } (some .int))   : ∀ (n_ : Nat) (S : St) (x1 : Int) (x2 : Int), Rg G oIS (fun v => v.2) (SHC, 0, 0) (SHC, 0, 0) S 21 [some (vr G 0), some (vi x1), some (vi x2)] [] (lo3 (pX5_led_21B) n_ S x1 x2) := by
  intro n_
  induction n_ with
  | zero => intro S x1 x2; exact r_none
  | succ n_ ih => intro S x1 x2; exact tX5_led_21B g   ih
theorem kX5_led (S : St)  : Con yX5_led cX5_led 3 (some .int) { frames := 6, cells := 0, slots := 0, locals := 141 } false SHC (SHC, 0, 0) (fun b => [.ref (b + 0)]) S (fun _ => oIS) (fun v => v.2) (pX5_led S) := by
  refine Con_of (fun b => [some (.ref (b + 0)), none, none]) (by decide) (fun _ => rfl) (fun _ => Nat.le_of_ble_eq_true rfl) ?_
  intro G g _ _ _
  change Ok G cX5_led RX5 3 { frames := 6, cells := 0, slots := 0, locals := 141 } (some .int) at g
  show Rg G oIS (fun v => v.2) (SHC, 0, 0) (SHC, 0, 0) S 0 [some (vr G 0), none, none] [] (pX5_led S)
  unfold pX5_led
  refine r_aload_n g dX5_led_0 rfl ?_
  refine r_callV_WV (q := 0) (as := fun b => []) g (kX5_settleAsIs S) mX5_settleAsIs shc_0 rfl w_553 w_555 w_10 (by decide) (fun _ => rfl) rfl (Nat.le_of_ble_eq_true rfl) dX5_led_1 ?_
  intro S1_
  refine r_aload_n g dX5_led_4 rfl ?_
  refine r_getC (c0 := 13) g KX5 shc_0 7 rfl (by decide) w_281 dX5_led_5 ?_
  refine r_callV_PI (q := 13) (as := fun b => []) g (kX4_openPlaces S1_) mX4_openPlaces shc_13 rfl w_637 w_638 w_639 (by decide) (fun _ => rfl) rfl (Nat.le_of_ble_eq_true rfl) dX5_led_8 ?_
  intro z2_
  refine r_if_ne g 17 dX5_led_11 (by decide) ?_ ?_
  · refine r_iconst g dX5_led_17 ?_
    refine r_istore_n g 1 dX5_led_18 rfl (by decide) rfl ?_
    refine r_iconst g dX5_led_19 ?_
    refine r_istore_n g 2 dX5_led_20 rfl (by decide) rfl ?_
    exact tX5_led_21 g _ _ _ _
  · refine r_bipush g dX5_led_14 (by decide) ?_
    exact r_iret g dX5_led_16 rfl rfl
theorem tX5_listMembers_28 {G : Gx} {k4 : St → Int → Int → Option (Int × St)} {S : St} {x1 : Int} {x2 : Int} {x3 : Int} (g : Ok G cX5_listMembers RX5 4 { frames := 1, cells := 0, slots := 0, locals := 21 } (some .int)) (hk4 : ∀ (S' : St) (x2' : Int) (x3' : Int), Rg G oIS (fun v => v.2) (SHC, 0, 0) (SHC, 0, 0) S' 4 [some (vr G 0), some (vi x1), some (vi (x2')), some (vi (x3'))] [] (k4 S' x2' x3'))  : Rg G oIS (fun v => v.2) (SHC, 0, 0) (SHC, 0, 0) S 28 [some (vr G 0), some (vi x1), some (vi x2), some (vi x3)] [] (pX5_listMembers_28 k4 S x1 x2 x3) := by
  unfold pX5_listMembers_28
  refine r_iinc g dX5_listMembers_28 (by decide) rfl ?_
  intro x3_2_
  change Rg _ _ _ _ _ _ _ [some (vr G 0), some (vi x1), some (vi x2), some (vi x3_2_)] _ _
  refine r_goto g 4 dX5_listMembers_31 (by decide) ?_
  exact hk4 _ _ _
theorem tX5_listMembers_4B {G : Gx} {x1 : Int} (g : Ok G cX5_listMembers RX5 4 { frames := 1, cells := 0, slots := 0, locals := 21 } (some .int))   {k4 : St → Int → Int → Option (Int × St)} (hk4 : ∀ (S' : St) (x2' : Int) (x3' : Int), Rg G oIS (fun v => v.2) (SHC, 0, 0) (SHC, 0, 0) S' 4 [some (vr G 0), some (vi x1), some (vi (x2')), some (vi (x3'))] [] (k4 S' x2' x3')) {S : St} {x2 : Int} {x3 : Int} : Rg G oIS (fun v => v.2) (SHC, 0, 0) (SHC, 0, 0) S 4 [some (vr G 0), some (vi x1), some (vi x2), some (vi x3)] [] (pX5_listMembers_4B x1 k4 S x2 x3) := by
  unfold pX5_listMembers_4B
  refine r_iload_n g dX5_listMembers_4 rfl ?_
  refine r_bipush g dX5_listMembers_5 (by decide) ?_
  refine r_icmp_ge g 34 dX5_listMembers_7 (by decide) ?_ ?_
  · refine r_iload_n g dX5_listMembers_34 rfl ?_
    exact r_iret g dX5_listMembers_35 rfl rfl
  · refine r_iload_n g dX5_listMembers_10 rfl ?_
    refine r_iload_n g dX5_listMembers_11 rfl ?_
    refine r_callS_PI g (kX5_holds S x1 x3) mX5_holds w_698 w_699 (by decide) (fun _ => rfl) rfl (Nat.le_of_ble_eq_true rfl) dX5_listMembers_12 ?_
    intro z1_
    refine r_if_eq g 28 dX5_listMembers_15 (by decide) ?_ ?_
    · exact tX5_listMembers_28 g hk4
    · refine r_aload_n g dX5_listMembers_18 rfl ?_
      refine r_getC (c0 := 21) g KX5 shc_0 8 rfl (by decide) w_282 dX5_listMembers_19 ?_
      refine r_iload_n g dX5_listMembers_22 rfl ?_
      refine r_iinc g dX5_listMembers_23 (by decide) rfl ?_
      intro x2_3_
      change Rg _ _ _ _ _ _ _ [some (vr G 0), some (vi x1), some (vi x2_3_), some (vi x3)] _ _
      refine r_iload_n g dX5_listMembers_26 rfl ?_
      refine r_iast g shc_21 (by decide) dX5_listMembers_27 ?_
      intro S4_
      exact tX5_listMembers_28 g hk4
theorem tX5_listMembers_4 {G : Gx} {x1 : Int} (g : Ok G cX5_listMembers RX5 4 { frames := 1, cells := 0, slots := 0, locals := 21 } (some .int))   : ∀ (n_ : Nat) (S : St) (x2 : Int) (x3 : Int), Rg G oIS (fun v => v.2) (SHC, 0, 0) (SHC, 0, 0) S 4 [some (vr G 0), some (vi x1), some (vi x2), some (vi x3)] [] (lo3 (pX5_listMembers_4B x1) n_ S x2 x3) := by
  intro n_
  induction n_ with
  | zero => intro S x2 x3; exact r_none
  | succ n_ ih => intro S x2 x3; exact tX5_listMembers_4B g   ih
theorem kX5_listMembers (S : St) (x1 : Int)  : Con yX5_listMembers cX5_listMembers 4 (some .int) { frames := 1, cells := 0, slots := 0, locals := 21 } false SHC (SHC, 0, 0) (fun b => [.ref (b + 0), vi x1]) S (fun _ => oIS) (fun v => v.2) (pX5_listMembers S x1) := by
  refine Con_of (fun b => [some (.ref (b + 0)), some (vi x1), none, none]) (by decide) (fun _ => rfl) (fun _ => Nat.le_of_ble_eq_true rfl) ?_
  intro G g _ _ _
  change Ok G cX5_listMembers RX5 4 { frames := 1, cells := 0, slots := 0, locals := 21 } (some .int) at g
  show Rg G oIS (fun v => v.2) (SHC, 0, 0) (SHC, 0, 0) S 0 [some (vr G 0), some (vi x1), none, none] [] (pX5_listMembers S x1)
  unfold pX5_listMembers
  refine r_iconst g dX5_listMembers_0 ?_
  refine r_istore_n g 2 dX5_listMembers_1 rfl (by decide) rfl ?_
  refine r_iconst g dX5_listMembers_2 ?_
  refine r_istore_n g 3 dX5_listMembers_3 rfl (by decide) rfl ?_
  exact tX5_listMembers_4 g _ _ _ _
theorem tX5_dealOut_80 {G : Gx} {k8 : St → Int → Int → Int → Option (Int × St)} {S : St} {x2 : Int} {x3 : Int} {x4 : Int} {x5 : Int} (g : Ok G cX5_dealOut RX5 7 { frames := 0, cells := 0, slots := 0, locals := 0 } (some .int)) (hk8 : ∀ (S' : St) (x3' : Int) (x4' : Int) (x5' : Int), Rg G oIS (fun v => v.2) (SHC, 0, 0) (SHC, 0, 0) S' 8 [some (vr G 0), none, some (vi x2), some (vi (x3')), some (vi (x4')), some (vi (x5')), none] [] (k8 S' x3' x4' x5'))  : Rg G oIS (fun v => v.2) (SHC, 0, 0) (SHC, 0, 0) S 80 [some (vr G 0), none, some (vi x2), some (vi x3), some (vi x4), some (vi x5), none] [] (pX5_dealOut_80 k8 S x2 x3 x4 x5) := by
  unfold pX5_dealOut_80
  refine r_iinc g dX5_dealOut_80 (by decide) rfl ?_
  intro x5_3_
  change Rg _ _ _ _ _ _ _ [some (vr G 0), none, some (vi x2), some (vi x3), some (vi x4), some (vi x5_3_), none] _ _
  refine r_goto g 8 dX5_dealOut_83 (by decide) ?_
  exact hk8 _ _ _ _
theorem tX5_dealOut_8B {G : Gx} {x2 : Int} (g : Ok G cX5_dealOut RX5 7 { frames := 0, cells := 0, slots := 0, locals := 0 } (some .int))   {k8 : St → Int → Int → Int → Option (Int × St)} (hk8 : ∀ (S' : St) (x3' : Int) (x4' : Int) (x5' : Int), Rg G oIS (fun v => v.2) (SHC, 0, 0) (SHC, 0, 0) S' 8 [some (vr G 0), none, some (vi x2), some (vi (x3')), some (vi (x4')), some (vi (x5')), none] [] (k8 S' x3' x4' x5')) {S : St} {x3 : Int} {x4 : Int} {x5 : Int} : Rg G oIS (fun v => v.2) (SHC, 0, 0) (SHC, 0, 0) S 8 [some (vr G 0), none, some (vi x2), some (vi x3), some (vi x4), some (vi x5), none] [] (pX5_dealOut_8B x2 k8 S x3 x4 x5) := by
  unfold pX5_dealOut_8B
  refine r_iload g dX5_dealOut_8 rfl ?_
  refine r_if_lt g 86 dX5_dealOut_10 (by decide) ?_ ?_
  · refine r_iload_n g dX5_dealOut_86 rfl ?_
    exact r_iret g dX5_dealOut_87 rfl rfl
  · refine r_iload_n g dX5_dealOut_13 rfl ?_
    refine r_bipush g dX5_dealOut_14 (by decide) ?_
    refine r_imul g dX5_dealOut_16 ?_
    refine r_topi ?_
    intro x3_1_
    refine r_istore_n g 3 dX5_dealOut_17 rfl (by decide) rfl ?_
    refine r_aload_n g dX5_dealOut_18 rfl ?_
    refine r_getC (c0 := 13) g KX5 shc_0 7 rfl (by decide) w_281 dX5_dealOut_19 ?_
    refine r_getC (c0 := 15) g KX4 shc_13 1 rfl (by decide) w_190 dX5_dealOut_22 ?_
    refine r_iload g dX5_dealOut_25 rfl ?_
    refine r_zald g shc_15 (by decide) dX5_dealOut_27 ?_
    intro z2_
    refine r_if_eq g 80 dX5_dealOut_28 (by decide) ?_ ?_
    · exact tX5_dealOut_80 g hk8
    · refine r_iload_n g dX5_dealOut_31 rfl ?_
      refine r_iconst g dX5_dealOut_32 ?_
      refine r_icmp_ge g 39 dX5_dealOut_33 (by decide) ?_ ?_
      · refine r_aload_n g dX5_dealOut_39 rfl ?_
        refine r_getC (c0 := 21) g KX5 shc_0 8 rfl (by decide) w_282 dX5_dealOut_40 ?_
        refine r_iload g dX5_dealOut_43 rfl ?_
        refine r_iload_n g dX5_dealOut_45 rfl ?_
        refine r_irem g dX5_dealOut_46 ?_
        intro z4_
        refine r_iald g shc_21 (by decide) dX5_dealOut_47 ?_
        intro z5_
        refine r_istore g dX5_dealOut_48 (by decide) rfl ?_
        refine r_iload g dX5_dealOut_50 rfl ?_
        refine r_iload_n g dX5_dealOut_52 rfl ?_
        refine r_idiv g dX5_dealOut_53 ?_
        intro z6_
        refine r_istore g dX5_dealOut_54 (by decide) rfl ?_
        refine r_aload_n g dX5_dealOut_56 rfl ?_
        refine r_getC (c0 := 13) g KX5 shc_0 7 rfl (by decide) w_281 dX5_dealOut_57 ?_
        refine r_getC (c0 := 18) g KX4 shc_13 4 rfl (by decide) w_195 dX5_dealOut_60 ?_
        refine r_iload g dX5_dealOut_63 rfl ?_
        refine r_aload_n g dX5_dealOut_65 rfl ?_
        refine r_getC (c0 := 3) g KX5 shc_0 2 rfl (by decide) w_276 dX5_dealOut_66 ?_
        refine r_iload g dX5_dealOut_69 rfl ?_
        refine r_aaldA (P := isStf) g 1 (fun _ => rfl) shc_3 (by decide) (by decide) dX5_dealOut_71 ?_
        intro q7_ hq7_
        refine r_aast (vc := (RX3, TX3, 7)) g 1 (fun _ => rfl) shc_18 (shStf hq7_) rfl (by decide) dX5_dealOut_72 ?_
        intro S8_
        refine r_iload_n g dX5_dealOut_73 rfl ?_
        refine r_iload g dX5_dealOut_74 rfl ?_
        refine r_iconst g dX5_dealOut_76 ?_
        refine r_iadd g dX5_dealOut_77 ?_
        refine r_iadd g dX5_dealOut_78 ?_
        refine r_topi ?_
        intro x3_9_
        refine r_istore_n g 3 dX5_dealOut_79 rfl (by decide) rfl ?_
        refine r_msk [true, false, true, true, true, true, false] rfl ?_
        exact tX5_dealOut_80 g hk8
      · refine r_goto g 80 dX5_dealOut_36 (by decide) ?_
        exact tX5_dealOut_80 g hk8
theorem tX5_dealOut_8 {G : Gx} {x2 : Int} (g : Ok G cX5_dealOut RX5 7 { frames := 0, cells := 0, slots := 0, locals := 0 } (some .int))   : ∀ (n_ : Nat) (S : St) (x3 : Int) (x4 : Int) (x5 : Int), Rg G oIS (fun v => v.2) (SHC, 0, 0) (SHC, 0, 0) S 8 [some (vr G 0), none, some (vi x2), some (vi x3), some (vi x4), some (vi x5), none] [] (lo4 (pX5_dealOut_8B x2) n_ S x3 x4 x5) := by
  intro n_
  induction n_ with
  | zero => intro S x3 x4 x5; exact r_none
  | succ n_ ih => intro S x3 x4 x5; exact tX5_dealOut_8B g   ih
theorem kX5_dealOut (S : St) (x1 : Int) (x2 : Int)  : Con yX5_dealOut cX5_dealOut 7 (some .int) { frames := 0, cells := 0, slots := 0, locals := 0 } false SHC (SHC, 0, 0) (fun b => [.ref (b + 0), vi x1, vi x2]) S (fun _ => oIS) (fun v => v.2) (pX5_dealOut S x1 x2) := by
  refine Con_of (fun b => [some (.ref (b + 0)), some (vi x1), some (vi x2), none, none, none, none]) (by decide) (fun _ => rfl) (fun _ => Nat.le_of_ble_eq_true rfl) ?_
  intro G g _ _ _
  change Ok G cX5_dealOut RX5 7 { frames := 0, cells := 0, slots := 0, locals := 0 } (some .int) at g
  show Rg G oIS (fun v => v.2) (SHC, 0, 0) (SHC, 0, 0) S 0 [some (vr G 0), some (vi x1), some (vi x2), none, none, none, none] [] (pX5_dealOut S x1 x2)
  unfold pX5_dealOut
  refine r_iconst g dX5_dealOut_0 ?_
  refine r_istore_n g 3 dX5_dealOut_1 rfl (by decide) rfl ?_
  refine r_iload_n g dX5_dealOut_2 rfl ?_
  refine r_istore g dX5_dealOut_3 (by decide) rfl ?_
  refine r_iconst g dX5_dealOut_5 ?_
  refine r_istore g dX5_dealOut_6 (by decide) rfl ?_
  refine r_msk [true, false, true, true, true, true, false] rfl ?_
  exact tX5_dealOut_8 g _ _ _ _ _
theorem tX5_priceOf_53 {G : Gx} {k8 : Int → Int → Int → Option (Int)} {S : St} {q2 : Nat} {x3 : Int} {x4 : Int} {x5 : Int} (g : Ok G cX5_priceOf RX5 7 { frames := 1, cells := 0, slots := 0, locals := 21 } (some .int)) (hk8 : ∀ (x3' : Int) (x4' : Int) (x5' : Int), Rg G oI (fun _ => S) (SHC, 0, 0) (SHC, 0, 0) S 8 [some (vr G 0), none, some (vr G q2), some (vi (x3')), some (vi (x4')), some (vi (x5')), none] [] (k8 x3' x4' x5')) (hq2 : isRow q2 = true) : Rg G oI (fun _ => S) (SHC, 0, 0) (SHC, 0, 0) S 53 [some (vr G 0), none, some (vr G q2), some (vi x3), some (vi x4), some (vi x5), none] [] (pX5_priceOf_53 k8 S q2 x3 x4 x5) := by
  unfold pX5_priceOf_53
  refine r_iload g dX5_priceOf_53 rfl ?_
  refine r_bipush g dX5_priceOf_55 (by decide) ?_
  refine r_idiv g dX5_priceOf_57 ?_
  intro z4_
  refine r_istore g dX5_priceOf_58 (by decide) rfl ?_
  refine r_iinc g dX5_priceOf_60 (by decide) rfl ?_
  intro x5_5_
  change Rg _ _ _ _ _ _ _ [some (vr G 0), none, some (vr G q2), some (vi x3), some (vi z4_), some (vi x5_5_), none] _ _
  refine r_goto g 8 dX5_priceOf_63 (by decide) ?_
  exact hk8 _ _ _
theorem tX5_priceOf_8B {G : Gx} {S : St} {q2 : Nat} (g : Ok G cX5_priceOf RX5 7 { frames := 1, cells := 0, slots := 0, locals := 21 } (some .int))  (hq2 : isRow q2 = true) {k8 : Int → Int → Int → Option (Int)} (hk8 : ∀ (x3' : Int) (x4' : Int) (x5' : Int), Rg G oI (fun _ => S) (SHC, 0, 0) (SHC, 0, 0) S 8 [some (vr G 0), none, some (vr G q2), some (vi (x3')), some (vi (x4')), some (vi (x5')), none] [] (k8 x3' x4' x5')) {x3 : Int} {x4 : Int} {x5 : Int} : Rg G oI (fun _ => S) (SHC, 0, 0) (SHC, 0, 0) S 8 [some (vr G 0), none, some (vr G q2), some (vi x3), some (vi x4), some (vi x5), none] [] (pX5_priceOf_8B S q2 k8 x3 x4 x5) := by
  unfold pX5_priceOf_8B
  refine r_iload g dX5_priceOf_8 rfl ?_
  refine r_iconst g dX5_priceOf_10 ?_
  refine r_icmp_ge g 66 dX5_priceOf_11 (by decide) ?_ ?_
  · refine r_iload_n g dX5_priceOf_66 rfl ?_
    exact r_iret g dX5_priceOf_67 rfl rfl
  · refine r_iload g dX5_priceOf_14 rfl ?_
    refine r_bipush g dX5_priceOf_16 (by decide) ?_
    refine r_irem g dX5_priceOf_18 ?_
    intro z1_
    refine r_iconst g dX5_priceOf_19 ?_
    refine r_isub g dX5_priceOf_20 ?_
    refine r_topi ?_
    intro x6_2_
    refine r_istore g dX5_priceOf_21 (by decide) rfl ?_
    refine r_aload_n g dX5_priceOf_23 rfl ?_
    refine r_iload g dX5_priceOf_24 rfl ?_
    refine r_callV_PI (q := q2) (as := fun b => [vi x6_2_]) g (kX1_has S q2 x6_2_ hq2) mX1_has (shRow hq2) rfl w_346 w_347 w_348 (by decide) (fun _ => rfl) rfl (Nat.le_of_ble_eq_true rfl) dX5_priceOf_26 ?_
    intro z3_
    refine r_if_eq g 53 dX5_priceOf_29 (by decide) ?_ ?_
    · refine r_msk [true, false, true, true, true, true, false] rfl ?_
      exact tX5_priceOf_53 g hk8 hq2
    · refine r_iload_n g dX5_priceOf_32 rfl ?_
      refine r_aload_n g dX5_priceOf_33 rfl ?_
      refine r_getC (c0 := q2 + 1) g KX1 (shRow hq2) 0 rfl (by decide) w_159 dX5_priceOf_34 ?_
      refine r_iload g dX5_priceOf_37 rfl ?_
      refine r_iald g (shRowA hq2) (rlen_le _) dX5_priceOf_39 ?_
      intro z6_
      refine r_aload_n g dX5_priceOf_40 rfl ?_
      refine r_getC (c0 := 4) g KX5 shc_0 3 rfl (by decide) w_277 dX5_priceOf_41 ?_
      refine r_iload g dX5_priceOf_44 rfl ?_
      refine r_aaldA (P := isSeal) g 2 (fun _ => rfl) shc_4 (by decide) (by decide) dX5_priceOf_46 ?_
      intro q7_ hq7_
      refine r_getI g KX2 (shSeal hq7_) 4 rfl (by decide) w_254 dX5_priceOf_47 ?_
      refine r_imul g dX5_priceOf_50 ?_
      refine r_iadd g dX5_priceOf_51 ?_
      refine r_topi ?_
      intro x3_8_
      refine r_istore_n g 3 dX5_priceOf_52 rfl (by decide) rfl ?_
      refine r_msk [true, false, true, true, true, true, false] rfl ?_
      exact tX5_priceOf_53 g hk8 hq2
theorem tX5_priceOf_8 {G : Gx} {S : St} {q2 : Nat} (g : Ok G cX5_priceOf RX5 7 { frames := 1, cells := 0, slots := 0, locals := 21 } (some .int))  (hq2 : isRow q2 = true) : ∀ (n_ : Nat) (x3 : Int) (x4 : Int) (x5 : Int), Rg G oI (fun _ => S) (SHC, 0, 0) (SHC, 0, 0) S 8 [some (vr G 0), none, some (vr G q2), some (vi x3), some (vi x4), some (vi x5), none] [] (lo3 (pX5_priceOf_8B S q2) n_ x3 x4 x5) := by
  intro n_
  induction n_ with
  | zero => intro x3 x4 x5; exact r_none
  | succ n_ ih => intro x3 x4 x5; exact tX5_priceOf_8B g  hq2 ih
theorem kX5_priceOf (S : St) (x1 : Int) (q2 : Nat) (hq2 : isRow q2 = true) : Con yX5_priceOf cX5_priceOf 7 (some .int) { frames := 1, cells := 0, slots := 0, locals := 21 } false SHC (SHC, 0, 0) (fun b => [.ref (b + 0), vi x1, .ref (b + q2)]) S (fun _ => oI) (fun _ => S) (pX5_priceOf S x1 q2) := by
  refine Con_of (fun b => [some (.ref (b + 0)), some (vi x1), some (.ref (b + q2)), none, none, none, none]) (by decide) (fun _ => rfl) (fun _ => Nat.le_of_ble_eq_true rfl) ?_
  intro G g _ _ _
  change Ok G cX5_priceOf RX5 7 { frames := 1, cells := 0, slots := 0, locals := 21 } (some .int) at g
  show Rg G oI (fun _ => S) (SHC, 0, 0) (SHC, 0, 0) S 0 [some (vr G 0), some (vi x1), some (vr G q2), none, none, none, none] [] (pX5_priceOf S x1 q2)
  unfold pX5_priceOf
  refine r_iconst g dX5_priceOf_0 ?_
  refine r_istore_n g 3 dX5_priceOf_1 rfl (by decide) rfl ?_
  refine r_iload_n g dX5_priceOf_2 rfl ?_
  refine r_istore g dX5_priceOf_3 (by decide) rfl ?_
  refine r_iconst g dX5_priceOf_5 ?_
  refine r_istore g dX5_priceOf_6 (by decide) rfl ?_
  refine r_msk [true, false, true, true, true, true, false] rfl ?_
  exact tX5_priceOf_8 g hq2 _ _ _ _
