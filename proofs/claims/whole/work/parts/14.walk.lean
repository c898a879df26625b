theorem tX4_settle_120B {G : Gx}  (g : Ok G cX4_settle RX4 11 { frames := 4, cells := 0, slots := 0, locals := 91 } none)   {k120 : St → Int → Option (St)} (hk120 : ∀ (S' : St) (x7' : Int), Rg G oVS id (SHC, 0, 0) (SHC, 0, 0) S' 120 [some (vr G 13), none, none, none, none, none, none, some (vi (x7')), none, none, none] [] (k120 S' x7')) {S : St} {x7 : Int} : Rg G oVS id (SHC, 0, 0) (SHC, 0, 0) S 120 [some (vr G 13), none, none, none, none, none, none, some (vi x7), none, none, none] [] (pX4_settle_120B k120 S x7) := by
  unfold pX4_settle_120B
  refine r_iload g dX4_settle_120 rfl ?_
  refine r_iconst g dX4_settle_122 ?_
  refine r_icmp_ge g 138 dX4_settle_123 (by decide) ?_ ?_
  · exact r_vret g dX4_settle_138 rfl rfl
  · refine r_aload_n g dX4_settle_126 rfl ?_
    refine r_iload g dX4_settle_127 rfl ?_
    refine r_callV_WV (q := 13) (as := fun b => [vi x7]) g (kX4_findPress S x7) mX4_findPress shc_13 rfl w_602 w_604 w_18 (by decide) (fun _ => rfl) rfl (Nat.le_of_ble_eq_true rfl) dX4_settle_129 ?_
    intro S7_
    refine r_iinc g dX4_settle_132 (by decide) rfl ?_
    intro x7_8_
    change Rg _ _ _ _ _ _ _ [some (vr G 13), none, none, none, none, none, none, some (vi x7_8_), none, none, none] _ _
    refine r_goto g 120 dX4_settle_135 (by decide) ?_
    exact hk120 _ _
theorem tX4_settle_120 {G : Gx}  (g : Ok G cX4_settle RX4 11 { frames := 4, cells := 0, slots := 0, locals := 91 } none)   : ∀ (n_ : Nat) (S : St) (x7 : Int), Rg G oVS id (SHC, 0, 0) (SHC, 0, 0) S 120 [some (vr G 13), none, none, none, none, none, none, some (vi x7), none, none, none] [] (lo2 (pX4_settle_120B) n_ S x7) := by
  intro n_
  induction n_ with
  | zero => intro S x7; exact r_none
  | succ n_ ih => intro S x7; exact tX4_settle_120B g   ih
theorem tX4_settle_117 {G : Gx}  {S : St}  (g : Ok G cX4_settle RX4 11 { frames := 4, cells := 0, slots := 0, locals := 91 } none)   : Rg G oVS id (SHC, 0, 0) (SHC, 0, 0) S 117 [some (vr G 13), none, none, none, none, none, none, none, none, none, none] [] (pX4_settle_117 S) := by
  unfold pX4_settle_117
  refine r_iconst g dX4_settle_117 ?_
  refine r_istore g dX4_settle_118 (by decide) rfl ?_
  exact tX4_settle_120 g _ _ _
theorem tX4_settle_104 {G : Gx}  {S : St} {x2 : Int} {x3 : Int} {x5 : Int} (g : Ok G cX4_settle RX4 11 { frames := 4, cells := 0, slots := 0, locals := 91 } none)   : Rg G oVS id (SHC, 0, 0) (SHC, 0, 0) S 104 [some (vr G 13), none, some (vi x2), some (vl x3), none, some (vl x5), none, none, none, none, none] [] (pX4_settle_104 S x2 x3 x5) := by
  unfold pX4_settle_104
  refine r_aload_n g dX4_settle_104 rfl ?_
  refine r_iload_n g dX4_settle_105 rfl ?_
  refine r_lload g dX4_settle_106 rfl ?_
  refine r_aload_n g dX4_settle_108 rfl ?_
  refine r_iload_n g dX4_settle_109 rfl ?_
  refine r_callV_PL (q := 13) (as := fun b => [vi x2]) g (kX4_pushAt S x2) mX4_pushAt shc_13 rfl w_586 w_588 w_15 (by decide) (fun _ => rfl) rfl (Nat.le_of_ble_eq_true rfl) dX4_settle_110 ?_
  intro z9_
  refine r_lload_n g dX4_settle_113 rfl ?_
  refine r_callV_WV (q := 13) (as := fun b => [vi x2, vl x5, vl z9_, vl x3]) g (kX4_restBetween S x2 x5 z9_ x3) mX4_restBetween shc_13 rfl w_596 w_598 w_17 (by decide) (fun _ => rfl) rfl (Nat.le_of_ble_eq_true rfl) dX4_settle_114 ?_
  intro S10_
  refine r_msk [true, false, false, false, false, false, false, false, false, false, false] rfl ?_
  exact tX4_settle_117 g
theorem tX4_settle_98 {G : Gx} {k49 : Int → Int → Int → Int → Option (St)} {S : St} {x1 : Int} {x2 : Int} {x3 : Int} {x5 : Int} {x7 : Int} (g : Ok G cX4_settle RX4 11 { frames := 4, cells := 0, slots := 0, locals := 91 } none) (hk49 : ∀ (x1' : Int) (x2' : Int) (x5' : Int) (x7' : Int), Rg G oVS id (SHC, 0, 0) (SHC, 0, 0) S 49 [some (vr G 13), some (vi (x1')), some (vi (x2')), some (vl x3), none, some (vl (x5')), none, some (vi (x7')), none, none, none] [] (k49 x1' x2' x5' x7'))  : Rg G oVS id (SHC, 0, 0) (SHC, 0, 0) S 98 [some (vr G 13), some (vi x1), some (vi x2), some (vl x3), none, some (vl x5), none, some (vi x7), none, none, none] [] (pX4_settle_98 k49 S x1 x2 x3 x5 x7) := by
  unfold pX4_settle_98
  refine r_iinc g dX4_settle_98 (by decide) rfl ?_
  intro x7_13_
  change Rg _ _ _ _ _ _ _ [some (vr G 13), some (vi x1), some (vi x2), some (vl x3), none, some (vl x5), none, some (vi x7_13_), none, none, none] _ _
  refine r_goto g 49 dX4_settle_101 (by decide) ?_
  exact hk49 _ _ _ _
theorem tX4_settle_49B {G : Gx} {S : St} {x3 : Int} (g : Ok G cX4_settle RX4 11 { frames := 4, cells := 0, slots := 0, locals := 91 } none)   {k49 : Int → Int → Int → Int → Option (St)} (hk49 : ∀ (x1' : Int) (x2' : Int) (x5' : Int) (x7' : Int), Rg G oVS id (SHC, 0, 0) (SHC, 0, 0) S 49 [some (vr G 13), some (vi (x1')), some (vi (x2')), some (vl x3), none, some (vl (x5')), none, some (vi (x7')), none, none, none] [] (k49 x1' x2' x5' x7')) {x1 : Int} {x2 : Int} {x5 : Int} {x7 : Int} : Rg G oVS id (SHC, 0, 0) (SHC, 0, 0) S 49 [some (vr G 13), some (vi x1), some (vi x2), some (vl x3), none, some (vl x5), none, some (vi x7), none, none, none] [] (pX4_settle_49B S x3 k49 x1 x2 x5 x7) := by
  unfold pX4_settle_49B
  refine r_iload g dX4_settle_49 rfl ?_
  refine r_bipush g dX4_settle_51 (by decide) ?_
  refine r_icmp_ge g 104 dX4_settle_53 (by decide) ?_ ?_
  · refine r_msk [true, false, true, true, false, true, false, false, false, false, false] rfl ?_
    exact tX4_settle_104 g
  · refine r_iload_n g dX4_settle_56 rfl ?_
    refine r_iload_n g dX4_settle_57 rfl ?_
    refine r_isub g dX4_settle_58 ?_
    refine r_iconst g dX4_settle_59 ?_
    refine r_icmp_le g 104 dX4_settle_60 (by decide) ?_ ?_
    · refine r_msk [true, false, true, true, false, true, false, false, false, false, false] rfl ?_
      exact tX4_settle_104 g
    · refine r_iload_n g dX4_settle_63 rfl ?_
      refine r_iload_n g dX4_settle_64 rfl ?_
      refine r_iadd g dX4_settle_65 ?_
      refine r_iconst g dX4_settle_66 ?_
      refine r_idiv g dX4_settle_67 ?_
      intro z11_
      refine r_istore g dX4_settle_68 (by decide) rfl ?_
      refine r_aload_n g dX4_settle_70 rfl ?_
      refine r_iload g dX4_settle_71 rfl ?_
      refine r_callV_PL (q := 13) (as := fun b => [vi z11_]) g (kX4_pushAt S z11_) mX4_pushAt shc_13 rfl w_586 w_588 w_15 (by decide) (fun _ => rfl) rfl (Nat.le_of_ble_eq_true rfl) dX4_settle_73 ?_
      intro z12_
      refine r_lstore g dX4_settle_76 (by decide) rfl ?_
      refine r_lload g dX4_settle_78 rfl ?_
      refine r_lload_n g dX4_settle_80 rfl ?_
      refine r_lcmp_le g 95 dX4_settle_81 dX4_settle_82 (by decide) ?_ ?_
      · refine r_iload g dX4_settle_95 rfl ?_
        refine r_istore_n g 2 dX4_settle_97 rfl (by decide) rfl ?_
        refine r_msk [true, true, true, true, false, true, false, true, false, false, false] rfl ?_
        exact tX4_settle_98 g hk49
      · refine r_iload g dX4_settle_85 rfl ?_
        refine r_istore_n g 1 dX4_settle_87 rfl (by decide) rfl ?_
        refine r_lload g dX4_settle_88 rfl ?_
        refine r_lstore g dX4_settle_90 (by decide) rfl ?_
        refine r_goto g 98 dX4_settle_92 (by decide) ?_
        refine r_msk [true, true, true, true, false, true, false, true, false, false, false] rfl ?_
        exact tX4_settle_98 g hk49
theorem tX4_settle_49 {G : Gx} {S : St} {x3 : Int} (g : Ok G cX4_settle RX4 11 { frames := 4, cells := 0, slots := 0, locals := 91 } none)   : ∀ (n_ : Nat) (x1 : Int) (x2 : Int) (x5 : Int) (x7 : Int), Rg G oVS id (SHC, 0, 0) (SHC, 0, 0) S 49 [some (vr G 13), some (vi x1), some (vi x2), some (vl x3), none, some (vl x5), none, some (vi x7), none, none, none] [] (lo4 (pX4_settle_49B S x3) n_ x1 x2 x5 x7) := by
  intro n_
  induction n_ with
  | zero => intro x1 x2 x5 x7; exact r_none
  | succ n_ ih => intro x1 x2 x5 x7; exact tX4_settle_49B g   ih
theorem kX4_settle (S : St)  : Con yX4_settle cX4_settle 11 none { frames := 4, cells := 0, slots := 0, locals := 91 } false SHC (SHC, 0, 0) (fun b => [.ref (b + 13)]) S (fun _ => oVS) id (pX4_settle S) := by
  refine Con_of (fun b => [some (.ref (b + 13)), none, none, none, none, none, none, none, none, none, none]) (by decide) (fun _ => rfl) (fun _ => Nat.le_of_ble_eq_true rfl) ?_
  intro G g _ _ _
  change Ok G cX4_settle RX4 11 { frames := 4, cells := 0, slots := 0, locals := 91 } none at g
  show Rg G oVS id (SHC, 0, 0) (SHC, 0, 0) S 0 [some (vr G 13), none, none, none, none, none, none, none, none, none, none] [] (pX4_settle S)
  unfold pX4_settle
  refine r_aload_n g dX4_settle_0 rfl ?_
  refine r_callV_PI (q := 13) (as := fun b => []) g (kX4_floorHeight S) mX4_floorHeight shc_13 rfl w_576 w_578 w_13 (by decide) (fun _ => rfl) rfl (Nat.le_of_ble_eq_true rfl) dX4_settle_1 ?_
  intro z1_
  refine r_istore_n g 1 dX4_settle_4 rfl (by decide) rfl ?_
  refine r_aload_n g dX4_settle_5 rfl ?_
  refine r_iload_n g dX4_settle_6 rfl ?_
  refine r_callV_PI (q := 13) (as := fun b => [vi z1_]) g (kX4_highestTop S z1_) mX4_highestTop shc_13 rfl w_581 w_583 w_14 (by decide) (fun _ => rfl) rfl (Nat.le_of_ble_eq_true rfl) dX4_settle_7 ?_
  intro z2_
  refine r_istore_n g 2 dX4_settle_10 rfl (by decide) rfl ?_
  refine r_aload_n g dX4_settle_11 rfl ?_
  refine r_getI g KX4 shc_13 5 rfl (by decide) w_196 dX4_settle_12 ?_
  refine r_i2l g dX4_settle_15 ?_
  refine r_ldc2 (x := 232792560) g dX4_settle_16 w_585 (by decide) ?_
  refine r_lmul g dX4_settle_19 ?_
  refine r_topl ?_
  intro x3_3_
  refine r_lstore_n g 3 dX4_settle_20 rfl (by decide) rfl ?_
  refine r_aload_n g dX4_settle_21 rfl ?_
  refine r_iload_n g dX4_settle_22 rfl ?_
  refine r_i2l g dX4_settle_23 ?_
  refine r_putL g KX4 shc_13 8 rfl (by decide) rfl rfl w_202 dX4_settle_24 ?_
  intro S4_ _
  refine r_aload_n g dX4_settle_27 rfl ?_
  refine r_lconst (x := 1) g dX4_settle_28 (by decide) ?_
  refine r_putL g KX4 shc_13 9 rfl (by decide) rfl rfl w_204 dX4_settle_29 ?_
  intro S5_ _
  refine r_aload_n g dX4_settle_32 rfl ?_
  refine r_iload_n g dX4_settle_33 rfl ?_
  refine r_callV_PL (q := 13) (as := fun b => [vi z1_]) g (kX4_pushAt S5_ z1_) mX4_pushAt shc_13 rfl w_586 w_588 w_15 (by decide) (fun _ => rfl) rfl (Nat.le_of_ble_eq_true rfl) dX4_settle_34 ?_
  intro z6_
  refine r_lstore g dX4_settle_37 (by decide) rfl ?_
  refine r_lload g dX4_settle_39 rfl ?_
  refine r_lload_n g dX4_settle_41 rfl ?_
  refine r_lcmp_le g 117 dX4_settle_42 dX4_settle_43 (by decide) ?_ ?_
  · refine r_msk [true, false, false, false, false, false, false, false, false, false, false] rfl ?_
    exact tX4_settle_117 g
  · refine r_iconst g dX4_settle_46 ?_
    refine r_istore g dX4_settle_47 (by decide) rfl ?_
    exact tX4_settle_49 g _ _ _ _ _
theorem kX4_pressDown (S : St) (x1 : Int)  : Con yX4_pressDown cX4_pressDown 2 (some .long) { frames := 0, cells := 0, slots := 0, locals := 0 } false SHC (SHC, 0, 0) (fun b => [.ref (b + 13), vi x1]) S (fun _ => oL) (fun _ => S) (pX4_pressDown S x1) := by
  refine Con_of (fun b => [some (.ref (b + 13)), some (vi x1)]) (by decide) (fun _ => rfl) (fun _ => Nat.le_of_ble_eq_true rfl) ?_
  intro G g _ _ _
  change Ok G cX4_pressDown RX4 2 { frames := 0, cells := 0, slots := 0, locals := 0 } (some .long) at g
  show Rg G oL (fun _ => S) (SHC, 0, 0) (SHC, 0, 0) S 0 [some (vr G 13), some (vi x1)] [] (pX4_pressDown S x1)
  unfold pX4_pressDown
  refine r_aload_n g dX4_pressDown_0 rfl ?_
  refine r_getC (c0 := 20) g KX4 shc_13 11 rfl (by decide) w_208 dX4_pressDown_1 ?_
  refine r_iload_n g dX4_pressDown_4 rfl ?_
  refine r_iald g shc_20 (by decide) dX4_pressDown_5 ?_
  intro z1_
  refine r_i2l g dX4_pressDown_6 ?_
  refine r_aload_n g dX4_pressDown_7 rfl ?_
  refine r_getL g KX4 shc_13 9 rfl (by decide) w_204 dX4_pressDown_8 ?_
  refine r_lmul g dX4_pressDown_11 ?_
  exact r_lret g dX4_pressDown_12 rfl rfl
theorem kX4_cutPress (S : St) (x1 : Int)  : Con yX4_cutPress cX4_cutPress 2 (some .int) { frames := 1, cells := 0, slots := 0, locals := 23 } false SHC (SHC, 0, 0) (fun b => [.ref (b + 13), vi x1]) S (fun _ => oI) (fun _ => S) (pX4_cutPress S x1) := by
  refine Con_of (fun b => [some (.ref (b + 13)), some (vi x1)]) (by decide) (fun _ => rfl) (fun _ => Nat.le_of_ble_eq_true rfl) ?_
  intro G g _ _ _
  change Ok G cX4_cutPress RX4 2 { frames := 1, cells := 0, slots := 0, locals := 23 } (some .int) at g
  show Rg G oI (fun _ => S) (SHC, 0, 0) (SHC, 0, 0) S 0 [some (vr G 13), some (vi x1)] [] (pX4_cutPress S x1)
  unfold pX4_cutPress
  refine r_aload_n g dX4_cutPress_0 rfl ?_
  refine r_getC (c0 := 19) g KX4 shc_13 10 rfl (by decide) w_206 dX4_cutPress_1 ?_
  refine r_iload_n g dX4_cutPress_4 rfl ?_
  refine r_lald g shc_19 (by decide) dX4_cutPress_5 ?_
  intro z1_
  refine r_aload_n g dX4_cutPress_6 rfl ?_
  refine r_iload_n g dX4_cutPress_7 rfl ?_
  refine r_callV_PL (q := 13) (as := fun b => [vi x1]) g (kX4_pressDown S x1) mX4_pressDown shc_13 rfl w_632 w_625 w_626 (by decide) (fun _ => rfl) rfl (Nat.le_of_ble_eq_true rfl) dX4_cutPress_8 ?_
  intro z2_
  refine r_callSN_PL g (kX5_cut S z1_ z2_) mX5_cut w_610 w_611 (by decide) (fun _ => rfl) rfl (Nat.le_of_ble_eq_true rfl) dX4_cutPress_11 ?_
  intro z3_
  refine r_l2i g dX4_cutPress_14 ?_
  exact r_iret g dX4_cutPress_15 rfl rfl
theorem kX4_pressesLess (S : St) (x1 : Int) (x2 : Int)  : Con yX4_pressesLess cX4_pressesLess 3 (some .boolean) { frames := 0, cells := 0, slots := 0, locals := 0 } false SHC (SHC, 0, 0) (fun b => [.ref (b + 13), vi x1, vi x2]) S (fun _ => oI) (fun _ => S) (pX4_pressesLess S x1 x2) := by
  refine Con_of (fun b => [some (.ref (b + 13)), some (vi x1), some (vi x2)]) (by decide) (fun _ => rfl) (fun _ => Nat.le_of_ble_eq_true rfl) ?_
  intro G g _ _ _
  change Ok G cX4_pressesLess RX4 3 { frames := 0, cells := 0, slots := 0, locals := 0 } (some .boolean) at g
  show Rg G oI (fun _ => S) (SHC, 0, 0) (SHC, 0, 0) S 0 [some (vr G 13), some (vi x1), some (vi x2)] [] (pX4_pressesLess S x1 x2)
  unfold pX4_pressesLess
  refine r_aload_n g dX4_pressesLess_0 rfl ?_
  refine r_getC (c0 := 19) g KX4 shc_13 10 rfl (by decide) w_206 dX4_pressesLess_1 ?_
  refine r_iload_n g dX4_pressesLess_4 rfl ?_
  refine r_lald g shc_19 (by decide) dX4_pressesLess_5 ?_
  intro z1_
  refine r_aload_n g dX4_pressesLess_6 rfl ?_
  refine r_getC (c0 := 20) g KX4 shc_13 11 rfl (by decide) w_208 dX4_pressesLess_7 ?_
  refine r_iload_n g dX4_pressesLess_10 rfl ?_
  refine r_iald g shc_20 (by decide) dX4_pressesLess_11 ?_
  intro z2_
  refine r_i2l g dX4_pressesLess_12 ?_
  refine r_lmul g dX4_pressesLess_13 ?_
  refine r_aload_n g dX4_pressesLess_14 rfl ?_
  refine r_getC (c0 := 19) g KX4 shc_13 10 rfl (by decide) w_206 dX4_pressesLess_15 ?_
  refine r_iload_n g dX4_pressesLess_18 rfl ?_
  refine r_lald g shc_19 (by decide) dX4_pressesLess_19 ?_
  intro z3_
  refine r_aload_n g dX4_pressesLess_20 rfl ?_
  refine r_getC (c0 := 20) g KX4 shc_13 11 rfl (by decide) w_208 dX4_pressesLess_21 ?_
  refine r_iload_n g dX4_pressesLess_24 rfl ?_
  refine r_iald g shc_20 (by decide) dX4_pressesLess_25 ?_
  intro z4_
  refine r_i2l g dX4_pressesLess_26 ?_
  refine r_lmul g dX4_pressesLess_27 ?_
  refine r_lcmp_ge g 36 dX4_pressesLess_28 dX4_pressesLess_29 (by decide) ?_ ?_
  · refine r_iconst g dX4_pressesLess_36 ?_
    exact r_zret0 g (by decide) dX4_pressesLess_37 rfl rfl
  · refine r_iconst g dX4_pressesLess_32 ?_
    refine r_goto g 37 dX4_pressesLess_33 (by decide) ?_
    exact r_zret0 g (by decide) dX4_pressesLess_37 rfl rfl
theorem kX4_isOpen (S : St) (x1 : Int)  : Con yX4_isOpen cX4_isOpen 2 (some .boolean) { frames := 1, cells := 0, slots := 0, locals := 21 } false SHC (SHC, 0, 0) (fun b => [.ref (b + 13), vi x1]) S (fun _ => oI) (fun _ => S) (pX4_isOpen S x1) := by
  refine Con_of (fun b => [some (.ref (b + 13)), some (vi x1)]) (by decide) (fun _ => rfl) (fun _ => Nat.le_of_ble_eq_true rfl) ?_
  intro G g _ _ _
  change Ok G cX4_isOpen RX4 2 { frames := 1, cells := 0, slots := 0, locals := 21 } (some .boolean) at g
  show Rg G oI (fun _ => S) (SHC, 0, 0) (SHC, 0, 0) S 0 [some (vr G 13), some (vi x1)] [] (pX4_isOpen S x1)
  unfold pX4_isOpen
  refine r_aload_n g dX4_isOpen_0 rfl ?_
  refine r_getC (c0 := 15) g KX4 shc_13 1 rfl (by decide) w_189 dX4_isOpen_1 ?_
  refine r_iload_n g dX4_isOpen_4 rfl ?_
  refine r_zald g shc_15 (by decide) dX4_isOpen_5 ?_
  intro z1_
  refine r_if_eq g 34 dX4_isOpen_6 (by decide) ?_ ?_
  · refine r_iconst g dX4_isOpen_34 ?_
    exact r_zret0 g (by decide) dX4_isOpen_35 rfl rfl
  · refine r_aload_n g dX4_isOpen_9 rfl ?_
    refine r_getC (c0 := 19) g KX4 shc_13 10 rfl (by decide) w_206 dX4_isOpen_10 ?_
    refine r_iload_n g dX4_isOpen_13 rfl ?_
    refine r_lald g shc_19 (by decide) dX4_isOpen_14 ?_
    intro z2_
    refine r_aload_n g dX4_isOpen_15 rfl ?_
    refine r_getI g KX4 shc_13 7 rfl (by decide) w_200 dX4_isOpen_16 ?_
    refine r_i2l g dX4_isOpen_19 ?_
    refine r_aload_n g dX4_isOpen_20 rfl ?_
    refine r_iload_n g dX4_isOpen_21 rfl ?_
    refine r_callV_PL (q := 13) (as := fun b => [vi x1]) g (kX4_pressDown S x1) mX4_pressDown shc_13 rfl w_632 w_625 w_626 (by decide) (fun _ => rfl) rfl (Nat.le_of_ble_eq_true rfl) dX4_isOpen_22 ?_
    intro z3_
    refine r_lmul g dX4_isOpen_25 ?_
    refine r_lcmp_ge g 34 dX4_isOpen_26 dX4_isOpen_27 (by decide) ?_ ?_
    · refine r_iconst g dX4_isOpen_34 ?_
      exact r_zret0 g (by decide) dX4_isOpen_35 rfl rfl
    · refine r_iconst g dX4_isOpen_30 ?_
      refine r_goto g 35 dX4_isOpen_31 (by decide) ?_
      exact r_zret0 g (by decide) dX4_isOpen_35 rfl rfl
theorem tX4_openPlaces_23 {G : Gx} {k4 : Int → Int → Option (Int)} {S : St} {x1 : Int} {x2 : Int} (g : Ok G cX4_openPlaces RX4 3 { frames := 2, cells := 0, slots := 0, locals := 42 } (some .int)) (hk4 : ∀ (x1' : Int) (x2' : Int), Rg G oI (fun _ => S) (SHC, 0, 0) (SHC, 0, 0) S 4 [some (vr G 13), some (vi (x1')), some (vi (x2'))] [] (k4 x1' x2'))  : Rg G oI (fun _ => S) (SHC, 0, 0) (SHC, 0, 0) S 23 [some (vr G 13), some (vi x1), some (vi x2)] [] (pX4_openPlaces_23 k4 S x1 x2) := by
  unfold pX4_openPlaces_23
  refine r_iinc g dX4_openPlaces_23 (by decide) rfl ?_
  intro x2_2_
  change Rg _ _ _ _ _ _ _ [some (vr G 13), some (vi x1), some (vi x2_2_)] _ _
  refine r_goto g 4 dX4_openPlaces_26 (by decide) ?_
  exact hk4 _ _
theorem tX4_openPlaces_4B {G : Gx} {S : St} (g : Ok G cX4_openPlaces RX4 3 { frames := 2, cells := 0, slots := 0, locals := 42 } (some .int))   {k4 : Int → Int → Option (Int)} (hk4 : ∀ (x1' : Int) (x2' : Int), Rg G oI (fun _ => S) (SHC, 0, 0) (SHC, 0, 0) S 4 [some (vr G 13), some (vi (x1')), some (vi (x2'))] [] (k4 x1' x2')) {x1 : Int} {x2 : Int} : Rg G oI (fun _ => S) (SHC, 0, 0) (SHC, 0, 0) S 4 [some (vr G 13), some (vi x1), some (vi x2)] [] (pX4_openPlaces_4B S k4 x1 x2) := by
  unfold pX4_openPlaces_4B
  refine r_iload_n g dX4_openPlaces_4 rfl ?_
  refine r_iconst g dX4_openPlaces_5 ?_
  refine r_icmp_ge g 29 dX4_openPlaces_6 (by decide) ?_ ?_
  · refine r_iload_n g dX4_openPlaces_29 rfl ?_
    exact r_iret g dX4_openPlaces_30 rfl rfl
  · refine r_aload_n g dX4_openPlaces_9 rfl ?_
    refine r_iload_n g dX4_openPlaces_10 rfl ?_
    refine r_callV_PI (q := 13) (as := fun b => [vi x2]) g (kX4_isOpen S x2) mX4_isOpen shc_13 rfl w_641 w_629 w_630 (by decide) (fun _ => rfl) rfl (Nat.le_of_ble_eq_true rfl) dX4_openPlaces_11 ?_
    intro z1_
    refine r_if_eq g 23 dX4_openPlaces_14 (by decide) ?_ ?_
    · exact tX4_openPlaces_23 g hk4
    · refine r_iload_n g dX4_openPlaces_17 rfl ?_
      refine r_iconst g dX4_openPlaces_18 ?_
      refine r_iload_n g dX4_openPlaces_19 rfl ?_
      refine r_ishl g dX4_openPlaces_20 ?_
      intro z3_
      refine r_ior g dX4_openPlaces_21 ?_
      intro z4_
      refine r_istore_n g 1 dX4_openPlaces_22 rfl (by decide) rfl ?_
      exact tX4_openPlaces_23 g hk4
theorem tX4_openPlaces_4 {G : Gx} {S : St} (g : Ok G cX4_openPlaces RX4 3 { frames := 2, cells := 0, slots := 0, locals := 42 } (some .int))   : ∀ (n_ : Nat) (x1 : Int) (x2 : Int), Rg G oI (fun _ => S) (SHC, 0, 0) (SHC, 0, 0) S 4 [some (vr G 13), some (vi x1), some (vi x2)] [] (lo2 (pX4_openPlaces_4B S) n_ x1 x2) := by
  intro n_
  induction n_ with
  | zero => intro x1 x2; exact r_none
  | succ n_ ih => intro x1 x2; exact tX4_openPlaces_4B g   ih
theorem kX4_openPlaces (S : St)  : Con yX4_openPlaces cX4_openPlaces 3 (some .int) { frames := 2, cells := 0, slots := 0, locals := 42 } false SHC (SHC, 0, 0) (fun b => [.ref (b + 13)]) S (fun _ => oI) (fun _ => S) (pX4_openPlaces S) := by
  refine Con_of (fun b => [some (.ref (b + 13)), none, none]) (by decide) (fun _ => rfl) (fun _ => Nat.le_of_ble_eq_true rfl) ?_
  intro G g _ _ _
  change Ok G cX4_openPlaces RX4 3 { frames := 2, cells := 0, slots := 0, locals := 42 } (some .int) at g
  show Rg G oI (fun _ => S) (SHC, 0, 0) (SHC, 0, 0) S 0 [some (vr G 13), none, none] [] (pX4_openPlaces S)
  unfold pX4_openPlaces
  refine r_iconst g dX4_openPlaces_0 ?_
  refine r_istore_n g 1 dX4_openPlaces_1 rfl (by decide) rfl ?_
  refine r_iconst g dX4_openPlaces_2 ?_
  refine r_istore_n g 2 dX4_openPlaces_3 rfl (by decide) rfl ?_
  exact tX4_openPlaces_4 g _ _ _
theorem kX4_leakAt (S : St) (x1 : Int)  : Con yX4_leakAt cX4_leakAt 2 (some .int) { frames := 1, cells := 0, slots := 0, locals := 23 } false SHC (SHC, 0, 0) (fun b => [.ref (b + 13), vi x1]) S (fun _ => oI) (fun _ => S) (pX4_leakAt S x1) := by
  refine Con_of (fun b => [some (.ref (b + 13)), some (vi x1)]) (by decide) (fun _ => rfl) (fun _ => Nat.le_of_ble_eq_true rfl) ?_
  intro G g _ _ _
  change Ok G cX4_leakAt RX4 2 { frames := 1, cells := 0, slots := 0, locals := 23 } (some .int) at g
  show Rg G oI (fun _ => S) (SHC, 0, 0) (SHC, 0, 0) S 0 [some (vr G 13), some (vi x1)] [] (pX4_leakAt S x1)
  unfold pX4_leakAt
  refine r_aload_n g dX4_leakAt_0 rfl ?_
  refine r_getC (c0 := 17) g KX4 shc_13 3 rfl (by decide) w_193 dX4_leakAt_1 ?_
  refine r_iload_n g dX4_leakAt_4 rfl ?_
  refine r_iald g shc_17 (by decide) dX4_leakAt_5 ?_
  intro z1_
  refine r_i2l g dX4_leakAt_6 ?_
  refine r_aload_n g dX4_leakAt_7 rfl ?_
  refine r_getI g KX4 shc_13 7 rfl (by decide) w_200 dX4_leakAt_8 ?_
  refine r_i2l g dX4_leakAt_11 ?_
  refine r_aload_n g dX4_leakAt_12 rfl ?_
  refine r_iload_n g dX4_leakAt_13 rfl ?_
  refine r_callV_PL (q := 13) (as := fun b => [vi x1]) g (kX4_pressDown S x1) mX4_pressDown shc_13 rfl w_632 w_625 w_626 (by decide) (fun _ => rfl) rfl (Nat.le_of_ble_eq_true rfl) dX4_leakAt_14 ?_
  intro z2_
  refine r_lmul g dX4_leakAt_17 ?_
  refine r_aload_n g dX4_leakAt_18 rfl ?_
  refine r_getC (c0 := 19) g KX4 shc_13 10 rfl (by decide) w_206 dX4_leakAt_19 ?_
  refine r_iload_n g dX4_leakAt_22 rfl ?_
  refine r_lald g shc_19 (by decide) dX4_leakAt_23 ?_
  intro z3_
  refine r_lsub g dX4_leakAt_24 ?_
  refine r_lmul g dX4_leakAt_25 ?_
  refine r_aload_n g dX4_leakAt_26 rfl ?_
  refine r_iload_n g dX4_leakAt_27 rfl ?_
  refine r_callV_PL (q := 13) (as := fun b => [vi x1]) g (kX4_pressDown S x1) mX4_pressDown shc_13 rfl w_632 w_625 w_626 (by decide) (fun _ => rfl) rfl (Nat.le_of_ble_eq_true rfl) dX4_leakAt_28 ?_
  intro z4_
  refine r_callSN_PL g (kX5_cut S (z1_ * (((S 13 7) * z2_) - z3_)) z4_) mX5_cut w_610 w_611 (by decide) (fun _ => rfl) rfl (Nat.le_of_ble_eq_true rfl) dX4_leakAt_31 ?_
  intro z5_
  refine r_l2i g dX4_leakAt_34 ?_
  exact r_iret g dX4_leakAt_35 rfl rfl
theorem tX4_touchesPart_38 {G : Gx} {k2 : Int → Option (Int)} {S : St} {x1 : Int} (g : Ok G cX4_touchesPart RX4 2 { frames := 0, cells := 0, slots := 0, locals := 0 } (some .boolean)) (hk2 : ∀ (x1' : Int), Rg G oI (fun _ => S) (SHC, 0, 0) (SHC, 0, 0) S 2 [some (vr G 13), some (vi (x1'))] [] (k2 x1'))  : Rg G oI (fun _ => S) (SHC, 0, 0) (SHC, 0, 0) S 38 [some (vr G 13), some (vi x1)] [] (pX4_touchesPart_38 k2 S x1) := by
  unfold pX4_touchesPart_38
  refine r_iinc g dX4_touchesPart_38 (by decide) rfl ?_
  intro x1_2_
  change Rg _ _ _ _ _ _ _ [some (vr G 13), some (vi x1_2_)] _ _
  refine r_goto g 2 dX4_touchesPart_41 (by decide) ?_
  exact hk2 _
theorem tX4_touchesPart_2B {G : Gx} {S : St} (g : Ok G cX4_touchesPart RX4 2 { frames := 0, cells := 0, slots := 0, locals := 0 } (some .boolean))   {k2 : Int → Option (Int)} (hk2 : ∀ (x1' : Int), Rg G oI (fun _ => S) (SHC, 0, 0) (SHC, 0, 0) S 2 [some (vr G 13), some (vi (x1'))] [] (k2 x1')) {x1 : Int} : Rg G oI (fun _ => S) (SHC, 0, 0) (SHC, 0, 0) S 2 [some (vr G 13), some (vi x1)] [] (pX4_touchesPart_2B S k2 x1) := by
  unfold pX4_touchesPart_2B
  refine r_iload_n g dX4_touchesPart_2 rfl ?_
  refine r_iconst g dX4_touchesPart_3 ?_
  refine r_icmp_ge g 44 dX4_touchesPart_4 (by decide) ?_ ?_
  · refine r_iconst g dX4_touchesPart_44 ?_
    exact r_zret0 g (by decide) dX4_touchesPart_45 rfl rfl
  · refine r_aload_n g dX4_touchesPart_7 rfl ?_
    refine r_getC (c0 := 14) g KX4 shc_13 0 rfl (by decide) w_188 dX4_touchesPart_8 ?_
    refine r_iload_n g dX4_touchesPart_11 rfl ?_
    refine r_zald g shc_14 (by decide) dX4_touchesPart_12 ?_
    intro z1_
    refine r_if_eq g 38 dX4_touchesPart_13 (by decide) ?_ ?_
    · exact tX4_touchesPart_38 g hk2
    · refine r_aload_n g dX4_touchesPart_16 rfl ?_
      refine r_getC (c0 := 16) g KX4 shc_13 2 rfl (by decide) w_191 dX4_touchesPart_17 ?_
      refine r_iload_n g dX4_touchesPart_20 rfl ?_
      refine r_iald g shc_16 (by decide) dX4_touchesPart_21 ?_
      intro z3_
      refine r_i2l g dX4_touchesPart_22 ?_
      refine r_aload_n g dX4_touchesPart_23 rfl ?_
      refine r_getL g KX4 shc_13 9 rfl (by decide) w_204 dX4_touchesPart_24 ?_
      refine r_lmul g dX4_touchesPart_27 ?_
      refine r_aload_n g dX4_touchesPart_28 rfl ?_
      refine r_getL g KX4 shc_13 8 rfl (by decide) w_202 dX4_touchesPart_29 ?_
      refine r_lcmp_ne g 38 dX4_touchesPart_32 dX4_touchesPart_33 (by decide) ?_ ?_
      · exact tX4_touchesPart_38 g hk2
      · refine r_iconst g dX4_touchesPart_36 ?_
        exact r_zret0 g (by decide) dX4_touchesPart_37 rfl rfl
theorem tX4_touchesPart_2 {G : Gx} {S : St} (g : Ok G cX4_touchesPart RX4 2 { frames := 0, cells := 0, slots := 0, locals := 0 } (some .boolean))   : ∀ (n_ : Nat) (x1 : Int), Rg G oI (fun _ => S) (SHC, 0, 0) (SHC, 0, 0) S 2 [some (vr G 13), some (vi x1)] [] (lo1 (pX4_touchesPart_2B S) n_ x1) := by
  intro n_
  induction n_ with
  | zero => intro x1; exact r_none
  | succ n_ ih => intro x1; exact tX4_touchesPart_2B g   ih
theorem kX4_touchesPart (S : St)  : Con yX4_touchesPart cX4_touchesPart 2 (some .boolean) { frames := 0, cells := 0, slots := 0, locals := 0 } false SHC (SHC, 0, 0) (fun b => [.ref (b + 13)]) S (fun _ => oI) (fun _ => S) (pX4_touchesPart S) := by
  refine Con_of (fun b => [some (.ref (b + 13)), none]) (by decide) (fun _ => rfl) (fun _ => Nat.le_of_ble_eq_true rfl) ?_
  intro G g _ _ _
  change Ok G cX4_touchesPart RX4 2 { frames := 0, cells := 0, slots := 0, locals := 0 } (some .boolean) at g
  show Rg G oI (fun _ => S) (SHC, 0, 0) (SHC, 0, 0) S 0 [some (vr G 13), none] [] (pX4_touchesPart S)
  unfold pX4_touchesPart
  refine r_iconst g dX4_touchesPart_0 ?_
  refine r_istore_n g 1 dX4_touchesPart_1 rfl (by decide) rfl ?_
  exact tX4_touchesPart_2 g _ _
theorem kX5_isRow (S : St) (x0 : Int)  : Con yX5_isRow cX5_isRow 1 (some .boolean) { frames := 1, cells := 0, slots := 0, locals := 22 } false SHC (SHC, 0, 0) (fun b => [vi x0]) S (fun _ => oI) (fun _ => S) (pX5_isRow x0) := by
  refine Con_of (fun b => [some (vi x0)]) (by decide) (fun _ => rfl) (fun _ => Nat.le_of_ble_eq_true rfl) ?_
  intro G g _ _ _
  change Ok G cX5_isRow RX5 1 { frames := 1, cells := 0, slots := 0, locals := 22 } (some .boolean) at g
  show Rg G oI (fun _ => S) (SHC, 0, 0) (SHC, 0, 0) S 0 [some (vi x0)] [] (pX5_isRow x0)
  unfold pX5_isRow
  refine r_iload_n g dX5_isRow_0 rfl ?_
  refine r_iconst g dX5_isRow_1 ?_
  refine r_iconst g dX5_isRow_2 ?_
  refine r_callS_PI g (kX5_within S x0 0 5) mX5_within w_324 w_325 (by decide) (fun _ => rfl) rfl (Nat.le_of_ble_eq_true rfl) dX5_isRow_3 ?_
  intro z1_
  exact r_zret g dX5_isRow_6 rfl rfl
theorem kX5_found (S : St) (x1 : Int)  : Con yX5_found cX5_found 2 (some .int) { frames := 1, cells := 0, slots := 0, locals := 22 } false SHC (SHC, 0, 0) (fun b => [.ref (b + 0), vi x1]) S (fun _ => oIS) (fun v => v.2) (pX5_found S x1) := by
  refine Con_of (fun b => [some (.ref (b + 0)), some (vi x1)]) (by decide) (fun _ => rfl) (fun _ => Nat.le_of_ble_eq_true rfl) ?_
  intro G g _ _ _
  change Ok G cX5_found RX5 2 { frames := 1, cells := 0, slots := 0, locals := 22 } (some .int) at g
  show Rg G oIS (fun v => v.2) (SHC, 0, 0) (SHC, 0, 0) S 0 [some (vr G 0), some (vi x1)] [] (pX5_found S x1)
  unfold pX5_found
  refine r_iload_n g dX5_found_0 rfl ?_
  refine r_iconst g dX5_found_1 ?_
  refine r_iconst g dX5_found_2 ?_
  refine r_callS_PI g (kX5_within S x1 1 5) mX5_within w_324 w_325 (by decide) (fun _ => rfl) rfl (Nat.le_of_ble_eq_true rfl) dX5_found_3 ?_
  intro z1_
  refine r_if_eq g 24 dX5_found_6 (by decide) ?_ ?_
  · refine r_bipush g dX5_found_24 (by decide) ?_
    exact r_iret g dX5_found_26 rfl rfl
  · refine r_aload_n g dX5_found_9 rfl ?_
    refine r_iload_n g dX5_found_10 rfl ?_
    refine r_putI g KX5 shc_0 10 rfl (by decide) rfl rfl w_284 dX5_found_11 ?_
    intro S2_ _
    refine r_aload_n g dX5_found_14 rfl ?_
    refine r_getC (c0 := 22) g KX5 shc_0 9 rfl (by decide) w_283 dX5_found_15 ?_
    refine r_iload_n g dX5_found_18 rfl ?_
    refine r_dup2 g dX5_found_19 rfl rfl ?_
    refine r_iald g shc_22 (by decide) dX5_found_20 ?_
    intro z3_
    refine r_iconst g dX5_found_21 ?_
    refine r_iadd g dX5_found_22 ?_
    refine r_iast g shc_22 (by decide) dX5_found_23 ?_
    intro S4_
    refine r_bipush g dX5_found_24 (by decide) ?_
    exact r_iret g dX5_found_26 rfl rfl
theorem kX5_row (S : St) (x1 : Int) (x2 : Int)  : Con yX5_row cX5_row 3 (some .int) { frames := 2, cells := 0, slots := 0, locals := 47 } false SHC (SHC, 0, 0) (fun b => [.ref (b + 0), vi x1, vi x2]) S (fun _ => oIS) (fun v => v.2) (pX5_row S x1 x2) := by
  refine Con_of (fun b => [some (.ref (b + 0)), some (vi x1), some (vi x2)]) (by decide) (fun _ => rfl) (fun _ => Nat.le_of_ble_eq_true rfl) ?_
  intro G g _ _ _
  change Ok G cX5_row RX5 3 { frames := 2, cells := 0, slots := 0, locals := 47 } (some .int) at g
  show Rg G oIS (fun v => v.2) (SHC, 0, 0) (SHC, 0, 0) S 0 [some (vr G 0), some (vi x1), some (vi x2)] [] (pX5_row S x1 x2)
  unfold pX5_row
  refine r_iload_n g dX5_row_0 rfl ?_
  refine r_callS_PI g (kX5_isRow S x1) mX5_isRow w_321 w_322 (by decide) (fun _ => rfl) rfl (Nat.le_of_ble_eq_true rfl) dX5_row_1 ?_
  intro z1_
  refine r_if_eq g 13 dX5_row_4 (by decide) ?_ ?_
  · refine r_iconst g dX5_row_13 ?_
    exact r_iret g dX5_row_14 rfl rfl
  · refine r_iload_n g dX5_row_7 rfl ?_
    refine r_bipush g dX5_row_8 (by decide) ?_
    refine r_icmp_le g 15 dX5_row_10 (by decide) ?_ ?_
    · refine r_iload_n g dX5_row_15 rfl ?_
      refine r_if_ge g 25 dX5_row_16 (by decide) ?_ ?_
      · refine r_aload_n g dX5_row_25 rfl ?_
        refine r_getC (c0 := 1) g KX5 shc_0 0 rfl (by decide) w_274 dX5_row_26 ?_
        refine r_iload_n g dX5_row_29 rfl ?_
        refine r_aaldA (P := isRow) g 0 (fun _ => rfl) shc_1 (by decide) (by decide) dX5_row_30 ?_
        intro q2_ hq2_
        refine r_iload_n g dX5_row_31 rfl ?_
        refine r_iconst g dX5_row_32 ?_
        refine r_callV_WV (q := q2_) (as := fun b => [vi x2, vi 0]) g (kX1_make S q2_ x2 0 hq2_) mX1_make (shRow hq2_) rfl w_331 w_332 w_333 (by decide) (fun _ => rfl) rfl (Nat.le_of_ble_eq_true rfl) dX5_row_33 ?_
        intro S3_
        refine r_iload_n g dX5_row_36 rfl ?_
        exact r_iret g dX5_row_37 rfl rfl
      · refine r_aload_n g dX5_row_19 rfl ?_
        refine r_iconst g dX5_row_20 ?_
        refine r_callV_WI (q := 0) (as := fun b => [vi 5]) g (kX5_found S 5) mX5_found shc_0 rfl w_327 w_329 w_0 (by decide) (fun _ => rfl) rfl (Nat.le_of_ble_eq_true rfl) dX5_row_21 ?_
        intro z4_ S5_
        exact r_iret g dX5_row_24 rfl rfl
    · refine r_iconst g dX5_row_13 ?_
      exact r_iret g dX5_row_14 rfl rfl
theorem kX5_lay (S : St) (x1 : Int) (x2 : Int) (x3 : Int)  : Con yX5_lay cX5_lay 5 (some .int) { frames := 2, cells := 0, slots := 0, locals := 43 } false SHC (SHC, 0, 0) (fun b => [.ref (b + 0), vi x1, vi x2, vi x3]) S (fun _ => oIS) (fun v => v.2) (pX5_lay S x1 x2 x3) := by
  refine Con_of (fun b => [some (.ref (b + 0)), some (vi x1), some (vi x2), some (vi x3), none]) (by decide) (fun _ => rfl) (fun _ => Nat.le_of_ble_eq_true rfl) ?_
  intro G g _ _ _
  change Ok G cX5_lay RX5 5 { frames := 2, cells := 0, slots := 0, locals := 43 } (some .int) at g
  show Rg G oIS (fun v => v.2) (SHC, 0, 0) (SHC, 0, 0) S 0 [some (vr G 0), some (vi x1), some (vi x2), some (vi x3), none] [] (pX5_lay S x1 x2 x3)
  unfold pX5_lay
  refine r_iload_n g dX5_lay_0 rfl ?_
  refine r_callS_PI g (kX5_isRow S x1) mX5_isRow w_321 w_322 (by decide) (fun _ => rfl) rfl (Nat.le_of_ble_eq_true rfl) dX5_lay_1 ?_
  intro z1_
  refine r_if_ne g 9 dX5_lay_4 (by decide) ?_ ?_
  · refine r_aload_n g dX5_lay_9 rfl ?_
    refine r_getC (c0 := 1) g KX5 shc_0 0 rfl (by decide) w_274 dX5_lay_10 ?_
    refine r_iload_n g dX5_lay_13 rfl ?_
    refine r_aaldA (P := isRow) g 0 (fun _ => rfl) shc_1 (by decide) (by decide) dX5_lay_14 ?_
    intro q2_ hq2_
    refine r_astore g dX5_lay_15 (by decide) rfl ?_
    refine r_aload g dX5_lay_17 rfl ?_
    refine r_callV_PI (q := q2_) (as := fun b => []) g (kX1_isMissing S q2_ hq2_) mX1_isMissing (shRow hq2_) rfl w_342 w_343 w_344 (by decide) (fun _ => rfl) rfl (Nat.le_of_ble_eq_true rfl) dX5_lay_19 ?_
    intro z3_
    refine r_if_eq g 31 dX5_lay_22 (by decide) ?_ ?_
    · refine r_aload g dX5_lay_31 rfl ?_
      refine r_iload_n g dX5_lay_33 rfl ?_
      refine r_callV_PI (q := q2_) (as := fun b => [vi x2]) g (kX1_has S q2_ x2 hq2_) mX1_has (shRow hq2_) rfl w_346 w_347 w_348 (by decide) (fun _ => rfl) rfl (Nat.le_of_ble_eq_true rfl) dX5_lay_34 ?_
      intro z4_
      refine r_if_ne g 46 dX5_lay_37 (by decide) ?_ ?_
      · refine r_aload_n g dX5_lay_46 rfl ?_
        refine r_aload g dX5_lay_47 rfl ?_
        refine r_getC (c0 := q2_ + 1) g KX1 (shRow hq2_) 0 rfl (by decide) w_159 dX5_lay_49 ?_
        refine r_iload_n g dX5_lay_52 rfl ?_
        refine r_iald g (shRowA hq2_) (rlen_le _) dX5_lay_53 ?_
        intro z5_
        refine r_putI g KX5 shc_0 11 rfl (by decide) rfl rfl w_285 dX5_lay_54 ?_
        intro S6_ _
        refine r_aload g dX5_lay_57 rfl ?_
        refine r_getC (c0 := q2_ + 1) g KX1 (shRow hq2_) 0 rfl (by decide) w_159 dX5_lay_59 ?_
        refine r_iload_n g dX5_lay_62 rfl ?_
        refine r_iload_n g dX5_lay_63 rfl ?_
        refine r_iast g (shRowA hq2_) (rlen_le _) dX5_lay_64 ?_
        intro S7_
        refine r_iconst g dX5_lay_65 ?_
        exact r_iret g dX5_lay_66 rfl rfl
      · refine r_aload_n g dX5_lay_40 rfl ?_
        refine r_iconst g dX5_lay_41 ?_
        refine r_callV_WI (q := 0) (as := fun b => [vi 2]) g (kX5_found S 2) mX5_found shc_0 rfl w_327 w_329 w_0 (by decide) (fun _ => rfl) rfl (Nat.le_of_ble_eq_true rfl) dX5_lay_42 ?_
        intro z8_ S9_
        exact r_iret g dX5_lay_45 rfl rfl
    · refine r_aload_n g dX5_lay_25 rfl ?_
      refine r_iconst g dX5_lay_26 ?_
      refine r_callV_WI (q := 0) (as := fun b => [vi 1]) g (kX5_found S 1) mX5_found shc_0 rfl w_327 w_329 w_0 (by decide) (fun _ => rfl) rfl (Nat.le_of_ble_eq_true rfl) dX5_lay_27 ?_
      intro z10_ S11_
      exact r_iret g dX5_lay_30 rfl rfl
  · refine r_iconst g dX5_lay_7 ?_
    exact r_iret g dX5_lay_8 rfl rfl
theorem kX5_tear (S : St) (x1 : Int)  : Con yX5_tear cX5_tear 2 (some .int) { frames := 2, cells := 0, slots := 0, locals := 43 } false SHC (SHC, 0, 0) (fun b => [.ref (b + 0), vi x1]) S (fun _ => oIS) (fun v => v.2) (pX5_tear S x1) := by
  refine Con_of (fun b => [some (.ref (b + 0)), some (vi x1)]) (by decide) (fun _ => rfl) (fun _ => Nat.le_of_ble_eq_true rfl) ?_
  intro G g _ _ _
  change Ok G cX5_tear RX5 2 { frames := 2, cells := 0, slots := 0, locals := 43 } (some .int) at g
  show Rg G oIS (fun v => v.2) (SHC, 0, 0) (SHC, 0, 0) S 0 [some (vr G 0), some (vi x1)] [] (pX5_tear S x1)
  unfold pX5_tear
  refine r_iload_n g dX5_tear_0 rfl ?_
  refine r_callS_PI g (kX5_isRow S x1) mX5_isRow w_321 w_322 (by decide) (fun _ => rfl) rfl (Nat.le_of_ble_eq_true rfl) dX5_tear_1 ?_
  intro z1_
  refine r_if_ne g 9 dX5_tear_4 (by decide) ?_ ?_
  · refine r_aload_n g dX5_tear_9 rfl ?_
    refine r_getC (c0 := 1) g KX5 shc_0 0 rfl (by decide) w_274 dX5_tear_10 ?_
    refine r_iload_n g dX5_tear_13 rfl ?_
    refine r_aaldA (P := isRow) g 0 (fun _ => rfl) shc_1 (by decide) (by decide) dX5_tear_14 ?_
    intro q2_ hq2_
    refine r_callV_PI (q := q2_) (as := fun b => []) g (kX1_isMissing S q2_ hq2_) mX1_isMissing (shRow hq2_) rfl w_342 w_343 w_344 (by decide) (fun _ => rfl) rfl (Nat.le_of_ble_eq_true rfl) dX5_tear_15 ?_
    intro z3_
    refine r_if_eq g 27 dX5_tear_18 (by decide) ?_ ?_
    · refine r_aload_n g dX5_tear_27 rfl ?_
      refine r_getC (c0 := 1) g KX5 shc_0 0 rfl (by decide) w_274 dX5_tear_28 ?_
      refine r_iload_n g dX5_tear_31 rfl ?_
      refine r_aaldA (P := isRow) g 0 (fun _ => rfl) shc_1 (by decide) (by decide) dX5_tear_32 ?_
      intro q4_ hq4_
      refine r_iconst g dX5_tear_33 ?_
      refine r_putI g KX1 (shRow hq4_) 1 rfl (by decide) rfl rfl w_163 dX5_tear_34 ?_
      intro S5_ _
      refine r_iconst g dX5_tear_37 ?_
      exact r_iret g dX5_tear_38 rfl rfl
    · refine r_aload_n g dX5_tear_21 rfl ?_
      refine r_iconst g dX5_tear_22 ?_
      refine r_callV_WI (q := 0) (as := fun b => [vi 1]) g (kX5_found S 1) mX5_found shc_0 rfl w_327 w_329 w_0 (by decide) (fun _ => rfl) rfl (Nat.le_of_ble_eq_true rfl) dX5_tear_23 ?_
      intro z6_ S7_
      exact r_iret g dX5_tear_26 rfl rfl
  · refine r_iconst g dX5_tear_7 ?_
    exact r_iret g dX5_tear_8 rfl rfl
theorem tX5_copy_59 {G : Gx}  {S : St}  (g : Ok G cX5_copy RX5 8 { frames := 2, cells := 0, slots := 0, locals := 43 } (some .int))   : Rg G oIS (fun v => v.2) (SHC, 0, 0) (SHC, 0, 0) S 59 [some (vr G 0), none, none, none, none, none, none, none] [] (pX5_copy_59 S) := by
  unfold pX5_copy_59
  refine r_aload_n g dX5_copy_59 rfl ?_
  refine r_iconst g dX5_copy_60 ?_
  refine r_callV_WI (q := 0) (as := fun b => [vi 1]) g (kX5_found S 1) mX5_found shc_0 rfl w_327 w_329 w_0 (by decide) (fun _ => rfl) rfl (Nat.le_of_ble_eq_true rfl) dX5_copy_61 ?_
  intro z6_ S7_
  exact r_iret g dX5_copy_64 rfl rfl
theorem tX5_copy_88 {G : Gx}  {S : St}  (g : Ok G cX5_copy RX5 8 { frames := 2, cells := 0, slots := 0, locals := 43 } (some .int))   : Rg G oIS (fun v => v.2) (SHC, 0, 0) (SHC, 0, 0) S 88 [some (vr G 0), none, none, none, none, none, none, none] [] (pX5_copy_88 S) := by
  unfold pX5_copy_88
  refine r_aload_n g dX5_copy_88 rfl ?_
  refine r_iconst g dX5_copy_89 ?_
  refine r_callV_WI (q := 0) (as := fun b => [vi 2]) g (kX5_found S 2) mX5_found shc_0 rfl w_327 w_329 w_0 (by decide) (fun _ => rfl) rfl (Nat.le_of_ble_eq_true rfl) dX5_copy_90 ?_
  intro z10_ S11_
  exact r_iret g dX5_copy_93 rfl rfl
theorem kX5_copy (S : St) (x1 : Int) (x2 : Int) (x3 : Int) (x4 : Int) (x5 : Int)  : Con yX5_copy cX5_copy 8 (some .int) { frames := 2, cells := 0, slots := 0, locals := 43 } false SHC (SHC, 0, 0) (fun b => [.ref (b + 0), vi x1, vi x2, vi x3, vi x4, vi x5]) S (fun _ => oIS) (fun v => v.2) (pX5_copy S x1 x2 x3 x4 x5) := by
  refine Con_of (fun b => [some (.ref (b + 0)), some (vi x1), some (vi x2), some (vi x3), some (vi x4), some (vi x5), none, none]) (by decide) (fun _ => rfl) (fun _ => Nat.le_of_ble_eq_true rfl) ?_
  intro G g _ _ _
  change Ok G cX5_copy RX5 8 { frames := 2, cells := 0, slots := 0, locals := 43 } (some .int) at g
  show Rg G oIS (fun v => v.2) (SHC, 0, 0) (SHC, 0, 0) S 0 [some (vr G 0), some (vi x1), some (vi x2), some (vi x3), some (vi x4), some (vi x5), none, none] [] (pX5_copy S x1 x2 x3 x4 x5)
  unfold pX5_copy
  refine r_iload_n g dX5_copy_0 rfl ?_
  refine r_callS_PI g (kX5_isRow S x1) mX5_isRow w_321 w_322 (by decide) (fun _ => rfl) rfl (Nat.le_of_ble_eq_true rfl) dX5_copy_1 ?_
  intro z1_
  refine r_if_eq g 14 dX5_copy_4 (by decide) ?_ ?_
  · refine r_iconst g dX5_copy_14 ?_
    exact r_iret g dX5_copy_15 rfl rfl
  · refine r_iload_n g dX5_copy_7 rfl ?_
    refine r_callS_PI g (kX5_isRow S x3) mX5_isRow w_321 w_322 (by decide) (fun _ => rfl) rfl (Nat.le_of_ble_eq_true rfl) dX5_copy_8 ?_
    intro z2_
    refine r_if_ne g 16 dX5_copy_11 (by decide) ?_ ?_
    · refine r_iload g dX5_copy_16 rfl ?_
      refine r_if_ge g 27 dX5_copy_18 (by decide) ?_ ?_
      · refine r_aload_n g dX5_copy_27 rfl ?_
        refine r_getC (c0 := 1) g KX5 shc_0 0 rfl (by decide) w_274 dX5_copy_28 ?_
        refine r_iload_n g dX5_copy_31 rfl ?_
        refine r_aaldA (P := isRow) g 0 (fun _ => rfl) shc_1 (by decide) (by decide) dX5_copy_32 ?_
        intro q3_ hq3_
        refine r_astore g dX5_copy_33 (by decide) rfl ?_
        refine r_aload_n g dX5_copy_35 rfl ?_
        refine r_getC (c0 := 1) g KX5 shc_0 0 rfl (by decide) w_274 dX5_copy_36 ?_
        refine r_iload_n g dX5_copy_39 rfl ?_
        refine r_aaldA (P := isRow) g 0 (fun _ => rfl) shc_1 (by decide) (by decide) dX5_copy_40 ?_
        intro q4_ hq4_
        refine r_astore g dX5_copy_41 (by decide) rfl ?_
        refine r_aload g dX5_copy_43 rfl ?_
        refine r_callV_PI (q := q3_) (as := fun b => []) g (kX1_isMissing S q3_ hq3_) mX1_isMissing (shRow hq3_) rfl w_342 w_343 w_344 (by decide) (fun _ => rfl) rfl (Nat.le_of_ble_eq_true rfl) dX5_copy_45 ?_
        intro z5_
        refine r_if_ne g 59 dX5_copy_48 (by decide) ?_ ?_
        · refine r_msk [true, false, false, false, false, false, false, false] rfl ?_
          exact tX5_copy_59 g
        · refine r_aload g dX5_copy_51 rfl ?_
          refine r_callV_PI (q := q4_) (as := fun b => []) g (kX1_isMissing S q4_ hq4_) mX1_isMissing (shRow hq4_) rfl w_342 w_343 w_344 (by decide) (fun _ => rfl) rfl (Nat.le_of_ble_eq_true rfl) dX5_copy_53 ?_
          intro z8_
          refine r_if_eq g 65 dX5_copy_56 (by decide) ?_ ?_
          · refine r_aload g dX5_copy_65 rfl ?_
            refine r_iload_n g dX5_copy_67 rfl ?_
            refine r_iload g dX5_copy_68 rfl ?_
            refine r_callV_PI (q := q3_) (as := fun b => [vi x2, vi x5]) g (kX1_hasRun S q3_ x2 x5 hq3_) mX1_hasRun (shRow hq3_) rfl w_358 w_359 w_360 (by decide) (fun _ => rfl) rfl (Nat.le_of_ble_eq_true rfl) dX5_copy_70 ?_
            intro z9_
            refine r_if_eq g 88 dX5_copy_73 (by decide) ?_ ?_
            · refine r_msk [true, false, false, false, false, false, false, false] rfl ?_
              exact tX5_copy_88 g
            · refine r_aload g dX5_copy_76 rfl ?_
              refine r_iload g dX5_copy_78 rfl ?_
              refine r_iload g dX5_copy_80 rfl ?_
              refine r_callV_PI (q := q4_) (as := fun b => [vi x4, vi x5]) g (kX1_hasRun S q4_ x4 x5 hq4_) mX1_hasRun (shRow hq4_) rfl w_358 w_359 w_360 (by decide) (fun _ => rfl) rfl (Nat.le_of_ble_eq_true rfl) dX5_copy_82 ?_
              intro z12_
              refine r_if_ne g 94 dX5_copy_85 (by decide) ?_ ?_
              · refine r_aload g dX5_copy_94 rfl ?_
                refine r_getC (c0 := q3_ + 1) g KX1 (shRow hq3_) 0 rfl (by decide) w_159 dX5_copy_96 ?_
                refine r_iload_n g dX5_copy_99 rfl ?_
                refine r_aload g dX5_copy_100 rfl ?_
                refine r_getC (c0 := q4_ + 1) g KX1 (shRow hq4_) 0 rfl (by decide) w_159 dX5_copy_102 ?_
                refine r_iload g dX5_copy_105 rfl ?_
                refine r_iload g dX5_copy_107 rfl ?_
                refine r_copy g (shRowA hq3_) (shRowA hq4_) (rlen_le _) (rlen_le _) w_ac (by decide) dX5_copy_109 ?_
                intro S13_
                refine r_iconst g dX5_copy_112 ?_
                exact r_iret g dX5_copy_113 rfl rfl
              · refine r_msk [true, false, false, false, false, false, false, false] rfl ?_
                exact tX5_copy_88 g
          · refine r_msk [true, false, false, false, false, false, false, false] rfl ?_
            exact tX5_copy_59 g
      · refine r_aload_n g dX5_copy_21 rfl ?_
        refine r_iconst g dX5_copy_22 ?_
        refine r_callV_WI (q := 0) (as := fun b => [vi 5]) g (kX5_found S 5) mX5_found shc_0 rfl w_327 w_329 w_0 (by decide) (fun _ => rfl) rfl (Nat.le_of_ble_eq_true rfl) dX5_copy_23 ?_
        intro z14_ S15_
        exact r_iret g dX5_copy_26 rfl rfl
    · refine r_iconst g dX5_copy_14 ?_
      exact r_iret g dX5_copy_15 rfl rfl
theorem tX5_mean_47B {G : Gx} {S : St} {q2 : Nat} (g : Ok G cX5_mean RX5 6 { frames := 2, cells := 0, slots := 0, locals := 43 } (some .int))  (hq2 : isRow q2 = true) {k47 : Int → Int → Option (Int × St)} (hk47 : ∀ (x3' : Int) (x5' : Int), Rg G oIS (fun v => v.2) (SHC, 0, 0) (SHC, 0, 0) S 47 [some (vr G 0), none, some (vr G q2), some (vl (x3')), none, some (vi (x5'))] [] (k47 x3' x5')) {x3 : Int} {x5 : Int} : Rg G oIS (fun v => v.2) (SHC, 0, 0) (SHC, 0, 0) S 47 [some (vr G 0), none, some (vr G q2), some (vl x3), none, some (vi x5)] [] (pX5_mean_47B S q2 k47 x3 x5) := by
  unfold pX5_mean_47B
  refine r_iload g dX5_mean_47 rfl ?_
  refine r_aload_n g dX5_mean_49 rfl ?_
  refine r_getI g KX1 (shRow hq2) 1 rfl (by decide) w_163 dX5_mean_50 ?_
  refine r_icmp_ge g 73 dX5_mean_53 (by decide) ?_ ?_
  · refine r_aload_n g dX5_mean_73 rfl ?_
    refine r_lload_n g dX5_mean_74 rfl ?_
    refine r_aload_n g dX5_mean_75 rfl ?_
    refine r_getI g KX1 (shRow hq2) 1 rfl (by decide) w_163 dX5_mean_76 ?_
    refine r_i2l g dX5_mean_79 ?_
    refine r_ldiv g dX5_mean_80 ?_
    intro z4_
    refine r_l2i g dX5_mean_81 ?_
    refine r_putI g KX5 shc_0 11 rfl (by decide) rfl rfl w_285 dX5_mean_82 ?_
    intro S5_ _
    refine r_iconst g dX5_mean_85 ?_
    exact r_iret g dX5_mean_86 rfl rfl
  · refine r_lload_n g dX5_mean_56 rfl ?_
    refine r_aload_n g dX5_mean_57 rfl ?_
    refine r_getC (c0 := q2 + 1) g KX1 (shRow hq2) 0 rfl (by decide) w_159 dX5_mean_58 ?_
    refine r_iload g dX5_mean_61 rfl ?_
    refine r_iald g (shRowA hq2) (rlen_le _) dX5_mean_63 ?_
    intro z6_
    refine r_i2l g dX5_mean_64 ?_
    refine r_ladd g dX5_mean_65 ?_
    refine r_topl ?_
    intro x3_7_
    refine r_lstore_n g 3 dX5_mean_66 rfl (by decide) rfl ?_
    refine r_iinc g dX5_mean_67 (by decide) rfl ?_
    intro x5_8_
    change Rg _ _ _ _ _ _ _ [some (vr G 0), none, some (vr G q2), some (vl x3_7_), none, some (vi x5_8_)] _ _
    refine r_goto g 47 dX5_mean_70 (by decide) ?_
    exact hk47 _ _
theorem tX5_mean_47 {G : Gx} {S : St} {q2 : Nat} (g : Ok G cX5_mean RX5 6 { frames := 2, cells := 0, slots := 0, locals := 43 } (some .int))  (hq2 : isRow q2 = true) : ∀ (n_ : Nat) (x3 : Int) (x5 : Int), Rg G oIS (fun v => v.2) (SHC, 0, 0) (SHC, 0, 0) S 47 [some (vr G 0), none, some (vr G q2), some (vl x3), none, some (vi x5)] [] (lo2 (pX5_mean_47B S q2) n_ x3 x5) := by
  intro n_
  induction n_ with
  | zero => intro x3 x5; exact r_none
  | succ n_ ih => intro x3 x5; exact tX5_mean_47B g  hq2 ih
theorem kX5_mean (S : St) (x1 : Int)  : Con yX5_mean cX5_mean 6 (some .int) { frames := 2, cells := 0, slots := 0, locals := 43 } false SHC (SHC, 0, 0) (fun b => [.ref (b + 0), vi x1]) S (fun _ => oIS) (fun v => v.2) (pX5_mean S x1) := by
  refine Con_of (fun b => [some (.ref (b + 0)), some (vi x1), none, none, none, none]) (by decide) (fun _ => rfl) (fun _ => Nat.le_of_ble_eq_true rfl) ?_
  intro G g _ _ _
  change Ok G cX5_mean RX5 6 { frames := 2, cells := 0, slots := 0, locals := 43 } (some .int) at g
  show Rg G oIS (fun v => v.2) (SHC, 0, 0) (SHC, 0, 0) S 0 [some (vr G 0), some (vi x1), none, none, none, none] [] (pX5_mean S x1)
  unfold pX5_mean
  refine r_iload_n g dX5_mean_0 rfl ?_
  refine r_callS_PI g (kX5_isRow S x1) mX5_isRow w_321 w_322 (by decide) (fun _ => rfl) rfl (Nat.le_of_ble_eq_true rfl) dX5_mean_1 ?_
  intro z1_
  refine r_if_ne g 9 dX5_mean_4 (by decide) ?_ ?_
  · refine r_aload_n g dX5_mean_9 rfl ?_
    refine r_getC (c0 := 1) g KX5 shc_0 0 rfl (by decide) w_274 dX5_mean_10 ?_
    refine r_iload_n g dX5_mean_13 rfl ?_
    refine r_aaldA (P := isRow) g 0 (fun _ => rfl) shc_1 (by decide) (by decide) dX5_mean_14 ?_
    intro q2_ hq2_
    refine r_astore_n g 2 dX5_mean_15 rfl (by decide) rfl ?_
    refine r_aload_n g dX5_mean_16 rfl ?_
    refine r_callV_PI (q := q2_) (as := fun b => []) g (kX1_isMissing S q2_ hq2_) mX1_isMissing (shRow hq2_) rfl w_342 w_343 w_344 (by decide) (fun _ => rfl) rfl (Nat.le_of_ble_eq_true rfl) dX5_mean_17 ?_
    intro z3_
    refine r_if_eq g 29 dX5_mean_20 (by decide) ?_ ?_
    · refine r_aload_n g dX5_mean_29 rfl ?_
      refine r_getI g KX1 (shRow hq2_) 1 rfl (by decide) w_163 dX5_mean_30 ?_
      refine r_if_ne g 42 dX5_mean_33 (by decide) ?_ ?_
      · refine r_lconst (x := 0) g dX5_mean_42 (by decide) ?_
        refine r_lstore_n g 3 dX5_mean_43 rfl (by decide) rfl ?_
        refine r_iconst g dX5_mean_44 ?_
        refine r_istore g dX5_mean_45 (by decide) rfl ?_
        refine r_msk [true, false, true, true, false, true] rfl ?_
        exact tX5_mean_47 g hq2_ _ _ _
      · refine r_aload_n g dX5_mean_36 rfl ?_
        refine r_iconst g dX5_mean_37 ?_
        refine r_callV_WI (q := 0) (as := fun b => [vi 4]) g (kX5_found S 4) mX5_found shc_0 rfl w_327 w_329 w_0 (by decide) (fun _ => rfl) rfl (Nat.le_of_ble_eq_true rfl) dX5_mean_38 ?_
        intro z9_ S10_
        exact r_iret g dX5_mean_41 rfl rfl
    · refine r_aload_n g dX5_mean_23 rfl ?_
      refine r_iconst g dX5_mean_24 ?_
      refine r_callV_WI (q := 0) (as := fun b => [vi 1]) g (kX5_found S 1) mX5_found shc_0 rfl w_327 w_329 w_0 (by decide) (fun _ => rfl) rfl (Nat.le_of_ble_eq_true rfl) dX5_mean_25 ?_
      intro z11_ S12_
      exact r_iret g dX5_mean_28 rfl rfl
  · refine r_iconst g dX5_mean_7 ?_
    exact r_iret g dX5_mean_8 rfl rfl
theorem kX5_isText (S : St) (x0 : Int)  : Con yX5_isText cX5_isText 1 (some .boolean) { frames := 1, cells := 0, slots := 0, locals := 22 } false SHC (SHC, 0, 0) (fun b => [vi x0]) S (fun _ => oI) (fun _ => S) (pX5_isText x0) := by
  refine Con_of (fun b => [some (vi x0)]) (by decide) (fun _ => rfl) (fun _ => Nat.le_of_ble_eq_true rfl) ?_
  intro G g _ _ _
  change Ok G cX5_isText RX5 1 { frames := 1, cells := 0, slots := 0, locals := 22 } (some .boolean) at g
  show Rg G oI (fun _ => S) (SHC, 0, 0) (SHC, 0, 0) S 0 [some (vi x0)] [] (pX5_isText x0)
  unfold pX5_isText
  refine r_iload_n g dX5_isText_0 rfl ?_
  refine r_iconst g dX5_isText_1 ?_
  refine r_iconst g dX5_isText_2 ?_
  refine r_callS_PI g (kX5_within S x0 0 3) mX5_within w_324 w_325 (by decide) (fun _ => rfl) rfl (Nat.le_of_ble_eq_true rfl) dX5_isText_3 ?_
  intro z1_
  exact r_zret g dX5_isText_6 rfl rfl
theorem kX5_text (S : St) (x1 : Int) (x2 : Int)  : Con yX5_text cX5_text 3 (some .int) { frames := 2, cells := 0, slots := 0, locals := 47 } false SHC (SHC, 0, 0) (fun b => [.ref (b + 0), vi x1, vi x2]) S (fun _ => oIS) (fun v => v.2) (pX5_text S x1 x2) := by
  refine Con_of (fun b => [some (.ref (b + 0)), some (vi x1), some (vi x2)]) (by decide) (fun _ => rfl) (fun _ => Nat.le_of_ble_eq_true rfl) ?_
  intro G g _ _ _
  change Ok G cX5_text RX5 3 { frames := 2, cells := 0, slots := 0, locals := 47 } (some .int) at g
  show Rg G oIS (fun v => v.2) (SHC, 0, 0) (SHC, 0, 0) S 0 [some (vr G 0), some (vi x1), some (vi x2)] [] (pX5_text S x1 x2)
  unfold pX5_text
  refine r_iload_n g dX5_text_0 rfl ?_
  refine r_callS_PI g (kX5_isText S x1) mX5_isText w_373 w_374 (by decide) (fun _ => rfl) rfl (Nat.le_of_ble_eq_true rfl) dX5_text_1 ?_
  intro z1_
  refine r_if_eq g 13 dX5_text_4 (by decide) ?_ ?_
  · refine r_iconst g dX5_text_13 ?_
    exact r_iret g dX5_text_14 rfl rfl
  · refine r_iload_n g dX5_text_7 rfl ?_
    refine r_bipush g dX5_text_8 (by decide) ?_
    refine r_icmp_le g 15 dX5_text_10 (by decide) ?_ ?_
    · refine r_iload_n g dX5_text_15 rfl ?_
      refine r_if_ge g 25 dX5_text_16 (by decide) ?_ ?_
      · refine r_aload_n g dX5_text_25 rfl ?_
        refine r_getC (c0 := 2) g KX5 shc_0 1 rfl (by decide) w_275 dX5_text_26 ?_
        refine r_iload_n g dX5_text_29 rfl ?_
        refine r_aaldA (P := isRow) g 0 (fun _ => rfl) shc_2 (by decide) (by decide) dX5_text_30 ?_
        intro q2_ hq2_
        refine r_iload_n g dX5_text_31 rfl ?_
        refine r_bipush g dX5_text_32 (by decide) ?_
        refine r_callV_WV (q := q2_) (as := fun b => [vi x2, vi 32]) g (kX1_make S q2_ x2 32 hq2_) mX1_make (shRow hq2_) rfl w_331 w_332 w_333 (by decide) (fun _ => rfl) rfl (Nat.le_of_ble_eq_true rfl) dX5_text_34 ?_
        intro S3_
        refine r_iload_n g dX5_text_37 rfl ?_
        exact r_iret g dX5_text_38 rfl rfl
      · refine r_aload_n g dX5_text_19 rfl ?_
        refine r_iconst g dX5_text_20 ?_
        refine r_callV_WI (q := 0) (as := fun b => [vi 5]) g (kX5_found S 5) mX5_found shc_0 rfl w_327 w_329 w_0 (by decide) (fun _ => rfl) rfl (Nat.le_of_ble_eq_true rfl) dX5_text_21 ?_
        intro z4_ S5_
        exact r_iret g dX5_text_24 rfl rfl
    · refine r_iconst g dX5_text_13 ?_
      exact r_iret g dX5_text_14 rfl rfl
theorem kX5_put (S : St) (x1 : Int) (x2 : Int) (x3 : Int)  : Con yX5_put cX5_put 6 (some .int) { frames := 2, cells := 0, slots := 0, locals := 43 } false SHC (SHC, 0, 0) (fun b => [.ref (b + 0), vi x1, vi x2, vi x3]) S (fun _ => oIS) (fun v => v.2) (pX5_put S x1 x2 x3) := by
  refine Con_of (fun b => [some (.ref (b + 0)), some (vi x1), some (vi x2), some (vi x3), none, none]) (by decide) (fun _ => rfl) (fun _ => Nat.le_of_ble_eq_true rfl) ?_
  intro G g _ _ _
  change Ok G cX5_put RX5 6 { frames := 2, cells := 0, slots := 0, locals := 43 } (some .int) at g
  show Rg G oIS (fun v => v.2) (SHC, 0, 0) (SHC, 0, 0) S 0 [some (vr G 0), some (vi x1), some (vi x2), some (vi x3), none, none] [] (pX5_put S x1 x2 x3)
  unfold pX5_put
  refine r_iload_n g dX5_put_0 rfl ?_
  refine r_callS_PI g (kX5_isText S x1) mX5_isText w_373 w_374 (by decide) (fun _ => rfl) rfl (Nat.le_of_ble_eq_true rfl) dX5_put_1 ?_
  intro z1_
  refine r_if_ne g 9 dX5_put_4 (by decide) ?_ ?_
  · refine r_aload_n g dX5_put_9 rfl ?_
    refine r_getC (c0 := 2) g KX5 shc_0 1 rfl (by decide) w_275 dX5_put_10 ?_
    refine r_iload_n g dX5_put_13 rfl ?_
    refine r_aaldA (P := isRow) g 0 (fun _ => rfl) shc_2 (by decide) (by decide) dX5_put_14 ?_
    intro q2_ hq2_
    refine r_astore g dX5_put_15 (by decide) rfl ?_
    refine r_aload g dX5_put_17 rfl ?_
    refine r_callV_PI (q := q2_) (as := fun b => []) g (kX1_isMissing S q2_ hq2_) mX1_isMissing (shRow hq2_) rfl w_342 w_343 w_344 (by decide) (fun _ => rfl) rfl (Nat.le_of_ble_eq_true rfl) dX5_put_19 ?_
    intro z3_
    refine r_if_eq g 31 dX5_put_22 (by decide) ?_ ?_
    · refine r_aload g dX5_put_31 rfl ?_
      refine r_iload_n g dX5_put_33 rfl ?_
      refine r_callV_PI (q := q2_) (as := fun b => [vi x2]) g (kX1_has S q2_ x2 hq2_) mX1_has (shRow hq2_) rfl w_346 w_347 w_348 (by decide) (fun _ => rfl) rfl (Nat.le_of_ble_eq_true rfl) dX5_put_34 ?_
      intro z4_
      refine r_if_ne g 46 dX5_put_37 (by decide) ?_ ?_
      · refine r_aload g dX5_put_46 rfl ?_
        refine r_getC (c0 := q2_ + 1) g KX1 (shRow hq2_) 0 rfl (by decide) w_159 dX5_put_48 ?_
        refine r_iload_n g dX5_put_51 rfl ?_
        refine r_iald g (shRowA hq2_) (rlen_le _) dX5_put_52 ?_
        intro z5_
        refine r_istore g dX5_put_53 (by decide) rfl ?_
        refine r_aload g dX5_put_55 rfl ?_
        refine r_getC (c0 := q2_ + 1) g KX1 (shRow hq2_) 0 rfl (by decide) w_159 dX5_put_57 ?_
        refine r_iload_n g dX5_put_60 rfl ?_
        refine r_iload_n g dX5_put_61 rfl ?_
        refine r_i2b g dX5_put_62 ?_
        refine r_iast g (shRowA hq2_) (rlen_le _) dX5_put_63 ?_
        intro S6_
        refine r_iload g dX5_put_64 rfl ?_
        refine r_sipush g dX5_put_66 (by decide) ?_
        refine r_iadd g dX5_put_69 ?_
        exact r_iret g dX5_put_70 rfl rfl
      · refine r_aload_n g dX5_put_40 rfl ?_
        refine r_iconst g dX5_put_41 ?_
        refine r_callV_WI (q := 0) (as := fun b => [vi 2]) g (kX5_found S 2) mX5_found shc_0 rfl w_327 w_329 w_0 (by decide) (fun _ => rfl) rfl (Nat.le_of_ble_eq_true rfl) dX5_put_42 ?_
        intro z7_ S8_
        exact r_iret g dX5_put_45 rfl rfl
    · refine r_aload_n g dX5_put_25 rfl ?_
      refine r_iconst g dX5_put_26 ?_
      refine r_callV_WI (q := 0) (as := fun b => [vi 1]) g (kX5_found S 1) mX5_found shc_0 rfl w_327 w_329 w_0 (by decide) (fun _ => rfl) rfl (Nat.le_of_ble_eq_true rfl) dX5_put_27 ?_
      intro z9_ S10_
      exact r_iret g dX5_put_30 rfl rfl
  · refine r_iconst g dX5_put_7 ?_
    exact r_iret g dX5_put_8 rfl rfl
theorem kX5_fault (S : St) (x1 : Int)  : Con yX5_fault cX5_fault 2 (some .int) { frames := 6, cells := 0, slots := 0, locals := 129 } false SHC (SHC, 0, 0) (fun b => [.ref (b + 0), vi x1]) S (fun _ => oIS) (fun v => v.2) (pX5_fault S x1) := by
  refine Con_of (fun b => [some (.ref (b + 0)), some (vi x1)]) (by decide) (fun _ => rfl) (fun _ => Nat.le_of_ble_eq_true rfl) ?_
  intro G g _ _ _
  change Ok G cX5_fault RX5 2 { frames := 6, cells := 0, slots := 0, locals := 129 } (some .int) at g
  show Rg G oIS (fun v => v.2) (SHC, 0, 0) (SHC, 0, 0) S 0 [some (vr G 0), some (vi x1)] [] (pX5_fault S x1)
  unfold pX5_fault
  refine r_iload_n g dX5_fault_0 rfl ?_
  refine r_callS_PI g (kX5_isText S x1) mX5_isText w_373 w_374 (by decide) (fun _ => rfl) rfl (Nat.le_of_ble_eq_true rfl) dX5_fault_1 ?_
  intro z1_
  refine r_if_ne g 9 dX5_fault_4 (by decide) ?_ ?_
  · refine r_aload_n g dX5_fault_9 rfl ?_
    refine r_getC (c0 := 2) g KX5 shc_0 1 rfl (by decide) w_275 dX5_fault_10 ?_
    refine r_iload_n g dX5_fault_13 rfl ?_
    refine r_aaldA (P := isRow) g 0 (fun _ => rfl) shc_2 (by decide) (by decide) dX5_fault_14 ?_
    intro q2_ hq2_
    refine r_callV_PI (q := q2_) (as := fun b => []) g (kX1_isMissing S q2_ hq2_) mX1_isMissing (shRow hq2_) rfl w_342 w_343 w_344 (by decide) (fun _ => rfl) rfl (Nat.le_of_ble_eq_true rfl) dX5_fault_15 ?_
    intro z3_
    refine r_if_eq g 27 dX5_fault_18 (by decide) ?_ ?_
    · refine r_aload_n g dX5_fault_27 rfl ?_
      refine r_getC (c0 := 7) g KX5 shc_0 6 rfl (by decide) w_280 dX5_fault_28 ?_
      refine r_aload_n g dX5_fault_31 rfl ?_
      refine r_getC (c0 := 2) g KX5 shc_0 1 rfl (by decide) w_275 dX5_fault_32 ?_
      refine r_iload_n g dX5_fault_35 rfl ?_
      refine r_aaldA (P := isRow) g 0 (fun _ => rfl) shc_2 (by decide) (by decide) dX5_fault_36 ?_
      intro q4_ hq4_
      refine r_callV_WI (q := 7) (as := fun b => [.ref (b + q4_)]) g (kX0_read S q4_ hq4_) mX0_read shc_7 rfl w_384 w_385 w_386 (by decide) (fun _ => rfl) rfl (Nat.le_of_ble_eq_true rfl) dX5_fault_37 ?_
      intro z5_ S6_
      exact r_iret g dX5_fault_40 rfl rfl
    · refine r_aload_n g dX5_fault_21 rfl ?_
      refine r_iconst g dX5_fault_22 ?_
      refine r_callV_WI (q := 0) (as := fun b => [vi 1]) g (kX5_found S 1) mX5_found shc_0 rfl w_327 w_329 w_0 (by decide) (fun _ => rfl) rfl (Nat.le_of_ble_eq_true rfl) dX5_fault_23 ?_
      intro z7_ S8_
      exact r_iret g dX5_fault_26 rfl rfl
  · refine r_iconst g dX5_fault_7 ?_
    exact r_iret g dX5_fault_8 rfl rfl
theorem kX5_isStuff (S : St) (x0 : Int)  : Con yX5_isStuff cX5_isStuff 1 (some .boolean) { frames := 1, cells := 0, slots := 0, locals := 22 } false SHC (SHC, 0, 0) (fun b => [vi x0]) S (fun _ => oI) (fun _ => S) (pX5_isStuff x0) := by
  refine Con_of (fun b => [some (vi x0)]) (by decide) (fun _ => rfl) (fun _ => Nat.le_of_ble_eq_true rfl) ?_
  intro G g _ _ _
  change Ok G cX5_isStuff RX5 1 { frames := 1, cells := 0, slots := 0, locals := 22 } (some .boolean) at g
  show Rg G oI (fun _ => S) (SHC, 0, 0) (SHC, 0, 0) S 0 [some (vi x0)] [] (pX5_isStuff x0)
  unfold pX5_isStuff
  refine r_iload_n g dX5_isStuff_0 rfl ?_
  refine r_iconst g dX5_isStuff_1 ?_
  refine r_iconst g dX5_isStuff_2 ?_
  refine r_callS_PI g (kX5_within S x0 0 5) mX5_within w_324 w_325 (by decide) (fun _ => rfl) rfl (Nat.le_of_ble_eq_true rfl) dX5_isStuff_3 ?_
  intro z1_
  exact r_zret g dX5_isStuff_6 rfl rfl
theorem kX5_stuff (S : St) (x1 : Int) (x2 : Int)  : Con yX5_stuff cX5_stuff 3 (some .int) { frames := 6, cells := 0, slots := 0, locals := 129 } false SHC (SHC, 0, 0) (fun b => [.ref (b + 0), vi x1, vi x2]) S (fun _ => oIS) (fun v => v.2) (pX5_stuff S x1 x2) := by
  refine Con_of (fun b => [some (.ref (b + 0)), some (vi x1), some (vi x2)]) (by decide) (fun _ => rfl) (fun _ => Nat.le_of_ble_eq_true rfl) ?_
  intro G g _ _ _
  change Ok G cX5_stuff RX5 3 { frames := 6, cells := 0, slots := 0, locals := 129 } (some .int) at g
  show Rg G oIS (fun v => v.2) (SHC, 0, 0) (SHC, 0, 0) S 0 [some (vr G 0), some (vi x1), some (vi x2)] [] (pX5_stuff S x1 x2)
  unfold pX5_stuff
  refine r_iload_n g dX5_stuff_0 rfl ?_
  refine r_callS_PI g (kX5_isStuff S x1) mX5_isStuff w_435 w_436 (by decide) (fun _ => rfl) rfl (Nat.le_of_ble_eq_true rfl) dX5_stuff_1 ?_
  intro z1_
  refine r_if_eq g 14 dX5_stuff_4 (by decide) ?_ ?_
  · refine r_iconst g dX5_stuff_14 ?_
    exact r_iret g dX5_stuff_15 rfl rfl
  · refine r_iload_n g dX5_stuff_7 rfl ?_
    refine r_callS_PI g (kX5_isText S x2) mX5_isText w_373 w_374 (by decide) (fun _ => rfl) rfl (Nat.le_of_ble_eq_true rfl) dX5_stuff_8 ?_
    intro z2_
    refine r_if_ne g 16 dX5_stuff_11 (by decide) ?_ ?_
    · refine r_aload_n g dX5_stuff_16 rfl ?_
      refine r_getC (c0 := 2) g KX5 shc_0 1 rfl (by decide) w_275 dX5_stuff_17 ?_
      refine r_iload_n g dX5_stuff_20 rfl ?_
      refine r_aaldA (P := isRow) g 0 (fun _ => rfl) shc_2 (by decide) (by decide) dX5_stuff_21 ?_
      intro q3_ hq3_
      refine r_callV_PI (q := q3_) (as := fun b => []) g (kX1_isMissing S q3_ hq3_) mX1_isMissing (shRow hq3_) rfl w_342 w_343 w_344 (by decide) (fun _ => rfl) rfl (Nat.le_of_ble_eq_true rfl) dX5_stuff_22 ?_
      intro z4_
      refine r_if_eq g 34 dX5_stuff_25 (by decide) ?_ ?_
      · refine r_aload_n g dX5_stuff_34 rfl ?_
        refine r_getC (c0 := 7) g KX5 shc_0 6 rfl (by decide) w_280 dX5_stuff_35 ?_
        refine r_aload_n g dX5_stuff_38 rfl ?_
        refine r_getC (c0 := 2) g KX5 shc_0 1 rfl (by decide) w_275 dX5_stuff_39 ?_
        refine r_iload_n g dX5_stuff_42 rfl ?_
        refine r_aaldA (P := isRow) g 0 (fun _ => rfl) shc_2 (by decide) (by decide) dX5_stuff_43 ?_
        intro q5_ hq5_
        refine r_callV_WI (q := 7) (as := fun b => [.ref (b + q5_)]) g (kX0_read S q5_ hq5_) mX0_read shc_7 rfl w_384 w_385 w_386 (by decide) (fun _ => rfl) rfl (Nat.le_of_ble_eq_true rfl) dX5_stuff_44 ?_
        intro z6_ S7_
        refine r_bipush g dX5_stuff_47 (by decide) ?_
        refine r_icmp_eq g 55 dX5_stuff_49 (by decide) ?_ ?_
        · refine r_aload_n g dX5_stuff_55 rfl ?_
          refine r_getC (c0 := 3) g KX5 shc_0 2 rfl (by decide) w_276 dX5_stuff_56 ?_
          refine r_iload_n g dX5_stuff_59 rfl ?_
          refine r_aaldA (P := isStf) g 1 (fun _ => rfl) shc_3 (by decide) (by decide) dX5_stuff_60 ?_
          intro q8_ hq8_
          refine r_aload_n g dX5_stuff_61 rfl ?_
          refine r_getC (c0 := 7) g KX5 shc_0 6 rfl (by decide) w_280 dX5_stuff_62 ?_
          refine r_getC (c0 := 8) g KX0 shc_7 0 rfl (by decide) w_171 dX5_stuff_65 ?_
          refine r_callV_WV (q := q8_) (as := fun b => [.ref (b + 8)]) g (kX3_become S7_ q8_ 8 hq8_ (by decide)) mX3_become (shStf hq8_) rfl w_438 w_439 w_440 (by decide) (fun _ => rfl) rfl (Nat.le_of_ble_eq_true rfl) dX5_stuff_68 ?_
          intro S9_
          refine r_aload_n g dX5_stuff_71 rfl ?_
          refine r_getC (c0 := 3) g KX5 shc_0 2 rfl (by decide) w_276 dX5_stuff_72 ?_
          refine r_iload_n g dX5_stuff_75 rfl ?_
          refine r_aaldA (P := isStf) g 1 (fun _ => rfl) shc_3 (by decide) (by decide) dX5_stuff_76 ?_
          intro q10_ hq10_
          refine r_getI g KX3 (shStf hq10_) 2 rfl (by decide) w_119 dX5_stuff_77 ?_
          exact r_iret g dX5_stuff_80 rfl rfl
        · refine r_bipush g dX5_stuff_52 (by decide) ?_
          exact r_iret g dX5_stuff_54 rfl rfl
      · refine r_aload_n g dX5_stuff_28 rfl ?_
        refine r_iconst g dX5_stuff_29 ?_
        refine r_callV_WI (q := 0) (as := fun b => [vi 1]) g (kX5_found S 1) mX5_found shc_0 rfl w_327 w_329 w_0 (by decide) (fun _ => rfl) rfl (Nat.le_of_ble_eq_true rfl) dX5_stuff_30 ?_
        intro z11_ S12_
        exact r_iret g dX5_stuff_33 rfl rfl
    · refine r_iconst g dX5_stuff_14 ?_
      exact r_iret g dX5_stuff_15 rfl rfl
theorem kX5_about (S : St) (x1 : Int) (x2 : Int)  : Con yX5_about cX5_about 3 (some .int) { frames := 2, cells := 0, slots := 0, locals := 43 } false SHC (SHC, 0, 0) (fun b => [.ref (b + 0), vi x1, vi x2]) S (fun _ => oIS) (fun v => v.2) (pX5_about S x1 x2) := by
  refine Con_of (fun b => [some (.ref (b + 0)), some (vi x1), some (vi x2)]) (by decide) (fun _ => rfl) (fun _ => Nat.le_of_ble_eq_true rfl) ?_
  intro G g _ _ _
  change Ok G cX5_about RX5 3 { frames := 2, cells := 0, slots := 0, locals := 43 } (some .int) at g
  show Rg G oIS (fun v => v.2) (SHC, 0, 0) (SHC, 0, 0) S 0 [some (vr G 0), some (vi x1), some (vi x2)] [] (pX5_about S x1 x2)
  unfold pX5_about
  refine r_iload_n g dX5_about_0 rfl ?_
  refine r_callS_PI g (kX5_isStuff S x1) mX5_isStuff w_435 w_436 (by decide) (fun _ => rfl) rfl (Nat.le_of_ble_eq_true rfl) dX5_about_1 ?_
  intro z1_
  refine r_if_eq g 16 dX5_about_4 (by decide) ?_ ?_
  · refine r_iconst g dX5_about_16 ?_
    exact r_iret g dX5_about_17 rfl rfl
  · refine r_iload_n g dX5_about_7 rfl ?_
    refine r_iconst g dX5_about_8 ?_
    refine r_iconst g dX5_about_9 ?_
    refine r_callS_PI g (kX5_within S x2 0 4) mX5_within w_324 w_325 (by decide) (fun _ => rfl) rfl (Nat.le_of_ble_eq_true rfl) dX5_about_10 ?_
    intro z2_
    refine r_if_ne g 18 dX5_about_13 (by decide) ?_ ?_
    · refine r_aload_n g dX5_about_18 rfl ?_
      refine r_getC (c0 := 3) g KX5 shc_0 2 rfl (by decide) w_276 dX5_about_19 ?_
      refine r_iload_n g dX5_about_22 rfl ?_
      refine r_aaldA (P := isStf) g 1 (fun _ => rfl) shc_3 (by decide) (by decide) dX5_about_23 ?_
      intro q3_ hq3_
      refine r_callV_PI (q := q3_) (as := fun b => []) g (kX3_isMissing S q3_ hq3_) mX3_isMissing (shStf hq3_) rfl w_446 w_428 w_429 (by decide) (fun _ => rfl) rfl (Nat.le_of_ble_eq_true rfl) dX5_about_24 ?_
      intro z4_
      refine r_if_eq g 36 dX5_about_27 (by decide) ?_ ?_
      · refine r_aload_n g dX5_about_36 rfl ?_
        refine r_aload_n g dX5_about_37 rfl ?_
        refine r_getC (c0 := 3) g KX5 shc_0 2 rfl (by decide) w_276 dX5_about_38 ?_
        refine r_iload_n g dX5_about_41 rfl ?_
        refine r_aaldA (P := isStf) g 1 (fun _ => rfl) shc_3 (by decide) (by decide) dX5_about_42 ?_
        intro q5_ hq5_
        refine r_iload_n g dX5_about_43 rfl ?_
        refine r_callV_PI (q := q5_) (as := fun b => [vi x2]) g (kX3_tells S q5_ x2 hq5_) mX3_tells (shStf hq5_) rfl w_447 w_448 w_449 (by decide) (fun _ => rfl) rfl (Nat.le_of_ble_eq_true rfl) dX5_about_44 ?_
        intro z6_
        refine r_putI g KX5 shc_0 11 rfl (by decide) rfl rfl w_285 dX5_about_47 ?_
        intro S7_ _
        refine r_iconst g dX5_about_50 ?_
        exact r_iret g dX5_about_51 rfl rfl
      · refine r_aload_n g dX5_about_30 rfl ?_
        refine r_iconst g dX5_about_31 ?_
        refine r_callV_WI (q := 0) (as := fun b => [vi 1]) g (kX5_found S 1) mX5_found shc_0 rfl w_327 w_329 w_0 (by decide) (fun _ => rfl) rfl (Nat.le_of_ble_eq_true rfl) dX5_about_32 ?_
        intro z8_ S9_
        exact r_iret g dX5_about_35 rfl rfl
    · refine r_iconst g dX5_about_16 ?_
      exact r_iret g dX5_about_17 rfl rfl
theorem kX5_tell (S : St) (x1 : Int) (x3 : Int)  : Con yX5_tell cX5_tell 7 none { frames := 1, cells := 0, slots := 0, locals := 30 } false SHC (SHC, 0, 0) (fun b => [.ref (b + 0), vl x1, vl x3]) S (fun _ => oVS) id (pX5_tell S x1 x3) := by
  refine Con_of (fun b => [some (.ref (b + 0)), some (vl x1), none, some (vl x3), none, none, none]) (by decide) (fun _ => rfl) (fun _ => Nat.le_of_ble_eq_true rfl) ?_
  intro G g _ _ _
  change Ok G cX5_tell RX5 7 { frames := 1, cells := 0, slots := 0, locals := 30 } none at g
  show Rg G oVS id (SHC, 0, 0) (SHC, 0, 0) S 0 [some (vr G 0), some (vl x1), none, some (vl x3), none, none, none] [] (pX5_tell S x1 x3)
  unfold pX5_tell
  refine r_lconst (x := 1) g dX5_tell_0 (by decide) ?_
  refine r_lload_n g dX5_tell_1 rfl ?_
  refine r_lload_n g dX5_tell_2 rfl ?_
  refine r_callS_PL g (kX5_commonDivisor S x1 x3) mX5_commonDivisor w_478 w_479 (by decide) (fun _ => rfl) rfl (Nat.le_of_ble_eq_true rfl) dX5_tell_3 ?_
  intro z1_
  refine rJ9_max_f86c9 g w_481 w_482 w_77 w_483 ⟨by decide, Nat.le_of_ble_eq_true rfl⟩ dX5_tell_6 ?_
  intro z2_
  refine r_lstore g dX5_tell_9 (by decide) rfl ?_
  refine r_aload_n g dX5_tell_11 rfl ?_
  refine r_lload_n g dX5_tell_12 rfl ?_
  refine r_lload g dX5_tell_13 rfl ?_
  refine r_ldiv g dX5_tell_15 ?_
  intro z3_
  refine r_putL g KX5 shc_0 12 rfl (by decide) rfl rfl w_286 dX5_tell_16 ?_
  intro S4_ _
  refine r_aload_n g dX5_tell_19 rfl ?_
  refine r_lload_n g dX5_tell_20 rfl ?_
  refine r_lload g dX5_tell_21 rfl ?_
  refine r_ldiv g dX5_tell_23 ?_
  intro z5_
  refine r_putL g KX5 shc_0 13 rfl (by decide) rfl rfl w_287 dX5_tell_24 ?_
  intro S6_ _
  exact r_vret g dX5_tell_27 rfl rfl
theorem kX5_push (S : St) (x1 : Int) (x2 : Int)  : Con yX5_push cX5_push 3 (some .int) { frames := 3, cells := 0, slots := 0, locals := 67 } false SHC (SHC, 0, 0) (fun b => [.ref (b + 0), vi x1, vi x2]) S (fun _ => oIS) (fun v => v.2) (pX5_push S x1 x2) := by
  refine Con_of (fun b => [some (.ref (b + 0)), some (vi x1), some (vi x2)]) (by decide) (fun _ => rfl) (fun _ => Nat.le_of_ble_eq_true rfl) ?_
  intro G g _ _ _
  change Ok G cX5_push RX5 3 { frames := 3, cells := 0, slots := 0, locals := 67 } (some .int) at g
  show Rg G oIS (fun v => v.2) (SHC, 0, 0) (SHC, 0, 0) S 0 [some (vr G 0), some (vi x1), some (vi x2)] [] (pX5_push S x1 x2)
  unfold pX5_push
  refine r_iload_n g dX5_push_0 rfl ?_
  refine r_callS_PI g (kX5_isStuff S x1) mX5_isStuff w_435 w_436 (by decide) (fun _ => rfl) rfl (Nat.le_of_ble_eq_true rfl) dX5_push_1 ?_
  intro z1_
  refine r_if_eq g 17 dX5_push_4 (by decide) ?_ ?_
  · refine r_iconst g dX5_push_17 ?_
    exact r_iret g dX5_push_18 rfl rfl
  · refine r_iload_n g dX5_push_7 rfl ?_
    refine r_iconst g dX5_push_8 ?_
    refine r_bipush g dX5_push_9 (by decide) ?_
    refine r_callS_PI g (kX5_within S x2 0 99) mX5_within w_324 w_325 (by decide) (fun _ => rfl) rfl (Nat.le_of_ble_eq_true rfl) dX5_push_11 ?_
    intro z2_
    refine r_if_ne g 19 dX5_push_14 (by decide) ?_ ?_
    · refine r_aload_n g dX5_push_19 rfl ?_
      refine r_getC (c0 := 3) g KX5 shc_0 2 rfl (by decide) w_276 dX5_push_20 ?_
      refine r_iload_n g dX5_push_23 rfl ?_
      refine r_aaldA (P := isStf) g 1 (fun _ => rfl) shc_3 (by decide) (by decide) dX5_push_24 ?_
      intro q3_ hq3_
      refine r_callV_PI (q := q3_) (as := fun b => []) g (kX3_isMissing S q3_ hq3_) mX3_isMissing (shStf hq3_) rfl w_446 w_428 w_429 (by decide) (fun _ => rfl) rfl (Nat.le_of_ble_eq_true rfl) dX5_push_25 ?_
      intro z4_
      refine r_if_eq g 37 dX5_push_28 (by decide) ?_ ?_
      · refine r_aload_n g dX5_push_37 rfl ?_
        refine r_aload_n g dX5_push_38 rfl ?_
        refine r_getC (c0 := 3) g KX5 shc_0 2 rfl (by decide) w_276 dX5_push_39 ?_
        refine r_iload_n g dX5_push_42 rfl ?_
        refine r_aaldA (P := isStf) g 1 (fun _ => rfl) shc_3 (by decide) (by decide) dX5_push_43 ?_
        intro q5_ hq5_
        refine r_iload_n g dX5_push_44 rfl ?_
        refine r_callV_PL (q := q5_) (as := fun b => [vi x2]) g (kX3_scaledPush S q5_ x2 hq5_) mX3_scaledPush (shStf hq5_) rfl w_455 w_456 w_457 (by decide) (fun _ => rfl) rfl (Nat.le_of_ble_eq_true rfl) dX5_push_45 ?_
        intro z6_
        refine r_ldc2 (x := 232792560) g dX5_push_48 w_473 (by decide) ?_
        refine r_callV_WV (q := 0) (as := fun b => [vl z6_, vl 232792560]) g (kX5_tell S z6_ 232792560) mX5_tell shc_0 rfl w_474 w_476 w_7 (by decide) (fun _ => rfl) rfl (Nat.le_of_ble_eq_true rfl) dX5_push_51 ?_
        intro S7_
        refine r_iconst g dX5_push_54 ?_
        exact r_iret g dX5_push_55 rfl rfl
      · refine r_aload_n g dX5_push_31 rfl ?_
        refine r_iconst g dX5_push_32 ?_
        refine r_callV_WI (q := 0) (as := fun b => [vi 1]) g (kX5_found S 1) mX5_found shc_0 rfl w_327 w_329 w_0 (by decide) (fun _ => rfl) rfl (Nat.le_of_ble_eq_true rfl) dX5_push_33 ?_
        intro z8_ S9_
        exact r_iret g dX5_push_36 rfl rfl
    · refine r_iconst g dX5_push_17 ?_
      exact r_iret g dX5_push_18 rfl rfl
theorem tX5_seal_95 {G : Gx}  {S : St} {x4 : Int} {x5 : Int} {s0 : Int} {s1 : Int} {qs2 : Nat} (g : Ok G cX5_seal RX5 6 { frames := 2, cells := 0, slots := 0, locals := 43 } (some .int))  (hqs2 : isSeal qs2 = true) : Rg G oIS (fun v => v.2) (SHC, 0, 0) (SHC, 0, 0) S 95 [none, none, none, none, some (vi x4), some (vi x5)] [vi s0, vi s1, vr G qs2] (pX5_seal_95 S x4 x5 s0 s1 qs2) := by
  unfold pX5_seal_95
  refine r_iload g dX5_seal_95 rfl ?_
  refine r_iload g dX5_seal_97 rfl ?_
  refine r_callV_WV (q := qs2) (as := fun b => [vi s1, vi s0, vi x4, vi x5]) g (kX2_become S qs2 s1 s0 x4 x5 hqs2) mX2_become (shSeal hqs2) rfl w_491 w_492 w_493 (by decide) (fun _ => rfl) rfl (Nat.le_of_ble_eq_true rfl) dX5_seal_99 ?_
  intro S6_
  refine r_iconst g dX5_seal_102 ?_
  exact r_iret g dX5_seal_103 rfl rfl
theorem tX5_seal_79 {G : Gx}  {S : St} {x1 : Int} {x2 : Int} {x3 : Int} {x4 : Int} {x5 : Int} (g : Ok G cX5_seal RX5 6 { frames := 2, cells := 0, slots := 0, locals := 43 } (some .int))   : Rg G oIS (fun v => v.2) (SHC, 0, 0) (SHC, 0, 0) S 79 [some (vr G 0), some (vi x1), some (vi x2), some (vi x3), some (vi x4), some (vi x5)] [] (pX5_seal_79 S x1 x2 x3 x4 x5) := by
  unfold pX5_seal_79
  refine r_aload_n g dX5_seal_79 rfl ?_
  refine r_getC (c0 := 4) g KX5 shc_0 3 rfl (by decide) w_277 dX5_seal_80 ?_
  refine r_iload_n g dX5_seal_83 rfl ?_
  refine r_aaldA (P := isSeal) g 2 (fun _ => rfl) shc_4 (by decide) (by decide) dX5_seal_84 ?_
  intro q5_ hq5_
  refine r_iload_n g dX5_seal_85 rfl ?_
  refine r_iload_n g dX5_seal_86 rfl ?_
  refine r_if_ne g 94 dX5_seal_87 (by decide) ?_ ?_
  · refine r_iload_n g dX5_seal_94 rfl ?_
    refine r_msk [false, false, false, false, true, true] rfl ?_
    exact tX5_seal_95 g hq5_
  · refine r_iconst g dX5_seal_90 ?_
    refine r_goto g 95 dX5_seal_91 (by decide) ?_
    refine r_msk [false, false, false, false, true, true] rfl ?_
    exact tX5_seal_95 g hq5_
theorem tX5_seal_57 {G : Gx}  {S : St} {x1 : Int} {x2 : Int} {x3 : Int} {x4 : Int} {x5 : Int} (g : Ok G cX5_seal RX5 6 { frames := 2, cells := 0, slots := 0, locals := 43 } (some .int))   : Rg G oIS (fun v => v.2) (SHC, 0, 0) (SHC, 0, 0) S 57 [some (vr G 0), some (vi x1), some (vi x2), some (vi x3), some (vi x4), some (vi x5)] [] (pX5_seal_57 S x1 x2 x3 x4 x5) := by
  unfold pX5_seal_57
  refine r_iload_n g dX5_seal_57 rfl ?_
  refine r_if_eq g 79 dX5_seal_58 (by decide) ?_ ?_
  · exact tX5_seal_79 g
  · refine r_aload_n g dX5_seal_61 rfl ?_
    refine r_getC (c0 := 3) g KX5 shc_0 2 rfl (by decide) w_276 dX5_seal_62 ?_
    refine r_iload_n g dX5_seal_65 rfl ?_
    refine r_aaldA (P := isStf) g 1 (fun _ => rfl) shc_3 (by decide) (by decide) dX5_seal_66 ?_
    intro q7_ hq7_
    refine r_callV_PI (q := q7_) (as := fun b => []) g (kX3_isMissing S q7_ hq7_) mX3_isMissing (shStf hq7_) rfl w_446 w_428 w_429 (by decide) (fun _ => rfl) rfl (Nat.le_of_ble_eq_true rfl) dX5_seal_67 ?_
    intro z8_
    refine r_if_eq g 79 dX5_seal_70 (by decide) ?_ ?_
    · exact tX5_seal_79 g
    · refine r_aload_n g dX5_seal_73 rfl ?_
      refine r_iconst g dX5_seal_74 ?_
      refine r_callV_WI (q := 0) (as := fun b => [vi 1]) g (kX5_found S 1) mX5_found shc_0 rfl w_327 w_329 w_0 (by decide) (fun _ => rfl) rfl (Nat.le_of_ble_eq_true rfl) dX5_seal_75 ?_
      intro z9_ S10_
      exact r_iret g dX5_seal_78 rfl rfl
theorem kX5_seal (S : St) (x1 : Int) (x2 : Int) (x3 : Int) (x4 : Int) (x5 : Int)  : Con yX5_seal cX5_seal 6 (some .int) { frames := 2, cells := 0, slots := 0, locals := 43 } false SHC (SHC, 0, 0) (fun b => [.ref (b + 0), vi x1, vi x2, vi x3, vi x4, vi x5]) S (fun _ => oIS) (fun v => v.2) (pX5_seal S x1 x2 x3 x4 x5) := by
  refine Con_of (fun b => [some (.ref (b + 0)), some (vi x1), some (vi x2), some (vi x3), some (vi x4), some (vi x5)]) (by decide) (fun _ => rfl) (fun _ => Nat.le_of_ble_eq_true rfl) ?_
  intro G g _ _ _
  change Ok G cX5_seal RX5 6 { frames := 2, cells := 0, slots := 0, locals := 43 } (some .int) at g
  show Rg G oIS (fun v => v.2) (SHC, 0, 0) (SHC, 0, 0) S 0 [some (vr G 0), some (vi x1), some (vi x2), some (vi x3), some (vi x4), some (vi x5)] [] (pX5_seal S x1 x2 x3 x4 x5)
  unfold pX5_seal
  refine r_iload_n g dX5_seal_0 rfl ?_
  refine r_callS_PI g (kX5_isPlace S x1) mX5_isPlace w_488 w_489 (by decide) (fun _ => rfl) rfl (Nat.le_of_ble_eq_true rfl) dX5_seal_1 ?_
  intro z1_
  refine r_if_eq g 16 dX5_seal_4 (by decide) ?_ ?_
  · refine r_iconst g dX5_seal_16 ?_
    exact r_iret g dX5_seal_17 rfl rfl
  · refine r_iload_n g dX5_seal_7 rfl ?_
    refine r_iconst g dX5_seal_8 ?_
    refine r_iconst g dX5_seal_9 ?_
    refine r_callS_PI g (kX5_within S x2 0 4) mX5_within w_324 w_325 (by decide) (fun _ => rfl) rfl (Nat.le_of_ble_eq_true rfl) dX5_seal_10 ?_
    intro z2_
    refine r_if_ne g 18 dX5_seal_13 (by decide) ?_ ?_
    · refine r_iload g dX5_seal_18 rfl ?_
      refine r_bipush g dX5_seal_20 (by decide) ?_
      refine r_sipush g dX5_seal_22 (by decide) ?_
      refine r_callS_PI g (kX5_within S x4 50 400) mX5_within w_324 w_325 (by decide) (fun _ => rfl) rfl (Nat.le_of_ble_eq_true rfl) dX5_seal_25 ?_
      intro z3_
      refine r_if_eq g 42 dX5_seal_28 (by decide) ?_ ?_
      · refine r_iconst g dX5_seal_42 ?_
        exact r_iret g dX5_seal_43 rfl rfl
      · refine r_iload g dX5_seal_31 rfl ?_
        refine r_iconst g dX5_seal_33 ?_
        refine r_bipush g dX5_seal_34 (by decide) ?_
        refine r_callS_PI g (kX5_within S x5 1 9) mX5_within w_324 w_325 (by decide) (fun _ => rfl) rfl (Nat.le_of_ble_eq_true rfl) dX5_seal_36 ?_
        intro z4_
        refine r_if_ne g 44 dX5_seal_39 (by decide) ?_ ?_
        · refine r_iload_n g dX5_seal_44 rfl ?_
          refine r_if_eq g 57 dX5_seal_45 (by decide) ?_ ?_
          · exact tX5_seal_57 g
          · refine r_iload_n g dX5_seal_48 rfl ?_
            refine r_callS_PI g (kX5_isStuff S x3) mX5_isStuff w_435 w_436 (by decide) (fun _ => rfl) rfl (Nat.le_of_ble_eq_true rfl) dX5_seal_49 ?_
            intro z11_
            refine r_if_ne g 57 dX5_seal_52 (by decide) ?_ ?_
            · exact tX5_seal_57 g
            · refine r_iconst g dX5_seal_55 ?_
              exact r_iret g dX5_seal_56 rfl rfl
        · refine r_iconst g dX5_seal_42 ?_
          exact r_iret g dX5_seal_43 rfl rfl
    · refine r_iconst g dX5_seal_16 ?_
      exact r_iret g dX5_seal_17 rfl rfl
theorem kX5_take (S : St) (x1 : Int)  : Con yX5_take cX5_take 2 (some .int) { frames := 2, cells := 0, slots := 0, locals := 43 } false SHC (SHC, 0, 0) (fun b => [.ref (b + 0), vi x1]) S (fun _ => oIS) (fun v => v.2) (pX5_take S x1) := by
  refine Con_of (fun b => [some (.ref (b + 0)), some (vi x1)]) (by decide) (fun _ => rfl) (fun _ => Nat.le_of_ble_eq_true rfl) ?_
  intro G g _ _ _
  change Ok G cX5_take RX5 2 { frames := 2, cells := 0, slots := 0, locals := 43 } (some .int) at g
  show Rg G oIS (fun v => v.2) (SHC, 0, 0) (SHC, 0, 0) S 0 [some (vr G 0), some (vi x1)] [] (pX5_take S x1)
  unfold pX5_take
  refine r_iload_n g dX5_take_0 rfl ?_
  refine r_callS_PI g (kX5_isPlace S x1) mX5_isPlace w_488 w_489 (by decide) (fun _ => rfl) rfl (Nat.le_of_ble_eq_true rfl) dX5_take_1 ?_
  intro z1_
  refine r_if_ne g 9 dX5_take_4 (by decide) ?_ ?_
  · refine r_aload_n g dX5_take_9 rfl ?_
    refine r_getC (c0 := 4) g KX5 shc_0 3 rfl (by decide) w_277 dX5_take_10 ?_
    refine r_iload_n g dX5_take_13 rfl ?_
    refine r_aaldA (P := isSeal) g 2 (fun _ => rfl) shc_4 (by decide) (by decide) dX5_take_14 ?_
    intro q2_ hq2_
    refine r_callV_PI (q := q2_) (as := fun b => []) g (kX2_isMissing S q2_ hq2_) mX2_isMissing (shSeal hq2_) rfl w_499 w_500 w_501 (by decide) (fun _ => rfl) rfl (Nat.le_of_ble_eq_true rfl) dX5_take_15 ?_
    intro z3_
    refine r_if_eq g 27 dX5_take_18 (by decide) ?_ ?_
    · refine r_aload_n g dX5_take_27 rfl ?_
      refine r_getC (c0 := 4) g KX5 shc_0 3 rfl (by decide) w_277 dX5_take_28 ?_
      refine r_iload_n g dX5_take_31 rfl ?_
      refine r_aaldA (P := isSeal) g 2 (fun _ => rfl) shc_4 (by decide) (by decide) dX5_take_32 ?_
      intro q4_ hq4_
      refine r_iconst g dX5_take_33 ?_
      refine r_putI g KX2 (shSeal hq4_) 0 rfl (by decide) rfl rfl w_244 dX5_take_34 ?_
      intro S5_ _
      refine r_iconst g dX5_take_37 ?_
      exact r_iret g dX5_take_38 rfl rfl
    · refine r_aload_n g dX5_take_21 rfl ?_
      refine r_iconst g dX5_take_22 ?_
      refine r_callV_WI (q := 0) (as := fun b => [vi 1]) g (kX5_found S 1) mX5_found shc_0 rfl w_327 w_329 w_0 (by decide) (fun _ => rfl) rfl (Nat.le_of_ble_eq_true rfl) dX5_take_23 ?_
      intro z6_ S7_
      exact r_iret g dX5_take_26 rfl rfl
  · refine r_iconst g dX5_take_7 ?_
    exact r_iret g dX5_take_8 rfl rfl
theorem kX5_depth (S : St) (x1 : Int) (x2 : Int)  : Con yX5_depth cX5_depth 4 (some .int) { frames := 2, cells := 0, slots := 0, locals := 42 } false SHC (SHC, 0, 0) (fun b => [.ref (b + 0), vi x1, vi x2]) S (fun _ => oIS) (fun v => v.2) (pX5_depth S x1 x2) := by
  refine Con_of (fun b => [some (.ref (b + 0)), some (vi x1), some (vi x2), none]) (by decide) (fun _ => rfl) (fun _ => Nat.le_of_ble_eq_true rfl) ?_
  intro G g _ _ _
  change Ok G cX5_depth RX5 4 { frames := 2, cells := 0, slots := 0, locals := 42 } (some .int) at g
  show Rg G oIS (fun v => v.2) (SHC, 0, 0) (SHC, 0, 0) S 0 [some (vr G 0), some (vi x1), some (vi x2), none] [] (pX5_depth S x1 x2)
  unfold pX5_depth
  refine r_iload_n g dX5_depth_0 rfl ?_
  refine r_callS_PI g (kX5_isPlace S x1) mX5_isPlace w_488 w_489 (by decide) (fun _ => rfl) rfl (Nat.le_of_ble_eq_true rfl) dX5_depth_1 ?_
  intro z1_
  refine r_if_eq g 18 dX5_depth_4 (by decide) ?_ ?_
  · refine r_iconst g dX5_depth_18 ?_
    exact r_iret g dX5_depth_19 rfl rfl
  · refine r_iload_n g dX5_depth_7 rfl ?_
    refine r_iconst g dX5_depth_8 ?_
    refine r_sipush g dX5_depth_9 (by decide) ?_
    refine r_callS_PI g (kX5_within S x2 0 200) mX5_within w_324 w_325 (by decide) (fun _ => rfl) rfl (Nat.le_of_ble_eq_true rfl) dX5_depth_12 ?_
    intro z2_
    refine r_if_ne g 20 dX5_depth_15 (by decide) ?_ ?_
    · refine r_aload_n g dX5_depth_20 rfl ?_
      refine r_getC (c0 := 5) g KX5 shc_0 4 rfl (by decide) w_278 dX5_depth_21 ?_
      refine r_iload_n g dX5_depth_24 rfl ?_
      refine r_iald g shc_5 (by decide) dX5_depth_25 ?_
      intro z3_
      refine r_istore_n g 3 dX5_depth_26 rfl (by decide) rfl ?_
      refine r_aload_n g dX5_depth_27 rfl ?_
      refine r_getC (c0 := 5) g KX5 shc_0 4 rfl (by decide) w_278 dX5_depth_28 ?_
      refine r_iload_n g dX5_depth_31 rfl ?_
      refine r_iload_n g dX5_depth_32 rfl ?_
      refine r_iast g shc_5 (by decide) dX5_depth_33 ?_
      intro S4_
      refine r_iload_n g dX5_depth_34 rfl ?_
      exact r_iret g dX5_depth_35 rfl rfl
    · refine r_iconst g dX5_depth_18 ?_
      exact r_iret g dX5_depth_19 rfl rfl
theorem kX5_missed (S : St) (x1 : Int) (x2 : Int)  : Con yX5_missed cX5_missed 3 (some .int) { frames := 2, cells := 0, slots := 0, locals := 42 } false SHC (SHC, 0, 0) (fun b => [.ref (b + 0), vi x1, vi x2]) S (fun _ => oI) (fun _ => S) (pX5_missed S x1 x2) := by
  refine Con_of (fun b => [some (.ref (b + 0)), some (vi x1), some (vi x2)]) (by decide) (fun _ => rfl) (fun _ => Nat.le_of_ble_eq_true rfl) ?_
  intro G g _ _ _
  change Ok G cX5_missed RX5 3 { frames := 2, cells := 0, slots := 0, locals := 42 } (some .int) at g
  show Rg G oI (fun _ => S) (SHC, 0, 0) (SHC, 0, 0) S 0 [some (vr G 0), some (vi x1), some (vi x2)] [] (pX5_missed S x1 x2)
  unfold pX5_missed
  refine r_iload_n g dX5_missed_0 rfl ?_
  refine r_callS_PI g (kX5_isPlace S x1) mX5_isPlace w_488 w_489 (by decide) (fun _ => rfl) rfl (Nat.le_of_ble_eq_true rfl) dX5_missed_1 ?_
  intro z1_
  refine r_if_eq g 19 dX5_missed_4 (by decide) ?_ ?_
  · refine r_iconst g dX5_missed_19 ?_
    exact r_iret g dX5_missed_20 rfl rfl
  · refine r_aload_n g dX5_missed_7 rfl ?_
    refine r_getC (c0 := 4) g KX5 shc_0 3 rfl (by decide) w_277 dX5_missed_8 ?_
    refine r_iload_n g dX5_missed_11 rfl ?_
    refine r_aaldA (P := isSeal) g 2 (fun _ => rfl) shc_4 (by decide) (by decide) dX5_missed_12 ?_
    intro q2_ hq2_
    refine r_callV_PI (q := q2_) (as := fun b => []) g (kX2_isMissing S q2_ hq2_) mX2_isMissing (shSeal hq2_) rfl w_499 w_500 w_501 (by decide) (fun _ => rfl) rfl (Nat.le_of_ble_eq_true rfl) dX5_missed_13 ?_
    intro z3_
    refine r_if_eq g 21 dX5_missed_16 (by decide) ?_ ?_
    · refine r_aload_n g dX5_missed_21 rfl ?_
      refine r_getC (c0 := 4) g KX5 shc_0 3 rfl (by decide) w_277 dX5_missed_22 ?_
      refine r_iload_n g dX5_missed_25 rfl ?_
      refine r_aaldA (P := isSeal) g 2 (fun _ => rfl) shc_4 (by decide) (by decide) dX5_missed_26 ?_
      intro q4_ hq4_
      refine r_iload_n g dX5_missed_27 rfl ?_
      refine r_callV_PI (q := q4_) (as := fun b => [vi x2]) g (kX2_is S q4_ x2 hq4_) mX2_is (shSeal hq4_) rfl w_515 w_516 w_517 (by decide) (fun _ => rfl) rfl (Nat.le_of_ble_eq_true rfl) dX5_missed_28 ?_
      intro z5_
      refine r_if_eq g 38 dX5_missed_31 (by decide) ?_ ?_
      · refine r_iconst g dX5_missed_38 ?_
        exact r_iret g dX5_missed_39 rfl rfl
      · refine r_iconst g dX5_missed_34 ?_
        refine r_goto g 39 dX5_missed_35 (by decide) ?_
        exact r_iret g dX5_missed_39 rfl rfl
    · refine r_iconst g dX5_missed_19 ?_
      exact r_iret g dX5_missed_20 rfl rfl
theorem kX5_stretch (S : St) (x1 : Int) (x2 : Int)  : Con yX5_stretch cX5_stretch 4 (some .int) { frames := 3, cells := 0, slots := 0, locals := 64 } false SHC (SHC, 0, 0) (fun b => [.ref (b + 0), vi x1, vi x2]) S (fun _ => oIS) (fun v => v.2) (pX5_stretch S x1 x2) := by
  refine Con_of (fun b => [some (.ref (b + 0)), some (vi x1), some (vi x2), none]) (by decide) (fun _ => rfl) (fun _ => Nat.le_of_ble_eq_true rfl) ?_
  intro G g _ _ _
  change Ok G cX5_stretch RX5 4 { frames := 3, cells := 0, slots := 0, locals := 64 } (some .int) at g
  show Rg G oIS (fun v => v.2) (SHC, 0, 0) (SHC, 0, 0) S 0 [some (vr G 0), some (vi x1), some (vi x2), none] [] (pX5_stretch S x1 x2)
  unfold pX5_stretch
  refine r_iload_n g dX5_stretch_0 rfl ?_
  refine r_callS_PI g (kX5_isPlace S x1) mX5_isPlace w_488 w_489 (by decide) (fun _ => rfl) rfl (Nat.le_of_ble_eq_true rfl) dX5_stretch_1 ?_
  intro z1_
  refine r_if_eq g 17 dX5_stretch_4 (by decide) ?_ ?_
  · refine r_iconst g dX5_stretch_17 ?_
    exact r_iret g dX5_stretch_18 rfl rfl
  · refine r_iload_n g dX5_stretch_7 rfl ?_
    refine r_iconst g dX5_stretch_8 ?_
    refine r_bipush g dX5_stretch_9 (by decide) ?_
    refine r_callS_PI g (kX5_within S x2 0 40) mX5_within w_324 w_325 (by decide) (fun _ => rfl) rfl (Nat.le_of_ble_eq_true rfl) dX5_stretch_11 ?_
    intro z2_
    refine r_if_ne g 19 dX5_stretch_14 (by decide) ?_ ?_
    · refine r_aload_n g dX5_stretch_19 rfl ?_
      refine r_iload_n g dX5_stretch_20 rfl ?_
      refine r_iconst g dX5_stretch_21 ?_
      refine r_callV_PI (q := 0) (as := fun b => [vi x1, vi 2]) g (kX5_missed S x1 2) mX5_missed shc_0 rfl w_511 w_513 w_8 (by decide) (fun _ => rfl) rfl (Nat.le_of_ble_eq_true rfl) dX5_stretch_22 ?_
      intro z3_
      refine r_istore_n g 3 dX5_stretch_25 rfl (by decide) rfl ?_
      refine r_iload_n g dX5_stretch_26 rfl ?_
      refine r_if_eq g 36 dX5_stretch_27 (by decide) ?_ ?_
      · refine r_aload_n g dX5_stretch_36 rfl ?_
        refine r_getC (c0 := 4) g KX5 shc_0 3 rfl (by decide) w_277 dX5_stretch_37 ?_
        refine r_iload_n g dX5_stretch_40 rfl ?_
        refine r_aaldA (P := isSeal) g 2 (fun _ => rfl) shc_4 (by decide) (by decide) dX5_stretch_41 ?_
        intro q4_ hq4_
        refine r_iload_n g dX5_stretch_42 rfl ?_
        refine r_putI g KX2 (shSeal hq4_) 5 rfl (by decide) rfl rfl w_256 dX5_stretch_43 ?_
        intro S5_ _
        refine r_aload_n g dX5_stretch_46 rfl ?_
        refine r_getC (c0 := 4) g KX5 shc_0 3 rfl (by decide) w_277 dX5_stretch_47 ?_
        refine r_iload_n g dX5_stretch_50 rfl ?_
        refine r_aaldA (P := isSeal) g 2 (fun _ => rfl) shc_4 (by decide) (by decide) dX5_stretch_51 ?_
        intro q6_ hq6_
        refine r_aload_n g dX5_stretch_52 rfl ?_
        refine r_getC (c0 := 4) g KX5 shc_0 3 rfl (by decide) w_277 dX5_stretch_53 ?_
        refine r_iload_n g dX5_stretch_56 rfl ?_
        refine r_aaldA (P := isSeal) g 2 (fun _ => rfl) shc_4 (by decide) (by decide) dX5_stretch_57 ?_
        intro q7_ hq7_
        refine r_callV_PI (q := q7_) (as := fun b => []) g (kX2_stretchedHeight S5_ q7_ hq7_) mX2_stretchedHeight (shSeal hq7_) rfl w_519 w_520 w_521 (by decide) (fun _ => rfl) rfl (Nat.le_of_ble_eq_true rfl) dX5_stretch_58 ?_
        intro z8_
        refine r_putI g KX2 (shSeal hq6_) 3 rfl (by decide) rfl rfl w_251 dX5_stretch_61 ?_
        intro S9_ _
        refine r_aload_n g dX5_stretch_64 rfl ?_
        refine r_getC (c0 := 4) g KX5 shc_0 3 rfl (by decide) w_277 dX5_stretch_65 ?_
        refine r_iload_n g dX5_stretch_68 rfl ?_
        refine r_aaldA (P := isSeal) g 2 (fun _ => rfl) shc_4 (by decide) (by decide) dX5_stretch_69 ?_
        intro q10_ hq10_
        refine r_getI g KX2 (shSeal hq10_) 3 rfl (by decide) w_251 dX5_stretch_70 ?_
        exact r_iret g dX5_stretch_73 rfl rfl
      · refine r_aload_n g dX5_stretch_30 rfl ?_
        refine r_iload_n g dX5_stretch_31 rfl ?_
        refine r_callV_WI (q := 0) (as := fun b => [vi z3_]) g (kX5_found S z3_) mX5_found shc_0 rfl w_327 w_329 w_0 (by decide) (fun _ => rfl) rfl (Nat.le_of_ble_eq_true rfl) dX5_stretch_32 ?_
        intro z11_ S12_
        exact r_iret g dX5_stretch_35 rfl rfl
    · refine r_iconst g dX5_stretch_17 ?_
      exact r_iret g dX5_stretch_18 rfl rfl
theorem kX5_told (S : St) (x1 : Int) (x2 : Int)  : Con yX5_told cX5_told 3 (some .int) { frames := 2, cells := 0, slots := 0, locals := 43 } false SHC (SHC, 0, 0) (fun b => [.ref (b + 0), vi x1, vi x2]) S (fun _ => oIS) (fun v => v.2) (pX5_told S x1 x2) := by
  refine Con_of (fun b => [some (.ref (b + 0)), some (vi x1), some (vi x2)]) (by decide) (fun _ => rfl) (fun _ => Nat.le_of_ble_eq_true rfl) ?_
  intro G g _ _ _
  change Ok G cX5_told RX5 3 { frames := 2, cells := 0, slots := 0, locals := 43 } (some .int) at g
  show Rg G oIS (fun v => v.2) (SHC, 0, 0) (SHC, 0, 0) S 0 [some (vr G 0), some (vi x1), some (vi x2)] [] (pX5_told S x1 x2)
  unfold pX5_told
  refine r_iload_n g dX5_told_0 rfl ?_
  refine r_callS_PI g (kX5_isPlace S x1) mX5_isPlace w_488 w_489 (by decide) (fun _ => rfl) rfl (Nat.le_of_ble_eq_true rfl) dX5_told_1 ?_
  intro z1_
  refine r_if_eq g 16 dX5_told_4 (by decide) ?_ ?_
  · refine r_iconst g dX5_told_16 ?_
    exact r_iret g dX5_told_17 rfl rfl
  · refine r_iload_n g dX5_told_7 rfl ?_
    refine r_iconst g dX5_told_8 ?_
    refine r_iconst g dX5_told_9 ?_
    refine r_callS_PI g (kX5_within S x2 0 4) mX5_within w_324 w_325 (by decide) (fun _ => rfl) rfl (Nat.le_of_ble_eq_true rfl) dX5_told_10 ?_
    intro z2_
    refine r_if_ne g 18 dX5_told_13 (by decide) ?_ ?_
    · refine r_aload_n g dX5_told_18 rfl ?_
      refine r_getC (c0 := 4) g KX5 shc_0 3 rfl (by decide) w_277 dX5_told_19 ?_
      refine r_iload_n g dX5_told_22 rfl ?_
      refine r_aaldA (P := isSeal) g 2 (fun _ => rfl) shc_4 (by decide) (by decide) dX5_told_23 ?_
      intro q3_ hq3_
      refine r_callV_PI (q := q3_) (as := fun b => []) g (kX2_isMissing S q3_ hq3_) mX2_isMissing (shSeal hq3_) rfl w_499 w_500 w_501 (by decide) (fun _ => rfl) rfl (Nat.le_of_ble_eq_true rfl) dX5_told_24 ?_
      intro z4_
      refine r_if_eq g 36 dX5_told_27 (by decide) ?_ ?_
      · refine r_aload_n g dX5_told_36 rfl ?_
        refine r_iload_n g dX5_told_37 rfl ?_
        refine r_iconst g dX5_told_38 ?_
        refine r_icmp_ne g 51 dX5_told_39 (by decide) ?_ ?_
        · refine r_aload_n g dX5_told_51 rfl ?_
          refine r_getC (c0 := 4) g KX5 shc_0 3 rfl (by decide) w_277 dX5_told_52 ?_
          refine r_iload_n g dX5_told_55 rfl ?_
          refine r_aaldA (P := isSeal) g 2 (fun _ => rfl) shc_4 (by decide) (by decide) dX5_told_56 ?_
          intro q5_ hq5_
          refine r_iload_n g dX5_told_57 rfl ?_
          refine r_callV_PI (q := q5_) (as := fun b => [vi x2]) g (kX2_tells S q5_ x2 hq5_) mX2_tells (shSeal hq5_) rfl w_527 w_528 w_529 (by decide) (fun _ => rfl) rfl (Nat.le_of_ble_eq_true rfl) dX5_told_58 ?_
          intro z6_
          refine r_putI g KX5 shc_0 11 rfl (by decide) rfl rfl w_285 dX5_told_61 ?_
          intro S7_ _
          refine r_iconst g dX5_told_64 ?_
          exact r_iret g dX5_told_65 rfl rfl
        · refine r_aload_n g dX5_told_42 rfl ?_
          refine r_getC (c0 := 5) g KX5 shc_0 4 rfl (by decide) w_278 dX5_told_43 ?_
          refine r_iload_n g dX5_told_46 rfl ?_
          refine r_iald g shc_5 (by decide) dX5_told_47 ?_
          intro z8_
          refine r_goto g 61 dX5_told_48 (by decide) ?_
          refine r_putI g KX5 shc_0 11 rfl (by decide) rfl rfl w_285 dX5_told_61 ?_
          intro S9_ _
          refine r_iconst g dX5_told_64 ?_
          exact r_iret g dX5_told_65 rfl rfl
      · refine r_aload_n g dX5_told_30 rfl ?_
        refine r_iconst g dX5_told_31 ?_
        refine r_callV_WI (q := 0) (as := fun b => [vi 1]) g (kX5_found S 1) mX5_found shc_0 rfl w_327 w_329 w_0 (by decide) (fun _ => rfl) rfl (Nat.le_of_ble_eq_true rfl) dX5_told_32 ?_
        intro z10_ S11_
        exact r_iret g dX5_told_35 rfl rfl
    · refine r_iconst g dX5_told_16 ?_
      exact r_iret g dX5_told_17 rfl rfl
theorem kX5_mark (S : St) (x1 : Int) (x2 : Int)  : Con yX5_mark cX5_mark 4 (some .int) { frames := 3, cells := 0, slots := 0, locals := 64 } false SHC (SHC, 0, 0) (fun b => [.ref (b + 0), vi x1, vi x2]) S (fun _ => oIS) (fun v => v.2) (pX5_mark S x1 x2) := by
  refine Con_of (fun b => [some (.ref (b + 0)), some (vi x1), some (vi x2), none]) (by decide) (fun _ => rfl) (fun _ => Nat.le_of_ble_eq_true rfl) ?_
  intro G g _ _ _
  change Ok G cX5_mark RX5 4 { frames := 3, cells := 0, slots := 0, locals := 64 } (some .int) at g
  show Rg G oIS (fun v => v.2) (SHC, 0, 0) (SHC, 0, 0) S 0 [some (vr G 0), some (vi x1), some (vi x2), none] [] (pX5_mark S x1 x2)
  unfold pX5_mark
  refine r_iload_n g dX5_mark_0 rfl ?_
  refine r_callS_PI g (kX5_isPlace S x1) mX5_isPlace w_488 w_489 (by decide) (fun _ => rfl) rfl (Nat.le_of_ble_eq_true rfl) dX5_mark_1 ?_
  intro z1_
  refine r_if_eq g 16 dX5_mark_4 (by decide) ?_ ?_
  · refine r_iconst g dX5_mark_16 ?_
    exact r_iret g dX5_mark_17 rfl rfl
  · refine r_iload_n g dX5_mark_7 rfl ?_
    refine r_iconst g dX5_mark_8 ?_
    refine r_iconst g dX5_mark_9 ?_
    refine r_callS_PI g (kX5_within S x2 1 4) mX5_within w_324 w_325 (by decide) (fun _ => rfl) rfl (Nat.le_of_ble_eq_true rfl) dX5_mark_10 ?_
    intro z2_
    refine r_if_ne g 18 dX5_mark_13 (by decide) ?_ ?_
    · refine r_aload_n g dX5_mark_18 rfl ?_
      refine r_iload_n g dX5_mark_19 rfl ?_
      refine r_iload_n g dX5_mark_20 rfl ?_
      refine r_callV_PI (q := 0) (as := fun b => [vi x1, vi x2]) g (kX5_missed S x1 x2) mX5_missed shc_0 rfl w_511 w_513 w_8 (by decide) (fun _ => rfl) rfl (Nat.le_of_ble_eq_true rfl) dX5_mark_21 ?_
      intro z3_
      refine r_istore_n g 3 dX5_mark_24 rfl (by decide) rfl ?_
      refine r_iload_n g dX5_mark_25 rfl ?_
      refine r_if_eq g 35 dX5_mark_26 (by decide) ?_ ?_
      · refine r_aload_n g dX5_mark_35 rfl ?_
        refine r_getC (c0 := 4) g KX5 shc_0 3 rfl (by decide) w_277 dX5_mark_36 ?_
        refine r_iload_n g dX5_mark_39 rfl ?_
        refine r_aaldA (P := isSeal) g 2 (fun _ => rfl) shc_4 (by decide) (by decide) dX5_mark_40 ?_
        intro q4_ hq4_
        refine r_iload_n g dX5_mark_41 rfl ?_
        refine r_callV_PI (q := q4_) (as := fun b => [vi x2]) g (kX2_tellsAs S q4_ x2 hq4_) mX2_tellsAs (shSeal hq4_) rfl w_535 w_536 w_537 (by decide) (fun _ => rfl) rfl (Nat.le_of_ble_eq_true rfl) dX5_mark_42 ?_
        intro z5_
        exact r_iret g dX5_mark_45 rfl rfl
      · refine r_aload_n g dX5_mark_29 rfl ?_
        refine r_iload_n g dX5_mark_30 rfl ?_
        refine r_callV_WI (q := 0) (as := fun b => [vi z3_]) g (kX5_found S z3_) mX5_found shc_0 rfl w_327 w_329 w_0 (by decide) (fun _ => rfl) rfl (Nat.le_of_ble_eq_true rfl) dX5_mark_31 ?_
        intro z6_ S7_
        exact r_iret g dX5_mark_34 rfl rfl
    · refine r_iconst g dX5_mark_16 ?_
      exact r_iret g dX5_mark_17 rfl rfl
theorem kX5_let (S : St) (x1 : Int) (x2 : Int)  : Con yX5_let cX5_let 4 (some .int) { frames := 1, cells := 0, slots := 0, locals := 22 } false SHC (SHC, 0, 0) (fun b => [.ref (b + 0), vi x1, vi x2]) S (fun _ => oIS) (fun v => v.2) (pX5_let S x1 x2) := by
  refine Con_of (fun b => [some (.ref (b + 0)), some (vi x1), some (vi x2), none]) (by decide) (fun _ => rfl) (fun _ => Nat.le_of_ble_eq_true rfl) ?_
  intro G g _ _ _
  change Ok G cX5_let RX5 4 { frames := 1, cells := 0, slots := 0, locals := 22 } (some .int) at g
  show Rg G oIS (fun v => v.2) (SHC, 0, 0) (SHC, 0, 0) S 0 [some (vr G 0), some (vi x1), some (vi x2), none] [] (pX5_let S x1 x2)
  unfold pX5_let
  refine r_iload_n g dX5_let_0 rfl ?_
  refine r_iconst g dX5_let_1 ?_
  refine r_iconst g dX5_let_2 ?_
  refine r_callS_PI g (kX5_within S x1 0 3) mX5_within w_324 w_325 (by decide) (fun _ => rfl) rfl (Nat.le_of_ble_eq_true rfl) dX5_let_3 ?_
  intro z1_
  refine r_if_ne g 11 dX5_let_6 (by decide) ?_ ?_
  · refine r_iload_n g dX5_let_11 rfl ?_
    refine r_getsL g w_543 dX5_let_12 ?_
    intro a2_ ha2_
    refine r_iload_n g dX5_let_15 rfl ?_
    refine r_sald g ha2_ dX5_let_16 ?_
    intro z3_
    refine r_getsM g w_97 dX5_let_17 ?_
    intro a4_ ha4_
    refine r_iload_n g dX5_let_20 rfl ?_
    refine r_sald g ha4_ dX5_let_21 ?_
    intro z5_
    refine r_callS_PI g (kX5_within S x2 z3_ z5_) mX5_within w_324 w_325 (by decide) (fun _ => rfl) rfl (Nat.le_of_ble_eq_true rfl) dX5_let_22 ?_
    intro z6_
    refine r_if_ne g 30 dX5_let_25 (by decide) ?_ ?_
    · refine r_aload_n g dX5_let_30 rfl ?_
      refine r_getC (c0 := 6) g KX5 shc_0 5 rfl (by decide) w_279 dX5_let_31 ?_
      refine r_iload_n g dX5_let_34 rfl ?_
      refine r_iald g shc_6 (by decide) dX5_let_35 ?_
      intro z7_
      refine r_istore_n g 3 dX5_let_36 rfl (by decide) rfl ?_
      refine r_aload_n g dX5_let_37 rfl ?_
      refine r_getC (c0 := 6) g KX5 shc_0 5 rfl (by decide) w_279 dX5_let_38 ?_
      refine r_iload_n g dX5_let_41 rfl ?_
      refine r_iload_n g dX5_let_42 rfl ?_
      refine r_iast g shc_6 (by decide) dX5_let_43 ?_
      intro S8_
      refine r_iload_n g dX5_let_44 rfl ?_
      exact r_iret g dX5_let_45 rfl rfl
    · refine r_iconst g dX5_let_28 ?_
      exact r_iret g dX5_let_29 rfl rfl
  · refine r_iconst g dX5_let_9 ?_
    exact r_iret g dX5_let_10 rfl rfl
theorem tX5_countOfKind_25 {G : Gx} {k4 : Int → Int → Option (Int)} {S : St} {x1 : Int} {x2 : Int} {x3 : Int} (g : Ok G cX5_countOfKind RX5 4 { frames := 1, cells := 0, slots := 0, locals := 21 } (some .int)) (hk4 : ∀ (x2' : Int) (x3' : Int), Rg G oI (fun _ => S) (SHC, 0, 0) (SHC, 0, 0) S 4 [some (vr G 0), some (vi x1), some (vi (x2')), some (vi (x3'))] [] (k4 x2' x3'))  : Rg G oI (fun _ => S) (SHC, 0, 0) (SHC, 0, 0) S 25 [some (vr G 0), some (vi x1), some (vi x2), some (vi x3)] [] (pX5_countOfKind_25 k4 S x1 x2 x3) := by
  unfold pX5_countOfKind_25
  refine r_iinc g dX5_countOfKind_25 (by decide) rfl ?_
  intro x3_3_
  change Rg _ _ _ _ _ _ _ [some (vr G 0), some (vi x1), some (vi x2), some (vi x3_3_)] _ _
  refine r_goto g 4 dX5_countOfKind_28 (by decide) ?_
  exact hk4 _ _
theorem tX5_countOfKind_4B {G : Gx} {S : St} {x1 : Int} (g : Ok G cX5_countOfKind RX5 4 { frames := 1, cells := 0, slots := 0, locals := 21 } (some .int))   {k4 : Int → Int → Option (Int)} (hk4 : ∀ (x2' : Int) (x3' : Int), Rg G oI (fun _ => S) (SHC, 0, 0) (SHC, 0, 0) S 4 [some (vr G 0), some (vi x1), some (vi (x2')), some (vi (x3'))] [] (k4 x2' x3')) {x2 : Int} {x3 : Int} : Rg G oI (fun _ => S) (SHC, 0, 0) (SHC, 0, 0) S 4 [some (vr G 0), some (vi x1), some (vi x2), some (vi x3)] [] (pX5_countOfKind_4B S x1 k4 x2 x3) := by
  unfold pX5_countOfKind_4B
  refine r_iload_n g dX5_countOfKind_4 rfl ?_
  refine r_iconst g dX5_countOfKind_5 ?_
  refine r_icmp_ge g 31 dX5_countOfKind_6 (by decide) ?_ ?_
  · refine r_iload_n g dX5_countOfKind_31 rfl ?_
    exact r_iret g dX5_countOfKind_32 rfl rfl
  · refine r_aload_n g dX5_countOfKind_9 rfl ?_
    refine r_getC (c0 := 4) g KX5 shc_0 3 rfl (by decide) w_277 dX5_countOfKind_10 ?_
    refine r_iload_n g dX5_countOfKind_13 rfl ?_
    refine r_aaldA (P := isSeal) g 2 (fun _ => rfl) shc_4 (by decide) (by decide) dX5_countOfKind_14 ?_
    intro q1_ hq1_
    refine r_iload_n g dX5_countOfKind_15 rfl ?_
    refine r_callV_PI (q := q1_) (as := fun b => [vi x1]) g (kX2_is S q1_ x1 hq1_) mX2_is (shSeal hq1_) rfl w_515 w_516 w_517 (by decide) (fun _ => rfl) rfl (Nat.le_of_ble_eq_true rfl) dX5_countOfKind_16 ?_
    intro z2_
    refine r_if_eq g 25 dX5_countOfKind_19 (by decide) ?_ ?_
    · exact tX5_countOfKind_25 g hk4
    · refine r_iinc g dX5_countOfKind_22 (by decide) rfl ?_
      intro x2_4_
      change Rg _ _ _ _ _ _ _ [some (vr G 0), some (vi x1), some (vi x2_4_), some (vi x3)] _ _
      exact tX5_countOfKind_25 g hk4
theorem tX5_countOfKind_4 {G : Gx} {S : St} {x1 : Int} (g : Ok G cX5_countOfKind RX5 4 { frames := 1, cells := 0, slots := 0, locals := 21 } (some .int))   : ∀ (n_ : Nat) (x2 : Int) (x3 : Int), Rg G oI (fun _ => S) (SHC, 0, 0) (SHC, 0, 0) S 4 [some (vr G 0), some (vi x1), some (vi x2), some (vi x3)] [] (lo2 (pX5_countOfKind_4B S x1) n_ x2 x3) := by
  intro n_
  induction n_ with
  | zero => intro x2 x3; exact r_none
  | succ n_ ih => intro x2 x3; exact tX5_countOfKind_4B g   ih
theorem kX5_countOfKind (S : St) (x1 : Int)  : Con yX5_countOfKind cX5_countOfKind 4 (some .int) { frames := 1, cells := 0, slots := 0, locals := 21 } false SHC (SHC, 0, 0) (fun b => [.ref (b + 0), vi x1]) S (fun _ => oI) (fun _ => S) (pX5_countOfKind S x1) := by
  refine Con_of (fun b => [some (.ref (b + 0)), some (vi x1), none, none]) (by decide) (fun _ => rfl) (fun _ => Nat.le_of_ble_eq_true rfl) ?_
  intro G g _ _ _
  change Ok G cX5_countOfKind RX5 4 { frames := 1, cells := 0, slots := 0, locals := 21 } (some .int) at g
  show Rg G oI (fun _ => S) (SHC, 0, 0) (SHC, 0, 0) S 0 [some (vr G 0), some (vi x1), none, none] [] (pX5_countOfKind S x1)
  unfold pX5_countOfKind
  refine r_iconst g dX5_countOfKind_0 ?_
  refine r_istore_n g 2 dX5_countOfKind_1 rfl (by decide) rfl ?_
  refine r_iconst g dX5_countOfKind_2 ?_
  refine r_istore_n g 3 dX5_countOfKind_3 rfl (by decide) rfl ?_
  exact tX5_countOfKind_4 g _ _ _
theorem kX5_stuffOf (S : St) (q1 : Nat) (hq1 : isSeal q1 = true) : Con yX5_stuffOf cX5_stuffOf 2 (some (.object "RubberSeals$Stuff")) { frames := 2, cells := 0, slots := 0, locals := 42 } false SHC (SHC, 0, 0) (fun b => [.ref (b + 0), .ref (b + q1)]) S (fun b r => some (.ref (b + r))) (fun _ => S) (pX5_stuffOf S q1) := by
  refine Con_of (fun b => [some (.ref (b + 0)), some (.ref (b + q1))]) (by decide) (fun _ => rfl) (fun _ => Nat.le_of_ble_eq_true rfl) ?_
  intro G g _ _ _
  change Ok G cX5_stuffOf RX5 2 { frames := 2, cells := 0, slots := 0, locals := 42 } (some (.object "RubberSeals$Stuff")) at g
  show Rg G (fun r => some (.ref (gb G + r))) (fun _ => S) (SHC, 0, 0) (SHC, 0, 0) S 0 [some (vr G 0), some (vr G q1)] [] (pX5_stuffOf S q1)
  unfold pX5_stuffOf
  refine r_aload_n g dX5_stuffOf_0 rfl ?_
  refine r_getC (c0 := 3) g KX5 shc_0 2 rfl (by decide) w_276 dX5_stuffOf_1 ?_
  refine r_aload_n g dX5_stuffOf_4 rfl ?_
  refine r_getI g KX2 (shSeal hq1) 1 rfl (by decide) w_246 dX5_stuffOf_5 ?_
  refine r_callS_PI g (kX5_isStuff S (S q1 1)) mX5_isStuff w_435 w_436 (by decide) (fun _ => rfl) rfl (Nat.le_of_ble_eq_true rfl) dX5_stuffOf_8 ?_
  intro z1_
  refine r_if_eq g 21 dX5_stuffOf_11 (by decide) ?_ ?_
  · refine r_iconst g dX5_stuffOf_21 ?_
    refine r_aaldA (P := isStf) g 1 (fun _ => rfl) shc_3 (by decide) (by decide) dX5_stuffOf_22 ?_
    intro q2_ hq2_
    exact r_aret g ⟨_, rfl⟩ dX5_stuffOf_23 rfl rfl
  · refine r_aload_n g dX5_stuffOf_14 rfl ?_
    refine r_getI g KX2 (shSeal hq1) 1 rfl (by decide) w_246 dX5_stuffOf_15 ?_
    refine r_goto g 22 dX5_stuffOf_18 (by decide) ?_
    refine r_aaldA (P := isStf) g 1 (fun _ => rfl) shc_3 (by decide) (by decide) dX5_stuffOf_22 ?_
    intro q3_ hq3_
    exact r_aret g ⟨_, rfl⟩ dX5_stuffOf_23 rfl rfl
theorem tX5_layOut_2B {G : Gx}  (g : Ok G cX5_layOut RX5 3 { frames := 3, cells := 0, slots := 0, locals := 66 } none)   {k2 : St → Int → Option (St)} (hk2 : ∀ (S' : St) (x1' : Int), Rg G oVS id (SHC, 0, 0) (SHC, 0, 0) S' 2 [some (vr G 0), some (vi (x1')), none] [] (k2 S' x1')) {S : St} {x1 : Int} : Rg G oVS id (SHC, 0, 0) (SHC, 0, 0) S 2 [some (vr G 0), some (vi x1), none] [] (pX5_layOut_2B k2 S x1) := by
  unfold pX5_layOut_2B
  refine r_iload_n g dX5_layOut_2 rfl ?_
  refine r_iconst g dX5_layOut_3 ?_
  refine r_icmp_ge g 40 dX5_layOut_4 (by decide) ?_ ?_
  · refine r_aload_n g dX5_layOut_40 rfl ?_
    refine r_getC (c0 := 13) g KX5 shc_0 7 rfl (by decide) w_281 dX5_layOut_41 ?_
    refine r_aload_n g dX5_layOut_44 rfl ?_
    refine r_getC (c0 := 6) g KX5 shc_0 5 rfl (by decide) w_279 dX5_layOut_45 ?_
    refine r_iconst g dX5_layOut_48 ?_
    refine r_iald g shc_6 (by decide) dX5_layOut_49 ?_
    intro z1_
    refine r_putI g KX4 shc_13 5 rfl (by decide) rfl rfl w_197 dX5_layOut_50 ?_
    intro S2_ _
    refine r_aload_n g dX5_layOut_53 rfl ?_
    refine r_getC (c0 := 13) g KX5 shc_0 7 rfl (by decide) w_281 dX5_layOut_54 ?_
    refine r_aload_n g dX5_layOut_57 rfl ?_
    refine r_getC (c0 := 6) g KX5 shc_0 5 rfl (by decide) w_279 dX5_layOut_58 ?_
    refine r_iconst g dX5_layOut_61 ?_
    refine r_iald g shc_6 (by decide) dX5_layOut_62 ?_
    intro z3_
    refine r_putI g KX4 shc_13 6 rfl (by decide) rfl rfl w_199 dX5_layOut_63 ?_
    intro S4_ _
    refine r_aload_n g dX5_layOut_66 rfl ?_
    refine r_getC (c0 := 13) g KX5 shc_0 7 rfl (by decide) w_281 dX5_layOut_67 ?_
    refine r_aload_n g dX5_layOut_70 rfl ?_
    refine r_getC (c0 := 6) g KX5 shc_0 5 rfl (by decide) w_279 dX5_layOut_71 ?_
    refine r_iconst g dX5_layOut_74 ?_
    refine r_iald g shc_6 (by decide) dX5_layOut_75 ?_
    intro z5_
    refine r_putI g KX4 shc_13 7 rfl (by decide) rfl rfl w_201 dX5_layOut_76 ?_
    intro S6_ _
    exact r_vret g dX5_layOut_79 rfl rfl
  · refine r_aload_n g dX5_layOut_7 rfl ?_
    refine r_getC (c0 := 4) g KX5 shc_0 3 rfl (by decide) w_277 dX5_layOut_8 ?_
    refine r_iload_n g dX5_layOut_11 rfl ?_
    refine r_aaldA (P := isSeal) g 2 (fun _ => rfl) shc_4 (by decide) (by decide) dX5_layOut_12 ?_
    intro q7_ hq7_
    refine r_astore_n g 2 dX5_layOut_13 rfl (by decide) rfl ?_
    refine r_aload_n g dX5_layOut_14 rfl ?_
    refine r_getC (c0 := 13) g KX5 shc_0 7 rfl (by decide) w_281 dX5_layOut_15 ?_
    refine r_iload_n g dX5_layOut_18 rfl ?_
    refine r_aload_n g dX5_layOut_19 rfl ?_
    refine r_aload_n g dX5_layOut_20 rfl ?_
    refine r_getC (c0 := 5) g KX5 shc_0 4 rfl (by decide) w_278 dX5_layOut_21 ?_
    refine r_iload_n g dX5_layOut_24 rfl ?_
    refine r_iald g shc_5 (by decide) dX5_layOut_25 ?_
    intro z8_
    refine r_aload_n g dX5_layOut_26 rfl ?_
    refine r_aload_n g dX5_layOut_27 rfl ?_
    refine r_callV_PR (q := 0) (as := fun b => [.ref (b + q7_)]) g (kX5_stuffOf S q7_ hq7_) mX5_stuffOf shc_0 rfl w_561 w_563 w_12 (by decide) (fun _ => rfl) rfl (Nat.le_of_ble_eq_true rfl) dX5_layOut_28 ?_
    intro q9_
    refine r_chk ?_
    intro hq9_
    refine r_callV_WV (q := 13) (as := fun b => [vi x1, .ref (b + q7_), vi z8_, .ref (b + q9_)]) g (kX4_layDown S x1 q7_ z8_ q9_ hq7_ hq9_) mX4_layDown shc_13 rfl w_565 w_566 w_567 (by decide) (fun _ => rfl) rfl (Nat.le_of_ble_eq_true rfl) dX5_layOut_31 ?_
    intro S10_
    refine r_iinc g dX5_layOut_34 (by decide) rfl ?_
    intro x1_11_
    change Rg _ _ _ _ _ _ _ [some (vr G 0), some (vi x1_11_), some (vr G q7_)] _ _
    refine r_goto g 2 dX5_layOut_37 (by decide) ?_
    refine r_msk [true, true, false] rfl ?_
    exact hk2 _ _
theorem tX5_layOut_2 {G : Gx}  (g : Ok G cX5_layOut RX5 3 { frames := 3, cells := 0, slots := 0, locals := 66 } none)   : ∀ (n_ : Nat) (S : St) (x1 : Int), Rg G oVS id (SHC, 0, 0) (SHC, 0, 0) S 2 [some (vr G 0), some (vi x1), none] [] (lo2 (pX5_layOut_2B) n_ S x1) := by
  intro n_
  induction n_ with
  | zero => intro S x1; exact r_none
  | succ n_ ih => intro S x1; exact tX5_layOut_2B g   ih
theorem kX5_layOut (S : St)  : Con yX5_layOut cX5_layOut 3 none { frames := 3, cells := 0, slots := 0, locals := 66 } false SHC (SHC, 0, 0) (fun b => [.ref (b + 0)]) S (fun _ => oVS) id (pX5_layOut S) := by
  refine Con_of (fun b => [some (.ref (b + 0)), none, none]) (by decide) (fun _ => rfl) (fun _ => Nat.le_of_ble_eq_true rfl) ?_
  intro G g _ _ _
  change Ok G cX5_layOut RX5 3 { frames := 3, cells := 0, slots := 0, locals := 66 } none at g
  show Rg G oVS id (SHC, 0, 0) (SHC, 0, 0) S 0 [some (vr G 0), none, none] [] (pX5_layOut S)
  unfold pX5_layOut
  refine r_iconst g dX5_layOut_0 ?_
  refine r_istore_n g 1 dX5_layOut_1 rfl (by decide) rfl ?_
  exact tX5_layOut_2 g _ _ _
theorem kX5_settleAsIs (S : St)  : Con yX5_settleAsIs cX5_settleAsIs 1 none { frames := 5, cells := 0, slots := 0, locals := 121 } false SHC (SHC, 0, 0) (fun b => [.ref (b + 0)]) S (fun _ => oVS) id (pX5_settleAsIs S) := by
  refine Con_of (fun b => [some (.ref (b + 0))]) (by decide) (fun _ => rfl) (fun _ => Nat.le_of_ble_eq_true rfl) ?_
  intro G g _ _ _
  change Ok G cX5_settleAsIs RX5 1 { frames := 5, cells := 0, slots := 0, locals := 121 } none at g
  show Rg G oVS id (SHC, 0, 0) (SHC, 0, 0) S 0 [some (vr G 0)] [] (pX5_settleAsIs S)
  unfold pX5_settleAsIs
  refine r_aload_n g dX5_settleAsIs_0 rfl ?_
  refine r_callV_WV (q := 0) (as := fun b => []) g (kX5_layOut S) mX5_layOut shc_0 rfl w_557 w_559 w_11 (by decide) (fun _ => rfl) rfl (Nat.le_of_ble_eq_true rfl) dX5_settleAsIs_1 ?_
  intro S1_
  refine r_aload_n g dX5_settleAsIs_4 rfl ?_
  refine r_getC (c0 := 13) g KX5 shc_0 7 rfl (by decide) w_281 dX5_settleAsIs_5 ?_
  refine r_callV_WV (q := 13) (as := fun b => []) g (kX4_settle S1_) mX4_settle shc_13 rfl w_572 w_573 w_574 (by decide) (fun _ => rfl) rfl (Nat.le_of_ble_eq_true rfl) dX5_settleAsIs_8 ?_
  intro S2_
  exact r_vret g dX5_settleAsIs_11 rfl rfl
theorem kX5_rest (S : St)  : Con yX5_rest cX5_rest 1 (some .int) { frames := 6, cells := 0, slots := 0, locals := 141 } false SHC (SHC, 0, 0) (fun b => [.ref (b + 0)]) S (fun _ => oIS) (fun v => v.2) (pX5_rest S) := by
  refine Con_of (fun b => [some (.ref (b + 0))]) (by decide) (fun _ => rfl) (fun _ => Nat.le_of_ble_eq_true rfl) ?_
  intro G g _ _ _
  change Ok G cX5_rest RX5 1 { frames := 6, cells := 0, slots := 0, locals := 141 } (some .int) at g
  show Rg G oIS (fun v => v.2) (SHC, 0, 0) (SHC, 0, 0) S 0 [some (vr G 0)] [] (pX5_rest S)
  unfold pX5_rest
  refine r_aload_n g dX5_rest_0 rfl ?_
  refine r_iconst g dX5_rest_1 ?_
  refine r_callV_PI (q := 0) (as := fun b => [vi 0]) g (kX5_countOfKind S 0) mX5_countOfKind shc_0 rfl w_549 w_551 w_9 (by decide) (fun _ => rfl) rfl (Nat.le_of_ble_eq_true rfl) dX5_rest_2 ?_
  intro z1_
  refine r_if_ne g 11 dX5_rest_5 (by decide) ?_ ?_
  · refine r_aload_n g dX5_rest_11 rfl ?_
    refine r_callV_WV (q := 0) (as := fun b => []) g (kX5_settleAsIs S) mX5_settleAsIs shc_0 rfl w_553 w_555 w_10 (by decide) (fun _ => rfl) rfl (Nat.le_of_ble_eq_true rfl) dX5_rest_12 ?_
    intro S2_
    refine r_aload_n g dX5_rest_15 rfl ?_
    refine r_aload_n g dX5_rest_16 rfl ?_
    refine r_getC (c0 := 13) g KX5 shc_0 7 rfl (by decide) w_281 dX5_rest_17 ?_
    refine r_getL g KX4 shc_13 8 rfl (by decide) w_203 dX5_rest_20 ?_
    refine r_aload_n g dX5_rest_23 rfl ?_
    refine r_getC (c0 := 13) g KX5 shc_0 7 rfl (by decide) w_281 dX5_rest_24 ?_
    refine r_getL g KX4 shc_13 9 rfl (by decide) w_205 dX5_rest_27 ?_
    refine r_callV_WV (q := 0) (as := fun b => [vl (S2_ 13 8), vl (S2_ 13 9)]) g (kX5_tell S2_ (S2_ 13 8) (S2_ 13 9)) mX5_tell shc_0 rfl w_474 w_476 w_7 (by decide) (fun _ => rfl) rfl (Nat.le_of_ble_eq_true rfl) dX5_rest_30 ?_
    intro S3_
    refine r_aload_n g dX5_rest_33 rfl ?_
    refine r_getC (c0 := 13) g KX5 shc_0 7 rfl (by decide) w_281 dX5_rest_34 ?_
    refine r_callV_PI (q := 13) (as := fun b => []) g (kX4_touchesPart S3_) mX4_touchesPart shc_13 rfl w_616 w_617 w_618 (by decide) (fun _ => rfl) rfl (Nat.le_of_ble_eq_true rfl) dX5_rest_37 ?_
    intro z4_
    refine r_if_eq g 45 dX5_rest_40 (by decide) ?_ ?_
    · refine r_aload_n g dX5_rest_45 rfl ?_
      refine r_getC (c0 := 13) g KX5 shc_0 7 rfl (by decide) w_281 dX5_rest_46 ?_
      refine r_getL g KX4 shc_13 8 rfl (by decide) w_203 dX5_rest_49 ?_
      refine r_lconst (x := 0) g dX5_rest_52 (by decide) ?_
      refine r_lcmp_ne g 61 dX5_rest_53 dX5_rest_54 (by decide) ?_ ?_
      · refine r_iconst g dX5_rest_61 ?_
        exact r_iret g dX5_rest_62 rfl rfl
      · refine r_iconst g dX5_rest_57 ?_
        refine r_goto g 62 dX5_rest_58 (by decide) ?_
        exact r_iret g dX5_rest_62 rfl rfl
    · refine r_iconst g dX5_rest_43 ?_
      exact r_iret g dX5_rest_44 rfl rfl
  · refine r_bipush g dX5_rest_8 (by decide) ?_
    exact r_iret g dX5_rest_10 rfl rfl
theorem kX5_press (S : St) (x1 : Int)  : Con yX5_press cX5_press 3 (some .int) { frames := 6, cells := 0, slots := 0, locals := 141 } false SHC (SHC, 0, 0) (fun b => [.ref (b + 0), vi x1]) S (fun _ => oIS) (fun v => v.2) (pX5_press S x1) := by
  refine Con_of (fun b => [some (.ref (b + 0)), some (vi x1), none]) (by decide) (fun _ => rfl) (fun _ => Nat.le_of_ble_eq_true rfl) ?_
  intro G g _ _ _
  change Ok G cX5_press RX5 3 { frames := 6, cells := 0, slots := 0, locals := 141 } (some .int) at g
  show Rg G oIS (fun v => v.2) (SHC, 0, 0) (SHC, 0, 0) S 0 [some (vr G 0), some (vi x1), none] [] (pX5_press S x1)
  unfold pX5_press
  refine r_iload_n g dX5_press_0 rfl ?_
  refine r_callS_PI g (kX5_isPlace S x1) mX5_isPlace w_488 w_489 (by decide) (fun _ => rfl) rfl (Nat.le_of_ble_eq_true rfl) dX5_press_1 ?_
  intro z1_
  refine r_if_ne g 9 dX5_press_4 (by decide) ?_ ?_
  · refine r_aload_n g dX5_press_9 rfl ?_
    refine r_iload_n g dX5_press_10 rfl ?_
    refine r_iconst g dX5_press_11 ?_
    refine r_callV_PI (q := 0) (as := fun b => [vi x1, vi 1]) g (kX5_missed S x1 1) mX5_missed shc_0 rfl w_511 w_513 w_8 (by decide) (fun _ => rfl) rfl (Nat.le_of_ble_eq_true rfl) dX5_press_12 ?_
    intro z2_
    refine r_istore_n g 2 dX5_press_15 rfl (by decide) rfl ?_
    refine r_iload_n g dX5_press_16 rfl ?_
    refine r_if_eq g 26 dX5_press_17 (by decide) ?_ ?_
    · refine r_aload_n g dX5_press_26 rfl ?_
      refine r_callV_WV (q := 0) (as := fun b => []) g (kX5_settleAsIs S) mX5_settleAsIs shc_0 rfl w_553 w_555 w_10 (by decide) (fun _ => rfl) rfl (Nat.le_of_ble_eq_true rfl) dX5_press_27 ?_
      intro S3_
      refine r_aload_n g dX5_press_30 rfl ?_
      refine r_aload_n g dX5_press_31 rfl ?_
      refine r_getC (c0 := 13) g KX5 shc_0 7 rfl (by decide) w_281 dX5_press_32 ?_
      refine r_getC (c0 := 19) g KX4 shc_13 10 rfl (by decide) w_207 dX5_press_35 ?_
      refine r_iload_n g dX5_press_38 rfl ?_
      refine r_lald g shc_19 (by decide) dX5_press_39 ?_
      intro z4_
      refine r_aload_n g dX5_press_40 rfl ?_
      refine r_getC (c0 := 13) g KX5 shc_0 7 rfl (by decide) w_281 dX5_press_41 ?_
      refine r_iload_n g dX5_press_44 rfl ?_
      refine r_callV_PL (q := 13) (as := fun b => [vi x1]) g (kX4_pressDown S3_ x1) mX4_pressDown shc_13 rfl w_624 w_625 w_626 (by decide) (fun _ => rfl) rfl (Nat.le_of_ble_eq_true rfl) dX5_press_45 ?_
      intro z5_
      refine r_callV_WV (q := 0) (as := fun b => [vl z4_, vl z5_]) g (kX5_tell S3_ z4_ z5_) mX5_tell shc_0 rfl w_474 w_476 w_7 (by decide) (fun _ => rfl) rfl (Nat.le_of_ble_eq_true rfl) dX5_press_48 ?_
      intro S6_
      refine r_aload_n g dX5_press_51 rfl ?_
      refine r_getC (c0 := 13) g KX5 shc_0 7 rfl (by decide) w_281 dX5_press_52 ?_
      refine r_iload_n g dX5_press_55 rfl ?_
      refine r_callV_PI (q := 13) (as := fun b => [vi x1]) g (kX4_isOpen S6_ x1) mX4_isOpen shc_13 rfl w_628 w_629 w_630 (by decide) (fun _ => rfl) rfl (Nat.le_of_ble_eq_true rfl) dX5_press_56 ?_
      intro z7_
      refine r_if_eq g 66 dX5_press_59 (by decide) ?_ ?_
      · refine r_iconst g dX5_press_66 ?_
        exact r_iret g dX5_press_67 rfl rfl
      · refine r_iconst g dX5_press_62 ?_
        refine r_goto g 67 dX5_press_63 (by decide) ?_
        exact r_iret g dX5_press_67 rfl rfl
    · refine r_aload_n g dX5_press_20 rfl ?_
      refine r_iload_n g dX5_press_21 rfl ?_
      refine r_callV_WI (q := 0) (as := fun b => [vi z2_]) g (kX5_found S z2_) mX5_found shc_0 rfl w_327 w_329 w_0 (by decide) (fun _ => rfl) rfl (Nat.le_of_ble_eq_true rfl) dX5_press_22 ?_
      intro z8_ S9_
      exact r_iret g dX5_press_25 rfl rfl
  · refine r_iconst g dX5_press_7 ?_
    exact r_iret g dX5_press_8 rfl rfl
theorem kX5_opens (S : St)  : Con yX5_opens cX5_opens 1 (some .int) { frames := 6, cells := 0, slots := 0, locals := 141 } false SHC (SHC, 0, 0) (fun b => [.ref (b + 0)]) S (fun _ => oIS) (fun v => v.2) (pX5_opens S) := by
  refine Con_of (fun b => [some (.ref (b + 0))]) (by decide) (fun _ => rfl) (fun _ => Nat.le_of_ble_eq_true rfl) ?_
  intro G g _ _ _
  change Ok G cX5_opens RX5 1 { frames := 6, cells := 0, slots := 0, locals := 141 } (some .int) at g
  show Rg G oIS (fun v => v.2) (SHC, 0, 0) (SHC, 0, 0) S 0 [some (vr G 0)] [] (pX5_opens S)
  unfold pX5_opens
  refine r_aload_n g dX5_opens_0 rfl ?_
  refine r_callV_WV (q := 0) (as := fun b => []) g (kX5_settleAsIs S) mX5_settleAsIs shc_0 rfl w_553 w_555 w_10 (by decide) (fun _ => rfl) rfl (Nat.le_of_ble_eq_true rfl) dX5_opens_1 ?_
  intro S1_
  refine r_aload_n g dX5_opens_4 rfl ?_
  refine r_getC (c0 := 13) g KX5 shc_0 7 rfl (by decide) w_281 dX5_opens_5 ?_
  refine r_callV_PI (q := 13) (as := fun b => []) g (kX4_openPlaces S1_) mX4_openPlaces shc_13 rfl w_637 w_638 w_639 (by decide) (fun _ => rfl) rfl (Nat.le_of_ble_eq_true rfl) dX5_opens_8 ?_
  intro z2_
  exact r_iret g dX5_opens_11 rfl rfl
theorem tX5_weakest_43 {G : Gx} {k8 : Int → Int → Option (Int × St)} {S : St} {x1 : Int} {x2 : Int} (g : Ok G cX5_weakest RX5 3 { frames := 6, cells := 0, slots := 0, locals := 141 } (some .int)) (hk8 : ∀ (x1' : Int) (x2' : Int), Rg G oIS (fun v => v.2) (SHC, 0, 0) (SHC, 0, 0) S 8 [some (vr G 0), some (vi (x1')), some (vi (x2'))] [] (k8 x1' x2'))  : Rg G oIS (fun v => v.2) (SHC, 0, 0) (SHC, 0, 0) S 43 [some (vr G 0), some (vi x1), some (vi x2)] [] (pX5_weakest_43 k8 S x1 x2) := by
  unfold pX5_weakest_43
  refine r_iinc g dX5_weakest_43 (by decide) rfl ?_
  intro x2_5_
  change Rg _ _ _ _ _ _ _ [some (vr G 0), some (vi x1), some (vi x2_5_)] _ _
  refine r_goto g 8 dX5_weakest_46 (by decide) ?_
  exact hk8 _ _
theorem tX5_weakest_41 {G : Gx} {k8 : Int → Int → Option (Int × St)} {S : St} {x2 : Int} (g : Ok G cX5_weakest RX5 3 { frames := 6, cells := 0, slots := 0, locals := 141 } (some .int)) (hk8 : ∀ (x1' : Int) (x2' : Int), Rg G oIS (fun v => v.2) (SHC, 0, 0) (SHC, 0, 0) S 8 [some (vr G 0), some (vi (x1')), some (vi (x2'))] [] (k8 x1' x2'))  : Rg G oIS (fun v => v.2) (SHC, 0, 0) (SHC, 0, 0) S 41 [some (vr G 0), none, some (vi x2)] [] (pX5_weakest_41 k8 S x2) := by
  unfold pX5_weakest_41
  refine r_iload_n g dX5_weakest_41 rfl ?_
  refine r_istore_n g 1 dX5_weakest_42 rfl (by decide) rfl ?_
  exact tX5_weakest_43 g hk8
theorem tX5_weakest_8B {G : Gx} {S : St} (g : Ok G cX5_weakest RX5 3 { frames := 6, cells := 0, slots := 0, locals := 141 } (some .int))   {k8 : Int → Int → Option (Int × St)} (hk8 : ∀ (x1' : Int) (x2' : Int), Rg G oIS (fun v => v.2) (SHC, 0, 0) (SHC, 0, 0) S 8 [some (vr G 0), some (vi (x1')), some (vi (x2'))] [] (k8 x1' x2')) {x1 : Int} {x2 : Int} : Rg G oIS (fun v => v.2) (SHC, 0, 0) (SHC, 0, 0) S 8 [some (vr G 0), some (vi x1), some (vi x2)] [] (pX5_weakest_8B S k8 x1 x2) := by
  unfold pX5_weakest_8B
  refine r_iload_n g dX5_weakest_8 rfl ?_
  refine r_iconst g dX5_weakest_9 ?_
  refine r_icmp_ge g 49 dX5_weakest_10 (by decide) ?_ ?_
  · refine r_iload_n g dX5_weakest_49 rfl ?_
    refine r_if_ge g 56 dX5_weakest_50 (by decide) ?_ ?_
    · refine r_aload_n g dX5_weakest_56 rfl ?_
      refine r_aload_n g dX5_weakest_57 rfl ?_
      refine r_getC (c0 := 13) g KX5 shc_0 7 rfl (by decide) w_281 dX5_weakest_58 ?_
      refine r_iload_n g dX5_weakest_61 rfl ?_
      refine r_callV_PI (q := 13) (as := fun b => [vi x1]) g (kX4_cutPress S x1) mX4_cutPress shc_13 rfl w_650 w_651 w_652 (by decide) (fun _ => rfl) rfl (Nat.le_of_ble_eq_true rfl) dX5_weakest_62 ?_
      intro z2_
      refine r_putI g KX5 shc_0 11 rfl (by decide) rfl rfl w_285 dX5_weakest_65 ?_
      intro S3_ _
      refine r_iload_n g dX5_weakest_68 rfl ?_
      exact r_iret g dX5_weakest_69 rfl rfl
    · refine r_bipush g dX5_weakest_53 (by decide) ?_
      exact r_iret g dX5_weakest_55 rfl rfl
  · refine r_aload_n g dX5_weakest_13 rfl ?_
    refine r_getC (c0 := 13) g KX5 shc_0 7 rfl (by decide) w_281 dX5_weakest_14 ?_
    refine r_getC (c0 := 15) g KX4 shc_13 1 rfl (by decide) w_190 dX5_weakest_17 ?_
    refine r_iload_n g dX5_weakest_20 rfl ?_
    refine r_zald g shc_15 (by decide) dX5_weakest_21 ?_
    intro z4_
    refine r_if_eq g 43 dX5_weakest_22 (by decide) ?_ ?_
    · exact tX5_weakest_43 g hk8
    · refine r_iload_n g dX5_weakest_25 rfl ?_
      refine r_if_lt g 41 dX5_weakest_26 (by decide) ?_ ?_
      · refine r_msk [true, false, true] rfl ?_
        exact tX5_weakest_41 g hk8
      · refine r_aload_n g dX5_weakest_29 rfl ?_
        refine r_getC (c0 := 13) g KX5 shc_0 7 rfl (by decide) w_281 dX5_weakest_30 ?_
        refine r_iload_n g dX5_weakest_33 rfl ?_
        refine r_iload_n g dX5_weakest_34 rfl ?_
        refine r_callV_PI (q := 13) (as := fun b => [vi x2, vi x1]) g (kX4_pressesLess S x2 x1) mX4_pressesLess shc_13 rfl w_646 w_647 w_648 (by decide) (fun _ => rfl) rfl (Nat.le_of_ble_eq_true rfl) dX5_weakest_35 ?_
        intro z6_
        refine r_if_eq g 43 dX5_weakest_38 (by decide) ?_ ?_
        · exact tX5_weakest_43 g hk8
        · refine r_msk [true, false, true] rfl ?_
          exact tX5_weakest_41 g hk8
theorem tX5_weakest_8 {G : Gx} {S : St} (g : Ok G cX5_weakest RX5 3 { frames := 6, cells := 0, slots := 0, locals := 141 } (some .int))   : ∀ (n_ : Nat) (x1 : Int) (x2 : Int), Rg G oIS (fun v => v.2) (SHC, 0, 0) (SHC, 0, 0) S 8 [some (vr G 0), some (vi x1), some (vi x2)] [] (lo2 (pX5_weakest_8B S) n_ x1 x2) := by
  intro n_
  induction n_ with
  | zero => intro x1 x2; exact r_none
  | succ n_ ih => intro x1 x2; exact tX5_weakest_8B g   ih
theorem kX5_weakest (S : St)  : Con yX5_weakest cX5_weakest 3 (some .int) { frames := 6, cells := 0, slots := 0, locals := 141 } false SHC (SHC, 0, 0) (fun b => [.ref (b + 0)]) S (fun _ => oIS) (fun v => v.2) (pX5_weakest S) := by
  refine Con_of (fun b => [some (.ref (b + 0)), none, none]) (by decide) (fun _ => rfl) (fun _ => Nat.le_of_ble_eq_true rfl) ?_
  intro G g _ _ _
  change Ok G cX5_weakest RX5 3 { frames := 6, cells := 0, slots := 0, locals := 141 } (some .int) at g
  show Rg G oIS (fun v => v.2) (SHC, 0, 0) (SHC, 0, 0) S 0 [some (vr G 0), none, none] [] (pX5_weakest S)
  unfold pX5_weakest
  refine r_aload_n g dX5_weakest_0 rfl ?_
  refine r_callV_WV (q := 0) (as := fun b => []) g (kX5_settleAsIs S) mX5_settleAsIs shc_0 rfl w_553 w_555 w_10 (by decide) (fun _ => rfl) rfl (Nat.le_of_ble_eq_true rfl) dX5_weakest_1 ?_
  intro S1_
  refine r_iconst g dX5_weakest_4 ?_
  refine r_istore_n g 1 dX5_weakest_5 rfl (by decide) rfl ?_
  refine r_iconst g dX5_weakest_6 ?_
  refine r_istore_n g 2 dX5_weakest_7 rfl (by decide) rfl ?_
  exact tX5_weakest_8 g _ _ _
theorem tX5_leak_35 {G : Gx} {k8 : Int → Int → Option (Int × St)} {S : St} {x1 : Int} {x2 : Int} (g : Ok G cX5_leak RX5 3 { frames := 6, cells := 0, slots := 0, locals := 141 } (some .int)) (hk8 : ∀ (x1' : Int) (x2' : Int), Rg G oIS (fun v => v.2) (SHC, 0, 0) (SHC, 0, 0) S 8 [some (vr G 0), some (vi (x1')), some (vi (x2'))] [] (k8 x1' x2'))  : Rg G oIS (fun v => v.2) (SHC, 0, 0) (SHC, 0, 0) S 35 [some (vr G 0), some (vi x1), some (vi x2)] [] (pX5_leak_35 k8 S x1 x2) := by
  unfold pX5_leak_35
  refine r_iinc g dX5_leak_35 (by decide) rfl ?_
  intro x2_3_
  change Rg _ _ _ _ _ _ _ [some (vr G 0), some (vi x1), some (vi x2_3_)] _ _
  refine r_goto g 8 dX5_leak_38 (by decide) ?_
  exact hk8 _ _
theorem tX5_leak_8B {G : Gx} {S : St} (g : Ok G cX5_leak RX5 3 { frames := 6, cells := 0, slots := 0, locals := 141 } (some .int))   {k8 : Int → Int → Option (Int × St)} (hk8 : ∀ (x1' : Int) (x2' : Int), Rg G oIS (fun v => v.2) (SHC, 0, 0) (SHC, 0, 0) S 8 [some (vr G 0), some (vi (x1')), some (vi (x2'))] [] (k8 x1' x2')) {x1 : Int} {x2 : Int} : Rg G oIS (fun v => v.2) (SHC, 0, 0) (SHC, 0, 0) S 8 [some (vr G 0), some (vi x1), some (vi x2)] [] (pX5_leak_8B S k8 x1 x2) := by
  unfold pX5_leak_8B
  refine r_iload_n g dX5_leak_8 rfl ?_
  refine r_iconst g dX5_leak_9 ?_
  refine r_icmp_ge g 41 dX5_leak_10 (by decide) ?_ ?_
  · refine r_iload_n g dX5_leak_41 rfl ?_
    exact r_iret g dX5_leak_42 rfl rfl
  · refine r_aload_n g dX5_leak_13 rfl ?_
    refine r_getC (c0 := 13) g KX5 shc_0 7 rfl (by decide) w_281 dX5_leak_14 ?_
    refine r_iload_n g dX5_leak_17 rfl ?_
    refine r_callV_PI (q := 13) (as := fun b => [vi x2]) g (kX4_isOpen S x2) mX4_isOpen shc_13 rfl w_628 w_629 w_630 (by decide) (fun _ => rfl) rfl (Nat.le_of_ble_eq_true rfl) dX5_leak_18 ?_
    intro z2_
    refine r_if_eq g 35 dX5_leak_21 (by decide) ?_ ?_
    · exact tX5_leak_35 g hk8
    · refine r_iload_n g dX5_leak_24 rfl ?_
      refine r_aload_n g dX5_leak_25 rfl ?_
      refine r_getC (c0 := 13) g KX5 shc_0 7 rfl (by decide) w_281 dX5_leak_26 ?_
      refine r_iload_n g dX5_leak_29 rfl ?_
      refine r_callV_PI (q := 13) (as := fun b => [vi x2]) g (kX4_leakAt S x2) mX4_leakAt shc_13 rfl w_658 w_659 w_660 (by decide) (fun _ => rfl) rfl (Nat.le_of_ble_eq_true rfl) dX5_leak_30 ?_
      intro z4_
      refine r_iadd g dX5_leak_33 ?_
      refine r_topi ?_
      intro x1_5_
      refine r_istore_n g 1 dX5_leak_34 rfl (by decide) rfl ?_
      exact tX5_leak_35 g hk8
theorem tX5_leak_8 {G : Gx} {S : St} (g : Ok G cX5_leak RX5 3 { frames := 6, cells := 0, slots := 0, locals := 141 } (some .int))   : ∀ (n_ : Nat) (x1 : Int) (x2 : Int), Rg G oIS (fun v => v.2) (SHC, 0, 0) (SHC, 0, 0) S 8 [some (vr G 0), some (vi x1), some (vi x2)] [] (lo2 (pX5_leak_8B S) n_ x1 x2) := by
  intro n_
  induction n_ with
  | zero => intro x1 x2; exact r_none
  | succ n_ ih => intro x1 x2; exact tX5_leak_8B g   ih
theorem kX5_leak (S : St)  : Con yX5_leak cX5_leak 3 (some .int) { frames := 6, cells := 0, slots := 0, locals := 141 } false SHC (SHC, 0, 0) (fun b => [.ref (b + 0)]) S (fun _ => oIS) (fun v => v.2) (pX5_leak S) := by
  refine Con_of (fun b => [some (.ref (b + 0)), none, none]) (by decide) (fun _ => rfl) (fun _ => Nat.le_of_ble_eq_true rfl) ?_
  intro G g _ _ _
  change Ok G cX5_leak RX5 3 { frames := 6, cells := 0, slots := 0, locals := 141 } (some .int) at g
  show Rg G oIS (fun v => v.2) (SHC, 0, 0) (SHC, 0, 0) S 0 [some (vr G 0), none, none] [] (pX5_leak S)
  unfold pX5_leak
  refine r_aload_n g dX5_leak_0 rfl ?_
  refine r_callV_WV (q := 0) (as := fun b => []) g (kX5_settleAsIs S) mX5_settleAsIs shc_0 rfl w_553 w_555 w_10 (by decide) (fun _ => rfl) rfl (Nat.le_of_ble_eq_true rfl) dX5_leak_1 ?_
  intro S1_
  refine r_iconst g dX5_leak_4 ?_
  refine r_istore_n g 1 dX5_leak_5 rfl (by decide) rfl ?_
  refine r_iconst g dX5_leak_6 ?_
  refine r_istore_n g 2 dX5_leak_7 rfl (by decide) rfl ?_
  exact tX5_leak_8 g _ _ _
