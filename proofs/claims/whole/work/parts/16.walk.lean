theorem tX5_cheapest_74 {G : Gx} {k15 : St → Int → Int → Int → Option (Int × St)} {S : St} {x1 : Int} {x2 : Int} {q3 : Nat} {x4 : Int} {x5 : Int} {x6 : Int} (g : Ok G cX5_cheapest RX5 9 { frames := 5, cells := 0, slots := 0, locals := 121 } (some .int)) (hk15 : ∀ (S' : St) (x4' : Int) (x5' : Int) (x6' : Int), Rg G oIS (fun v => v.2) (SHC, 0, 0) (SHC, 0, 0) S' 15 [some (vr G 0), some (vi x1), some (vi x2), some (vr G q3), some (vi (x4')), some (vi (x5')), some (vi (x6')), none, none] [] (k15 S' x4' x5' x6')) (hq3 : isRow q3 = true) : Rg G oIS (fun v => v.2) (SHC, 0, 0) (SHC, 0, 0) S 74 [some (vr G 0), some (vi x1), some (vi x2), some (vr G q3), some (vi x4), some (vi x5), some (vi x6), none, none] [] (pX5_cheapest_74 k15 S x1 x2 q3 x4 x5 x6) := by
  unfold pX5_cheapest_74
  refine r_iinc g dX5_cheapest_74 (by decide) rfl ?_
  intro x6_8_
  change Rg _ _ _ _ _ _ _ [some (vr G 0), some (vi x1), some (vi x2), some (vr G q3), some (vi x4), some (vi x5), some (vi x6_8_), none, none] _ _
  refine r_goto g 15 dX5_cheapest_77 (by decide) ?_
  exact hk15 _ _ _ _
theorem tX5_cheapest_15B {G : Gx} {x1 : Int} {x2 : Int} {q3 : Nat} (g : Ok G cX5_cheapest RX5 9 { frames := 5, cells := 0, slots := 0, locals := 121 } (some .int))  (hq3 : isRow q3 = true) {k15 : St → Int → Int → Int → Option (Int × St)} (hk15 : ∀ (S' : St) (x4' : Int) (x5' : Int) (x6' : Int), Rg G oIS (fun v => v.2) (SHC, 0, 0) (SHC, 0, 0) S' 15 [some (vr G 0), some (vi x1), some (vi x2), some (vr G q3), some (vi (x4')), some (vi (x5')), some (vi (x6')), none, none] [] (k15 S' x4' x5' x6')) {S : St} {x4 : Int} {x5 : Int} {x6 : Int} : Rg G oIS (fun v => v.2) (SHC, 0, 0) (SHC, 0, 0) S 15 [some (vr G 0), some (vi x1), some (vi x2), some (vr G q3), some (vi x4), some (vi x5), some (vi x6), none, none] [] (pX5_cheapest_15B x1 x2 q3 k15 S x4 x5 x6) := by
  unfold pX5_cheapest_15B
  refine r_iload g dX5_cheapest_15 rfl ?_
  refine r_iload_n g dX5_cheapest_17 rfl ?_
  refine r_icmp_ge g 80 dX5_cheapest_18 (by decide) ?_ ?_
  · refine r_iload g dX5_cheapest_80 rfl ?_
    refine r_ldcw (x := 1000000000) g dX5_cheapest_82 w_693 (by decide) ?_
    refine r_icmp_ne g 91 dX5_cheapest_85 (by decide) ?_ ?_
    · refine r_aload_n g dX5_cheapest_91 rfl ?_
      refine r_iload g dX5_cheapest_92 rfl ?_
      refine r_putI g KX5 shc_0 11 rfl (by decide) rfl rfl w_285 dX5_cheapest_94 ?_
      intro S2_ _
      refine r_iload g dX5_cheapest_97 rfl ?_
      exact r_iret g dX5_cheapest_99 rfl rfl
    · refine r_bipush g dX5_cheapest_88 (by decide) ?_
      exact r_iret g dX5_cheapest_90 rfl rfl
  · refine r_aload_n g dX5_cheapest_21 rfl ?_
    refine r_iload g dX5_cheapest_22 rfl ?_
    refine r_iload_n g dX5_cheapest_24 rfl ?_
    refine r_callV_WI (q := 0) (as := fun b => [vi x6, vi x2]) g (kX5_dealOut S x6 x2) mX5_dealOut shc_0 rfl w_780 w_782 w_25 (by decide) (fun _ => rfl) rfl (Nat.le_of_ble_eq_true rfl) dX5_cheapest_25 ?_
    intro z3_ S4_
    refine r_istore g dX5_cheapest_28 (by decide) rfl ?_
    refine r_aload_n g dX5_cheapest_30 rfl ?_
    refine r_iload g dX5_cheapest_31 rfl ?_
    refine r_aload_n g dX5_cheapest_33 rfl ?_
    refine r_callV_PI (q := 0) (as := fun b => [vi z3_, .ref (b + q3)]) g (kX5_priceOf S4_ z3_ q3 hq3) mX5_priceOf shc_0 rfl w_784 w_786 w_26 (by decide) (fun _ => rfl) rfl (Nat.le_of_ble_eq_true rfl) dX5_cheapest_34 ?_
    intro z5_
    refine r_istore g dX5_cheapest_37 (by decide) rfl ?_
    refine r_iload g dX5_cheapest_39 rfl ?_
    refine r_iload g dX5_cheapest_41 rfl ?_
    refine r_icmp_lt g 49 dX5_cheapest_43 (by decide) ?_ ?_
    · refine r_aload_n g dX5_cheapest_49 rfl ?_
      refine r_getC (c0 := 13) g KX5 shc_0 7 rfl (by decide) w_281 dX5_cheapest_50 ?_
      refine r_callV_WV (q := 13) (as := fun b => []) g (kX4_settle S4_) mX4_settle shc_13 rfl w_572 w_573 w_574 (by decide) (fun _ => rfl) rfl (Nat.le_of_ble_eq_true rfl) dX5_cheapest_53 ?_
      intro S6_
      refine r_aload_n g dX5_cheapest_56 rfl ?_
      refine r_getC (c0 := 13) g KX5 shc_0 7 rfl (by decide) w_281 dX5_cheapest_57 ?_
      refine r_callV_PI (q := 13) (as := fun b => []) g (kX4_openPlaces S6_) mX4_openPlaces shc_13 rfl w_637 w_638 w_639 (by decide) (fun _ => rfl) rfl (Nat.le_of_ble_eq_true rfl) dX5_cheapest_60 ?_
      intro z7_
      refine r_if_ne g 74 dX5_cheapest_63 (by decide) ?_ ?_
      · refine r_msk [true, true, true, true, true, true, true, false, false] rfl ?_
        exact tX5_cheapest_74 g hk15 hq3
      · refine r_iload g dX5_cheapest_66 rfl ?_
        refine r_istore g dX5_cheapest_68 (by decide) rfl ?_
        refine r_iload g dX5_cheapest_70 rfl ?_
        refine r_istore g dX5_cheapest_72 (by decide) rfl ?_
        refine r_msk [true, true, true, true, true, true, true, false, false] rfl ?_
        exact tX5_cheapest_74 g hk15 hq3
    · refine r_goto g 74 dX5_cheapest_46 (by decide) ?_
      refine r_msk [true, true, true, true, true, true, true, false, false] rfl ?_
      exact tX5_cheapest_74 g hk15 hq3
theorem tX5_cheapest_15 {G : Gx} {x1 : Int} {x2 : Int} {q3 : Nat} (g : Ok G cX5_cheapest RX5 9 { frames := 5, cells := 0, slots := 0, locals := 121 } (some .int))  (hq3 : isRow q3 = true) : ∀ (n_ : Nat) (S : St) (x4 : Int) (x5 : Int) (x6 : Int), Rg G oIS (fun v => v.2) (SHC, 0, 0) (SHC, 0, 0) S 15 [some (vr G 0), some (vi x1), some (vi x2), some (vr G q3), some (vi x4), some (vi x5), some (vi x6), none, none] [] (lo4 (pX5_cheapest_15B x1 x2 q3) n_ S x4 x5 x6) := by
  intro n_
  induction n_ with
  | zero => intro S x4 x5 x6; exact r_none
  | succ n_ ih => intro S x4 x5 x6; exact tX5_cheapest_15B g  hq3 ih
theorem kX5_cheapest (S : St) (x1 : Int) (x2 : Int) (q3 : Nat) (hq3 : isRow q3 = true) : Con yX5_cheapest cX5_cheapest 9 (some .int) { frames := 5, cells := 0, slots := 0, locals := 121 } false SHC (SHC, 0, 0) (fun b => [.ref (b + 0), vi x1, vi x2, .ref (b + q3)]) S (fun _ => oIS) (fun v => v.2) (pX5_cheapest S x1 x2 q3) := by
  refine Con_of (fun b => [some (.ref (b + 0)), some (vi x1), some (vi x2), some (.ref (b + q3)), none, none, none, none, none]) (by decide) (fun _ => rfl) (fun _ => Nat.le_of_ble_eq_true rfl) ?_
  intro G g _ _ _
  change Ok G cX5_cheapest RX5 9 { frames := 5, cells := 0, slots := 0, locals := 121 } (some .int) at g
  show Rg G oIS (fun v => v.2) (SHC, 0, 0) (SHC, 0, 0) S 0 [some (vr G 0), some (vi x1), some (vi x2), some (vr G q3), none, none, none, none, none] [] (pX5_cheapest S x1 x2 q3)
  unfold pX5_cheapest
  refine r_aload_n g dX5_cheapest_0 rfl ?_
  refine r_callV_WV (q := 0) (as := fun b => []) g (kX5_layOut S) mX5_layOut shc_0 rfl w_557 w_559 w_11 (by decide) (fun _ => rfl) rfl (Nat.le_of_ble_eq_true rfl) dX5_cheapest_1 ?_
  intro S1_
  refine r_ldcw (x := 1000000000) g dX5_cheapest_4 w_693 (by decide) ?_
  refine r_istore g dX5_cheapest_7 (by decide) rfl ?_
  refine r_iconst g dX5_cheapest_9 ?_
  refine r_istore g dX5_cheapest_10 (by decide) rfl ?_
  refine r_iconst g dX5_cheapest_12 ?_
  refine r_istore g dX5_cheapest_13 (by decide) rfl ?_
  exact tX5_cheapest_15 g hq3 _ _ _ _ _
theorem tX5_choose_55 {G : Gx}  {S : St}  (g : Ok G cX5_choose RX5 8 { frames := 6, cells := 0, slots := 0, locals := 149 } (some .int))   : Rg G oIS (fun v => v.2) (SHC, 0, 0) (SHC, 0, 0) S 55 [some (vr G 0), none, none, none, none, none, none, none] [] (pX5_choose_55 S) := by
  unfold pX5_choose_55
  refine r_aload_n g dX5_choose_55 rfl ?_
  refine r_iconst g dX5_choose_56 ?_
  refine r_callV_WI (q := 0) (as := fun b => [vi 1]) g (kX5_found S 1) mX5_found shc_0 rfl w_327 w_329 w_0 (by decide) (fun _ => rfl) rfl (Nat.le_of_ble_eq_true rfl) dX5_choose_57 ?_
  intro z6_ S7_
  exact r_iret g dX5_choose_60 rfl rfl
theorem tX5_choose_134B {G : Gx} {S : St} {x3 : Int} {q4 : Nat} {x5 : Int} (g : Ok G cX5_choose RX5 8 { frames := 6, cells := 0, slots := 0, locals := 149 } (some .int))  (hq4 : isRow q4 = true) {k134 : Int → Int → Option (Int × St)} (hk134 : ∀ (x6' : Int) (x7' : Int), Rg G oIS (fun v => v.2) (SHC, 0, 0) (SHC, 0, 0) S 134 [some (vr G 0), none, none, some (vi x3), some (vr G q4), some (vi x5), some (vi (x6')), some (vi (x7'))] [] (k134 x6' x7')) {x6 : Int} {x7 : Int} : Rg G oIS (fun v => v.2) (SHC, 0, 0) (SHC, 0, 0) S 134 [some (vr G 0), none, none, some (vi x3), some (vr G q4), some (vi x5), some (vi x6), some (vi x7)] [] (pX5_choose_134B S x3 q4 x5 k134 x6 x7) := by
  unfold pX5_choose_134B
  refine r_iload g dX5_choose_134 rfl ?_
  refine r_if_le g 152 dX5_choose_136 (by decide) ?_ ?_
  · refine r_iload g dX5_choose_152 rfl ?_
    refine r_iload_n g dX5_choose_154 rfl ?_
    refine r_icmp_le g 161 dX5_choose_155 (by decide) ?_ ?_
    · refine r_aload_n g dX5_choose_161 rfl ?_
      refine r_iload g dX5_choose_162 rfl ?_
      refine r_iload g dX5_choose_164 rfl ?_
      refine r_aload g dX5_choose_166 rfl ?_
      refine r_callV_WI (q := 0) (as := fun b => [vi x6, vi x5, .ref (b + q4)]) g (kX5_cheapest S x6 x5 q4 hq4) mX5_cheapest shc_0 rfl w_776 w_778 w_24 (by decide) (fun _ => rfl) rfl (Nat.le_of_ble_eq_true rfl) dX5_choose_168 ?_
      intro z12_ S13_
      exact r_iret g dX5_choose_171 rfl rfl
    · refine r_bipush g dX5_choose_158 (by decide) ?_
      exact r_iret g dX5_choose_160 rfl rfl
  · refine r_iload g dX5_choose_139 rfl ?_
    refine r_iload g dX5_choose_141 rfl ?_
    refine r_imul g dX5_choose_143 ?_
    refine r_topi ?_
    intro x6_14_
    refine r_istore g dX5_choose_144 (by decide) rfl ?_
    refine r_iinc g dX5_choose_146 (by decide) rfl ?_
    intro x7_15_
    change Rg _ _ _ _ _ _ _ [some (vr G 0), none, none, some (vi x3), some (vr G q4), some (vi x5), some (vi x6_14_), some (vi x7_15_)] _ _
    refine r_goto g 134 dX5_choose_149 (by decide) ?_
    exact hk134 _ _
theorem tX5_choose_134 {G : Gx} {S : St} {x3 : Int} {q4 : Nat} {x5 : Int} (g : Ok G cX5_choose RX5 8 { frames := 6, cells := 0, slots := 0, locals := 149 } (some .int))  (hq4 : isRow q4 = true) : ∀ (n_ : Nat) (x6 : Int) (x7 : Int), Rg G oIS (fun v => v.2) (SHC, 0, 0) (SHC, 0, 0) S 134 [some (vr G 0), none, none, some (vi x3), some (vr G q4), some (vi x5), some (vi x6), some (vi x7)] [] (lo2 (pX5_choose_134B S x3 q4 x5) n_ x6 x7) := by
  intro n_
  induction n_ with
  | zero => intro x6 x7; exact r_none
  | succ n_ ih => intro x6 x7; exact tX5_choose_134B g  hq4 ih
theorem tX5_choose_80B {G : Gx} {S : St} {x1 : Int} {x3 : Int} {q4 : Nat} (g : Ok G cX5_choose RX5 8 { frames := 6, cells := 0, slots := 0, locals := 149 } (some .int))  (hq4 : isRow q4 = true) {k80 : Int → Option (Int × St)} (hk80 : ∀ (x5' : Int), Rg G oIS (fun v => v.2) (SHC, 0, 0) (SHC, 0, 0) S 80 [some (vr G 0), some (vi x1), none, some (vi x3), some (vr G q4), some (vi (x5')), none, none] [] (k80 x5')) {x5 : Int} : Rg G oIS (fun v => v.2) (SHC, 0, 0) (SHC, 0, 0) S 80 [some (vr G 0), some (vi x1), none, some (vi x3), some (vr G q4), some (vi x5), none, none] [] (pX5_choose_80B S x1 x3 q4 k80 x5) := by
  unfold pX5_choose_80B
  refine r_iload g dX5_choose_80 rfl ?_
  refine r_bipush g dX5_choose_82 (by decide) ?_
  refine r_icmp_ge g 117 dX5_choose_84 (by decide) ?_ ?_
  · refine r_aload_n g dX5_choose_117 rfl ?_
    refine r_iload_n g dX5_choose_118 rfl ?_
    refine r_callV_WI (q := 0) (as := fun b => [vi x1]) g (kX5_listMembers S x1) mX5_listMembers shc_0 rfl w_772 w_774 w_23 (by decide) (fun _ => rfl) rfl (Nat.le_of_ble_eq_true rfl) dX5_choose_119 ?_
    intro z9_ S10_
    refine r_istore g dX5_choose_122 (by decide) rfl ?_
    refine r_iconst g dX5_choose_124 ?_
    refine r_istore g dX5_choose_125 (by decide) rfl ?_
    refine r_aload_n g dX5_choose_127 rfl ?_
    refine r_iconst g dX5_choose_128 ?_
    refine r_callV_PI (q := 0) (as := fun b => [vi 1]) g (kX5_countOfKind S10_ 1) mX5_countOfKind shc_0 rfl w_549 w_551 w_9 (by decide) (fun _ => rfl) rfl (Nat.le_of_ble_eq_true rfl) dX5_choose_129 ?_
    intro z11_
    refine r_istore g dX5_choose_132 (by decide) rfl ?_
    refine r_msk [true, false, false, true, true, true, true, true] rfl ?_
    exact tX5_choose_134 g hq4 _ _ _
  · refine r_aload g dX5_choose_87 rfl ?_
    refine r_getC (c0 := q4 + 1) g KX1 (shRow hq4) 0 rfl (by decide) w_159 dX5_choose_89 ?_
    refine r_iload g dX5_choose_92 rfl ?_
    refine r_iald g (shRowA hq4) (rlen_le _) dX5_choose_94 ?_
    intro z16_
    refine r_iconst g dX5_choose_95 ?_
    refine r_sipush g dX5_choose_96 (by decide) ?_
    refine r_callS_PI g (kX5_within S z16_ 0 999) mX5_within w_324 w_325 (by decide) (fun _ => rfl) rfl (Nat.le_of_ble_eq_true rfl) dX5_choose_99 ?_
    intro z17_
    refine r_if_ne g 111 dX5_choose_102 (by decide) ?_ ?_
    · refine r_iinc g dX5_choose_111 (by decide) rfl ?_
      intro x5_18_
      change Rg _ _ _ _ _ _ _ [some (vr G 0), some (vi x1), none, some (vi x3), some (vr G q4), some (vi x5_18_), none, none] _ _
      refine r_goto g 80 dX5_choose_114 (by decide) ?_
      exact hk80 _
    · refine r_aload_n g dX5_choose_105 rfl ?_
      refine r_iconst g dX5_choose_106 ?_
      refine r_callV_WI (q := 0) (as := fun b => [vi 3]) g (kX5_found S 3) mX5_found shc_0 rfl w_327 w_329 w_0 (by decide) (fun _ => rfl) rfl (Nat.le_of_ble_eq_true rfl) dX5_choose_107 ?_
      intro z19_ S20_
      exact r_iret g dX5_choose_110 rfl rfl
theorem tX5_choose_80 {G : Gx} {S : St} {x1 : Int} {x3 : Int} {q4 : Nat} (g : Ok G cX5_choose RX5 8 { frames := 6, cells := 0, slots := 0, locals := 149 } (some .int))  (hq4 : isRow q4 = true) : ∀ (n_ : Nat) (x5 : Int), Rg G oIS (fun v => v.2) (SHC, 0, 0) (SHC, 0, 0) S 80 [some (vr G 0), some (vi x1), none, some (vi x3), some (vr G q4), some (vi x5), none, none] [] (lo1 (pX5_choose_80B S x1 x3 q4) n_ x5) := by
  intro n_
  induction n_ with
  | zero => intro x5; exact r_none
  | succ n_ ih => intro x5; exact tX5_choose_80B g  hq4 ih
theorem kX5_choose (S : St) (x1 : Int) (x2 : Int) (x3 : Int)  : Con yX5_choose cX5_choose 8 (some .int) { frames := 6, cells := 0, slots := 0, locals := 149 } false SHC (SHC, 0, 0) (fun b => [.ref (b + 0), vi x1, vi x2, vi x3]) S (fun _ => oIS) (fun v => v.2) (pX5_choose S x1 x2 x3) := by
  refine Con_of (fun b => [some (.ref (b + 0)), some (vi x1), some (vi x2), some (vi x3), none, none, none, none]) (by decide) (fun _ => rfl) (fun _ => Nat.le_of_ble_eq_true rfl) ?_
  intro G g _ _ _
  change Ok G cX5_choose RX5 8 { frames := 6, cells := 0, slots := 0, locals := 149 } (some .int) at g
  show Rg G oIS (fun v => v.2) (SHC, 0, 0) (SHC, 0, 0) S 0 [some (vr G 0), some (vi x1), some (vi x2), some (vi x3), none, none, none, none] [] (pX5_choose S x1 x2 x3)
  unfold pX5_choose
  refine r_iload_n g dX5_choose_0 rfl ?_
  refine r_callS_PI g (kX5_isSet S x1) mX5_isSet w_728 w_729 (by decide) (fun _ => rfl) rfl (Nat.le_of_ble_eq_true rfl) dX5_choose_1 ?_
  intro z1_
  refine r_if_eq g 29 dX5_choose_4 (by decide) ?_ ?_
  · refine r_iconst g dX5_choose_29 ?_
    exact r_iret g dX5_choose_30 rfl rfl
  · refine r_iload_n g dX5_choose_7 rfl ?_
    refine r_if_eq g 29 dX5_choose_8 (by decide) ?_ ?_
    · refine r_iconst g dX5_choose_29 ?_
      exact r_iret g dX5_choose_30 rfl rfl
    · refine r_iload_n g dX5_choose_11 rfl ?_
      refine r_callS_PI g (kX5_isRow S x2) mX5_isRow w_321 w_322 (by decide) (fun _ => rfl) rfl (Nat.le_of_ble_eq_true rfl) dX5_choose_12 ?_
      intro z2_
      refine r_if_eq g 29 dX5_choose_15 (by decide) ?_ ?_
      · refine r_iconst g dX5_choose_29 ?_
        exact r_iret g dX5_choose_30 rfl rfl
      · refine r_iload_n g dX5_choose_18 rfl ?_
        refine r_iconst g dX5_choose_19 ?_
        refine r_sipush g dX5_choose_20 (by decide) ?_
        refine r_callS_PI g (kX5_within S x3 0 1296) mX5_within w_324 w_325 (by decide) (fun _ => rfl) rfl (Nat.le_of_ble_eq_true rfl) dX5_choose_23 ?_
        intro z3_
        refine r_if_ne g 31 dX5_choose_26 (by decide) ?_ ?_
        · refine r_aload_n g dX5_choose_31 rfl ?_
          refine r_getC (c0 := 1) g KX5 shc_0 0 rfl (by decide) w_274 dX5_choose_32 ?_
          refine r_iload_n g dX5_choose_35 rfl ?_
          refine r_aaldA (P := isRow) g 0 (fun _ => rfl) shc_1 (by decide) (by decide) dX5_choose_36 ?_
          intro q4_ hq4_
          refine r_astore g dX5_choose_37 (by decide) rfl ?_
          refine r_aload_n g dX5_choose_39 rfl ?_
          refine r_iload_n g dX5_choose_40 rfl ?_
          refine r_callV_PI (q := 0) (as := fun b => [vi x1]) g (kX5_lacksOneOf S x1) mX5_lacksOneOf shc_0 rfl w_737 w_739 w_20 (by decide) (fun _ => rfl) rfl (Nat.le_of_ble_eq_true rfl) dX5_choose_41 ?_
          intro z5_
          refine r_if_ne g 55 dX5_choose_44 (by decide) ?_ ?_
          · refine r_msk [true, false, false, false, false, false, false, false] rfl ?_
            exact tX5_choose_55 g
          · refine r_aload g dX5_choose_47 rfl ?_
            refine r_callV_PI (q := q4_) (as := fun b => []) g (kX1_isMissing S q4_ hq4_) mX1_isMissing (shRow hq4_) rfl w_342 w_343 w_344 (by decide) (fun _ => rfl) rfl (Nat.le_of_ble_eq_true rfl) dX5_choose_49 ?_
            intro z8_
            refine r_if_eq g 61 dX5_choose_52 (by decide) ?_ ?_
            · refine r_aload g dX5_choose_61 rfl ?_
              refine r_getI g KX1 (shRow hq4_) 1 rfl (by decide) w_163 dX5_choose_63 ?_
              refine r_bipush g dX5_choose_66 (by decide) ?_
              refine r_icmp_eq g 77 dX5_choose_68 (by decide) ?_ ?_
              · refine r_iconst g dX5_choose_77 ?_
                refine r_istore g dX5_choose_78 (by decide) rfl ?_
                refine r_msk [true, true, false, true, true, true, false, false] rfl ?_
                exact tX5_choose_80 g hq4_ _ _
              · refine r_aload_n g dX5_choose_71 rfl ?_
                refine r_iconst g dX5_choose_72 ?_
                refine r_callV_WI (q := 0) (as := fun b => [vi 5]) g (kX5_found S 5) mX5_found shc_0 rfl w_327 w_329 w_0 (by decide) (fun _ => rfl) rfl (Nat.le_of_ble_eq_true rfl) dX5_choose_73 ?_
                intro z21_ S22_
                exact r_iret g dX5_choose_76 rfl rfl
            · refine r_msk [true, false, false, false, false, false, false, false] rfl ?_
              exact tX5_choose_55 g
        · refine r_iconst g dX5_choose_29 ?_
          exact r_iret g dX5_choose_30 rfl rfl
theorem tX5_sniffsFit_3B {G : Gx} {S : St} {x0 : Int} {x1 : Int} {q2 : Nat} {x3 : Int} (g : Ok G cX5_sniffsFit RX5 6 { frames := 1, cells := 0, slots := 0, locals := 24 } (some .boolean))  (hq2 : isRow q2 = true) {k3 : Int → Option (Int)} (hk3 : ∀ (x4' : Int), Rg G oI (fun _ => S) (SHC, 0, 0) (SHC, 0, 0) S 3 [some (vi x0), some (vi x1), some (vr G q2), some (vi x3), some (vi (x4')), none] [] (k3 x4')) {x4 : Int} : Rg G oI (fun _ => S) (SHC, 0, 0) (SHC, 0, 0) S 3 [some (vi x0), some (vi x1), some (vr G q2), some (vi x3), some (vi x4), none] [] (pX5_sniffsFit_3B S x0 x1 q2 x3 k3 x4) := by
  unfold pX5_sniffsFit_3B
  refine r_iload g dX5_sniffsFit_3 rfl ?_
  refine r_iconst g dX5_sniffsFit_5 ?_
  refine r_icmp_ge g 56 dX5_sniffsFit_6 (by decide) ?_ ?_
  · refine r_iconst g dX5_sniffsFit_56 ?_
    exact r_zret0 g (by decide) dX5_sniffsFit_57 rfl rfl
  · refine r_aload_n g dX5_sniffsFit_9 rfl ?_
    refine r_iload g dX5_sniffsFit_10 rfl ?_
    refine r_callV_PI (q := q2) (as := fun b => [vi x4]) g (kX1_has S q2 x4 hq2) mX1_has (shRow hq2) rfl w_346 w_347 w_348 (by decide) (fun _ => rfl) rfl (Nat.le_of_ble_eq_true rfl) dX5_sniffsFit_12 ?_
    intro z1_
    refine r_if_eq g 56 dX5_sniffsFit_15 (by decide) ?_ ?_
    · refine r_iconst g dX5_sniffsFit_56 ?_
      exact r_zret0 g (by decide) dX5_sniffsFit_57 rfl rfl
    · refine r_iload_n g dX5_sniffsFit_18 rfl ?_
      refine r_iload g dX5_sniffsFit_19 rfl ?_
      refine r_iload_n g dX5_sniffsFit_21 rfl ?_
      refine r_isub g dX5_sniffsFit_22 ?_
      refine rJ9_abs_0f7a4 g w_798 w_799 w_77 w_800 ⟨by decide, Nat.le_of_ble_eq_true rfl⟩ dX5_sniffsFit_23 ?_
      intro z2_
      refine r_iconst g dX5_sniffsFit_26 ?_
      refine r_iadd g dX5_sniffsFit_27 ?_
      refine r_idiv g dX5_sniffsFit_28 ?_
      intro z3_
      refine r_istore g dX5_sniffsFit_29 (by decide) rfl ?_
      refine r_iload g dX5_sniffsFit_31 rfl ?_
      refine r_aload_n g dX5_sniffsFit_33 rfl ?_
      refine r_getC (c0 := q2 + 1) g KX1 (shRow hq2) 0 rfl (by decide) w_159 dX5_sniffsFit_34 ?_
      refine r_iload g dX5_sniffsFit_37 rfl ?_
      refine r_iald g (shRowA hq2) (rlen_le _) dX5_sniffsFit_39 ?_
      intro z4_
      refine r_isub g dX5_sniffsFit_40 ?_
      refine rJ9_abs_0f7a4 g w_798 w_799 w_77 w_800 ⟨by decide, Nat.le_of_ble_eq_true rfl⟩ dX5_sniffsFit_41 ?_
      intro z5_
      refine r_iload_n g dX5_sniffsFit_44 rfl ?_
      refine r_icmp_le g 50 dX5_sniffsFit_45 (by decide) ?_ ?_
      · refine r_iinc g dX5_sniffsFit_50 (by decide) rfl ?_
        intro x4_6_
        change Rg _ _ _ _ _ _ _ [some (vi x0), some (vi x1), some (vr G q2), some (vi x3), some (vi x4_6_), some (vi z3_)] _ _
        refine r_goto g 3 dX5_sniffsFit_53 (by decide) ?_
        refine r_msk [true, true, true, true, true, false] rfl ?_
        exact hk3 _
      · refine r_iconst g dX5_sniffsFit_48 ?_
        exact r_zret0 g (by decide) dX5_sniffsFit_49 rfl rfl
theorem tX5_sniffsFit_3 {G : Gx} {S : St} {x0 : Int} {x1 : Int} {q2 : Nat} {x3 : Int} (g : Ok G cX5_sniffsFit RX5 6 { frames := 1, cells := 0, slots := 0, locals := 24 } (some .boolean))  (hq2 : isRow q2 = true) : ∀ (n_ : Nat) (x4 : Int), Rg G oI (fun _ => S) (SHC, 0, 0) (SHC, 0, 0) S 3 [some (vi x0), some (vi x1), some (vr G q2), some (vi x3), some (vi x4), none] [] (lo1 (pX5_sniffsFit_3B S x0 x1 q2 x3) n_ x4) := by
  intro n_
  induction n_ with
  | zero => intro x4; exact r_none
  | succ n_ ih => intro x4; exact tX5_sniffsFit_3B g  hq2 ih
theorem kX5_sniffsFit (S : St) (x0 : Int) (x1 : Int) (q2 : Nat) (x3 : Int) (hq2 : isRow q2 = true) : Con yX5_sniffsFit cX5_sniffsFit 6 (some .boolean) { frames := 1, cells := 0, slots := 0, locals := 24 } false SHC (SHC, 0, 0) (fun b => [vi x0, vi x1, .ref (b + q2), vi x3]) S (fun _ => oI) (fun _ => S) (pX5_sniffsFit S x0 x1 q2 x3) := by
  refine Con_of (fun b => [some (vi x0), some (vi x1), some (.ref (b + q2)), some (vi x3), none, none]) (by decide) (fun _ => rfl) (fun _ => Nat.le_of_ble_eq_true rfl) ?_
  intro G g _ _ _
  change Ok G cX5_sniffsFit RX5 6 { frames := 1, cells := 0, slots := 0, locals := 24 } (some .boolean) at g
  show Rg G oI (fun _ => S) (SHC, 0, 0) (SHC, 0, 0) S 0 [some (vi x0), some (vi x1), some (vr G q2), some (vi x3), none, none] [] (pX5_sniffsFit S x0 x1 q2 x3)
  unfold pX5_sniffsFit
  refine r_iconst g dX5_sniffsFit_0 ?_
  refine r_istore g dX5_sniffsFit_1 (by decide) rfl ?_
  exact tX5_sniffsFit_3 g hq2 _ _
theorem tX5_couldLeakAt_2B {G : Gx} {S : St} {x0 : Int} {q1 : Nat} {x2 : Int} (g : Ok G cX5_couldLeakAt RX5 4 { frames := 2, cells := 0, slots := 0, locals := 49 } (some .boolean))  (hq1 : isRow q1 = true) {k2 : Int → Option (Int)} (hk2 : ∀ (x3' : Int), Rg G oI (fun _ => S) (SHC, 0, 0) (SHC, 0, 0) S 2 [some (vi x0), some (vr G q1), some (vi x2), some (vi (x3'))] [] (k2 x3')) {x3 : Int} : Rg G oI (fun _ => S) (SHC, 0, 0) (SHC, 0, 0) S 2 [some (vi x0), some (vr G q1), some (vi x2), some (vi x3)] [] (pX5_couldLeakAt_2B S x0 q1 x2 k2 x3) := by
  unfold pX5_couldLeakAt_2B
  refine r_iload_n g dX5_couldLeakAt_2 rfl ?_
  refine r_sipush g dX5_couldLeakAt_3 (by decide) ?_
  refine r_icmp_gt g 27 dX5_couldLeakAt_6 (by decide) ?_ ?_
  · refine r_iconst g dX5_couldLeakAt_27 ?_
    exact r_zret0 g (by decide) dX5_couldLeakAt_28 rfl rfl
  · refine r_iload_n g dX5_couldLeakAt_9 rfl ?_
    refine r_iload_n g dX5_couldLeakAt_10 rfl ?_
    refine r_aload_n g dX5_couldLeakAt_11 rfl ?_
    refine r_iload_n g dX5_couldLeakAt_12 rfl ?_
    refine r_callS_PI g (kX5_sniffsFit S x3 x0 q1 x2 hq1) mX5_sniffsFit w_795 w_796 (by decide) (fun _ => rfl) rfl (Nat.le_of_ble_eq_true rfl) dX5_couldLeakAt_13 ?_
    intro z1_
    refine r_if_eq g 21 dX5_couldLeakAt_16 (by decide) ?_ ?_
    · refine r_iinc g dX5_couldLeakAt_21 (by decide) rfl ?_
      intro x3_2_
      change Rg _ _ _ _ _ _ _ [some (vi x0), some (vr G q1), some (vi x2), some (vi x3_2_)] _ _
      refine r_goto g 2 dX5_couldLeakAt_24 (by decide) ?_
      exact hk2 _
    · refine r_iconst g dX5_couldLeakAt_19 ?_
      exact r_zret0 g (by decide) dX5_couldLeakAt_20 rfl rfl
theorem tX5_couldLeakAt_2 {G : Gx} {S : St} {x0 : Int} {q1 : Nat} {x2 : Int} (g : Ok G cX5_couldLeakAt RX5 4 { frames := 2, cells := 0, slots := 0, locals := 49 } (some .boolean))  (hq1 : isRow q1 = true) : ∀ (n_ : Nat) (x3 : Int), Rg G oI (fun _ => S) (SHC, 0, 0) (SHC, 0, 0) S 2 [some (vi x0), some (vr G q1), some (vi x2), some (vi x3)] [] (lo1 (pX5_couldLeakAt_2B S x0 q1 x2) n_ x3) := by
  intro n_
  induction n_ with
  | zero => intro x3; exact r_none
  | succ n_ ih => intro x3; exact tX5_couldLeakAt_2B g  hq1 ih
theorem kX5_couldLeakAt (S : St) (x0 : Int) (q1 : Nat) (x2 : Int) (hq1 : isRow q1 = true) : Con yX5_couldLeakAt cX5_couldLeakAt 4 (some .boolean) { frames := 2, cells := 0, slots := 0, locals := 49 } false SHC (SHC, 0, 0) (fun b => [vi x0, .ref (b + q1), vi x2]) S (fun _ => oI) (fun _ => S) (pX5_couldLeakAt S x0 q1 x2) := by
  refine Con_of (fun b => [some (vi x0), some (.ref (b + q1)), some (vi x2), none]) (by decide) (fun _ => rfl) (fun _ => Nat.le_of_ble_eq_true rfl) ?_
  intro G g _ _ _
  change Ok G cX5_couldLeakAt RX5 4 { frames := 2, cells := 0, slots := 0, locals := 49 } (some .boolean) at g
  show Rg G oI (fun _ => S) (SHC, 0, 0) (SHC, 0, 0) S 0 [some (vi x0), some (vr G q1), some (vi x2), none] [] (pX5_couldLeakAt S x0 q1 x2)
  unfold pX5_couldLeakAt
  refine r_iconst g dX5_couldLeakAt_0 ?_
  refine r_istore_n g 3 dX5_couldLeakAt_1 rfl (by decide) rfl ?_
  exact tX5_couldLeakAt_2 g hq1 _ _
theorem tX5_sniff_122 {G : Gx} {k97 : Int → Int → Option (Int × St)} {S : St} {x2 : Int} {q3 : Nat} {x4 : Int} {x5 : Int} (g : Ok G cX5_sniff RX5 6 { frames := 3, cells := 0, slots := 0, locals := 72 } (some .int)) (hk97 : ∀ (x4' : Int) (x5' : Int), Rg G oIS (fun v => v.2) (SHC, 0, 0) (SHC, 0, 0) S 97 [none, none, some (vi x2), some (vr G q3), some (vi (x4')), some (vi (x5'))] [] (k97 x4' x5')) (hq3 : isRow q3 = true) : Rg G oIS (fun v => v.2) (SHC, 0, 0) (SHC, 0, 0) S 122 [none, none, some (vi x2), some (vr G q3), some (vi x4), some (vi x5)] [] (pX5_sniff_122 k97 S x2 q3 x4 x5) := by
  unfold pX5_sniff_122
  refine r_iinc g dX5_sniff_122 (by decide) rfl ?_
  intro x5_6_
  change Rg _ _ _ _ _ _ _ [none, none, some (vi x2), some (vr G q3), some (vi x4), some (vi x5_6_)] _ _
  refine r_goto g 97 dX5_sniff_125 (by decide) ?_
  exact hk97 _ _
theorem tX5_sniff_97B {G : Gx} {S : St} {x2 : Int} {q3 : Nat} (g : Ok G cX5_sniff RX5 6 { frames := 3, cells := 0, slots := 0, locals := 72 } (some .int))  (hq3 : isRow q3 = true) {k97 : Int → Int → Option (Int × St)} (hk97 : ∀ (x4' : Int) (x5' : Int), Rg G oIS (fun v => v.2) (SHC, 0, 0) (SHC, 0, 0) S 97 [none, none, some (vi x2), some (vr G q3), some (vi (x4')), some (vi (x5'))] [] (k97 x4' x5')) {x4 : Int} {x5 : Int} : Rg G oIS (fun v => v.2) (SHC, 0, 0) (SHC, 0, 0) S 97 [none, none, some (vi x2), some (vr G q3), some (vi x4), some (vi x5)] [] (pX5_sniff_97B S x2 q3 k97 x4 x5) := by
  unfold pX5_sniff_97B
  refine r_iload g dX5_sniff_97 rfl ?_
  refine r_iconst g dX5_sniff_99 ?_
  refine r_icmp_ge g 128 dX5_sniff_100 (by decide) ?_ ?_
  · refine r_iload g dX5_sniff_128 rfl ?_
    exact r_iret g dX5_sniff_130 rfl rfl
  · refine r_iload g dX5_sniff_103 rfl ?_
    refine r_aload_n g dX5_sniff_105 rfl ?_
    refine r_iload_n g dX5_sniff_106 rfl ?_
    refine r_callS_PI g (kX5_couldLeakAt S x5 q3 x2 hq3) mX5_couldLeakAt w_792 w_793 (by decide) (fun _ => rfl) rfl (Nat.le_of_ble_eq_true rfl) dX5_sniff_107 ?_
    intro z5_
    refine r_if_eq g 122 dX5_sniff_110 (by decide) ?_ ?_
    · exact tX5_sniff_122 g hk97 hq3
    · refine r_iload g dX5_sniff_113 rfl ?_
      refine r_iconst g dX5_sniff_115 ?_
      refine r_iload g dX5_sniff_116 rfl ?_
      refine r_ishl g dX5_sniff_118 ?_
      intro z7_
      refine r_ior g dX5_sniff_119 ?_
      intro z8_
      refine r_istore g dX5_sniff_120 (by decide) rfl ?_
      exact tX5_sniff_122 g hk97 hq3
theorem tX5_sniff_97 {G : Gx} {S : St} {x2 : Int} {q3 : Nat} (g : Ok G cX5_sniff RX5 6 { frames := 3, cells := 0, slots := 0, locals := 72 } (some .int))  (hq3 : isRow q3 = true) : ∀ (n_ : Nat) (x4 : Int) (x5 : Int), Rg G oIS (fun v => v.2) (SHC, 0, 0) (SHC, 0, 0) S 97 [none, none, some (vi x2), some (vr G q3), some (vi x4), some (vi x5)] [] (lo2 (pX5_sniff_97B S x2 q3) n_ x4 x5) := by
  intro n_
  induction n_ with
  | zero => intro x4 x5; exact r_none
  | succ n_ ih => intro x4 x5; exact tX5_sniff_97B g  hq3 ih
theorem tX5_sniff_56B {G : Gx} {S : St} {x2 : Int} {q3 : Nat} (g : Ok G cX5_sniff RX5 6 { frames := 3, cells := 0, slots := 0, locals := 72 } (some .int))  (hq3 : isRow q3 = true) {k56 : Int → Option (Int × St)} (hk56 : ∀ (x4' : Int), Rg G oIS (fun v => v.2) (SHC, 0, 0) (SHC, 0, 0) S 56 [some (vr G 0), none, some (vi x2), some (vr G q3), some (vi (x4')), none] [] (k56 x4')) {x4 : Int} : Rg G oIS (fun v => v.2) (SHC, 0, 0) (SHC, 0, 0) S 56 [some (vr G 0), none, some (vi x2), some (vr G q3), some (vi x4), none] [] (pX5_sniff_56B S x2 q3 k56 x4) := by
  unfold pX5_sniff_56B
  refine r_iload g dX5_sniff_56 rfl ?_
  refine r_iconst g dX5_sniff_58 ?_
  refine r_icmp_ge g 91 dX5_sniff_59 (by decide) ?_ ?_
  · refine r_iconst g dX5_sniff_91 ?_
    refine r_istore g dX5_sniff_92 (by decide) rfl ?_
    refine r_iconst g dX5_sniff_94 ?_
    refine r_istore g dX5_sniff_95 (by decide) rfl ?_
    refine r_msk [false, false, true, true, true, true] rfl ?_
    exact tX5_sniff_97 g hq3 _ _ _
  · refine r_aload_n g dX5_sniff_62 rfl ?_
    refine r_getC (c0 := q3 + 1) g KX1 (shRow hq3) 0 rfl (by decide) w_159 dX5_sniff_63 ?_
    refine r_iload g dX5_sniff_66 rfl ?_
    refine r_iald g (shRowA hq3) (rlen_le _) dX5_sniff_68 ?_
    intro z9_
    refine r_iconst g dX5_sniff_69 ?_
    refine r_sipush g dX5_sniff_70 (by decide) ?_
    refine r_callS_PI g (kX5_within S z9_ 0 9999) mX5_within w_324 w_325 (by decide) (fun _ => rfl) rfl (Nat.le_of_ble_eq_true rfl) dX5_sniff_73 ?_
    intro z10_
    refine r_if_ne g 85 dX5_sniff_76 (by decide) ?_ ?_
    · refine r_iinc g dX5_sniff_85 (by decide) rfl ?_
      intro x4_11_
      change Rg _ _ _ _ _ _ _ [some (vr G 0), none, some (vi x2), some (vr G q3), some (vi x4_11_), none] _ _
      refine r_goto g 56 dX5_sniff_88 (by decide) ?_
      exact hk56 _
    · refine r_aload_n g dX5_sniff_79 rfl ?_
      refine r_iconst g dX5_sniff_80 ?_
      refine r_callV_WI (q := 0) (as := fun b => [vi 3]) g (kX5_found S 3) mX5_found shc_0 rfl w_327 w_329 w_0 (by decide) (fun _ => rfl) rfl (Nat.le_of_ble_eq_true rfl) dX5_sniff_81 ?_
      intro z12_ S13_
      exact r_iret g dX5_sniff_84 rfl rfl
theorem tX5_sniff_56 {G : Gx} {S : St} {x2 : Int} {q3 : Nat} (g : Ok G cX5_sniff RX5 6 { frames := 3, cells := 0, slots := 0, locals := 72 } (some .int))  (hq3 : isRow q3 = true) : ∀ (n_ : Nat) (x4 : Int), Rg G oIS (fun v => v.2) (SHC, 0, 0) (SHC, 0, 0) S 56 [some (vr G 0), none, some (vi x2), some (vr G q3), some (vi x4), none] [] (lo1 (pX5_sniff_56B S x2 q3) n_ x4) := by
  intro n_
  induction n_ with
  | zero => intro x4; exact r_none
  | succ n_ ih => intro x4; exact tX5_sniff_56B g  hq3 ih
theorem kX5_sniff (S : St) (x1 : Int) (x2 : Int)  : Con yX5_sniff cX5_sniff 6 (some .int) { frames := 3, cells := 0, slots := 0, locals := 72 } false SHC (SHC, 0, 0) (fun b => [.ref (b + 0), vi x1, vi x2]) S (fun _ => oIS) (fun v => v.2) (pX5_sniff S x1 x2) := by
  refine Con_of (fun b => [some (.ref (b + 0)), some (vi x1), some (vi x2), none, none, none]) (by decide) (fun _ => rfl) (fun _ => Nat.le_of_ble_eq_true rfl) ?_
  intro G g _ _ _
  change Ok G cX5_sniff RX5 6 { frames := 3, cells := 0, slots := 0, locals := 72 } (some .int) at g
  show Rg G oIS (fun v => v.2) (SHC, 0, 0) (SHC, 0, 0) S 0 [some (vr G 0), some (vi x1), some (vi x2), none, none, none] [] (pX5_sniff S x1 x2)
  unfold pX5_sniff
  refine r_iload_n g dX5_sniff_0 rfl ?_
  refine r_callS_PI g (kX5_isRow S x1) mX5_isRow w_321 w_322 (by decide) (fun _ => rfl) rfl (Nat.le_of_ble_eq_true rfl) dX5_sniff_1 ?_
  intro z1_
  refine r_if_eq g 17 dX5_sniff_4 (by decide) ?_ ?_
  · refine r_iconst g dX5_sniff_17 ?_
    exact r_iret g dX5_sniff_18 rfl rfl
  · refine r_iload_n g dX5_sniff_7 rfl ?_
    refine r_iconst g dX5_sniff_8 ?_
    refine r_bipush g dX5_sniff_9 (by decide) ?_
    refine r_callS_PI g (kX5_within S x2 0 99) mX5_within w_324 w_325 (by decide) (fun _ => rfl) rfl (Nat.le_of_ble_eq_true rfl) dX5_sniff_11 ?_
    intro z2_
    refine r_if_ne g 19 dX5_sniff_14 (by decide) ?_ ?_
    · refine r_aload_n g dX5_sniff_19 rfl ?_
      refine r_getC (c0 := 1) g KX5 shc_0 0 rfl (by decide) w_274 dX5_sniff_20 ?_
      refine r_iload_n g dX5_sniff_23 rfl ?_
      refine r_aaldA (P := isRow) g 0 (fun _ => rfl) shc_1 (by decide) (by decide) dX5_sniff_24 ?_
      intro q3_ hq3_
      refine r_astore_n g 3 dX5_sniff_25 rfl (by decide) rfl ?_
      refine r_aload_n g dX5_sniff_26 rfl ?_
      refine r_callV_PI (q := q3_) (as := fun b => []) g (kX1_isMissing S q3_ hq3_) mX1_isMissing (shRow hq3_) rfl w_342 w_343 w_344 (by decide) (fun _ => rfl) rfl (Nat.le_of_ble_eq_true rfl) dX5_sniff_27 ?_
      intro z4_
      refine r_if_eq g 39 dX5_sniff_30 (by decide) ?_ ?_
      · refine r_aload_n g dX5_sniff_39 rfl ?_
        refine r_getI g KX1 (shRow hq3_) 1 rfl (by decide) w_163 dX5_sniff_40 ?_
        refine r_iconst g dX5_sniff_43 ?_
        refine r_icmp_eq g 53 dX5_sniff_44 (by decide) ?_ ?_
        · refine r_iconst g dX5_sniff_53 ?_
          refine r_istore g dX5_sniff_54 (by decide) rfl ?_
          refine r_msk [true, false, true, true, true, false] rfl ?_
          exact tX5_sniff_56 g hq3_ _ _
        · refine r_aload_n g dX5_sniff_47 rfl ?_
          refine r_iconst g dX5_sniff_48 ?_
          refine r_callV_WI (q := 0) (as := fun b => [vi 5]) g (kX5_found S 5) mX5_found shc_0 rfl w_327 w_329 w_0 (by decide) (fun _ => rfl) rfl (Nat.le_of_ble_eq_true rfl) dX5_sniff_49 ?_
          intro z14_ S15_
          exact r_iret g dX5_sniff_52 rfl rfl
      · refine r_aload_n g dX5_sniff_33 rfl ?_
        refine r_iconst g dX5_sniff_34 ?_
        refine r_callV_WI (q := 0) (as := fun b => [vi 1]) g (kX5_found S 1) mX5_found shc_0 rfl w_327 w_329 w_0 (by decide) (fun _ => rfl) rfl (Nat.le_of_ble_eq_true rfl) dX5_sniff_35 ?_
        intro z16_ S17_
        exact r_iret g dX5_sniff_38 rfl rfl
    · refine r_iconst g dX5_sniff_17 ?_
      exact r_iret g dX5_sniff_18 rfl rfl
theorem kX5_asked (S : St)  : Con yX5_asked cX5_asked 1 (some .int) { frames := 0, cells := 0, slots := 0, locals := 0 } false SHC (SHC, 0, 0) (fun b => [.ref (b + 0)]) S (fun _ => oI) (fun _ => S) (pX5_asked S) := by
  refine Con_of (fun b => [some (.ref (b + 0))]) (by decide) (fun _ => rfl) (fun _ => Nat.le_of_ble_eq_true rfl) ?_
  intro G g _ _ _
  change Ok G cX5_asked RX5 1 { frames := 0, cells := 0, slots := 0, locals := 0 } (some .int) at g
  show Rg G oI (fun _ => S) (SHC, 0, 0) (SHC, 0, 0) S 0 [some (vr G 0)] [] (pX5_asked S)
  unfold pX5_asked
  refine r_aload_n g dX5_asked_0 rfl ?_
  refine r_getI g KX5 shc_0 11 rfl (by decide) w_285 dX5_asked_1 ?_
  exact r_iret g dX5_asked_4 rfl rfl
theorem kX5_upper (S : St)  : Con yX5_upper cX5_upper 1 (some .long) { frames := 0, cells := 0, slots := 0, locals := 0 } false SHC (SHC, 0, 0) (fun b => [.ref (b + 0)]) S (fun _ => oL) (fun _ => S) (pX5_upper S) := by
  refine Con_of (fun b => [some (.ref (b + 0))]) (by decide) (fun _ => rfl) (fun _ => Nat.le_of_ble_eq_true rfl) ?_
  intro G g _ _ _
  change Ok G cX5_upper RX5 1 { frames := 0, cells := 0, slots := 0, locals := 0 } (some .long) at g
  show Rg G oL (fun _ => S) (SHC, 0, 0) (SHC, 0, 0) S 0 [some (vr G 0)] [] (pX5_upper S)
  unfold pX5_upper
  refine r_aload_n g dX5_upper_0 rfl ?_
  refine r_getL g KX5 shc_0 12 rfl (by decide) w_286 dX5_upper_1 ?_
  exact r_lret g dX5_upper_4 rfl rfl
theorem kX5_lower (S : St)  : Con yX5_lower cX5_lower 1 (some .long) { frames := 0, cells := 0, slots := 0, locals := 0 } false SHC (SHC, 0, 0) (fun b => [.ref (b + 0)]) S (fun _ => oL) (fun _ => S) (pX5_lower S) := by
  refine Con_of (fun b => [some (.ref (b + 0))]) (by decide) (fun _ => rfl) (fun _ => Nat.le_of_ble_eq_true rfl) ?_
  intro G g _ _ _
  change Ok G cX5_lower RX5 1 { frames := 0, cells := 0, slots := 0, locals := 0 } (some .long) at g
  show Rg G oL (fun _ => S) (SHC, 0, 0) (SHC, 0, 0) S 0 [some (vr G 0)] [] (pX5_lower S)
  unfold pX5_lower
  refine r_aload_n g dX5_lower_0 rfl ?_
  refine r_getL g KX5 shc_0 13 rfl (by decide) w_287 dX5_lower_1 ?_
  exact r_lret g dX5_lower_4 rfl rfl
theorem tX5_countOfStuffs_25 {G : Gx} {k4 : Int → Int → Option (Int)} {S : St} {x1 : Int} {x2 : Int} (g : Ok G cX5_countOfStuffs RX5 3 { frames := 1, cells := 0, slots := 0, locals := 20 } (some .int)) (hk4 : ∀ (x1' : Int) (x2' : Int), Rg G oI (fun _ => S) (SHC, 0, 0) (SHC, 0, 0) S 4 [some (vr G 0), some (vi (x1')), some (vi (x2'))] [] (k4 x1' x2'))  : Rg G oI (fun _ => S) (SHC, 0, 0) (SHC, 0, 0) S 25 [some (vr G 0), some (vi x1), some (vi x2)] [] (pX5_countOfStuffs_25 k4 S x1 x2) := by
  unfold pX5_countOfStuffs_25
  refine r_iinc g dX5_countOfStuffs_25 (by decide) rfl ?_
  intro x2_3_
  change Rg _ _ _ _ _ _ _ [some (vr G 0), some (vi x1), some (vi x2_3_)] _ _
  refine r_goto g 4 dX5_countOfStuffs_28 (by decide) ?_
  exact hk4 _ _
theorem tX5_countOfStuffs_4B {G : Gx} {S : St} (g : Ok G cX5_countOfStuffs RX5 3 { frames := 1, cells := 0, slots := 0, locals := 20 } (some .int))   {k4 : Int → Int → Option (Int)} (hk4 : ∀ (x1' : Int) (x2' : Int), Rg G oI (fun _ => S) (SHC, 0, 0) (SHC, 0, 0) S 4 [some (vr G 0), some (vi (x1')), some (vi (x2'))] [] (k4 x1' x2')) {x1 : Int} {x2 : Int} : Rg G oI (fun _ => S) (SHC, 0, 0) (SHC, 0, 0) S 4 [some (vr G 0), some (vi x1), some (vi x2)] [] (pX5_countOfStuffs_4B S k4 x1 x2) := by
  unfold pX5_countOfStuffs_4B
  refine r_iload_n g dX5_countOfStuffs_4 rfl ?_
  refine r_bipush g dX5_countOfStuffs_5 (by decide) ?_
  refine r_icmp_ge g 31 dX5_countOfStuffs_7 (by decide) ?_ ?_
  · refine r_iload_n g dX5_countOfStuffs_31 rfl ?_
    exact r_iret g dX5_countOfStuffs_32 rfl rfl
  · refine r_aload_n g dX5_countOfStuffs_10 rfl ?_
    refine r_getC (c0 := 3) g KX5 shc_0 2 rfl (by decide) w_276 dX5_countOfStuffs_11 ?_
    refine r_iload_n g dX5_countOfStuffs_14 rfl ?_
    refine r_aaldA (P := isStf) g 1 (fun _ => rfl) shc_3 (by decide) (by decide) dX5_countOfStuffs_15 ?_
    intro q1_ hq1_
    refine r_callV_PI (q := q1_) (as := fun b => []) g (kX3_isMissing S q1_ hq1_) mX3_isMissing (shStf hq1_) rfl w_446 w_428 w_429 (by decide) (fun _ => rfl) rfl (Nat.le_of_ble_eq_true rfl) dX5_countOfStuffs_16 ?_
    intro z2_
    refine r_if_ne g 25 dX5_countOfStuffs_19 (by decide) ?_ ?_
    · exact tX5_countOfStuffs_25 g hk4
    · refine r_iinc g dX5_countOfStuffs_22 (by decide) rfl ?_
      intro x1_4_
      change Rg _ _ _ _ _ _ _ [some (vr G 0), some (vi x1_4_), some (vi x2)] _ _
      exact tX5_countOfStuffs_25 g hk4
theorem tX5_countOfStuffs_4 {G : Gx} {S : St} (g : Ok G cX5_countOfStuffs RX5 3 { frames := 1, cells := 0, slots := 0, locals := 20 } (some .int))   : ∀ (n_ : Nat) (x1 : Int) (x2 : Int), Rg G oI (fun _ => S) (SHC, 0, 0) (SHC, 0, 0) S 4 [some (vr G 0), some (vi x1), some (vi x2)] [] (lo2 (pX5_countOfStuffs_4B S) n_ x1 x2) := by
  intro n_
  induction n_ with
  | zero => intro x1 x2; exact r_none
  | succ n_ ih => intro x1 x2; exact tX5_countOfStuffs_4B g   ih
theorem kX5_countOfStuffs (S : St)  : Con yX5_countOfStuffs cX5_countOfStuffs 3 (some .int) { frames := 1, cells := 0, slots := 0, locals := 20 } false SHC (SHC, 0, 0) (fun b => [.ref (b + 0)]) S (fun _ => oI) (fun _ => S) (pX5_countOfStuffs S) := by
  refine Con_of (fun b => [some (.ref (b + 0)), none, none]) (by decide) (fun _ => rfl) (fun _ => Nat.le_of_ble_eq_true rfl) ?_
  intro G g _ _ _
  change Ok G cX5_countOfStuffs RX5 3 { frames := 1, cells := 0, slots := 0, locals := 20 } (some .int) at g
  show Rg G oI (fun _ => S) (SHC, 0, 0) (SHC, 0, 0) S 0 [some (vr G 0), none, none] [] (pX5_countOfStuffs S)
  unfold pX5_countOfStuffs
  refine r_iconst g dX5_countOfStuffs_0 ?_
  refine r_istore_n g 1 dX5_countOfStuffs_1 rfl (by decide) rfl ?_
  refine r_iconst g dX5_countOfStuffs_2 ?_
  refine r_istore_n g 2 dX5_countOfStuffs_3 rfl (by decide) rfl ?_
  exact tX5_countOfStuffs_4 g _ _ _
theorem tX5_countOfRows_1_22 {G : Gx} {k4 : Int → Int → Option (Int)} {S : St} {x1 : Int} {x2 : Int} (g : Ok G cX5_countOfRows RX5 3 { frames := 1, cells := 0, slots := 0, locals := 20 } (some .int)) (hk4 : ∀ (x1' : Int) (x2' : Int), Rg G oI (fun _ => S) (SHC, 0, 0) (SHC, 0, 0) S 4 [some (vr G 1), some (vi (x1')), some (vi (x2'))] [] (k4 x1' x2'))  : Rg G oI (fun _ => S) (SHC, 0, 0) (SHC, 0, 0) S 22 [some (vr G 1), some (vi x1), some (vi x2)] [] (pX5_countOfRows_1_22 k4 S x1 x2) := by
  unfold pX5_countOfRows_1_22
  refine r_iinc g dX5_countOfRows_22 (by decide) rfl ?_
  intro x2_3_
  change Rg _ _ _ _ _ _ _ [some (vr G 1), some (vi x1), some (vi x2_3_)] _ _
  refine r_goto g 4 dX5_countOfRows_25 (by decide) ?_
  exact hk4 _ _
theorem tX5_countOfRows_1_4B {G : Gx} {S : St} (g : Ok G cX5_countOfRows RX5 3 { frames := 1, cells := 0, slots := 0, locals := 20 } (some .int))   {k4 : Int → Int → Option (Int)} (hk4 : ∀ (x1' : Int) (x2' : Int), Rg G oI (fun _ => S) (SHC, 0, 0) (SHC, 0, 0) S 4 [some (vr G 1), some (vi (x1')), some (vi (x2'))] [] (k4 x1' x2')) {x1 : Int} {x2 : Int} : Rg G oI (fun _ => S) (SHC, 0, 0) (SHC, 0, 0) S 4 [some (vr G 1), some (vi x1), some (vi x2)] [] (pX5_countOfRows_1_4B S k4 x1 x2) := by
  unfold pX5_countOfRows_1_4B
  refine r_iload_n g dX5_countOfRows_4 rfl ?_
  refine r_aload_n g dX5_countOfRows_5 rfl ?_
  refine r_alen (t := 4) g (fun _ => rfl) shc_1 dX5_countOfRows_6 ?_
  refine r_icmp_ge g 28 dX5_countOfRows_7 (by decide) ?_ ?_
  · refine r_iload_n g dX5_countOfRows_28 rfl ?_
    exact r_iret g dX5_countOfRows_29 rfl rfl
  · refine r_aload_n g dX5_countOfRows_10 rfl ?_
    refine r_iload_n g dX5_countOfRows_11 rfl ?_
    refine r_aaldA (P := isRow) g 0 (fun _ => rfl) shc_1 (by decide) (by decide) dX5_countOfRows_12 ?_
    intro q1_ hq1_
    refine r_callV_PI (q := q1_) (as := fun b => []) g (kX1_isMissing S q1_ hq1_) mX1_isMissing (shRow hq1_) rfl w_342 w_343 w_344 (by decide) (fun _ => rfl) rfl (Nat.le_of_ble_eq_true rfl) dX5_countOfRows_13 ?_
    intro z2_
    refine r_if_ne g 22 dX5_countOfRows_16 (by decide) ?_ ?_
    · exact tX5_countOfRows_1_22 g hk4
    · refine r_iinc g dX5_countOfRows_19 (by decide) rfl ?_
      intro x1_4_
      change Rg _ _ _ _ _ _ _ [some (vr G 1), some (vi x1_4_), some (vi x2)] _ _
      exact tX5_countOfRows_1_22 g hk4
theorem tX5_countOfRows_1_4 {G : Gx} {S : St} (g : Ok G cX5_countOfRows RX5 3 { frames := 1, cells := 0, slots := 0, locals := 20 } (some .int))   : ∀ (n_ : Nat) (x1 : Int) (x2 : Int), Rg G oI (fun _ => S) (SHC, 0, 0) (SHC, 0, 0) S 4 [some (vr G 1), some (vi x1), some (vi x2)] [] (lo2 (pX5_countOfRows_1_4B S) n_ x1 x2) := by
  intro n_
  induction n_ with
  | zero => intro x1 x2; exact r_none
  | succ n_ ih => intro x1 x2; exact tX5_countOfRows_1_4B g   ih
theorem kX5_countOfRows_1 (S : St)  : Con yX5_countOfRows cX5_countOfRows 3 (some .int) { frames := 1, cells := 0, slots := 0, locals := 20 } false SHC (SHC, 0, 0) (fun b => [.ref (b + 1)]) S (fun _ => oI) (fun _ => S) (pX5_countOfRows_1 S) := by
  refine Con_of (fun b => [some (.ref (b + 1)), none, none]) (by decide) (fun _ => rfl) (fun _ => Nat.le_of_ble_eq_true rfl) ?_
  intro G g _ _ _
  change Ok G cX5_countOfRows RX5 3 { frames := 1, cells := 0, slots := 0, locals := 20 } (some .int) at g
  show Rg G oI (fun _ => S) (SHC, 0, 0) (SHC, 0, 0) S 0 [some (vr G 1), none, none] [] (pX5_countOfRows_1 S)
  unfold pX5_countOfRows_1
  refine r_iconst g dX5_countOfRows_0 ?_
  refine r_istore_n g 1 dX5_countOfRows_1 rfl (by decide) rfl ?_
  refine r_iconst g dX5_countOfRows_2 ?_
  refine r_istore_n g 2 dX5_countOfRows_3 rfl (by decide) rfl ?_
  exact tX5_countOfRows_1_4 g _ _ _
theorem tX5_countOfRows_2_22 {G : Gx} {k4 : Int → Int → Option (Int)} {S : St} {x1 : Int} {x2 : Int} (g : Ok G cX5_countOfRows RX5 3 { frames := 1, cells := 0, slots := 0, locals := 20 } (some .int)) (hk4 : ∀ (x1' : Int) (x2' : Int), Rg G oI (fun _ => S) (SHC, 0, 0) (SHC, 0, 0) S 4 [some (vr G 2), some (vi (x1')), some (vi (x2'))] [] (k4 x1' x2'))  : Rg G oI (fun _ => S) (SHC, 0, 0) (SHC, 0, 0) S 22 [some (vr G 2), some (vi x1), some (vi x2)] [] (pX5_countOfRows_2_22 k4 S x1 x2) := by
  unfold pX5_countOfRows_2_22
  refine r_iinc g dX5_countOfRows_22 (by decide) rfl ?_
  intro x2_3_
  change Rg _ _ _ _ _ _ _ [some (vr G 2), some (vi x1), some (vi x2_3_)] _ _
  refine r_goto g 4 dX5_countOfRows_25 (by decide) ?_
  exact hk4 _ _
theorem tX5_countOfRows_2_4B {G : Gx} {S : St} (g : Ok G cX5_countOfRows RX5 3 { frames := 1, cells := 0, slots := 0, locals := 20 } (some .int))   {k4 : Int → Int → Option (Int)} (hk4 : ∀ (x1' : Int) (x2' : Int), Rg G oI (fun _ => S) (SHC, 0, 0) (SHC, 0, 0) S 4 [some (vr G 2), some (vi (x1')), some (vi (x2'))] [] (k4 x1' x2')) {x1 : Int} {x2 : Int} : Rg G oI (fun _ => S) (SHC, 0, 0) (SHC, 0, 0) S 4 [some (vr G 2), some (vi x1), some (vi x2)] [] (pX5_countOfRows_2_4B S k4 x1 x2) := by
  unfold pX5_countOfRows_2_4B
  refine r_iload_n g dX5_countOfRows_4 rfl ?_
  refine r_aload_n g dX5_countOfRows_5 rfl ?_
  refine r_alen (t := 4) g (fun _ => rfl) shc_2 dX5_countOfRows_6 ?_
  refine r_icmp_ge g 28 dX5_countOfRows_7 (by decide) ?_ ?_
  · refine r_iload_n g dX5_countOfRows_28 rfl ?_
    exact r_iret g dX5_countOfRows_29 rfl rfl
  · refine r_aload_n g dX5_countOfRows_10 rfl ?_
    refine r_iload_n g dX5_countOfRows_11 rfl ?_
    refine r_aaldA (P := isRow) g 0 (fun _ => rfl) shc_2 (by decide) (by decide) dX5_countOfRows_12 ?_
    intro q1_ hq1_
    refine r_callV_PI (q := q1_) (as := fun b => []) g (kX1_isMissing S q1_ hq1_) mX1_isMissing (shRow hq1_) rfl w_342 w_343 w_344 (by decide) (fun _ => rfl) rfl (Nat.le_of_ble_eq_true rfl) dX5_countOfRows_13 ?_
    intro z2_
    refine r_if_ne g 22 dX5_countOfRows_16 (by decide) ?_ ?_
    · exact tX5_countOfRows_2_22 g hk4
    · refine r_iinc g dX5_countOfRows_19 (by decide) rfl ?_
      intro x1_4_
      change Rg _ _ _ _ _ _ _ [some (vr G 2), some (vi x1_4_), some (vi x2)] _ _
      exact tX5_countOfRows_2_22 g hk4
theorem tX5_countOfRows_2_4 {G : Gx} {S : St} (g : Ok G cX5_countOfRows RX5 3 { frames := 1, cells := 0, slots := 0, locals := 20 } (some .int))   : ∀ (n_ : Nat) (x1 : Int) (x2 : Int), Rg G oI (fun _ => S) (SHC, 0, 0) (SHC, 0, 0) S 4 [some (vr G 2), some (vi x1), some (vi x2)] [] (lo2 (pX5_countOfRows_2_4B S) n_ x1 x2) := by
  intro n_
  induction n_ with
  | zero => intro x1 x2; exact r_none
  | succ n_ ih => intro x1 x2; exact tX5_countOfRows_2_4B g   ih
theorem kX5_countOfRows_2 (S : St)  : Con yX5_countOfRows cX5_countOfRows 3 (some .int) { frames := 1, cells := 0, slots := 0, locals := 20 } false SHC (SHC, 0, 0) (fun b => [.ref (b + 2)]) S (fun _ => oI) (fun _ => S) (pX5_countOfRows_2 S) := by
  refine Con_of (fun b => [some (.ref (b + 2)), none, none]) (by decide) (fun _ => rfl) (fun _ => Nat.le_of_ble_eq_true rfl) ?_
  intro G g _ _ _
  change Ok G cX5_countOfRows RX5 3 { frames := 1, cells := 0, slots := 0, locals := 20 } (some .int) at g
  show Rg G oI (fun _ => S) (SHC, 0, 0) (SHC, 0, 0) S 0 [some (vr G 2), none, none] [] (pX5_countOfRows_2 S)
  unfold pX5_countOfRows_2
  refine r_iconst g dX5_countOfRows_0 ?_
  refine r_istore_n g 1 dX5_countOfRows_1 rfl (by decide) rfl ?_
  refine r_iconst g dX5_countOfRows_2 ?_
  refine r_istore_n g 2 dX5_countOfRows_3 rfl (by decide) rfl ?_
  exact tX5_countOfRows_2_4 g _ _ _
theorem kX5_count (S : St) (x1 : Int)  : Con yX5_count cX5_count 2 (some .int) { frames := 2, cells := 0, slots := 0, locals := 44 } false SHC (SHC, 0, 0) (fun b => [.ref (b + 0), vi x1]) S (fun _ => oI) (fun _ => S) (pX5_count S x1) := by
  refine Con_of (fun b => [some (.ref (b + 0)), some (vi x1)]) (by decide) (fun _ => rfl) (fun _ => Nat.le_of_ble_eq_true rfl) ?_
  intro G g _ _ _
  change Ok G cX5_count RX5 2 { frames := 2, cells := 0, slots := 0, locals := 44 } (some .int) at g
  show Rg G oI (fun _ => S) (SHC, 0, 0) (SHC, 0, 0) S 0 [some (vr G 0), some (vi x1)] [] (pX5_count S x1)
  unfold pX5_count
  refine r_iload_n g dX5_count_0 rfl ?_
  refine r_split ?_ ?_
  · intro hi0 he0
    refine r_tabIn g 40 hi0 dX5_count_1 (by omega) (by omega) (by rw [he0]; rfl) (by decide) ?_
    refine r_aload_n g dX5_count_40 rfl ?_
    refine r_iconst g dX5_count_41 ?_
    refine r_callV_PI (q := 0) (as := fun b => [vi 0]) g (kX5_countOfKind S 0) mX5_countOfKind shc_0 rfl w_549 w_551 w_9 (by decide) (fun _ => rfl) rfl (Nat.le_of_ble_eq_true rfl) dX5_count_42 ?_
    intro z1_
    exact r_iret g dX5_count_45 rfl rfl
  · intro hi0 he0
    refine r_split ?_ ?_
    · intro hi1 he1
      refine r_tabIn g 46 hi1 dX5_count_1 (by omega) (by omega) (by rw [he1]; rfl) (by decide) ?_
      refine r_aload_n g dX5_count_46 rfl ?_
      refine r_iconst g dX5_count_47 ?_
      refine r_callV_PI (q := 0) (as := fun b => [vi 1]) g (kX5_countOfKind S 1) mX5_countOfKind shc_0 rfl w_549 w_551 w_9 (by decide) (fun _ => rfl) rfl (Nat.le_of_ble_eq_true rfl) dX5_count_48 ?_
      intro z2_
      exact r_iret g dX5_count_51 rfl rfl
    · intro hi1 he1
      refine r_split ?_ ?_
      · intro hi2 he2
        refine r_tabIn g 52 hi2 dX5_count_1 (by omega) (by omega) (by rw [he2]; rfl) (by decide) ?_
        refine r_aload_n g dX5_count_52 rfl ?_
        refine r_iconst g dX5_count_53 ?_
        refine r_callV_PI (q := 0) (as := fun b => [vi 2]) g (kX5_countOfKind S 2) mX5_countOfKind shc_0 rfl w_549 w_551 w_9 (by decide) (fun _ => rfl) rfl (Nat.le_of_ble_eq_true rfl) dX5_count_54 ?_
        intro z3_
        exact r_iret g dX5_count_57 rfl rfl
      · intro hi2 he2
        refine r_split ?_ ?_
        · intro hi3 he3
          refine r_tabIn g 58 hi3 dX5_count_1 (by omega) (by omega) (by rw [he3]; rfl) (by decide) ?_
          refine r_aload_n g dX5_count_58 rfl ?_
          refine r_callV_PI (q := 0) (as := fun b => []) g (kX5_countOfStuffs S) mX5_countOfStuffs shc_0 rfl w_817 w_819 w_27 (by decide) (fun _ => rfl) rfl (Nat.le_of_ble_eq_true rfl) dX5_count_59 ?_
          intro z4_
          exact r_iret g dX5_count_62 rfl rfl
        · intro hi3 he3
          refine r_split ?_ ?_
          · intro hi4 he4
            refine r_tabIn g 63 hi4 dX5_count_1 (by omega) (by omega) (by rw [he4]; rfl) (by decide) ?_
            refine r_aload_n g dX5_count_63 rfl ?_
            refine r_getC (c0 := 1) g KX5 shc_0 0 rfl (by decide) w_274 dX5_count_64 ?_
            refine r_callS_PI g (kX5_countOfRows_1 S) mX5_countOfRows w_821 w_822 (by decide) (fun _ => rfl) rfl (Nat.le_of_ble_eq_true rfl) dX5_count_67 ?_
            intro z5_
            exact r_iret g dX5_count_70 rfl rfl
          · intro hi4 he4
            refine r_split ?_ ?_
            · intro hi5 he5
              refine r_tabIn g 71 hi5 dX5_count_1 (by omega) (by omega) (by rw [he5]; rfl) (by decide) ?_
              refine r_aload_n g dX5_count_71 rfl ?_
              refine r_getC (c0 := 2) g KX5 shc_0 1 rfl (by decide) w_275 dX5_count_72 ?_
              refine r_callS_PI g (kX5_countOfRows_2 S) mX5_countOfRows w_821 w_822 (by decide) (fun _ => rfl) rfl (Nat.le_of_ble_eq_true rfl) dX5_count_75 ?_
              intro z6_
              exact r_iret g dX5_count_78 rfl rfl
            · intro hi5 he5
              refine r_tabOut g 79 hi0 dX5_count_1 (by omega) (by decide) ?_
              refine r_iconst g dX5_count_79 ?_
              exact r_iret g dX5_count_80 rfl rfl
theorem kX5_finding (S : St)  : Con yX5_finding cX5_finding 1 (some .int) { frames := 0, cells := 0, slots := 0, locals := 0 } false SHC (SHC, 0, 0) (fun b => [.ref (b + 0)]) S (fun _ => oI) (fun _ => S) (pX5_finding S) := by
  refine Con_of (fun b => [some (.ref (b + 0))]) (by decide) (fun _ => rfl) (fun _ => Nat.le_of_ble_eq_true rfl) ?_
  intro G g _ _ _
  change Ok G cX5_finding RX5 1 { frames := 0, cells := 0, slots := 0, locals := 0 } (some .int) at g
  show Rg G oI (fun _ => S) (SHC, 0, 0) (SHC, 0, 0) S 0 [some (vr G 0)] [] (pX5_finding S)
  unfold pX5_finding
  refine r_aload_n g dX5_finding_0 rfl ?_
  refine r_getI g KX5 shc_0 10 rfl (by decide) w_284 dX5_finding_1 ?_
  exact r_iret g dX5_finding_4 rfl rfl
theorem kX5_findings (S : St) (x1 : Int)  : Con yX5_findings cX5_findings 2 (some .int) { frames := 1, cells := 0, slots := 0, locals := 22 } false SHC (SHC, 0, 0) (fun b => [.ref (b + 0), vi x1]) S (fun _ => oI) (fun _ => S) (pX5_findings S x1) := by
  refine Con_of (fun b => [some (.ref (b + 0)), some (vi x1)]) (by decide) (fun _ => rfl) (fun _ => Nat.le_of_ble_eq_true rfl) ?_
  intro G g _ _ _
  change Ok G cX5_findings RX5 2 { frames := 1, cells := 0, slots := 0, locals := 22 } (some .int) at g
  show Rg G oI (fun _ => S) (SHC, 0, 0) (SHC, 0, 0) S 0 [some (vr G 0), some (vi x1)] [] (pX5_findings S x1)
  unfold pX5_findings
  refine r_iload_n g dX5_findings_0 rfl ?_
  refine r_iconst g dX5_findings_1 ?_
  refine r_iconst g dX5_findings_2 ?_
  refine r_callS_PI g (kX5_within S x1 1 5) mX5_within w_324 w_325 (by decide) (fun _ => rfl) rfl (Nat.le_of_ble_eq_true rfl) dX5_findings_3 ?_
  intro z1_
  refine r_if_eq g 18 dX5_findings_6 (by decide) ?_ ?_
  · refine r_iconst g dX5_findings_18 ?_
    exact r_iret g dX5_findings_19 rfl rfl
  · refine r_aload_n g dX5_findings_9 rfl ?_
    refine r_getC (c0 := 22) g KX5 shc_0 9 rfl (by decide) w_283 dX5_findings_10 ?_
    refine r_iload_n g dX5_findings_13 rfl ?_
    refine r_iald g shc_22 (by decide) dX5_findings_14 ?_
    intro z2_
    refine r_goto g 19 dX5_findings_15 (by decide) ?_
    exact r_iret g dX5_findings_19 rfl rfl
theorem tX5_digest_139B {G : Gx} {S : St} (g : Ok G cX5_digest RX5 4 { frames := 3, cells := 0, slots := 0, locals := 65 } (some .long))   {k139 : Int → Int → Option (Int)} (hk139 : ∀ (x1' : Int) (x3' : Int), Rg G oL (fun _ => S) (SHC, 0, 0) (SHC, 0, 0) S 139 [some (vr G 0), some (vl (x1')), none, some (vi (x3'))] [] (k139 x1' x3')) {x1 : Int} {x3 : Int} : Rg G oL (fun _ => S) (SHC, 0, 0) (SHC, 0, 0) S 139 [some (vr G 0), some (vl x1), none, some (vi x3)] [] (pX5_digest_139B S k139 x1 x3) := by
  unfold pX5_digest_139B
  refine r_iload_n g dX5_digest_139 rfl ?_
  refine r_iconst g dX5_digest_140 ?_
  refine r_icmp_ge g 161 dX5_digest_141 (by decide) ?_ ?_
  · refine r_lload_n g dX5_digest_161 rfl ?_
    exact r_lret g dX5_digest_162 rfl rfl
  · refine r_aload_n g dX5_digest_144 rfl ?_
    refine r_getC (c0 := 2) g KX5 shc_0 1 rfl (by decide) w_275 dX5_digest_145 ?_
    refine r_iload_n g dX5_digest_148 rfl ?_
    refine r_aaldA (P := isRow) g 0 (fun _ => rfl) shc_2 (by decide) (by decide) dX5_digest_149 ?_
    intro q1_ hq1_
    refine r_lload_n g dX5_digest_150 rfl ?_
    refine r_callV_PL (q := q1_) (as := fun b => [vl x1]) g (kX1_mixInto S q1_ x1 hq1_) mX1_mixInto (shRow hq1_) rfl w_859 w_860 w_861 (by decide) (fun _ => rfl) rfl (Nat.le_of_ble_eq_true rfl) dX5_digest_151 ?_
    intro z2_
    refine r_lstore_n g 1 dX5_digest_154 rfl (by decide) rfl ?_
    refine r_iinc g dX5_digest_155 (by decide) rfl ?_
    intro x3_3_
    change Rg _ _ _ _ _ _ _ [some (vr G 0), some (vl z2_), none, some (vi x3_3_)] _ _
    refine r_goto g 139 dX5_digest_158 (by decide) ?_
    exact hk139 _ _
theorem tX5_digest_139 {G : Gx} {S : St} (g : Ok G cX5_digest RX5 4 { frames := 3, cells := 0, slots := 0, locals := 65 } (some .long))   : ∀ (n_ : Nat) (x1 : Int) (x3 : Int), Rg G oL (fun _ => S) (SHC, 0, 0) (SHC, 0, 0) S 139 [some (vr G 0), some (vl x1), none, some (vi x3)] [] (lo2 (pX5_digest_139B S) n_ x1 x3) := by
  intro n_
  induction n_ with
  | zero => intro x1 x3; exact r_none
  | succ n_ ih => intro x1 x3; exact tX5_digest_139B g   ih
theorem tX5_digest_114B {G : Gx} {S : St} (g : Ok G cX5_digest RX5 4 { frames := 3, cells := 0, slots := 0, locals := 65 } (some .long))   {k114 : Int → Int → Option (Int)} (hk114 : ∀ (x1' : Int) (x3' : Int), Rg G oL (fun _ => S) (SHC, 0, 0) (SHC, 0, 0) S 114 [some (vr G 0), some (vl (x1')), none, some (vi (x3'))] [] (k114 x1' x3')) {x1 : Int} {x3 : Int} : Rg G oL (fun _ => S) (SHC, 0, 0) (SHC, 0, 0) S 114 [some (vr G 0), some (vl x1), none, some (vi x3)] [] (pX5_digest_114B S k114 x1 x3) := by
  unfold pX5_digest_114B
  refine r_iload_n g dX5_digest_114 rfl ?_
  refine r_bipush g dX5_digest_115 (by decide) ?_
  refine r_icmp_ge g 137 dX5_digest_117 (by decide) ?_ ?_
  · refine r_iconst g dX5_digest_137 ?_
    refine r_istore_n g 3 dX5_digest_138 rfl (by decide) rfl ?_
    exact tX5_digest_139 g _ _ _
  · refine r_aload_n g dX5_digest_120 rfl ?_
    refine r_getC (c0 := 1) g KX5 shc_0 0 rfl (by decide) w_274 dX5_digest_121 ?_
    refine r_iload_n g dX5_digest_124 rfl ?_
    refine r_aaldA (P := isRow) g 0 (fun _ => rfl) shc_1 (by decide) (by decide) dX5_digest_125 ?_
    intro q4_ hq4_
    refine r_lload_n g dX5_digest_126 rfl ?_
    refine r_callV_PL (q := q4_) (as := fun b => [vl x1]) g (kX1_mixInto S q4_ x1 hq4_) mX1_mixInto (shRow hq4_) rfl w_859 w_860 w_861 (by decide) (fun _ => rfl) rfl (Nat.le_of_ble_eq_true rfl) dX5_digest_127 ?_
    intro z5_
    refine r_lstore_n g 1 dX5_digest_130 rfl (by decide) rfl ?_
    refine r_iinc g dX5_digest_131 (by decide) rfl ?_
    intro x3_6_
    change Rg _ _ _ _ _ _ _ [some (vr G 0), some (vl z5_), none, some (vi x3_6_)] _ _
    refine r_goto g 114 dX5_digest_134 (by decide) ?_
    exact hk114 _ _
theorem tX5_digest_114 {G : Gx} {S : St} (g : Ok G cX5_digest RX5 4 { frames := 3, cells := 0, slots := 0, locals := 65 } (some .long))   : ∀ (n_ : Nat) (x1 : Int) (x3 : Int), Rg G oL (fun _ => S) (SHC, 0, 0) (SHC, 0, 0) S 114 [some (vr G 0), some (vl x1), none, some (vi x3)] [] (lo2 (pX5_digest_114B S) n_ x1 x3) := by
  intro n_
  induction n_ with
  | zero => intro x1 x3; exact r_none
  | succ n_ ih => intro x1 x3; exact tX5_digest_114B g   ih
theorem tX5_digest_89B {G : Gx} {S : St} (g : Ok G cX5_digest RX5 4 { frames := 3, cells := 0, slots := 0, locals := 65 } (some .long))   {k89 : Int → Int → Option (Int)} (hk89 : ∀ (x1' : Int) (x3' : Int), Rg G oL (fun _ => S) (SHC, 0, 0) (SHC, 0, 0) S 89 [some (vr G 0), some (vl (x1')), none, some (vi (x3'))] [] (k89 x1' x3')) {x1 : Int} {x3 : Int} : Rg G oL (fun _ => S) (SHC, 0, 0) (SHC, 0, 0) S 89 [some (vr G 0), some (vl x1), none, some (vi x3)] [] (pX5_digest_89B S k89 x1 x3) := by
  unfold pX5_digest_89B
  refine r_iload_n g dX5_digest_89 rfl ?_
  refine r_bipush g dX5_digest_90 (by decide) ?_
  refine r_icmp_ge g 112 dX5_digest_92 (by decide) ?_ ?_
  · refine r_iconst g dX5_digest_112 ?_
    refine r_istore_n g 3 dX5_digest_113 rfl (by decide) rfl ?_
    exact tX5_digest_114 g _ _ _
  · refine r_aload_n g dX5_digest_95 rfl ?_
    refine r_getC (c0 := 3) g KX5 shc_0 2 rfl (by decide) w_276 dX5_digest_96 ?_
    refine r_iload_n g dX5_digest_99 rfl ?_
    refine r_aaldA (P := isStf) g 1 (fun _ => rfl) shc_3 (by decide) (by decide) dX5_digest_100 ?_
    intro q7_ hq7_
    refine r_lload_n g dX5_digest_101 rfl ?_
    refine r_callV_PL (q := q7_) (as := fun b => [vl x1]) g (kX3_mixInto S q7_ x1 hq7_) mX3_mixInto (shStf hq7_) rfl w_851 w_852 w_853 (by decide) (fun _ => rfl) rfl (Nat.le_of_ble_eq_true rfl) dX5_digest_102 ?_
    intro z8_
    refine r_lstore_n g 1 dX5_digest_105 rfl (by decide) rfl ?_
    refine r_iinc g dX5_digest_106 (by decide) rfl ?_
    intro x3_9_
    change Rg _ _ _ _ _ _ _ [some (vr G 0), some (vl z8_), none, some (vi x3_9_)] _ _
    refine r_goto g 89 dX5_digest_109 (by decide) ?_
    exact hk89 _ _
theorem tX5_digest_89 {G : Gx} {S : St} (g : Ok G cX5_digest RX5 4 { frames := 3, cells := 0, slots := 0, locals := 65 } (some .long))   : ∀ (n_ : Nat) (x1 : Int) (x3 : Int), Rg G oL (fun _ => S) (SHC, 0, 0) (SHC, 0, 0) S 89 [some (vr G 0), some (vl x1), none, some (vi x3)] [] (lo2 (pX5_digest_89B S) n_ x1 x3) := by
  intro n_
  induction n_ with
  | zero => intro x1 x3; exact r_none
  | succ n_ ih => intro x1 x3; exact tX5_digest_89B g   ih
theorem tX5_digest_55B {G : Gx} {S : St} (g : Ok G cX5_digest RX5 4 { frames := 3, cells := 0, slots := 0, locals := 65 } (some .long))   {k55 : Int → Int → Option (Int)} (hk55 : ∀ (x1' : Int) (x3' : Int), Rg G oL (fun _ => S) (SHC, 0, 0) (SHC, 0, 0) S 55 [some (vr G 0), some (vl (x1')), none, some (vi (x3'))] [] (k55 x1' x3')) {x1 : Int} {x3 : Int} : Rg G oL (fun _ => S) (SHC, 0, 0) (SHC, 0, 0) S 55 [some (vr G 0), some (vl x1), none, some (vi x3)] [] (pX5_digest_55B S k55 x1 x3) := by
  unfold pX5_digest_55B
  refine r_iload_n g dX5_digest_55 rfl ?_
  refine r_iconst g dX5_digest_56 ?_
  refine r_icmp_ge g 87 dX5_digest_57 (by decide) ?_ ?_
  · refine r_iconst g dX5_digest_87 ?_
    refine r_istore_n g 3 dX5_digest_88 rfl (by decide) rfl ?_
    exact tX5_digest_89 g _ _ _
  · refine r_aload_n g dX5_digest_60 rfl ?_
    refine r_getC (c0 := 4) g KX5 shc_0 3 rfl (by decide) w_277 dX5_digest_61 ?_
    refine r_iload_n g dX5_digest_64 rfl ?_
    refine r_aaldA (P := isSeal) g 2 (fun _ => rfl) shc_4 (by decide) (by decide) dX5_digest_65 ?_
    intro q10_ hq10_
    refine r_lload_n g dX5_digest_66 rfl ?_
    refine r_aload_n g dX5_digest_67 rfl ?_
    refine r_getC (c0 := 5) g KX5 shc_0 4 rfl (by decide) w_278 dX5_digest_68 ?_
    refine r_iload_n g dX5_digest_71 rfl ?_
    refine r_iald g shc_5 (by decide) dX5_digest_72 ?_
    intro z11_
    refine r_i2l g dX5_digest_73 ?_
    refine r_callS_PL g (kX5_mix S x1 z11_) mX5_mix w_838 w_839 (by decide) (fun _ => rfl) rfl (Nat.le_of_ble_eq_true rfl) dX5_digest_74 ?_
    intro z12_
    refine r_callV_PL (q := q10_) (as := fun b => [vl z12_]) g (kX2_mixInto S q10_ z12_ hq10_) mX2_mixInto (shSeal hq10_) rfl w_842 w_843 w_844 (by decide) (fun _ => rfl) rfl (Nat.le_of_ble_eq_true rfl) dX5_digest_77 ?_
    intro z13_
    refine r_lstore_n g 1 dX5_digest_80 rfl (by decide) rfl ?_
    refine r_iinc g dX5_digest_81 (by decide) rfl ?_
    intro x3_14_
    change Rg _ _ _ _ _ _ _ [some (vr G 0), some (vl z13_), none, some (vi x3_14_)] _ _
    refine r_goto g 55 dX5_digest_84 (by decide) ?_
    exact hk55 _ _
theorem tX5_digest_55 {G : Gx} {S : St} (g : Ok G cX5_digest RX5 4 { frames := 3, cells := 0, slots := 0, locals := 65 } (some .long))   : ∀ (n_ : Nat) (x1 : Int) (x3 : Int), Rg G oL (fun _ => S) (SHC, 0, 0) (SHC, 0, 0) S 55 [some (vr G 0), some (vl x1), none, some (vi x3)] [] (lo2 (pX5_digest_55B S) n_ x1 x3) := by
  intro n_
  induction n_ with
  | zero => intro x1 x3; exact r_none
  | succ n_ ih => intro x1 x3; exact tX5_digest_55B g   ih
theorem tX5_digest_30B {G : Gx} {S : St} (g : Ok G cX5_digest RX5 4 { frames := 3, cells := 0, slots := 0, locals := 65 } (some .long))   {k30 : Int → Int → Option (Int)} (hk30 : ∀ (x1' : Int) (x3' : Int), Rg G oL (fun _ => S) (SHC, 0, 0) (SHC, 0, 0) S 30 [some (vr G 0), some (vl (x1')), none, some (vi (x3'))] [] (k30 x1' x3')) {x1 : Int} {x3 : Int} : Rg G oL (fun _ => S) (SHC, 0, 0) (SHC, 0, 0) S 30 [some (vr G 0), some (vl x1), none, some (vi x3)] [] (pX5_digest_30B S k30 x1 x3) := by
  unfold pX5_digest_30B
  refine r_iload_n g dX5_digest_30 rfl ?_
  refine r_iconst g dX5_digest_31 ?_
  refine r_icmp_gt g 53 dX5_digest_32 (by decide) ?_ ?_
  · refine r_iconst g dX5_digest_53 ?_
    refine r_istore_n g 3 dX5_digest_54 rfl (by decide) rfl ?_
    exact tX5_digest_55 g _ _ _
  · refine r_lload_n g dX5_digest_35 rfl ?_
    refine r_aload_n g dX5_digest_36 rfl ?_
    refine r_getC (c0 := 6) g KX5 shc_0 5 rfl (by decide) w_279 dX5_digest_37 ?_
    refine r_iload_n g dX5_digest_40 rfl ?_
    refine r_iald g shc_6 (by decide) dX5_digest_41 ?_
    intro z15_
    refine r_i2l g dX5_digest_42 ?_
    refine r_callS_PL g (kX5_mix S x1 z15_) mX5_mix w_838 w_839 (by decide) (fun _ => rfl) rfl (Nat.le_of_ble_eq_true rfl) dX5_digest_43 ?_
    intro z16_
    refine r_lstore_n g 1 dX5_digest_46 rfl (by decide) rfl ?_
    refine r_iinc g dX5_digest_47 (by decide) rfl ?_
    intro x3_17_
    change Rg _ _ _ _ _ _ _ [some (vr G 0), some (vl z16_), none, some (vi x3_17_)] _ _
    refine r_goto g 30 dX5_digest_50 (by decide) ?_
    exact hk30 _ _
theorem tX5_digest_30 {G : Gx} {S : St} (g : Ok G cX5_digest RX5 4 { frames := 3, cells := 0, slots := 0, locals := 65 } (some .long))   : ∀ (n_ : Nat) (x1 : Int) (x3 : Int), Rg G oL (fun _ => S) (SHC, 0, 0) (SHC, 0, 0) S 30 [some (vr G 0), some (vl x1), none, some (vi x3)] [] (lo2 (pX5_digest_30B S) n_ x1 x3) := by
  intro n_
  induction n_ with
  | zero => intro x1 x3; exact r_none
  | succ n_ ih => intro x1 x3; exact tX5_digest_30B g   ih
theorem tX5_digest_6B {G : Gx} {S : St} (g : Ok G cX5_digest RX5 4 { frames := 3, cells := 0, slots := 0, locals := 65 } (some .long))   {k6 : Int → Int → Option (Int)} (hk6 : ∀ (x1' : Int) (x3' : Int), Rg G oL (fun _ => S) (SHC, 0, 0) (SHC, 0, 0) S 6 [some (vr G 0), some (vl (x1')), none, some (vi (x3'))] [] (k6 x1' x3')) {x1 : Int} {x3 : Int} : Rg G oL (fun _ => S) (SHC, 0, 0) (SHC, 0, 0) S 6 [some (vr G 0), some (vl x1), none, some (vi x3)] [] (pX5_digest_6B S k6 x1 x3) := by
  unfold pX5_digest_6B
  refine r_iload_n g dX5_digest_6 rfl ?_
  refine r_iconst g dX5_digest_7 ?_
  refine r_icmp_gt g 28 dX5_digest_8 (by decide) ?_ ?_
  · refine r_iconst g dX5_digest_28 ?_
    refine r_istore_n g 3 dX5_digest_29 rfl (by decide) rfl ?_
    exact tX5_digest_30 g _ _ _
  · refine r_lload_n g dX5_digest_11 rfl ?_
    refine r_aload_n g dX5_digest_12 rfl ?_
    refine r_iload_n g dX5_digest_13 rfl ?_
    refine r_callV_PI (q := 0) (as := fun b => [vi x3]) g (kX5_count S x3) mX5_count shc_0 rfl w_837 w_814 w_815 (by decide) (fun _ => rfl) rfl (Nat.le_of_ble_eq_true rfl) dX5_digest_14 ?_
    intro z18_
    refine r_i2l g dX5_digest_17 ?_
    refine r_callS_PL g (kX5_mix S x1 z18_) mX5_mix w_838 w_839 (by decide) (fun _ => rfl) rfl (Nat.le_of_ble_eq_true rfl) dX5_digest_18 ?_
    intro z19_
    refine r_lstore_n g 1 dX5_digest_21 rfl (by decide) rfl ?_
    refine r_iinc g dX5_digest_22 (by decide) rfl ?_
    intro x3_20_
    change Rg _ _ _ _ _ _ _ [some (vr G 0), some (vl z19_), none, some (vi x3_20_)] _ _
    refine r_goto g 6 dX5_digest_25 (by decide) ?_
    exact hk6 _ _
theorem tX5_digest_6 {G : Gx} {S : St} (g : Ok G cX5_digest RX5 4 { frames := 3, cells := 0, slots := 0, locals := 65 } (some .long))   : ∀ (n_ : Nat) (x1 : Int) (x3 : Int), Rg G oL (fun _ => S) (SHC, 0, 0) (SHC, 0, 0) S 6 [some (vr G 0), some (vl x1), none, some (vi x3)] [] (lo2 (pX5_digest_6B S) n_ x1 x3) := by
  intro n_
  induction n_ with
  | zero => intro x1 x3; exact r_none
  | succ n_ ih => intro x1 x3; exact tX5_digest_6B g   ih
theorem kX5_digest (S : St)  : Con yX5_digest cX5_digest 4 (some .long) { frames := 3, cells := 0, slots := 0, locals := 65 } false SHC (SHC, 0, 0) (fun b => [.ref (b + 0)]) S (fun _ => oL) (fun _ => S) (pX5_digest S) := by
  refine Con_of (fun b => [some (.ref (b + 0)), none, none, none]) (by decide) (fun _ => rfl) (fun _ => Nat.le_of_ble_eq_true rfl) ?_
  intro G g _ _ _
  change Ok G cX5_digest RX5 4 { frames := 3, cells := 0, slots := 0, locals := 65 } (some .long) at g
  show Rg G oL (fun _ => S) (SHC, 0, 0) (SHC, 0, 0) S 0 [some (vr G 0), none, none, none] [] (pX5_digest S)
  unfold pX5_digest
  refine r_ldc2 (x := 17) g dX5_digest_0 w_836 (by decide) ?_
  refine r_lstore_n g 1 dX5_digest_3 rfl (by decide) rfl ?_
  refine r_iconst g dX5_digest_4 ?_
  refine r_istore_n g 3 dX5_digest_5 rfl (by decide) rfl ?_
  exact tX5_digest_6 g _ _ _
theorem kX6_in (S : St) (x0 : Int) (x1 : Int) (x2 : Int)  : Con yX6_in cX6_in 3 (some .boolean) { frames := 0, cells := 0, slots := 0, locals := 0 } false SHM (SHM, 0, 0) (fun b => [vi x0, vi x1, vi x2]) S (fun _ => oI) (fun _ => S) (pX6_in x0 x1 x2) := by
  refine Con_of (fun b => [some (vi x0), some (vi x1), some (vi x2)]) (by decide) (fun _ => rfl) (fun _ => Nat.le_of_ble_eq_true rfl) ?_
  intro G g _ _ _
  change Ok G cX6_in RX6 3 { frames := 0, cells := 0, slots := 0, locals := 0 } (some .boolean) at g
  show Rg G oI (fun _ => S) (SHM, 0, 0) (SHM, 0, 0) S 0 [some (vi x0), some (vi x1), some (vi x2)] [] (pX6_in x0 x1 x2)
  unfold pX6_in
  refine r_iload_n g dX6_in_0 rfl ?_
  refine r_iload_n g dX6_in_1 rfl ?_
  refine r_icmp_lt g 14 dX6_in_2 (by decide) ?_ ?_
  · refine r_iconst g dX6_in_14 ?_
    exact r_zret0 g (by decide) dX6_in_15 rfl rfl
  · refine r_iload_n g dX6_in_5 rfl ?_
    refine r_iload_n g dX6_in_6 rfl ?_
    refine r_icmp_gt g 14 dX6_in_7 (by decide) ?_ ?_
    · refine r_iconst g dX6_in_14 ?_
      exact r_zret0 g (by decide) dX6_in_15 rfl rfl
    · refine r_iconst g dX6_in_10 ?_
      refine r_goto g 15 dX6_in_11 (by decide) ?_
      exact r_zret0 g (by decide) dX6_in_15 rfl rfl
theorem kX6_has (S : St) (x0 : Int) (x1 : Int)  : Con yX6_has cX6_has 2 (some .boolean) { frames := 0, cells := 0, slots := 0, locals := 0 } false SHM (SHM, 0, 0) (fun b => [vi x0, vi x1]) S (fun _ => oI) (fun _ => S) (pX6_has x0 x1) := by
  refine Con_of (fun b => [some (vi x0), some (vi x1)]) (by decide) (fun _ => rfl) (fun _ => Nat.le_of_ble_eq_true rfl) ?_
  intro G g _ _ _
  change Ok G cX6_has RX6 2 { frames := 0, cells := 0, slots := 0, locals := 0 } (some .boolean) at g
  show Rg G oI (fun _ => S) (SHM, 0, 0) (SHM, 0, 0) S 0 [some (vi x0), some (vi x1)] [] (pX6_has x0 x1)
  unfold pX6_has
  refine r_iload_n g dX6_has_0 rfl ?_
  refine r_iload_n g dX6_has_1 rfl ?_
  refine r_ishr g dX6_has_2 ?_
  intro z1_
  refine r_iconst g dX6_has_3 ?_
  refine r_iand g dX6_has_4 ?_
  intro z2_
  refine r_iconst g dX6_has_5 ?_
  refine r_icmp_ne g 13 dX6_has_6 (by decide) ?_ ?_
  · refine r_iconst g dX6_has_13 ?_
    exact r_zret0 g (by decide) dX6_has_14 rfl rfl
  · refine r_iconst g dX6_has_9 ?_
    refine r_goto g 14 dX6_has_10 (by decide) ?_
    exact r_zret0 g (by decide) dX6_has_14 rfl rfl
theorem kX6_meets (S : St) (x1 : Int)  : Con yX6_meets cX6_meets 2 (some .int) { frames := 0, cells := 0, slots := 0, locals := 0 } false SHM (SHM, 0, 0) (fun b => [.ref (b + 0), vi x1]) S (fun _ => oIS) (fun v => v.2) (pX6_meets S x1) := by
  refine Con_of (fun b => [some (.ref (b + 0)), some (vi x1)]) (by decide) (fun _ => rfl) (fun _ => Nat.le_of_ble_eq_true rfl) ?_
  intro G g _ _ _
  change Ok G cX6_meets RX6 2 { frames := 0, cells := 0, slots := 0, locals := 0 } (some .int) at g
  show Rg G oIS (fun v => v.2) (SHM, 0, 0) (SHM, 0, 0) S 0 [some (vr G 0), some (vi x1)] [] (pX6_meets S x1)
  unfold pX6_meets
  refine r_aload_n g dX6_meets_0 rfl ?_
  refine r_iload_n g dX6_meets_1 rfl ?_
  refine r_putI g KX6 shm_0 0 rfl (by decide) rfl rfl w_870 dX6_meets_2 ?_
  intro S1_ _
  refine r_aload_n g dX6_meets_5 rfl ?_
  refine r_getC (c0 := 1) g KX6 shm_0 1 rfl (by decide) w_871 dX6_meets_6 ?_
  refine r_iload_n g dX6_meets_9 rfl ?_
  refine r_dup2 g dX6_meets_10 rfl rfl ?_
  refine r_iald g shm_1 (by decide) dX6_meets_11 ?_
  intro z2_
  refine r_iconst g dX6_meets_12 ?_
  refine r_iadd g dX6_meets_13 ?_
  refine r_iast g shm_1 (by decide) dX6_meets_14 ?_
  intro S3_
  refine r_bipush g dX6_meets_15 (by decide) ?_
  exact r_iret g dX6_meets_17 rfl rfl
theorem kX6_finding (S : St)  : Con yX6_finding cX6_finding 1 (some .int) { frames := 0, cells := 0, slots := 0, locals := 0 } false SHM (SHM, 0, 0) (fun b => [.ref (b + 0)]) S (fun _ => oI) (fun _ => S) (pX6_finding S) := by
  refine Con_of (fun b => [some (.ref (b + 0))]) (by decide) (fun _ => rfl) (fun _ => Nat.le_of_ble_eq_true rfl) ?_
  intro G g _ _ _
  change Ok G cX6_finding RX6 1 { frames := 0, cells := 0, slots := 0, locals := 0 } (some .int) at g
  show Rg G oI (fun _ => S) (SHM, 0, 0) (SHM, 0, 0) S 0 [some (vr G 0)] [] (pX6_finding S)
  unfold pX6_finding
  refine r_aload_n g dX6_finding_0 rfl ?_
  refine r_getI g KX6 shm_0 0 rfl (by decide) w_870 dX6_finding_1 ?_
  exact r_iret g dX6_finding_4 rfl rfl
theorem kX6_findings (S : St) (x1 : Int)  : Con yX6_findings cX6_findings 2 (some .int) { frames := 1, cells := 0, slots := 0, locals := 22 } false SHM (SHM, 0, 0) (fun b => [.ref (b + 0), vi x1]) S (fun _ => oI) (fun _ => S) (pX6_findings S x1) := by
  refine Con_of (fun b => [some (.ref (b + 0)), some (vi x1)]) (by decide) (fun _ => rfl) (fun _ => Nat.le_of_ble_eq_true rfl) ?_
  intro G g _ _ _
  change Ok G cX6_findings RX6 2 { frames := 1, cells := 0, slots := 0, locals := 22 } (some .int) at g
  show Rg G oI (fun _ => S) (SHM, 0, 0) (SHM, 0, 0) S 0 [some (vr G 0), some (vi x1)] [] (pX6_findings S x1)
  unfold pX6_findings
  refine r_iload_n g dX6_findings_0 rfl ?_
  refine r_iconst g dX6_findings_1 ?_
  refine r_iconst g dX6_findings_2 ?_
  refine r_callS_PI g (kX6_in S x1 1 5) mX6_in w_1033 w_1034 (by decide) (fun _ => rfl) rfl (Nat.le_of_ble_eq_true rfl) dX6_findings_3 ?_
  intro z1_
  refine r_if_eq g 18 dX6_findings_6 (by decide) ?_ ?_
  · refine r_iconst g dX6_findings_18 ?_
    exact r_iret g dX6_findings_19 rfl rfl
  · refine r_aload_n g dX6_findings_9 rfl ?_
    refine r_getC (c0 := 1) g KX6 shm_0 1 rfl (by decide) w_871 dX6_findings_10 ?_
    refine r_iload_n g dX6_findings_13 rfl ?_
    refine r_iald g shm_1 (by decide) dX6_findings_14 ?_
    intro z2_
    refine r_goto g 19 dX6_findings_15 (by decide) ?_
    exact r_iret g dX6_findings_19 rfl rfl
theorem kX6_tells (S : St) (x1 : Int) (x2 : Int)  : Con yX6_tells cX6_tells 3 (some .int) { frames := 0, cells := 0, slots := 0, locals := 0 } false SHM (SHM, 0, 0) (fun b => [.ref (b + 0), vi x1, vi x2]) S (fun _ => oIS) (fun v => v.2) (pX6_tells S x1 x2) := by
  refine Con_of (fun b => [some (.ref (b + 0)), some (vi x1), some (vi x2)]) (by decide) (fun _ => rfl) (fun _ => Nat.le_of_ble_eq_true rfl) ?_
  intro G g _ _ _
  change Ok G cX6_tells RX6 3 { frames := 0, cells := 0, slots := 0, locals := 0 } (some .int) at g
  show Rg G oIS (fun v => v.2) (SHM, 0, 0) (SHM, 0, 0) S 0 [some (vr G 0), some (vi x1), some (vi x2)] [] (pX6_tells S x1 x2)
  unfold pX6_tells
  refine r_aload_n g dX6_tells_0 rfl ?_
  refine r_iload_n g dX6_tells_1 rfl ?_
  refine r_putI g KX6 shm_0 2 rfl (by decide) rfl rfl w_872 dX6_tells_2 ?_
  intro S1_ _
  refine r_iload_n g dX6_tells_5 rfl ?_
  exact r_iret g dX6_tells_6 rfl rfl
theorem kX6_asked (S : St)  : Con yX6_asked cX6_asked 1 (some .int) { frames := 0, cells := 0, slots := 0, locals := 0 } false SHM (SHM, 0, 0) (fun b => [.ref (b + 0)]) S (fun _ => oI) (fun _ => S) (pX6_asked S) := by
  refine Con_of (fun b => [some (.ref (b + 0))]) (by decide) (fun _ => rfl) (fun _ => Nat.le_of_ble_eq_true rfl) ?_
  intro G g _ _ _
  change Ok G cX6_asked RX6 1 { frames := 0, cells := 0, slots := 0, locals := 0 } (some .int) at g
  show Rg G oI (fun _ => S) (SHM, 0, 0) (SHM, 0, 0) S 0 [some (vr G 0)] [] (pX6_asked S)
  unfold pX6_asked
  refine r_aload_n g dX6_asked_0 rfl ?_
  refine r_getI g KX6 shm_0 2 rfl (by decide) w_872 dX6_asked_1 ?_
  exact r_iret g dX6_asked_4 rfl rfl
theorem tX6_gcd_28B {G : Gx} {S : St} (g : Ok G cX6_gcd RX6 10 { frames := 0, cells := 0, slots := 0, locals := 0 } (some .long))   {k28 : Int → Int → Option (Int)} (hk28 : ∀ (x4' : Int) (x6' : Int), Rg G oL (fun _ => S) (SHM, 0, 0) (SHM, 0, 0) S 28 [none, none, none, none, some (vl (x4')), none, some (vl (x6')), none, none, none] [] (k28 x4' x6')) {x4 : Int} {x6 : Int} : Rg G oL (fun _ => S) (SHM, 0, 0) (SHM, 0, 0) S 28 [none, none, none, none, some (vl x4), none, some (vl x6), none, none, none] [] (pX6_gcd_28B k28 x4 x6) := by
  unfold pX6_gcd_28B
  refine r_lload g dX6_gcd_28 rfl ?_
  refine r_lconst (x := 0) g dX6_gcd_30 (by decide) ?_
  refine r_lcmp_eq g 53 dX6_gcd_31 dX6_gcd_32 (by decide) ?_ ?_
  · refine r_lload g dX6_gcd_53 rfl ?_
    exact r_lret g dX6_gcd_55 rfl rfl
  · refine r_lload g dX6_gcd_35 rfl ?_
    refine r_lload g dX6_gcd_37 rfl ?_
    refine r_lrem g dX6_gcd_39 ?_
    intro z1_
    refine r_lstore g dX6_gcd_40 (by decide) rfl ?_
    refine r_lload g dX6_gcd_42 rfl ?_
    refine r_lstore g dX6_gcd_44 (by decide) rfl ?_
    refine r_lload g dX6_gcd_46 rfl ?_
    refine r_lstore g dX6_gcd_48 (by decide) rfl ?_
    refine r_goto g 28 dX6_gcd_50 (by decide) ?_
    refine r_msk [false, false, false, false, true, false, true, false, false, false] rfl ?_
    exact hk28 _ _
theorem tX6_gcd_28 {G : Gx} {S : St} (g : Ok G cX6_gcd RX6 10 { frames := 0, cells := 0, slots := 0, locals := 0 } (some .long))   : ∀ (n_ : Nat) (x4 : Int) (x6 : Int), Rg G oL (fun _ => S) (SHM, 0, 0) (SHM, 0, 0) S 28 [none, none, none, none, some (vl x4), none, some (vl x6), none, none, none] [] (lo2 (pX6_gcd_28B) n_ x4 x6) := by
  intro n_
  induction n_ with
  | zero => intro x4 x6; exact r_none
  | succ n_ ih => intro x4 x6; exact tX6_gcd_28B g   ih
theorem tX6_gcd_26 {G : Gx}  {S : St} {x4 : Int} {s0 : Int} (g : Ok G cX6_gcd RX6 10 { frames := 0, cells := 0, slots := 0, locals := 0 } (some .long))   : Rg G oL (fun _ => S) (SHM, 0, 0) (SHM, 0, 0) S 26 [none, none, none, none, some (vl x4), none, none, none, none, none] [vl s0] (pX6_gcd_26 x4 s0) := by
  unfold pX6_gcd_26
  refine r_lstore g dX6_gcd_26 (by decide) rfl ?_
  exact tX6_gcd_28 g _ _ _
theorem tX6_gcd_12 {G : Gx}  {S : St} {x2 : Int} {s0 : Int} (g : Ok G cX6_gcd RX6 10 { frames := 0, cells := 0, slots := 0, locals := 0 } (some .long))   : Rg G oL (fun _ => S) (SHM, 0, 0) (SHM, 0, 0) S 12 [none, none, some (vl x2), none, none, none, none, none, none, none] [vl s0] (pX6_gcd_12 x2 s0) := by
  unfold pX6_gcd_12
  refine r_lstore g dX6_gcd_12 (by decide) rfl ?_
  refine r_lload_n g dX6_gcd_14 rfl ?_
  refine r_lconst (x := 0) g dX6_gcd_15 (by decide) ?_
  refine r_lcmp_ge g 25 dX6_gcd_16 dX6_gcd_17 (by decide) ?_ ?_
  · refine r_lload_n g dX6_gcd_25 rfl ?_
    refine r_msk [false, false, false, false, true, false, false, false, false, false] rfl ?_
    exact tX6_gcd_26 g
  · refine r_lload_n g dX6_gcd_20 rfl ?_
    refine r_lneg g dX6_gcd_21 ?_
    refine r_goto g 26 dX6_gcd_22 (by decide) ?_
    refine r_msk [false, false, false, false, true, false, false, false, false, false] rfl ?_
    exact tX6_gcd_26 g
theorem kX6_gcd (S : St) (x0 : Int) (x2 : Int)  : Con yX6_gcd cX6_gcd 10 (some .long) { frames := 0, cells := 0, slots := 0, locals := 0 } false SHM (SHM, 0, 0) (fun b => [vl x0, vl x2]) S (fun _ => oL) (fun _ => S) (pX6_gcd x0 x2) := by
  refine Con_of (fun b => [some (vl x0), none, some (vl x2), none, none, none, none, none, none, none]) (by decide) (fun _ => rfl) (fun _ => Nat.le_of_ble_eq_true rfl) ?_
  intro G g _ _ _
  change Ok G cX6_gcd RX6 10 { frames := 0, cells := 0, slots := 0, locals := 0 } (some .long) at g
  show Rg G oL (fun _ => S) (SHM, 0, 0) (SHM, 0, 0) S 0 [some (vl x0), none, some (vl x2), none, none, none, none, none, none, none] [] (pX6_gcd x0 x2)
  unfold pX6_gcd
  refine r_lload_n g dX6_gcd_0 rfl ?_
  refine r_lconst (x := 0) g dX6_gcd_1 (by decide) ?_
  refine r_lcmp_ge g 11 dX6_gcd_2 dX6_gcd_3 (by decide) ?_ ?_
  · refine r_lload_n g dX6_gcd_11 rfl ?_
    refine r_msk [false, false, true, false, false, false, false, false, false, false] rfl ?_
    exact tX6_gcd_12 g
  · refine r_lload_n g dX6_gcd_6 rfl ?_
    refine r_lneg g dX6_gcd_7 ?_
    refine r_goto g 12 dX6_gcd_8 (by decide) ?_
    refine r_msk [false, false, true, false, false, false, false, false, false, false] rfl ?_
    exact tX6_gcd_12 g
theorem kX6_fraction (S : St) (x1 : Int) (x3 : Int) (x5 : Int)  : Con yX6_fraction cX6_fraction 8 (some .int) { frames := 1, cells := 0, slots := 0, locals := 29 } false SHM (SHM, 0, 0) (fun b => [.ref (b + 0), vl x1, vl x3, vi x5]) S (fun _ => oIS) (fun v => v.2) (pX6_fraction S x1 x3 x5) := by
  refine Con_of (fun b => [some (.ref (b + 0)), some (vl x1), none, some (vl x3), none, some (vi x5), none, none]) (by decide) (fun _ => rfl) (fun _ => Nat.le_of_ble_eq_true rfl) ?_
  intro G g _ _ _
  change Ok G cX6_fraction RX6 8 { frames := 1, cells := 0, slots := 0, locals := 29 } (some .int) at g
  show Rg G oIS (fun v => v.2) (SHM, 0, 0) (SHM, 0, 0) S 0 [some (vr G 0), some (vl x1), none, some (vl x3), none, some (vi x5), none, none] [] (pX6_fraction S x1 x3 x5)
  unfold pX6_fraction
  refine r_lload_n g dX6_fraction_0 rfl ?_
  refine r_lload_n g dX6_fraction_1 rfl ?_
  refine r_callS_PL g (kX6_gcd S x1 x3) mX6_gcd w_1157 w_1158 (by decide) (fun _ => rfl) rfl (Nat.le_of_ble_eq_true rfl) dX6_fraction_2 ?_
  intro z1_
  refine r_lstore g dX6_fraction_5 (by decide) rfl ?_
  refine r_aload_n g dX6_fraction_7 rfl ?_
  refine r_lload_n g dX6_fraction_8 rfl ?_
  refine r_lload g dX6_fraction_9 rfl ?_
  refine r_ldiv g dX6_fraction_11 ?_
  intro z2_
  refine r_putL g KX6 shm_0 3 rfl (by decide) rfl rfl w_873 dX6_fraction_12 ?_
  intro S3_ _
  refine r_aload_n g dX6_fraction_15 rfl ?_
  refine r_lload_n g dX6_fraction_16 rfl ?_
  refine r_lload g dX6_fraction_17 rfl ?_
  refine r_ldiv g dX6_fraction_19 ?_
  intro z4_
  refine r_putL g KX6 shm_0 4 rfl (by decide) rfl rfl w_874 dX6_fraction_20 ?_
  intro S5_ _
  refine r_iload g dX6_fraction_23 rfl ?_
  exact r_iret g dX6_fraction_25 rfl rfl
theorem kX6_upper (S : St)  : Con yX6_upper cX6_upper 1 (some .long) { frames := 0, cells := 0, slots := 0, locals := 0 } false SHM (SHM, 0, 0) (fun b => [.ref (b + 0)]) S (fun _ => oL) (fun _ => S) (pX6_upper S) := by
  refine Con_of (fun b => [some (.ref (b + 0))]) (by decide) (fun _ => rfl) (fun _ => Nat.le_of_ble_eq_true rfl) ?_
  intro G g _ _ _
  change Ok G cX6_upper RX6 1 { frames := 0, cells := 0, slots := 0, locals := 0 } (some .long) at g
  show Rg G oL (fun _ => S) (SHM, 0, 0) (SHM, 0, 0) S 0 [some (vr G 0)] [] (pX6_upper S)
  unfold pX6_upper
  refine r_aload_n g dX6_upper_0 rfl ?_
  refine r_getL g KX6 shm_0 3 rfl (by decide) w_873 dX6_upper_1 ?_
  exact r_lret g dX6_upper_4 rfl rfl
theorem kX6_lower (S : St)  : Con yX6_lower cX6_lower 1 (some .long) { frames := 0, cells := 0, slots := 0, locals := 0 } false SHM (SHM, 0, 0) (fun b => [.ref (b + 0)]) S (fun _ => oL) (fun _ => S) (pX6_lower S) := by
  refine Con_of (fun b => [some (.ref (b + 0))]) (by decide) (fun _ => rfl) (fun _ => Nat.le_of_ble_eq_true rfl) ?_
  intro G g _ _ _
  change Ok G cX6_lower RX6 1 { frames := 0, cells := 0, slots := 0, locals := 0 } (some .long) at g
  show Rg G oL (fun _ => S) (SHM, 0, 0) (SHM, 0, 0) S 0 [some (vr G 0)] [] (pX6_lower S)
  unfold pX6_lower
  refine r_aload_n g dX6_lower_0 rfl ?_
  refine r_getL g KX6 shm_0 4 rfl (by decide) w_874 dX6_lower_1 ?_
  exact r_lret g dX6_lower_4 rfl rfl
theorem kX6_isRow (S : St) (x0 : Int)  : Con yX6_isRow cX6_isRow 1 (some .boolean) { frames := 1, cells := 0, slots := 0, locals := 22 } false SHM (SHM, 0, 0) (fun b => [vi x0]) S (fun _ => oI) (fun _ => S) (pX6_isRow x0) := by
  refine Con_of (fun b => [some (vi x0)]) (by decide) (fun _ => rfl) (fun _ => Nat.le_of_ble_eq_true rfl) ?_
  intro G g _ _ _
  change Ok G cX6_isRow RX6 1 { frames := 1, cells := 0, slots := 0, locals := 22 } (some .boolean) at g
  show Rg G oI (fun _ => S) (SHM, 0, 0) (SHM, 0, 0) S 0 [some (vi x0)] [] (pX6_isRow x0)
  unfold pX6_isRow
  refine r_iload_n g dX6_isRow_0 rfl ?_
  refine r_iconst g dX6_isRow_1 ?_
  refine r_iconst g dX6_isRow_2 ?_
  refine r_callS_PI g (kX6_in S x0 0 5) mX6_in w_1033 w_1034 (by decide) (fun _ => rfl) rfl (Nat.le_of_ble_eq_true rfl) dX6_isRow_3 ?_
  intro z1_
  exact r_zret g dX6_isRow_6 rfl rfl
theorem kX6_rowAt (S : St) (x1 : Int) (x2 : Int)  : Con yX6_rowAt cX6_rowAt 3 (some .int) { frames := 0, cells := 0, slots := 0, locals := 0 } false SHM (SHM, 0, 0) (fun b => [.ref (b + 0), vi x1, vi x2]) S (fun _ => oI) (fun _ => S) (pX6_rowAt S x1 x2) := by
  refine Con_of (fun b => [some (.ref (b + 0)), some (vi x1), some (vi x2)]) (by decide) (fun _ => rfl) (fun _ => Nat.le_of_ble_eq_true rfl) ?_
  intro G g _ _ _
  change Ok G cX6_rowAt RX6 3 { frames := 0, cells := 0, slots := 0, locals := 0 } (some .int) at g
  show Rg G oI (fun _ => S) (SHM, 0, 0) (SHM, 0, 0) S 0 [some (vr G 0), some (vi x1), some (vi x2)] [] (pX6_rowAt S x1 x2)
  unfold pX6_rowAt
  refine r_aload_n g dX6_rowAt_0 rfl ?_
  refine r_getC (c0 := 3) g KX6 shm_0 6 rfl (by decide) w_876 dX6_rowAt_1 ?_
  refine r_bipush g dX6_rowAt_4 (by decide) ?_
  refine r_iload_n g dX6_rowAt_6 rfl ?_
  refine r_imul g dX6_rowAt_7 ?_
  refine r_iload_n g dX6_rowAt_8 rfl ?_
  refine r_iadd g dX6_rowAt_9 ?_
  refine r_iald g shm_3 (by decide) dX6_rowAt_10 ?_
  intro z1_
  exact r_iret g dX6_rowAt_11 rfl rfl
theorem tX6_row_34B {G : Gx} {x1 : Int} {x2 : Int} (g : Ok G cX6_row RX6 4 { frames := 2, cells := 0, slots := 0, locals := 42 } (some .int))   {k34 : St → Int → Option (Int × St)} (hk34 : ∀ (S' : St) (x3' : Int), Rg G oIS (fun v => v.2) (SHM, 0, 0) (SHM, 0, 0) S' 34 [some (vr G 0), some (vi x1), some (vi x2), some (vi (x3'))] [] (k34 S' x3')) {S : St} {x3 : Int} : Rg G oIS (fun v => v.2) (SHM, 0, 0) (SHM, 0, 0) S 34 [some (vr G 0), some (vi x1), some (vi x2), some (vi x3)] [] (pX6_row_34B x1 x2 k34 S x3) := by
  unfold pX6_row_34B
  refine r_iload_n g dX6_row_34 rfl ?_
  refine r_bipush g dX6_row_35 (by decide) ?_
  refine r_icmp_ge g 58 dX6_row_37 (by decide) ?_ ?_
  · refine r_iload_n g dX6_row_58 rfl ?_
    exact r_iret g dX6_row_59 rfl rfl
  · refine r_aload_n g dX6_row_40 rfl ?_
    refine r_getC (c0 := 3) g KX6 shm_0 6 rfl (by decide) w_876 dX6_row_41 ?_
    refine r_bipush g dX6_row_44 (by decide) ?_
    refine r_iload_n g dX6_row_46 rfl ?_
    refine r_imul g dX6_row_47 ?_
    refine r_iload_n g dX6_row_48 rfl ?_
    refine r_iadd g dX6_row_49 ?_
    refine r_iconst g dX6_row_50 ?_
    refine r_iast g shm_3 (by decide) dX6_row_51 ?_
    intro S3_
    refine r_iinc g dX6_row_52 (by decide) rfl ?_
    intro x3_4_
    change Rg _ _ _ _ _ _ _ [some (vr G 0), some (vi x1), some (vi x2), some (vi x3_4_)] _ _
    refine r_goto g 34 dX6_row_55 (by decide) ?_
    exact hk34 _ _
theorem tX6_row_34 {G : Gx} {x1 : Int} {x2 : Int} (g : Ok G cX6_row RX6 4 { frames := 2, cells := 0, slots := 0, locals := 42 } (some .int))   : ∀ (n_ : Nat) (S : St) (x3 : Int), Rg G oIS (fun v => v.2) (SHM, 0, 0) (SHM, 0, 0) S 34 [some (vr G 0), some (vi x1), some (vi x2), some (vi x3)] [] (lo2 (pX6_row_34B x1 x2) n_ S x3) := by
  intro n_
  induction n_ with
  | zero => intro S x3; exact r_none
  | succ n_ ih => intro S x3; exact tX6_row_34B g   ih
theorem kX6_row (S : St) (x1 : Int) (x2 : Int)  : Con yX6_row cX6_row 4 (some .int) { frames := 2, cells := 0, slots := 0, locals := 42 } false SHM (SHM, 0, 0) (fun b => [.ref (b + 0), vi x1, vi x2]) S (fun _ => oIS) (fun v => v.2) (pX6_row S x1 x2) := by
  refine Con_of (fun b => [some (.ref (b + 0)), some (vi x1), some (vi x2), none]) (by decide) (fun _ => rfl) (fun _ => Nat.le_of_ble_eq_true rfl) ?_
  intro G g _ _ _
  change Ok G cX6_row RX6 4 { frames := 2, cells := 0, slots := 0, locals := 42 } (some .int) at g
  show Rg G oIS (fun v => v.2) (SHM, 0, 0) (SHM, 0, 0) S 0 [some (vr G 0), some (vi x1), some (vi x2), none] [] (pX6_row S x1 x2)
  unfold pX6_row
  refine r_iload_n g dX6_row_0 rfl ?_
  refine r_callS_PI g (kX6_isRow S x1) mX6_isRow w_1052 w_1053 (by decide) (fun _ => rfl) rfl (Nat.le_of_ble_eq_true rfl) dX6_row_1 ?_
  intro z1_
  refine r_if_eq g 13 dX6_row_4 (by decide) ?_ ?_
  · refine r_iconst g dX6_row_13 ?_
    exact r_iret g dX6_row_14 rfl rfl
  · refine r_iload_n g dX6_row_7 rfl ?_
    refine r_bipush g dX6_row_8 (by decide) ?_
    refine r_icmp_le g 15 dX6_row_10 (by decide) ?_ ?_
    · refine r_iload_n g dX6_row_15 rfl ?_
      refine r_if_ge g 25 dX6_row_16 (by decide) ?_ ?_
      · refine r_aload_n g dX6_row_25 rfl ?_
        refine r_getC (c0 := 2) g KX6 shm_0 5 rfl (by decide) w_875 dX6_row_26 ?_
        refine r_iload_n g dX6_row_29 rfl ?_
        refine r_iload_n g dX6_row_30 rfl ?_
        refine r_iast g shm_2 (by decide) dX6_row_31 ?_
        intro S2_
        refine r_iconst g dX6_row_32 ?_
        refine r_istore_n g 3 dX6_row_33 rfl (by decide) rfl ?_
        exact tX6_row_34 g _ _ _
      · refine r_aload_n g dX6_row_19 rfl ?_
        refine r_iconst g dX6_row_20 ?_
        refine r_callV_WI (q := 0) (as := fun b => [vi 5]) g (kX6_meets S 5) mX6_meets shm_0 rfl w_1055 w_1057 w_28 (by decide) (fun _ => rfl) rfl (Nat.le_of_ble_eq_true rfl) dX6_row_21 ?_
        intro z5_ S6_
        exact r_iret g dX6_row_24 rfl rfl
    · refine r_iconst g dX6_row_13 ?_
      exact r_iret g dX6_row_14 rfl rfl
theorem kX6_lay (S : St) (x1 : Int) (x2 : Int) (x3 : Int)  : Con yX6_lay cX6_lay 5 (some .int) { frames := 2, cells := 0, slots := 0, locals := 42 } false SHM (SHM, 0, 0) (fun b => [.ref (b + 0), vi x1, vi x2, vi x3]) S (fun _ => oIS) (fun v => v.2) (pX6_lay S x1 x2 x3) := by
  refine Con_of (fun b => [some (.ref (b + 0)), some (vi x1), some (vi x2), some (vi x3), none]) (by decide) (fun _ => rfl) (fun _ => Nat.le_of_ble_eq_true rfl) ?_
  intro G g _ _ _
  change Ok G cX6_lay RX6 5 { frames := 2, cells := 0, slots := 0, locals := 42 } (some .int) at g
  show Rg G oIS (fun v => v.2) (SHM, 0, 0) (SHM, 0, 0) S 0 [some (vr G 0), some (vi x1), some (vi x2), some (vi x3), none] [] (pX6_lay S x1 x2 x3)
  unfold pX6_lay
  refine r_iload_n g dX6_lay_0 rfl ?_
  refine r_callS_PI g (kX6_isRow S x1) mX6_isRow w_1052 w_1053 (by decide) (fun _ => rfl) rfl (Nat.le_of_ble_eq_true rfl) dX6_lay_1 ?_
  intro z1_
  refine r_if_ne g 9 dX6_lay_4 (by decide) ?_ ?_
  · refine r_aload_n g dX6_lay_9 rfl ?_
    refine r_getC (c0 := 2) g KX6 shm_0 5 rfl (by decide) w_875 dX6_lay_10 ?_
    refine r_iload_n g dX6_lay_13 rfl ?_
    refine r_iald g shm_2 (by decide) dX6_lay_14 ?_
    intro z2_
    refine r_if_ge g 24 dX6_lay_15 (by decide) ?_ ?_
    · refine r_iload_n g dX6_lay_24 rfl ?_
      refine r_iconst g dX6_lay_25 ?_
      refine r_aload_n g dX6_lay_26 rfl ?_
      refine r_getC (c0 := 2) g KX6 shm_0 5 rfl (by decide) w_875 dX6_lay_27 ?_
      refine r_iload_n g dX6_lay_30 rfl ?_
      refine r_iald g shm_2 (by decide) dX6_lay_31 ?_
      intro z3_
      refine r_iconst g dX6_lay_32 ?_
      refine r_isub g dX6_lay_33 ?_
      refine r_callS_PI g (kX6_in S x2 0 (z3_ - 1)) mX6_in w_1033 w_1034 (by decide) (fun _ => rfl) rfl (Nat.le_of_ble_eq_true rfl) dX6_lay_34 ?_
      intro z4_
      refine r_if_ne g 46 dX6_lay_37 (by decide) ?_ ?_
      · refine r_aload_n g dX6_lay_46 rfl ?_
        refine r_iload_n g dX6_lay_47 rfl ?_
        refine r_iload_n g dX6_lay_48 rfl ?_
        refine r_callV_PI (q := 0) (as := fun b => [vi x1, vi x2]) g (kX6_rowAt S x1 x2) mX6_rowAt shm_0 rfl w_1063 w_1065 w_29 (by decide) (fun _ => rfl) rfl (Nat.le_of_ble_eq_true rfl) dX6_lay_49 ?_
        intro z5_
        refine r_istore g dX6_lay_52 (by decide) rfl ?_
        refine r_aload_n g dX6_lay_54 rfl ?_
        refine r_getC (c0 := 3) g KX6 shm_0 6 rfl (by decide) w_876 dX6_lay_55 ?_
        refine r_bipush g dX6_lay_58 (by decide) ?_
        refine r_iload_n g dX6_lay_60 rfl ?_
        refine r_imul g dX6_lay_61 ?_
        refine r_iload_n g dX6_lay_62 rfl ?_
        refine r_iadd g dX6_lay_63 ?_
        refine r_iload_n g dX6_lay_64 rfl ?_
        refine r_iast g shm_3 (by decide) dX6_lay_65 ?_
        intro S6_
        refine r_aload_n g dX6_lay_66 rfl ?_
        refine r_iload g dX6_lay_67 rfl ?_
        refine r_iconst g dX6_lay_69 ?_
        refine r_callV_WI (q := 0) (as := fun b => [vi z5_, vi 1]) g (kX6_tells S6_ z5_ 1) mX6_tells shm_0 rfl w_1067 w_1069 w_30 (by decide) (fun _ => rfl) rfl (Nat.le_of_ble_eq_true rfl) dX6_lay_70 ?_
        intro z7_ S8_
        exact r_iret g dX6_lay_73 rfl rfl
      · refine r_aload_n g dX6_lay_40 rfl ?_
        refine r_iconst g dX6_lay_41 ?_
        refine r_callV_WI (q := 0) (as := fun b => [vi 2]) g (kX6_meets S 2) mX6_meets shm_0 rfl w_1055 w_1057 w_28 (by decide) (fun _ => rfl) rfl (Nat.le_of_ble_eq_true rfl) dX6_lay_42 ?_
        intro z9_ S10_
        exact r_iret g dX6_lay_45 rfl rfl
    · refine r_aload_n g dX6_lay_18 rfl ?_
      refine r_iconst g dX6_lay_19 ?_
      refine r_callV_WI (q := 0) (as := fun b => [vi 1]) g (kX6_meets S 1) mX6_meets shm_0 rfl w_1055 w_1057 w_28 (by decide) (fun _ => rfl) rfl (Nat.le_of_ble_eq_true rfl) dX6_lay_20 ?_
      intro z11_ S12_
      exact r_iret g dX6_lay_23 rfl rfl
  · refine r_iconst g dX6_lay_7 ?_
    exact r_iret g dX6_lay_8 rfl rfl
theorem kX6_tear (S : St) (x1 : Int)  : Con yX6_tear cX6_tear 2 (some .int) { frames := 2, cells := 0, slots := 0, locals := 42 } false SHM (SHM, 0, 0) (fun b => [.ref (b + 0), vi x1]) S (fun _ => oIS) (fun v => v.2) (pX6_tear S x1) := by
  refine Con_of (fun b => [some (.ref (b + 0)), some (vi x1)]) (by decide) (fun _ => rfl) (fun _ => Nat.le_of_ble_eq_true rfl) ?_
  intro G g _ _ _
  change Ok G cX6_tear RX6 2 { frames := 2, cells := 0, slots := 0, locals := 42 } (some .int) at g
  show Rg G oIS (fun v => v.2) (SHM, 0, 0) (SHM, 0, 0) S 0 [some (vr G 0), some (vi x1)] [] (pX6_tear S x1)
  unfold pX6_tear
  refine r_iload_n g dX6_tear_0 rfl ?_
  refine r_callS_PI g (kX6_isRow S x1) mX6_isRow w_1052 w_1053 (by decide) (fun _ => rfl) rfl (Nat.le_of_ble_eq_true rfl) dX6_tear_1 ?_
  intro z1_
  refine r_if_ne g 9 dX6_tear_4 (by decide) ?_ ?_
  · refine r_aload_n g dX6_tear_9 rfl ?_
    refine r_getC (c0 := 2) g KX6 shm_0 5 rfl (by decide) w_875 dX6_tear_10 ?_
    refine r_iload_n g dX6_tear_13 rfl ?_
    refine r_iald g shm_2 (by decide) dX6_tear_14 ?_
    intro z2_
    refine r_if_ge g 24 dX6_tear_15 (by decide) ?_ ?_
    · refine r_aload_n g dX6_tear_24 rfl ?_
      refine r_getC (c0 := 2) g KX6 shm_0 5 rfl (by decide) w_875 dX6_tear_25 ?_
      refine r_iload_n g dX6_tear_28 rfl ?_
      refine r_iconst g dX6_tear_29 ?_
      refine r_iast g shm_2 (by decide) dX6_tear_30 ?_
      intro S3_
      refine r_iconst g dX6_tear_31 ?_
      exact r_iret g dX6_tear_32 rfl rfl
    · refine r_aload_n g dX6_tear_18 rfl ?_
      refine r_iconst g dX6_tear_19 ?_
      refine r_callV_WI (q := 0) (as := fun b => [vi 1]) g (kX6_meets S 1) mX6_meets shm_0 rfl w_1055 w_1057 w_28 (by decide) (fun _ => rfl) rfl (Nat.le_of_ble_eq_true rfl) dX6_tear_20 ?_
      intro z4_ S5_
      exact r_iret g dX6_tear_23 rfl rfl
  · refine r_iconst g dX6_tear_7 ?_
    exact r_iret g dX6_tear_8 rfl rfl
theorem tX6_copy_45 {G : Gx}  {S : St}  (g : Ok G cX6_copy RX6 7 { frames := 2, cells := 0, slots := 0, locals := 42 } (some .int))   : Rg G oIS (fun v => v.2) (SHM, 0, 0) (SHM, 0, 0) S 45 [some (vr G 0), none, none, none, none, none, none] [] (pX6_copy_45 S) := by
  unfold pX6_copy_45
  refine r_aload_n g dX6_copy_45 rfl ?_
  refine r_iconst g dX6_copy_46 ?_
  refine r_callV_WI (q := 0) (as := fun b => [vi 1]) g (kX6_meets S 1) mX6_meets shm_0 rfl w_1055 w_1057 w_28 (by decide) (fun _ => rfl) rfl (Nat.le_of_ble_eq_true rfl) dX6_copy_47 ?_
  intro z4_ S5_
  exact r_iret g dX6_copy_50 rfl rfl
theorem tX6_copy_95 {G : Gx}  {S : St}  (g : Ok G cX6_copy RX6 7 { frames := 2, cells := 0, slots := 0, locals := 42 } (some .int))   : Rg G oIS (fun v => v.2) (SHM, 0, 0) (SHM, 0, 0) S 95 [some (vr G 0), none, none, none, none, none, none] [] (pX6_copy_95 S) := by
  unfold pX6_copy_95
  refine r_aload_n g dX6_copy_95 rfl ?_
  refine r_iconst g dX6_copy_96 ?_
  refine r_callV_WI (q := 0) (as := fun b => [vi 2]) g (kX6_meets S 2) mX6_meets shm_0 rfl w_1055 w_1057 w_28 (by decide) (fun _ => rfl) rfl (Nat.le_of_ble_eq_true rfl) dX6_copy_97 ?_
  intro z7_ S8_
  exact r_iret g dX6_copy_100 rfl rfl
theorem tX6_copy_136B {G : Gx} {x3 : Int} {x4 : Int} {x5 : Int} (g : Ok G cX6_copy RX6 7 { frames := 2, cells := 0, slots := 0, locals := 42 } (some .int))   {k136 : St → Int → Option (Int × St)} (hk136 : ∀ (S' : St) (x6' : Int), Rg G oIS (fun v => v.2) (SHM, 0, 0) (SHM, 0, 0) S' 136 [some (vr G 0), none, none, some (vi x3), some (vi x4), some (vi x5), some (vi (x6'))] [] (k136 S' x6')) {S : St} {x6 : Int} : Rg G oIS (fun v => v.2) (SHM, 0, 0) (SHM, 0, 0) S 136 [some (vr G 0), none, none, some (vi x3), some (vi x4), some (vi x5), some (vi x6)] [] (pX6_copy_136B x3 x4 x5 k136 S x6) := by
  unfold pX6_copy_136B
  refine r_iload g dX6_copy_136 rfl ?_
  refine r_iload g dX6_copy_138 rfl ?_
  refine r_icmp_ge g 171 dX6_copy_140 (by decide) ?_ ?_
  · refine r_iconst g dX6_copy_171 ?_
    exact r_iret g dX6_copy_172 rfl rfl
  · refine r_aload_n g dX6_copy_143 rfl ?_
    refine r_getC (c0 := 3) g KX6 shm_0 6 rfl (by decide) w_876 dX6_copy_144 ?_
    refine r_bipush g dX6_copy_147 (by decide) ?_
    refine r_iload_n g dX6_copy_149 rfl ?_
    refine r_imul g dX6_copy_150 ?_
    refine r_iload g dX6_copy_151 rfl ?_
    refine r_iadd g dX6_copy_153 ?_
    refine r_iload g dX6_copy_154 rfl ?_
    refine r_iadd g dX6_copy_156 ?_
    refine r_aload_n g dX6_copy_157 rfl ?_
    refine r_getC (c0 := 4) g KX6 shm_0 7 rfl (by decide) w_877 dX6_copy_158 ?_
    refine r_iload g dX6_copy_161 rfl ?_
    refine r_iald g shm_4 (by decide) dX6_copy_163 ?_
    intro z11_
    refine r_iast g shm_3 (by decide) dX6_copy_164 ?_
    intro S12_
    refine r_iinc g dX6_copy_165 (by decide) rfl ?_
    intro x6_13_
    change Rg _ _ _ _ _ _ _ [some (vr G 0), none, none, some (vi x3), some (vi x4), some (vi x5), some (vi x6_13_)] _ _
    refine r_goto g 136 dX6_copy_168 (by decide) ?_
    exact hk136 _ _
theorem tX6_copy_136 {G : Gx} {x3 : Int} {x4 : Int} {x5 : Int} (g : Ok G cX6_copy RX6 7 { frames := 2, cells := 0, slots := 0, locals := 42 } (some .int))   : ∀ (n_ : Nat) (S : St) (x6 : Int), Rg G oIS (fun v => v.2) (SHM, 0, 0) (SHM, 0, 0) S 136 [some (vr G 0), none, none, some (vi x3), some (vi x4), some (vi x5), some (vi x6)] [] (lo2 (pX6_copy_136B x3 x4 x5) n_ S x6) := by
  intro n_
  induction n_ with
  | zero => intro S x6; exact r_none
  | succ n_ ih => intro S x6; exact tX6_copy_136B g   ih
theorem tX6_copy_104B {G : Gx} {x1 : Int} {x2 : Int} {x3 : Int} {x4 : Int} {x5 : Int} (g : Ok G cX6_copy RX6 7 { frames := 2, cells := 0, slots := 0, locals := 42 } (some .int))   {k104 : St → Int → Option (Int × St)} (hk104 : ∀ (S' : St) (x6' : Int), Rg G oIS (fun v => v.2) (SHM, 0, 0) (SHM, 0, 0) S' 104 [some (vr G 0), some (vi x1), some (vi x2), some (vi x3), some (vi x4), some (vi x5), some (vi (x6'))] [] (k104 S' x6')) {S : St} {x6 : Int} : Rg G oIS (fun v => v.2) (SHM, 0, 0) (SHM, 0, 0) S 104 [some (vr G 0), some (vi x1), some (vi x2), some (vi x3), some (vi x4), some (vi x5), some (vi x6)] [] (pX6_copy_104B x1 x2 x3 x4 x5 k104 S x6) := by
  unfold pX6_copy_104B
  refine r_iload g dX6_copy_104 rfl ?_
  refine r_iload g dX6_copy_106 rfl ?_
  refine r_icmp_ge g 133 dX6_copy_108 (by decide) ?_ ?_
  · refine r_iconst g dX6_copy_133 ?_
    refine r_istore g dX6_copy_134 (by decide) rfl ?_
    refine r_msk [true, false, false, true, true, true, true] rfl ?_
    exact tX6_copy_136 g _ _ _
  · refine r_aload_n g dX6_copy_111 rfl ?_
    refine r_getC (c0 := 4) g KX6 shm_0 7 rfl (by decide) w_877 dX6_copy_112 ?_
    refine r_iload g dX6_copy_115 rfl ?_
    refine r_aload_n g dX6_copy_117 rfl ?_
    refine r_iload_n g dX6_copy_118 rfl ?_
    refine r_iload_n g dX6_copy_119 rfl ?_
    refine r_iload g dX6_copy_120 rfl ?_
    refine r_iadd g dX6_copy_122 ?_
    refine r_callV_PI (q := 0) (as := fun b => [vi x1, vi (x2 + x6)]) g (kX6_rowAt S x1 (x2 + x6)) mX6_rowAt shm_0 rfl w_1063 w_1065 w_29 (by decide) (fun _ => rfl) rfl (Nat.le_of_ble_eq_true rfl) dX6_copy_123 ?_
    intro z14_
    refine r_iast g shm_4 (by decide) dX6_copy_126 ?_
    intro S15_
    refine r_iinc g dX6_copy_127 (by decide) rfl ?_
    intro x6_16_
    change Rg _ _ _ _ _ _ _ [some (vr G 0), some (vi x1), some (vi x2), some (vi x3), some (vi x4), some (vi x5), some (vi x6_16_)] _ _
    refine r_goto g 104 dX6_copy_130 (by decide) ?_
    exact hk104 _ _
theorem tX6_copy_104 {G : Gx} {x1 : Int} {x2 : Int} {x3 : Int} {x4 : Int} {x5 : Int} (g : Ok G cX6_copy RX6 7 { frames := 2, cells := 0, slots := 0, locals := 42 } (some .int))   : ∀ (n_ : Nat) (S : St) (x6 : Int), Rg G oIS (fun v => v.2) (SHM, 0, 0) (SHM, 0, 0) S 104 [some (vr G 0), some (vi x1), some (vi x2), some (vi x3), some (vi x4), some (vi x5), some (vi x6)] [] (lo2 (pX6_copy_104B x1 x2 x3 x4 x5) n_ S x6) := by
  intro n_
  induction n_ with
  | zero => intro S x6; exact r_none
  | succ n_ ih => intro S x6; exact tX6_copy_104B g   ih
theorem kX6_copy (S : St) (x1 : Int) (x2 : Int) (x3 : Int) (x4 : Int) (x5 : Int)  : Con yX6_copy cX6_copy 7 (some .int) { frames := 2, cells := 0, slots := 0, locals := 42 } false SHM (SHM, 0, 0) (fun b => [.ref (b + 0), vi x1, vi x2, vi x3, vi x4, vi x5]) S (fun _ => oIS) (fun v => v.2) (pX6_copy S x1 x2 x3 x4 x5) := by
  refine Con_of (fun b => [some (.ref (b + 0)), some (vi x1), some (vi x2), some (vi x3), some (vi x4), some (vi x5), none]) (by decide) (fun _ => rfl) (fun _ => Nat.le_of_ble_eq_true rfl) ?_
  intro G g _ _ _
  change Ok G cX6_copy RX6 7 { frames := 2, cells := 0, slots := 0, locals := 42 } (some .int) at g
  show Rg G oIS (fun v => v.2) (SHM, 0, 0) (SHM, 0, 0) S 0 [some (vr G 0), some (vi x1), some (vi x2), some (vi x3), some (vi x4), some (vi x5), none] [] (pX6_copy S x1 x2 x3 x4 x5)
  unfold pX6_copy
  refine r_iload_n g dX6_copy_0 rfl ?_
  refine r_callS_PI g (kX6_isRow S x1) mX6_isRow w_1052 w_1053 (by decide) (fun _ => rfl) rfl (Nat.le_of_ble_eq_true rfl) dX6_copy_1 ?_
  intro z1_
  refine r_if_eq g 14 dX6_copy_4 (by decide) ?_ ?_
  · refine r_iconst g dX6_copy_14 ?_
    exact r_iret g dX6_copy_15 rfl rfl
  · refine r_iload_n g dX6_copy_7 rfl ?_
    refine r_callS_PI g (kX6_isRow S x3) mX6_isRow w_1052 w_1053 (by decide) (fun _ => rfl) rfl (Nat.le_of_ble_eq_true rfl) dX6_copy_8 ?_
    intro z2_
    refine r_if_ne g 16 dX6_copy_11 (by decide) ?_ ?_
    · refine r_iload g dX6_copy_16 rfl ?_
      refine r_if_ge g 27 dX6_copy_18 (by decide) ?_ ?_
      · refine r_aload_n g dX6_copy_27 rfl ?_
        refine r_getC (c0 := 2) g KX6 shm_0 5 rfl (by decide) w_875 dX6_copy_28 ?_
        refine r_iload_n g dX6_copy_31 rfl ?_
        refine r_iald g shm_2 (by decide) dX6_copy_32 ?_
        intro z3_
        refine r_if_lt g 45 dX6_copy_33 (by decide) ?_ ?_
        · refine r_msk [true, false, false, false, false, false, false] rfl ?_
          exact tX6_copy_45 g
        · refine r_aload_n g dX6_copy_36 rfl ?_
          refine r_getC (c0 := 2) g KX6 shm_0 5 rfl (by decide) w_875 dX6_copy_37 ?_
          refine r_iload_n g dX6_copy_40 rfl ?_
          refine r_iald g shm_2 (by decide) dX6_copy_41 ?_
          intro z6_
          refine r_if_ge g 51 dX6_copy_42 (by decide) ?_ ?_
          · refine r_iload_n g dX6_copy_51 rfl ?_
            refine r_if_lt g 95 dX6_copy_52 (by decide) ?_ ?_
            · refine r_msk [true, false, false, false, false, false, false] rfl ?_
              exact tX6_copy_95 g
            · refine r_iload g dX6_copy_55 rfl ?_
              refine r_if_lt g 95 dX6_copy_57 (by decide) ?_ ?_
              · refine r_msk [true, false, false, false, false, false, false] rfl ?_
                exact tX6_copy_95 g
              · refine r_iload_n g dX6_copy_60 rfl ?_
                refine r_i2l g dX6_copy_61 ?_
                refine r_iload g dX6_copy_62 rfl ?_
                refine r_i2l g dX6_copy_64 ?_
                refine r_ladd g dX6_copy_65 ?_
                refine r_aload_n g dX6_copy_66 rfl ?_
                refine r_getC (c0 := 2) g KX6 shm_0 5 rfl (by decide) w_875 dX6_copy_67 ?_
                refine r_iload_n g dX6_copy_70 rfl ?_
                refine r_iald g shm_2 (by decide) dX6_copy_71 ?_
                intro z9_
                refine r_i2l g dX6_copy_72 ?_
                refine r_lcmp_gt g 95 dX6_copy_73 dX6_copy_74 (by decide) ?_ ?_
                · refine r_msk [true, false, false, false, false, false, false] rfl ?_
                  exact tX6_copy_95 g
                · refine r_iload g dX6_copy_77 rfl ?_
                  refine r_i2l g dX6_copy_79 ?_
                  refine r_iload g dX6_copy_80 rfl ?_
                  refine r_i2l g dX6_copy_82 ?_
                  refine r_ladd g dX6_copy_83 ?_
                  refine r_aload_n g dX6_copy_84 rfl ?_
                  refine r_getC (c0 := 2) g KX6 shm_0 5 rfl (by decide) w_875 dX6_copy_85 ?_
                  refine r_iload_n g dX6_copy_88 rfl ?_
                  refine r_iald g shm_2 (by decide) dX6_copy_89 ?_
                  intro z10_
                  refine r_i2l g dX6_copy_90 ?_
                  refine r_lcmp_le g 101 dX6_copy_91 dX6_copy_92 (by decide) ?_ ?_
                  · refine r_iconst g dX6_copy_101 ?_
                    refine r_istore g dX6_copy_102 (by decide) rfl ?_
                    exact tX6_copy_104 g _ _ _
                  · refine r_msk [true, false, false, false, false, false, false] rfl ?_
                    exact tX6_copy_95 g
          · refine r_msk [true, false, false, false, false, false, false] rfl ?_
            exact tX6_copy_45 g
      · refine r_aload_n g dX6_copy_21 rfl ?_
        refine r_iconst g dX6_copy_22 ?_
        refine r_callV_WI (q := 0) (as := fun b => [vi 5]) g (kX6_meets S 5) mX6_meets shm_0 rfl w_1055 w_1057 w_28 (by decide) (fun _ => rfl) rfl (Nat.le_of_ble_eq_true rfl) dX6_copy_23 ?_
        intro z17_ S18_
        exact r_iret g dX6_copy_26 rfl rfl
    · refine r_iconst g dX6_copy_14 ?_
      exact r_iret g dX6_copy_15 rfl rfl
theorem tX6_mean_44B {G : Gx} {S : St} {x1 : Int} (g : Ok G cX6_mean RX6 5 { frames := 2, cells := 0, slots := 0, locals := 42 } (some .int))   {k44 : Int → Int → Option (Int × St)} (hk44 : ∀ (x2' : Int) (x4' : Int), Rg G oIS (fun v => v.2) (SHM, 0, 0) (SHM, 0, 0) S 44 [some (vr G 0), some (vi x1), some (vl (x2')), none, some (vi (x4'))] [] (k44 x2' x4')) {x2 : Int} {x4 : Int} : Rg G oIS (fun v => v.2) (SHM, 0, 0) (SHM, 0, 0) S 44 [some (vr G 0), some (vi x1), some (vl x2), none, some (vi x4)] [] (pX6_mean_44B S x1 k44 x2 x4) := by
  unfold pX6_mean_44B
  refine r_iload g dX6_mean_44 rfl ?_
  refine r_aload_n g dX6_mean_46 rfl ?_
  refine r_getC (c0 := 2) g KX6 shm_0 5 rfl (by decide) w_875 dX6_mean_47 ?_
  refine r_iload_n g dX6_mean_50 rfl ?_
  refine r_iald g shm_2 (by decide) dX6_mean_51 ?_
  intro z4_
  refine r_icmp_ge g 72 dX6_mean_52 (by decide) ?_ ?_
  · refine r_aload_n g dX6_mean_72 rfl ?_
    refine r_lload_n g dX6_mean_73 rfl ?_
    refine r_aload_n g dX6_mean_74 rfl ?_
    refine r_getC (c0 := 2) g KX6 shm_0 5 rfl (by decide) w_875 dX6_mean_75 ?_
    refine r_iload_n g dX6_mean_78 rfl ?_
    refine r_iald g shm_2 (by decide) dX6_mean_79 ?_
    intro z5_
    refine r_i2l g dX6_mean_80 ?_
    refine r_ldiv g dX6_mean_81 ?_
    intro z6_
    refine r_l2i g dX6_mean_82 ?_
    refine r_iconst g dX6_mean_83 ?_
    refine r_callV_WI (q := 0) (as := fun b => [vi z6_, vi 1]) g (kX6_tells S z6_ 1) mX6_tells shm_0 rfl w_1067 w_1069 w_30 (by decide) (fun _ => rfl) rfl (Nat.le_of_ble_eq_true rfl) dX6_mean_84 ?_
    intro z7_ S8_
    exact r_iret g dX6_mean_87 rfl rfl
  · refine r_lload_n g dX6_mean_55 rfl ?_
    refine r_aload_n g dX6_mean_56 rfl ?_
    refine r_iload_n g dX6_mean_57 rfl ?_
    refine r_iload g dX6_mean_58 rfl ?_
    refine r_callV_PI (q := 0) (as := fun b => [vi x1, vi x4]) g (kX6_rowAt S x1 x4) mX6_rowAt shm_0 rfl w_1063 w_1065 w_29 (by decide) (fun _ => rfl) rfl (Nat.le_of_ble_eq_true rfl) dX6_mean_60 ?_
    intro z9_
    refine r_i2l g dX6_mean_63 ?_
    refine r_ladd g dX6_mean_64 ?_
    refine r_topl ?_
    intro x2_10_
    refine r_lstore_n g 2 dX6_mean_65 rfl (by decide) rfl ?_
    refine r_iinc g dX6_mean_66 (by decide) rfl ?_
    intro x4_11_
    change Rg _ _ _ _ _ _ _ [some (vr G 0), some (vi x1), some (vl x2_10_), none, some (vi x4_11_)] _ _
    refine r_goto g 44 dX6_mean_69 (by decide) ?_
    exact hk44 _ _
theorem tX6_mean_44 {G : Gx} {S : St} {x1 : Int} (g : Ok G cX6_mean RX6 5 { frames := 2, cells := 0, slots := 0, locals := 42 } (some .int))   : ∀ (n_ : Nat) (x2 : Int) (x4 : Int), Rg G oIS (fun v => v.2) (SHM, 0, 0) (SHM, 0, 0) S 44 [some (vr G 0), some (vi x1), some (vl x2), none, some (vi x4)] [] (lo2 (pX6_mean_44B S x1) n_ x2 x4) := by
  intro n_
  induction n_ with
  | zero => intro x2 x4; exact r_none
  | succ n_ ih => intro x2 x4; exact tX6_mean_44B g   ih
theorem kX6_mean (S : St) (x1 : Int)  : Con yX6_mean cX6_mean 5 (some .int) { frames := 2, cells := 0, slots := 0, locals := 42 } false SHM (SHM, 0, 0) (fun b => [.ref (b + 0), vi x1]) S (fun _ => oIS) (fun v => v.2) (pX6_mean S x1) := by
  refine Con_of (fun b => [some (.ref (b + 0)), some (vi x1), none, none, none]) (by decide) (fun _ => rfl) (fun _ => Nat.le_of_ble_eq_true rfl) ?_
  intro G g _ _ _
  change Ok G cX6_mean RX6 5 { frames := 2, cells := 0, slots := 0, locals := 42 } (some .int) at g
  show Rg G oIS (fun v => v.2) (SHM, 0, 0) (SHM, 0, 0) S 0 [some (vr G 0), some (vi x1), none, none, none] [] (pX6_mean S x1)
  unfold pX6_mean
  refine r_iload_n g dX6_mean_0 rfl ?_
  refine r_callS_PI g (kX6_isRow S x1) mX6_isRow w_1052 w_1053 (by decide) (fun _ => rfl) rfl (Nat.le_of_ble_eq_true rfl) dX6_mean_1 ?_
  intro z1_
  refine r_if_ne g 9 dX6_mean_4 (by decide) ?_ ?_
  · refine r_aload_n g dX6_mean_9 rfl ?_
    refine r_getC (c0 := 2) g KX6 shm_0 5 rfl (by decide) w_875 dX6_mean_10 ?_
    refine r_iload_n g dX6_mean_13 rfl ?_
    refine r_iald g shm_2 (by decide) dX6_mean_14 ?_
    intro z2_
    refine r_if_ge g 24 dX6_mean_15 (by decide) ?_ ?_
    · refine r_aload_n g dX6_mean_24 rfl ?_
      refine r_getC (c0 := 2) g KX6 shm_0 5 rfl (by decide) w_875 dX6_mean_25 ?_
      refine r_iload_n g dX6_mean_28 rfl ?_
      refine r_iald g shm_2 (by decide) dX6_mean_29 ?_
      intro z3_
      refine r_if_ne g 39 dX6_mean_30 (by decide) ?_ ?_
      · refine r_lconst (x := 0) g dX6_mean_39 (by decide) ?_
        refine r_lstore_n g 2 dX6_mean_40 rfl (by decide) rfl ?_
        refine r_iconst g dX6_mean_41 ?_
        refine r_istore g dX6_mean_42 (by decide) rfl ?_
        exact tX6_mean_44 g _ _ _
      · refine r_aload_n g dX6_mean_33 rfl ?_
        refine r_iconst g dX6_mean_34 ?_
        refine r_callV_WI (q := 0) (as := fun b => [vi 4]) g (kX6_meets S 4) mX6_meets shm_0 rfl w_1055 w_1057 w_28 (by decide) (fun _ => rfl) rfl (Nat.le_of_ble_eq_true rfl) dX6_mean_35 ?_
        intro z12_ S13_
        exact r_iret g dX6_mean_38 rfl rfl
    · refine r_aload_n g dX6_mean_18 rfl ?_
      refine r_iconst g dX6_mean_19 ?_
      refine r_callV_WI (q := 0) (as := fun b => [vi 1]) g (kX6_meets S 1) mX6_meets shm_0 rfl w_1055 w_1057 w_28 (by decide) (fun _ => rfl) rfl (Nat.le_of_ble_eq_true rfl) dX6_mean_20 ?_
      intro z14_ S15_
      exact r_iret g dX6_mean_23 rfl rfl
  · refine r_iconst g dX6_mean_7 ?_
    exact r_iret g dX6_mean_8 rfl rfl
theorem kX6_isText (S : St) (x0 : Int)  : Con yX6_isText cX6_isText 1 (some .boolean) { frames := 1, cells := 0, slots := 0, locals := 22 } false SHM (SHM, 0, 0) (fun b => [vi x0]) S (fun _ => oI) (fun _ => S) (pX6_isText x0) := by
  refine Con_of (fun b => [some (vi x0)]) (by decide) (fun _ => rfl) (fun _ => Nat.le_of_ble_eq_true rfl) ?_
  intro G g _ _ _
  change Ok G cX6_isText RX6 1 { frames := 1, cells := 0, slots := 0, locals := 22 } (some .boolean) at g
  show Rg G oI (fun _ => S) (SHM, 0, 0) (SHM, 0, 0) S 0 [some (vi x0)] [] (pX6_isText x0)
  unfold pX6_isText
  refine r_iload_n g dX6_isText_0 rfl ?_
  refine r_iconst g dX6_isText_1 ?_
  refine r_iconst g dX6_isText_2 ?_
  refine r_callS_PI g (kX6_in S x0 0 3) mX6_in w_1033 w_1034 (by decide) (fun _ => rfl) rfl (Nat.le_of_ble_eq_true rfl) dX6_isText_3 ?_
  intro z1_
  exact r_zret g dX6_isText_6 rfl rfl
theorem tX6_text_34B {G : Gx} {x1 : Int} {x2 : Int} (g : Ok G cX6_text RX6 4 { frames := 2, cells := 0, slots := 0, locals := 42 } (some .int))   {k34 : St → Int → Option (Int × St)} (hk34 : ∀ (S' : St) (x3' : Int), Rg G oIS (fun v => v.2) (SHM, 0, 0) (SHM, 0, 0) S' 34 [some (vr G 0), some (vi x1), some (vi x2), some (vi (x3'))] [] (k34 S' x3')) {S : St} {x3 : Int} : Rg G oIS (fun v => v.2) (SHM, 0, 0) (SHM, 0, 0) S 34 [some (vr G 0), some (vi x1), some (vi x2), some (vi x3)] [] (pX6_text_34B x1 x2 k34 S x3) := by
  unfold pX6_text_34B
  refine r_iload_n g dX6_text_34 rfl ?_
  refine r_bipush g dX6_text_35 (by decide) ?_
  refine r_icmp_ge g 59 dX6_text_37 (by decide) ?_ ?_
  · refine r_iload_n g dX6_text_59 rfl ?_
    exact r_iret g dX6_text_60 rfl rfl
  · refine r_aload_n g dX6_text_40 rfl ?_
    refine r_getC (c0 := 6) g KX6 shm_0 9 rfl (by decide) w_879 dX6_text_41 ?_
    refine r_bipush g dX6_text_44 (by decide) ?_
    refine r_iload_n g dX6_text_46 rfl ?_
    refine r_imul g dX6_text_47 ?_
    refine r_iload_n g dX6_text_48 rfl ?_
    refine r_iadd g dX6_text_49 ?_
    refine r_bipush g dX6_text_50 (by decide) ?_
    refine r_bast g shm_6 (by decide) dX6_text_52 ?_
    intro S3_
    refine r_iinc g dX6_text_53 (by decide) rfl ?_
    intro x3_4_
    change Rg _ _ _ _ _ _ _ [some (vr G 0), some (vi x1), some (vi x2), some (vi x3_4_)] _ _
    refine r_goto g 34 dX6_text_56 (by decide) ?_
    exact hk34 _ _
theorem tX6_text_34 {G : Gx} {x1 : Int} {x2 : Int} (g : Ok G cX6_text RX6 4 { frames := 2, cells := 0, slots := 0, locals := 42 } (some .int))   : ∀ (n_ : Nat) (S : St) (x3 : Int), Rg G oIS (fun v => v.2) (SHM, 0, 0) (SHM, 0, 0) S 34 [some (vr G 0), some (vi x1), some (vi x2), some (vi x3)] [] (lo2 (pX6_text_34B x1 x2) n_ S x3) := by
  intro n_
  induction n_ with
  | zero => intro S x3; exact r_none
  | succ n_ ih => intro S x3; exact tX6_text_34B g   ih
theorem kX6_text (S : St) (x1 : Int) (x2 : Int)  : Con yX6_text cX6_text 4 (some .int) { frames := 2, cells := 0, slots := 0, locals := 42 } false SHM (SHM, 0, 0) (fun b => [.ref (b + 0), vi x1, vi x2]) S (fun _ => oIS) (fun v => v.2) (pX6_text S x1 x2) := by
  refine Con_of (fun b => [some (.ref (b + 0)), some (vi x1), some (vi x2), none]) (by decide) (fun _ => rfl) (fun _ => Nat.le_of_ble_eq_true rfl) ?_
  intro G g _ _ _
  change Ok G cX6_text RX6 4 { frames := 2, cells := 0, slots := 0, locals := 42 } (some .int) at g
  show Rg G oIS (fun v => v.2) (SHM, 0, 0) (SHM, 0, 0) S 0 [some (vr G 0), some (vi x1), some (vi x2), none] [] (pX6_text S x1 x2)
  unfold pX6_text
  refine r_iload_n g dX6_text_0 rfl ?_
  refine r_callS_PI g (kX6_isText S x1) mX6_isText w_1087 w_1088 (by decide) (fun _ => rfl) rfl (Nat.le_of_ble_eq_true rfl) dX6_text_1 ?_
  intro z1_
  refine r_if_eq g 13 dX6_text_4 (by decide) ?_ ?_
  · refine r_iconst g dX6_text_13 ?_
    exact r_iret g dX6_text_14 rfl rfl
  · refine r_iload_n g dX6_text_7 rfl ?_
    refine r_bipush g dX6_text_8 (by decide) ?_
    refine r_icmp_le g 15 dX6_text_10 (by decide) ?_ ?_
    · refine r_iload_n g dX6_text_15 rfl ?_
      refine r_if_ge g 25 dX6_text_16 (by decide) ?_ ?_
      · refine r_aload_n g dX6_text_25 rfl ?_
        refine r_getC (c0 := 5) g KX6 shm_0 8 rfl (by decide) w_878 dX6_text_26 ?_
        refine r_iload_n g dX6_text_29 rfl ?_
        refine r_iload_n g dX6_text_30 rfl ?_
        refine r_iast g shm_5 (by decide) dX6_text_31 ?_
        intro S2_
        refine r_iconst g dX6_text_32 ?_
        refine r_istore_n g 3 dX6_text_33 rfl (by decide) rfl ?_
        exact tX6_text_34 g _ _ _
      · refine r_aload_n g dX6_text_19 rfl ?_
        refine r_iconst g dX6_text_20 ?_
        refine r_callV_WI (q := 0) (as := fun b => [vi 5]) g (kX6_meets S 5) mX6_meets shm_0 rfl w_1055 w_1057 w_28 (by decide) (fun _ => rfl) rfl (Nat.le_of_ble_eq_true rfl) dX6_text_21 ?_
        intro z5_ S6_
        exact r_iret g dX6_text_24 rfl rfl
    · refine r_iconst g dX6_text_13 ?_
      exact r_iret g dX6_text_14 rfl rfl
theorem kX6_put (S : St) (x1 : Int) (x2 : Int) (x3 : Int)  : Con yX6_put cX6_put 5 (some .int) { frames := 2, cells := 0, slots := 0, locals := 42 } false SHM (SHM, 0, 0) (fun b => [.ref (b + 0), vi x1, vi x2, vi x3]) S (fun _ => oIS) (fun v => v.2) (pX6_put S x1 x2 x3) := by
  refine Con_of (fun b => [some (.ref (b + 0)), some (vi x1), some (vi x2), some (vi x3), none]) (by decide) (fun _ => rfl) (fun _ => Nat.le_of_ble_eq_true rfl) ?_
  intro G g _ _ _
  change Ok G cX6_put RX6 5 { frames := 2, cells := 0, slots := 0, locals := 42 } (some .int) at g
  show Rg G oIS (fun v => v.2) (SHM, 0, 0) (SHM, 0, 0) S 0 [some (vr G 0), some (vi x1), some (vi x2), some (vi x3), none] [] (pX6_put S x1 x2 x3)
  unfold pX6_put
  refine r_iload_n g dX6_put_0 rfl ?_
  refine r_callS_PI g (kX6_isText S x1) mX6_isText w_1087 w_1088 (by decide) (fun _ => rfl) rfl (Nat.le_of_ble_eq_true rfl) dX6_put_1 ?_
  intro z1_
  refine r_if_ne g 9 dX6_put_4 (by decide) ?_ ?_
  · refine r_aload_n g dX6_put_9 rfl ?_
    refine r_getC (c0 := 5) g KX6 shm_0 8 rfl (by decide) w_878 dX6_put_10 ?_
    refine r_iload_n g dX6_put_13 rfl ?_
    refine r_iald g shm_5 (by decide) dX6_put_14 ?_
    intro z2_
    refine r_if_ge g 24 dX6_put_15 (by decide) ?_ ?_
    · refine r_iload_n g dX6_put_24 rfl ?_
      refine r_iconst g dX6_put_25 ?_
      refine r_aload_n g dX6_put_26 rfl ?_
      refine r_getC (c0 := 5) g KX6 shm_0 8 rfl (by decide) w_878 dX6_put_27 ?_
      refine r_iload_n g dX6_put_30 rfl ?_
      refine r_iald g shm_5 (by decide) dX6_put_31 ?_
      intro z3_
      refine r_iconst g dX6_put_32 ?_
      refine r_isub g dX6_put_33 ?_
      refine r_callS_PI g (kX6_in S x2 0 (z3_ - 1)) mX6_in w_1033 w_1034 (by decide) (fun _ => rfl) rfl (Nat.le_of_ble_eq_true rfl) dX6_put_34 ?_
      intro z4_
      refine r_if_ne g 46 dX6_put_37 (by decide) ?_ ?_
      · refine r_aload_n g dX6_put_46 rfl ?_
        refine r_getC (c0 := 6) g KX6 shm_0 9 rfl (by decide) w_879 dX6_put_47 ?_
        refine r_bipush g dX6_put_50 (by decide) ?_
        refine r_iload_n g dX6_put_52 rfl ?_
        refine r_imul g dX6_put_53 ?_
        refine r_iload_n g dX6_put_54 rfl ?_
        refine r_iadd g dX6_put_55 ?_
        refine r_bald g shm_6 (by decide) dX6_put_56 ?_
        intro z5_
        refine r_istore g dX6_put_57 (by decide) rfl ?_
        refine r_aload_n g dX6_put_59 rfl ?_
        refine r_getC (c0 := 6) g KX6 shm_0 9 rfl (by decide) w_879 dX6_put_60 ?_
        refine r_bipush g dX6_put_63 (by decide) ?_
        refine r_iload_n g dX6_put_65 rfl ?_
        refine r_imul g dX6_put_66 ?_
        refine r_iload_n g dX6_put_67 rfl ?_
        refine r_iadd g dX6_put_68 ?_
        refine r_iload_n g dX6_put_69 rfl ?_
        refine r_i2b g dX6_put_70 ?_
        refine r_bast g shm_6 (by decide) dX6_put_71 ?_
        intro S6_
        refine r_sipush g dX6_put_72 (by decide) ?_
        refine r_iload g dX6_put_75 rfl ?_
        refine r_iadd g dX6_put_77 ?_
        exact r_iret g dX6_put_78 rfl rfl
      · refine r_aload_n g dX6_put_40 rfl ?_
        refine r_iconst g dX6_put_41 ?_
        refine r_callV_WI (q := 0) (as := fun b => [vi 2]) g (kX6_meets S 2) mX6_meets shm_0 rfl w_1055 w_1057 w_28 (by decide) (fun _ => rfl) rfl (Nat.le_of_ble_eq_true rfl) dX6_put_42 ?_
        intro z7_ S8_
        exact r_iret g dX6_put_45 rfl rfl
    · refine r_aload_n g dX6_put_18 rfl ?_
      refine r_iconst g dX6_put_19 ?_
      refine r_callV_WI (q := 0) (as := fun b => [vi 1]) g (kX6_meets S 1) mX6_meets shm_0 rfl w_1055 w_1057 w_28 (by decide) (fun _ => rfl) rfl (Nat.le_of_ble_eq_true rfl) dX6_put_20 ?_
      intro z9_ S10_
      exact r_iret g dX6_put_23 rfl rfl
  · refine r_iconst g dX6_put_7 ?_
    exact r_iret g dX6_put_8 rfl rfl
theorem kX6_byteAt (S : St) (x1 : Int) (x2 : Int)  : Con yX6_byteAt cX6_byteAt 3 (some .int) { frames := 0, cells := 0, slots := 0, locals := 0 } false SHM (SHM, 0, 0) (fun b => [.ref (b + 0), vi x1, vi x2]) S (fun _ => oI) (fun _ => S) (pX6_byteAt S x1 x2) := by
  refine Con_of (fun b => [some (.ref (b + 0)), some (vi x1), some (vi x2)]) (by decide) (fun _ => rfl) (fun _ => Nat.le_of_ble_eq_true rfl) ?_
  intro G g _ _ _
  change Ok G cX6_byteAt RX6 3 { frames := 0, cells := 0, slots := 0, locals := 0 } (some .int) at g
  show Rg G oI (fun _ => S) (SHM, 0, 0) (SHM, 0, 0) S 0 [some (vr G 0), some (vi x1), some (vi x2)] [] (pX6_byteAt S x1 x2)
  unfold pX6_byteAt
  refine r_iload_n g dX6_byteAt_0 rfl ?_
  refine r_aload_n g dX6_byteAt_1 rfl ?_
  refine r_getC (c0 := 5) g KX6 shm_0 8 rfl (by decide) w_878 dX6_byteAt_2 ?_
  refine r_iload_n g dX6_byteAt_5 rfl ?_
  refine r_iald g shm_5 (by decide) dX6_byteAt_6 ?_
  intro z1_
  refine r_icmp_ge g 24 dX6_byteAt_7 (by decide) ?_ ?_
  · refine r_iconst g dX6_byteAt_24 ?_
    exact r_iret g dX6_byteAt_25 rfl rfl
  · refine r_aload_n g dX6_byteAt_10 rfl ?_
    refine r_getC (c0 := 6) g KX6 shm_0 9 rfl (by decide) w_879 dX6_byteAt_11 ?_
    refine r_bipush g dX6_byteAt_14 (by decide) ?_
    refine r_iload_n g dX6_byteAt_16 rfl ?_
    refine r_imul g dX6_byteAt_17 ?_
    refine r_iload_n g dX6_byteAt_18 rfl ?_
    refine r_iadd g dX6_byteAt_19 ?_
    refine r_bald g shm_6 (by decide) dX6_byteAt_20 ?_
    intro z2_
    refine r_goto g 25 dX6_byteAt_21 (by decide) ?_
    exact r_iret g dX6_byteAt_25 rfl rfl
theorem tX6_readNumber_76 {G : Gx}  {S : St} {x3 : Int} (g : Ok G cX6_readNumber RX6 4 { frames := 1, cells := 0, slots := 0, locals := 22 } (some .boolean))   : Rg G oIS (fun v => v.2) (SHM, 0, 0) (SHM, 0, 0) S 76 [some (vr G 0), none, none, some (vi x3)] [] (pX6_readNumber_76 S x3) := by
  unfold pX6_readNumber_76
  refine r_aload_n g dX6_readNumber_76 rfl ?_
  refine r_getI g KX6 shm_0 22 rfl (by decide) w_892 dX6_readNumber_77 ?_
  refine r_iload_n g dX6_readNumber_80 rfl ?_
  refine r_icmp_le g 88 dX6_readNumber_81 (by decide) ?_ ?_
  · refine r_iconst g dX6_readNumber_88 ?_
    exact r_zret0 g (by decide) dX6_readNumber_89 rfl rfl
  · refine r_iconst g dX6_readNumber_84 ?_
    refine r_goto g 89 dX6_readNumber_85 (by decide) ?_
    exact r_zret0 g (by decide) dX6_readNumber_89 rfl rfl
theorem tX6_readNumber_10B {G : Gx} {x1 : Int} {x2 : Int} {x3 : Int} (g : Ok G cX6_readNumber RX6 4 { frames := 1, cells := 0, slots := 0, locals := 22 } (some .boolean))   {k10 : St → Option (Int × St)} (hk10 : ∀ (S' : St), Rg G oIS (fun v => v.2) (SHM, 0, 0) (SHM, 0, 0) S' 10 [some (vr G 0), some (vi x1), some (vi x2), some (vi x3)] [] (k10 S')) {S : St} : Rg G oIS (fun v => v.2) (SHM, 0, 0) (SHM, 0, 0) S 10 [some (vr G 0), some (vi x1), some (vi x2), some (vi x3)] [] (pX6_readNumber_10B x1 x2 x3 k10 S) := by
  unfold pX6_readNumber_10B
  refine r_aload_n g dX6_readNumber_10 rfl ?_
  refine r_getI g KX6 shm_0 22 rfl (by decide) w_892 dX6_readNumber_11 ?_
  refine r_iload_n g dX6_readNumber_14 rfl ?_
  refine r_iload_n g dX6_readNumber_15 rfl ?_
  refine r_iadd g dX6_readNumber_16 ?_
  refine r_icmp_ge g 76 dX6_readNumber_17 (by decide) ?_ ?_
  · refine r_msk [true, false, false, true] rfl ?_
    exact tX6_readNumber_76 g
  · refine r_aload_n g dX6_readNumber_20 rfl ?_
    refine r_iload_n g dX6_readNumber_21 rfl ?_
    refine r_aload_n g dX6_readNumber_22 rfl ?_
    refine r_getI g KX6 shm_0 22 rfl (by decide) w_892 dX6_readNumber_23 ?_
    refine r_callV_PI (q := 0) (as := fun b => [vi x1, vi (S 0 22)]) g (kX6_byteAt S x1 (S 0 22)) mX6_byteAt shm_0 rfl w_1102 w_1104 w_32 (by decide) (fun _ => rfl) rfl (Nat.le_of_ble_eq_true rfl) dX6_readNumber_26 ?_
    intro z3_
    refine r_bipush g dX6_readNumber_29 (by decide) ?_
    refine r_bipush g dX6_readNumber_31 (by decide) ?_
    refine r_callS_PI g (kX6_in S z3_ 48 57) mX6_in w_1033 w_1034 (by decide) (fun _ => rfl) rfl (Nat.le_of_ble_eq_true rfl) dX6_readNumber_33 ?_
    intro z4_
    refine r_if_eq g 76 dX6_readNumber_36 (by decide) ?_ ?_
    · refine r_msk [true, false, false, true] rfl ?_
      exact tX6_readNumber_76 g
    · refine r_aload_n g dX6_readNumber_39 rfl ?_
      refine r_bipush g dX6_readNumber_40 (by decide) ?_
      refine r_aload_n g dX6_readNumber_42 rfl ?_
      refine r_getI g KX6 shm_0 23 rfl (by decide) w_893 dX6_readNumber_43 ?_
      refine r_imul g dX6_readNumber_46 ?_
      refine r_aload_n g dX6_readNumber_47 rfl ?_
      refine r_iload_n g dX6_readNumber_48 rfl ?_
      refine r_aload_n g dX6_readNumber_49 rfl ?_
      refine r_getI g KX6 shm_0 22 rfl (by decide) w_892 dX6_readNumber_50 ?_
      refine r_callV_PI (q := 0) (as := fun b => [vi x1, vi (S 0 22)]) g (kX6_byteAt S x1 (S 0 22)) mX6_byteAt shm_0 rfl w_1102 w_1104 w_32 (by decide) (fun _ => rfl) rfl (Nat.le_of_ble_eq_true rfl) dX6_readNumber_53 ?_
      intro z5_
      refine r_iadd g dX6_readNumber_56 ?_
      refine r_bipush g dX6_readNumber_57 (by decide) ?_
      refine r_isub g dX6_readNumber_59 ?_
      refine r_putI g KX6 shm_0 23 rfl (by decide) rfl rfl w_893 dX6_readNumber_60 ?_
      intro S6_ _
      refine r_aload_n g dX6_readNumber_63 rfl ?_
      refine r_dup g dX6_readNumber_64 rfl ?_
      refine r_getI g KX6 shm_0 22 rfl (by decide) w_892 dX6_readNumber_65 ?_
      refine r_iconst g dX6_readNumber_68 ?_
      refine r_iadd g dX6_readNumber_69 ?_
      refine r_putI g KX6 shm_0 22 rfl (by decide) rfl rfl w_892 dX6_readNumber_70 ?_
      intro S7_ _
      refine r_goto g 10 dX6_readNumber_73 (by decide) ?_
      exact hk10 _
theorem tX6_readNumber_10 {G : Gx} {x1 : Int} {x2 : Int} {x3 : Int} (g : Ok G cX6_readNumber RX6 4 { frames := 1, cells := 0, slots := 0, locals := 22 } (some .boolean))   : ∀ (n_ : Nat) (S : St), Rg G oIS (fun v => v.2) (SHM, 0, 0) (SHM, 0, 0) S 10 [some (vr G 0), some (vi x1), some (vi x2), some (vi x3)] [] (lo1 (pX6_readNumber_10B x1 x2 x3) n_ S) := by
  intro n_
  induction n_ with
  | zero => intro S; exact r_none
  | succ n_ ih => intro S; exact tX6_readNumber_10B g   ih
theorem kX6_readNumber (S : St) (x1 : Int) (x2 : Int)  : Con yX6_readNumber cX6_readNumber 4 (some .boolean) { frames := 1, cells := 0, slots := 0, locals := 22 } false SHM (SHM, 0, 0) (fun b => [.ref (b + 0), vi x1, vi x2]) S (fun _ => oIS) (fun v => v.2) (pX6_readNumber S x1 x2) := by
  refine Con_of (fun b => [some (.ref (b + 0)), some (vi x1), some (vi x2), none]) (by decide) (fun _ => rfl) (fun _ => Nat.le_of_ble_eq_true rfl) ?_
  intro G g _ _ _
  change Ok G cX6_readNumber RX6 4 { frames := 1, cells := 0, slots := 0, locals := 22 } (some .boolean) at g
  show Rg G oIS (fun v => v.2) (SHM, 0, 0) (SHM, 0, 0) S 0 [some (vr G 0), some (vi x1), some (vi x2), none] [] (pX6_readNumber S x1 x2)
  unfold pX6_readNumber
  refine r_aload_n g dX6_readNumber_0 rfl ?_
  refine r_getI g KX6 shm_0 22 rfl (by decide) w_892 dX6_readNumber_1 ?_
  refine r_topi ?_
  intro x3_1_
  refine r_istore_n g 3 dX6_readNumber_4 rfl (by decide) rfl ?_
  refine r_aload_n g dX6_readNumber_5 rfl ?_
  refine r_iconst g dX6_readNumber_6 ?_
  refine r_putI g KX6 shm_0 23 rfl (by decide) rfl rfl w_893 dX6_readNumber_7 ?_
  intro S2_ _
  exact tX6_readNumber_10 g _ _
