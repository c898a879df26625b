theorem kX3_clear (S : St) (q0 : Nat) (hq0 : isStf q0 = true) : Con yX3_clear cX3_clear 1 none { frames := 0, cells := 0, slots := 0, locals := 0 } false SHC (SHC, 0, 0) (fun b => [.ref (b + q0)]) S (fun _ => oVS) id (pX3_clear S q0) := by
  refine Con_of (fun b => [some (.ref (b + q0))]) (by decide) (fun _ => rfl) (fun _ => Nat.le_of_ble_eq_true rfl) ?_
  intro G g _ _ _
  change Ok G cX3_clear RX3 1 { frames := 0, cells := 0, slots := 0, locals := 0 } none at g
  show Rg G oVS id (SHC, 0, 0) (SHC, 0, 0) S 0 [some (vr G q0)] [] (pX3_clear S q0)
  unfold pX3_clear
  refine r_aload_n g dX3_clear_0 rfl ?_
  refine r_iconst g dX3_clear_1 ?_
  refine r_putI g KX3 (shStf hq0) 2 rfl (by decide) rfl rfl w_117 dX3_clear_2 ?_
  intro S1_ _
  refine r_aload_n g dX3_clear_5 rfl ?_
  refine r_iconst g dX3_clear_6 ?_
  refine r_putI g KX3 (shStf hq0) 3 rfl (by decide) rfl rfl w_120 dX3_clear_7 ?_
  intro S2_ _
  refine r_aload_n g dX3_clear_10 rfl ?_
  refine r_bipush g dX3_clear_11 (by decide) ?_
  refine r_putI g KX3 (shStf hq0) 4 rfl (by decide) rfl rfl w_123 dX3_clear_13 ?_
  intro S3_ _
  refine r_aload_n g dX3_clear_16 rfl ?_
  refine r_iconst g dX3_clear_17 ?_
  refine r_putI g KX3 (shStf hq0) 5 rfl (by decide) rfl rfl w_126 dX3_clear_18 ?_
  intro S4_ _
  refine r_aload_n g dX3_clear_21 rfl ?_
  refine r_iconst g dX3_clear_22 ?_
  refine r_putI g KX3 (shStf hq0) 6 rfl (by decide) rfl rfl w_129 dX3_clear_23 ?_
  intro S5_ _
  exact r_vret g dX3_clear_26 rfl rfl
theorem kX3_isMissing (S : St) (q0 : Nat) (hq0 : isStf q0 = true) : Con yX3_isMissing cX3_isMissing 1 (some .boolean) { frames := 0, cells := 0, slots := 0, locals := 0 } false SHC (SHC, 0, 0) (fun b => [.ref (b + q0)]) S (fun _ => oI) (fun _ => S) (pX3_isMissing S q0) := by
  refine Con_of (fun b => [some (.ref (b + q0))]) (by decide) (fun _ => rfl) (fun _ => Nat.le_of_ble_eq_true rfl) ?_
  intro G g _ _ _
  change Ok G cX3_isMissing RX3 1 { frames := 0, cells := 0, slots := 0, locals := 0 } (some .boolean) at g
  show Rg G oI (fun _ => S) (SHC, 0, 0) (SHC, 0, 0) S 0 [some (vr G q0)] [] (pX3_isMissing S q0)
  unfold pX3_isMissing
  refine r_aload_n g dX3_isMissing_0 rfl ?_
  refine r_getI g KX3 (shStf hq0) 2 rfl (by decide) w_117 dX3_isMissing_1 ?_
  refine r_if_ne g 11 dX3_isMissing_4 (by decide) ?_ ?_
  · refine r_iconst g dX3_isMissing_11 ?_
    exact r_zret0 g (by decide) dX3_isMissing_12 rfl rfl
  · refine r_iconst g dX3_isMissing_7 ?_
    refine r_goto g 12 dX3_isMissing_8 (by decide) ?_
    exact r_zret0 g (by decide) dX3_isMissing_12 rfl rfl
theorem kX1_has (S : St) (q0 : Nat) (x1 : Int) (hq0 : isRow q0 = true) : Con yX1_has cX1_has 2 (some .boolean) { frames := 0, cells := 0, slots := 0, locals := 0 } false SHC (SHC, 0, 0) (fun b => [.ref (b + q0), vi x1]) S (fun _ => oI) (fun _ => S) (pX1_has S q0 x1) := by
  refine Con_of (fun b => [some (.ref (b + q0)), some (vi x1)]) (by decide) (fun _ => rfl) (fun _ => Nat.le_of_ble_eq_true rfl) ?_
  intro G g _ _ _
  change Ok G cX1_has RX1 2 { frames := 0, cells := 0, slots := 0, locals := 0 } (some .boolean) at g
  show Rg G oI (fun _ => S) (SHC, 0, 0) (SHC, 0, 0) S 0 [some (vr G q0), some (vi x1)] [] (pX1_has S q0 x1)
  unfold pX1_has
  refine r_iload_n g dX1_has_0 rfl ?_
  refine r_if_lt g 16 dX1_has_1 (by decide) ?_ ?_
  · refine r_iconst g dX1_has_16 ?_
    exact r_zret0 g (by decide) dX1_has_17 rfl rfl
  · refine r_iload_n g dX1_has_4 rfl ?_
    refine r_aload_n g dX1_has_5 rfl ?_
    refine r_getI g KX1 (shRow hq0) 1 rfl (by decide) w_161 dX1_has_6 ?_
    refine r_icmp_ge g 16 dX1_has_9 (by decide) ?_ ?_
    · refine r_iconst g dX1_has_16 ?_
      exact r_zret0 g (by decide) dX1_has_17 rfl rfl
    · refine r_iconst g dX1_has_12 ?_
      refine r_goto g 17 dX1_has_13 (by decide) ?_
      exact r_zret0 g (by decide) dX1_has_17 rfl rfl
theorem kX0_here (S : St)  : Con yX0_here cX0_here 1 (some .int) { frames := 1, cells := 0, slots := 0, locals := 21 } false SHC (SHC, 0, 0) (fun b => [.ref (b + 7)]) S (fun _ => oI) (fun _ => S) (pX0_here S) := by
  refine Con_of (fun b => [some (.ref (b + 7))]) (by decide) (fun _ => rfl) (fun _ => Nat.le_of_ble_eq_true rfl) ?_
  intro G g _ _ _
  change Ok G cX0_here RX0 1 { frames := 1, cells := 0, slots := 0, locals := 21 } (some .int) at g
  show Rg G oI (fun _ => S) (SHC, 0, 0) (SHC, 0, 0) S 0 [some (vr G 7)] [] (pX0_here S)
  unfold pX0_here
  refine r_aload_n g dX0_here_0 rfl ?_
  refine r_getR (P := isRow) g KX0 shc_7 1 rfl (by decide) w_172 dX0_here_1 ?_
  intro q1_ hq1_
  refine r_aload_n g dX0_here_4 rfl ?_
  refine r_getI g KX0 shc_7 2 rfl (by decide) w_173 dX0_here_5 ?_
  refine r_callV_PI (q := q1_) (as := fun b => [vi (S 7 2)]) g (kX1_has S q1_ (S 7 2) hq1_) mX1_has (shRow hq1_) rfl w_396 w_347 w_348 (by decide) (fun _ => rfl) rfl (Nat.le_of_ble_eq_true rfl) dX0_here_8 ?_
  intro z2_
  refine r_if_eq g 29 dX0_here_11 (by decide) ?_ ?_
  · refine r_iconst g dX0_here_29 ?_
    exact r_iret g dX0_here_30 rfl rfl
  · refine r_aload_n g dX0_here_14 rfl ?_
    refine r_getR (P := isRow) g KX0 shc_7 1 rfl (by decide) w_172 dX0_here_15 ?_
    intro q3_ hq3_
    refine r_getC (c0 := q3_ + 1) g KX1 (shRow hq3_) 0 rfl (by decide) w_158 dX0_here_18 ?_
    refine r_aload_n g dX0_here_21 rfl ?_
    refine r_getI g KX0 shc_7 2 rfl (by decide) w_173 dX0_here_22 ?_
    refine r_iald g (shRowA hq3_) (rlen_le _) dX0_here_25 ?_
    intro z4_
    refine r_goto g 30 dX0_here_26 (by decide) ?_
    exact r_iret g dX0_here_30 rfl rfl
theorem tX0_number_4B {G : Gx} {x1 : Int} (g : Ok G cX0_number RX0 4 { frames := 2, cells := 0, slots := 0, locals := 41 } (some .int))   {k4 : St → Int → Int → Option (Int × St)} (hk4 : ∀ (S' : St) (x2' : Int) (x3' : Int), Rg G oIS (fun v => v.2) (SHC, 0, 0) (SHC, 0, 0) S' 4 [some (vr G 7), some (vi x1), some (vi (x2')), some (vi (x3'))] [] (k4 S' x2' x3')) {S : St} {x2 : Int} {x3 : Int} : Rg G oIS (fun v => v.2) (SHC, 0, 0) (SHC, 0, 0) S 4 [some (vr G 7), some (vi x1), some (vi x2), some (vi x3)] [] (pX0_number_4B x1 k4 S x2 x3) := by
  unfold pX0_number_4B
  refine r_iload_n g dX0_number_4 rfl ?_
  refine r_iload_n g dX0_number_5 rfl ?_
  refine r_icmp_ge g 60 dX0_number_6 (by decide) ?_ ?_
  · refine r_iload_n g dX0_number_60 rfl ?_
    exact r_iret g dX0_number_61 rfl rfl
  · refine r_aload_n g dX0_number_9 rfl ?_
    refine r_callV_PI (q := 7) (as := fun b => []) g (kX0_here S) mX0_here shc_7 rfl w_392 w_394 w_1 (by decide) (fun _ => rfl) rfl (Nat.le_of_ble_eq_true rfl) dX0_number_10 ?_
    intro z1_
    refine r_bipush g dX0_number_13 (by decide) ?_
    refine r_icmp_lt g 60 dX0_number_15 (by decide) ?_ ?_
    · refine r_iload_n g dX0_number_60 rfl ?_
      exact r_iret g dX0_number_61 rfl rfl
    · refine r_aload_n g dX0_number_18 rfl ?_
      refine r_callV_PI (q := 7) (as := fun b => []) g (kX0_here S) mX0_here shc_7 rfl w_392 w_394 w_1 (by decide) (fun _ => rfl) rfl (Nat.le_of_ble_eq_true rfl) dX0_number_19 ?_
      intro z2_
      refine r_bipush g dX0_number_22 (by decide) ?_
      refine r_icmp_gt g 60 dX0_number_24 (by decide) ?_ ?_
      · refine r_iload_n g dX0_number_60 rfl ?_
        exact r_iret g dX0_number_61 rfl rfl
      · refine r_iload_n g dX0_number_27 rfl ?_
        refine r_iconst g dX0_number_28 ?_
        refine rJ9_max_7cf53 g w_413 w_155 w_77 w_156 ⟨by decide, Nat.le_of_ble_eq_true rfl⟩ dX0_number_29 ?_
        intro z3_
        refine r_bipush g dX0_number_32 (by decide) ?_
        refine r_imul g dX0_number_34 ?_
        refine r_aload_n g dX0_number_35 rfl ?_
        refine r_callV_PI (q := 7) (as := fun b => []) g (kX0_here S) mX0_here shc_7 rfl w_392 w_394 w_1 (by decide) (fun _ => rfl) rfl (Nat.le_of_ble_eq_true rfl) dX0_number_36 ?_
        intro z4_
        refine r_iadd g dX0_number_39 ?_
        refine r_bipush g dX0_number_40 (by decide) ?_
        refine r_isub g dX0_number_42 ?_
        refine r_topi ?_
        intro x2_5_
        refine r_istore_n g 2 dX0_number_43 rfl (by decide) rfl ?_
        refine r_aload_n g dX0_number_44 rfl ?_
        refine r_dup g dX0_number_45 rfl ?_
        refine r_getI g KX0 shc_7 2 rfl (by decide) w_173 dX0_number_46 ?_
        refine r_iconst g dX0_number_49 ?_
        refine r_iadd g dX0_number_50 ?_
        refine r_putI g KX0 shc_7 2 rfl (by decide) rfl rfl w_173 dX0_number_51 ?_
        intro S6_ _
        refine r_iinc g dX0_number_54 (by decide) rfl ?_
        intro x3_7_
        change Rg _ _ _ _ _ _ _ [some (vr G 7), some (vi x1), some (vi x2_5_), some (vi x3_7_)] _ _
        refine r_goto g 4 dX0_number_57 (by decide) ?_
        exact hk4 _ _ _
theorem tX0_number_4 {G : Gx} {x1 : Int} (g : Ok G cX0_number RX0 4 { frames := 2, cells := 0, slots := 0, locals := 41 } (some .int))   : ∀ (n_ : Nat) (S : St) (x2 : Int) (x3 : Int), Rg G oIS (fun v => v.2) (SHC, 0, 0) (SHC, 0, 0) S 4 [some (vr G 7), some (vi x1), some (vi x2), some (vi x3)] [] (lo3 (pX0_number_4B x1) n_ S x2 x3) := by
  intro n_
  induction n_ with
  | zero => intro S x2 x3; exact r_none
  | succ n_ ih => intro S x2 x3; exact tX0_number_4B g   ih
theorem kX0_number (S : St) (x1 : Int)  : Con yX0_number cX0_number 4 (some .int) { frames := 2, cells := 0, slots := 0, locals := 41 } false SHC (SHC, 0, 0) (fun b => [.ref (b + 7), vi x1]) S (fun _ => oIS) (fun v => v.2) (pX0_number S x1) := by
  refine Con_of (fun b => [some (.ref (b + 7)), some (vi x1), none, none]) (by decide) (fun _ => rfl) (fun _ => Nat.le_of_ble_eq_true rfl) ?_
  intro G g _ _ _
  change Ok G cX0_number RX0 4 { frames := 2, cells := 0, slots := 0, locals := 41 } (some .int) at g
  show Rg G oIS (fun v => v.2) (SHC, 0, 0) (SHC, 0, 0) S 0 [some (vr G 7), some (vi x1), none, none] [] (pX0_number S x1)
  unfold pX0_number
  refine r_iconst g dX0_number_0 ?_
  refine r_istore_n g 2 dX0_number_1 rfl (by decide) rfl ?_
  refine r_iconst g dX0_number_2 ?_
  refine r_istore_n g 3 dX0_number_3 rfl (by decide) rfl ?_
  exact tX0_number_4 g _ _ _ _
theorem tX0_readCold_39 {G : Gx}  {S : St} {x1 : Int} (g : Ok G cX0_readCold RX0 3 { frames := 3, cells := 0, slots := 0, locals := 64 } (some .boolean))   : Rg G oIS (fun v => v.2) (SHC, 0, 0) (SHC, 0, 0) S 39 [some (vr G 7), some (vi x1), none] [] (pX0_readCold_39 S x1) := by
  unfold pX0_readCold_39
  refine r_aload_n g dX0_readCold_39 rfl ?_
  refine r_iconst g dX0_readCold_40 ?_
  refine r_callV_WI (q := 7) (as := fun b => [vi 2]) g (kX0_number S 2) mX0_number shc_7 rfl w_409 w_411 w_4 (by decide) (fun _ => rfl) rfl (Nat.le_of_ble_eq_true rfl) dX0_readCold_41 ?_
  intro z3_ S4_
  refine r_istore_n g 2 dX0_readCold_44 rfl (by decide) rfl ?_
  refine r_iload_n g dX0_readCold_45 rfl ?_
  refine r_if_ge g 51 dX0_readCold_46 (by decide) ?_ ?_
  · refine r_aload_n g dX0_readCold_51 rfl ?_
    refine r_getC (c0 := 8) g KX0 shc_7 0 rfl (by decide) w_170 dX0_readCold_52 ?_
    refine r_iload_n g dX0_readCold_55 rfl ?_
    refine r_if_eq g 64 dX0_readCold_56 (by decide) ?_ ?_
    · refine r_iload_n g dX0_readCold_64 rfl ?_
      refine r_putI g KX3 shc_8 4 rfl (by decide) rfl rfl w_124 dX0_readCold_65 ?_
      intro S5_ _
      refine r_iconst g dX0_readCold_68 ?_
      exact r_zret0 g (by decide) dX0_readCold_69 rfl rfl
    · refine r_iload_n g dX0_readCold_59 rfl ?_
      refine r_ineg g dX0_readCold_60 ?_
      refine r_goto g 65 dX0_readCold_61 (by decide) ?_
      refine r_putI g KX3 shc_8 4 rfl (by decide) rfl rfl w_124 dX0_readCold_65 ?_
      intro S6_ _
      refine r_iconst g dX0_readCold_68 ?_
      exact r_zret0 g (by decide) dX0_readCold_69 rfl rfl
  · refine r_iconst g dX0_readCold_49 ?_
    exact r_zret0 g (by decide) dX0_readCold_50 rfl rfl
theorem tX0_readCold_24 {G : Gx}  {S : St} {s0 : Int} (g : Ok G cX0_readCold RX0 3 { frames := 3, cells := 0, slots := 0, locals := 64 } (some .boolean))   : Rg G oIS (fun v => v.2) (SHC, 0, 0) (SHC, 0, 0) S 24 [some (vr G 7), none, none] [vi s0] (pX0_readCold_24 S s0) := by
  unfold pX0_readCold_24
  refine r_istore_n g 1 dX0_readCold_24 rfl (by decide) rfl ?_
  refine r_iload_n g dX0_readCold_25 rfl ?_
  refine r_if_eq g 39 dX0_readCold_26 (by decide) ?_ ?_
  · exact tX0_readCold_39 g
  · refine r_aload_n g dX0_readCold_29 rfl ?_
    refine r_dup g dX0_readCold_30 rfl ?_
    refine r_getI g KX0 shc_7 2 rfl (by decide) w_173 dX0_readCold_31 ?_
    refine r_iconst g dX0_readCold_34 ?_
    refine r_iadd g dX0_readCold_35 ?_
    refine r_putI g KX0 shc_7 2 rfl (by decide) rfl rfl w_173 dX0_readCold_36 ?_
    intro S7_ _
    exact tX0_readCold_39 g
theorem kX0_readCold (S : St)  : Con yX0_readCold cX0_readCold 3 (some .boolean) { frames := 3, cells := 0, slots := 0, locals := 64 } false SHC (SHC, 0, 0) (fun b => [.ref (b + 7)]) S (fun _ => oIS) (fun v => v.2) (pX0_readCold S) := by
  refine Con_of (fun b => [some (.ref (b + 7)), none, none]) (by decide) (fun _ => rfl) (fun _ => Nat.le_of_ble_eq_true rfl) ?_
  intro G g _ _ _
  change Ok G cX0_readCold RX0 3 { frames := 3, cells := 0, slots := 0, locals := 64 } (some .boolean) at g
  show Rg G oIS (fun v => v.2) (SHC, 0, 0) (SHC, 0, 0) S 0 [some (vr G 7), none, none] [] (pX0_readCold S)
  unfold pX0_readCold
  refine r_aload_n g dX0_readCold_0 rfl ?_
  refine r_dup g dX0_readCold_1 rfl ?_
  refine r_getI g KX0 shc_7 2 rfl (by decide) w_173 dX0_readCold_2 ?_
  refine r_iconst g dX0_readCold_5 ?_
  refine r_iadd g dX0_readCold_6 ?_
  refine r_putI g KX0 shc_7 2 rfl (by decide) rfl rfl w_173 dX0_readCold_7 ?_
  intro S1_ _
  refine r_aload_n g dX0_readCold_10 rfl ?_
  refine r_callV_PI (q := 7) (as := fun b => []) g (kX0_here S1_) mX0_here shc_7 rfl w_392 w_394 w_1 (by decide) (fun _ => rfl) rfl (Nat.le_of_ble_eq_true rfl) dX0_readCold_11 ?_
  intro z2_
  refine r_bipush g dX0_readCold_14 (by decide) ?_
  refine r_icmp_ne g 23 dX0_readCold_16 (by decide) ?_ ?_
  · refine r_iconst g dX0_readCold_23 ?_
    exact tX0_readCold_24 g
  · refine r_iconst g dX0_readCold_19 ?_
    refine r_goto g 24 dX0_readCold_20 (by decide) ?_
    exact tX0_readCold_24 g
theorem kX0_readPlain (S : St) (x1 : Int)  : Con yX0_readPlain cX0_readPlain 3 (some .boolean) { frames := 3, cells := 0, slots := 0, locals := 64 } false SHC (SHC, 0, 0) (fun b => [.ref (b + 7), vi x1]) S (fun _ => oIS) (fun v => v.2) (pX0_readPlain S x1) := by
  refine Con_of (fun b => [some (.ref (b + 7)), some (vi x1), none]) (by decide) (fun _ => rfl) (fun _ => Nat.le_of_ble_eq_true rfl) ?_
  intro G g _ _ _
  change Ok G cX0_readPlain RX0 3 { frames := 3, cells := 0, slots := 0, locals := 64 } (some .boolean) at g
  show Rg G oIS (fun v => v.2) (SHC, 0, 0) (SHC, 0, 0) S 0 [some (vr G 7), some (vi x1), none] [] (pX0_readPlain S x1)
  unfold pX0_readPlain
  refine r_aload_n g dX0_readPlain_0 rfl ?_
  refine r_dup g dX0_readPlain_1 rfl ?_
  refine r_getI g KX0 shc_7 2 rfl (by decide) w_173 dX0_readPlain_2 ?_
  refine r_iconst g dX0_readPlain_5 ?_
  refine r_iadd g dX0_readPlain_6 ?_
  refine r_putI g KX0 shc_7 2 rfl (by decide) rfl rfl w_173 dX0_readPlain_7 ?_
  intro S1_ _
  refine r_aload_n g dX0_readPlain_10 rfl ?_
  refine r_iconst g dX0_readPlain_11 ?_
  refine r_callV_WI (q := 7) (as := fun b => [vi 2]) g (kX0_number S1_ 2) mX0_number shc_7 rfl w_409 w_411 w_4 (by decide) (fun _ => rfl) rfl (Nat.le_of_ble_eq_true rfl) dX0_readPlain_12 ?_
  intro z2_ S3_
  refine r_istore_n g 2 dX0_readPlain_15 rfl (by decide) rfl ?_
  refine r_iload_n g dX0_readPlain_16 rfl ?_
  refine r_if_ge g 22 dX0_readPlain_17 (by decide) ?_ ?_
  · refine r_iload_n g dX0_readPlain_22 rfl ?_
    refine r_bipush g dX0_readPlain_23 (by decide) ?_
    refine r_icmp_ne g 39 dX0_readPlain_25 (by decide) ?_ ?_
    · refine r_iload_n g dX0_readPlain_39 rfl ?_
      refine r_bipush g dX0_readPlain_40 (by decide) ?_
      refine r_icmp_ne g 56 dX0_readPlain_42 (by decide) ?_ ?_
      · refine r_aload_n g dX0_readPlain_56 rfl ?_
        refine r_getC (c0 := 8) g KX0 shc_7 0 rfl (by decide) w_170 dX0_readPlain_57 ?_
        refine r_iload_n g dX0_readPlain_60 rfl ?_
        refine r_putI g KX3 shc_8 6 rfl (by decide) rfl rfl w_130 dX0_readPlain_61 ?_
        intro S4_ _
        refine r_iconst g dX0_readPlain_64 ?_
        exact r_zret0 g (by decide) dX0_readPlain_65 rfl rfl
      · refine r_aload_n g dX0_readPlain_45 rfl ?_
        refine r_getC (c0 := 8) g KX0 shc_7 0 rfl (by decide) w_170 dX0_readPlain_46 ?_
        refine r_iload_n g dX0_readPlain_49 rfl ?_
        refine r_putI g KX3 shc_8 5 rfl (by decide) rfl rfl w_127 dX0_readPlain_50 ?_
        intro S5_ _
        refine r_goto g 64 dX0_readPlain_53 (by decide) ?_
        refine r_iconst g dX0_readPlain_64 ?_
        exact r_zret0 g (by decide) dX0_readPlain_65 rfl rfl
    · refine r_aload_n g dX0_readPlain_28 rfl ?_
      refine r_getC (c0 := 8) g KX0 shc_7 0 rfl (by decide) w_170 dX0_readPlain_29 ?_
      refine r_iload_n g dX0_readPlain_32 rfl ?_
      refine r_putI g KX3 shc_8 3 rfl (by decide) rfl rfl w_121 dX0_readPlain_33 ?_
      intro S6_ _
      refine r_goto g 64 dX0_readPlain_36 (by decide) ?_
      refine r_iconst g dX0_readPlain_64 ?_
      exact r_zret0 g (by decide) dX0_readPlain_65 rfl rfl
  · refine r_iconst g dX0_readPlain_20 ?_
    exact r_zret0 g (by decide) dX0_readPlain_21 rfl rfl
theorem kX3_isFull (S : St) (q0 : Nat) (hq0 : isStf q0 = true) : Con yX3_isFull cX3_isFull 1 (some .boolean) { frames := 0, cells := 0, slots := 0, locals := 0 } false SHC (SHC, 0, 0) (fun b => [.ref (b + q0)]) S (fun _ => oI) (fun _ => S) (pX3_isFull S q0) := by
  refine Con_of (fun b => [some (.ref (b + q0))]) (by decide) (fun _ => rfl) (fun _ => Nat.le_of_ble_eq_true rfl) ?_
  intro G g _ _ _
  change Ok G cX3_isFull RX3 1 { frames := 0, cells := 0, slots := 0, locals := 0 } (some .boolean) at g
  show Rg G oI (fun _ => S) (SHC, 0, 0) (SHC, 0, 0) S 0 [some (vr G q0)] [] (pX3_isFull S q0)
  unfold pX3_isFull
  refine r_aload_n g dX3_isFull_0 rfl ?_
  refine r_getI g KX3 (shStf hq0) 2 rfl (by decide) w_117 dX3_isFull_1 ?_
  refine r_iconst g dX3_isFull_4 ?_
  refine r_icmp_lt g 12 dX3_isFull_5 (by decide) ?_ ?_
  · refine r_iconst g dX3_isFull_12 ?_
    exact r_zret0 g (by decide) dX3_isFull_13 rfl rfl
  · refine r_iconst g dX3_isFull_8 ?_
    refine r_goto g 13 dX3_isFull_9 (by decide) ?_
    exact r_zret0 g (by decide) dX3_isFull_13 rfl rfl
theorem kX3_add (S : St) (q0 : Nat) (x1 : Int) (x2 : Int) (hq0 : isStf q0 = true) : Con yX3_add cX3_add 3 none { frames := 1, cells := 0, slots := 0, locals := 20 } false SHC (SHC, 0, 0) (fun b => [.ref (b + q0), vi x1, vi x2]) S (fun _ => oVS) id (pX3_add S q0 x1 x2) := by
  refine Con_of (fun b => [some (.ref (b + q0)), some (vi x1), some (vi x2)]) (by decide) (fun _ => rfl) (fun _ => Nat.le_of_ble_eq_true rfl) ?_
  intro G g _ _ _
  change Ok G cX3_add RX3 3 { frames := 1, cells := 0, slots := 0, locals := 20 } none at g
  show Rg G oVS id (SHC, 0, 0) (SHC, 0, 0) S 0 [some (vr G q0), some (vi x1), some (vi x2)] [] (pX3_add S q0 x1 x2)
  unfold pX3_add
  refine r_aload_n g dX3_add_0 rfl ?_
  refine r_callV_PI (q := q0) (as := fun b => []) g (kX3_isFull S q0 hq0) mX3_isFull (shStf hq0) rfl w_418 w_406 w_407 (by decide) (fun _ => rfl) rfl (Nat.le_of_ble_eq_true rfl) dX3_add_1 ?_
  intro z1_
  refine r_if_eq g 8 dX3_add_4 (by decide) ?_ ?_
  · refine r_aload_n g dX3_add_8 rfl ?_
    refine r_dup g dX3_add_9 rfl ?_
    refine r_getI g KX3 (shStf hq0) 2 rfl (by decide) w_117 dX3_add_10 ?_
    refine r_iconst g dX3_add_13 ?_
    refine r_iadd g dX3_add_14 ?_
    refine r_putI g KX3 (shStf hq0) 2 rfl (by decide) rfl rfl w_117 dX3_add_15 ?_
    intro S2_ _
    refine r_aload_n g dX3_add_18 rfl ?_
    refine r_getC (c0 := q0 + 1) g KX3 (shStf hq0) 0 rfl (by decide) w_111 dX3_add_19 ?_
    refine r_aload_n g dX3_add_22 rfl ?_
    refine r_getI g KX3 (shStf hq0) 2 rfl (by decide) w_117 dX3_add_23 ?_
    refine r_iload_n g dX3_add_26 rfl ?_
    refine r_iast g (shStfX hq0) (by decide) dX3_add_27 ?_
    intro S3_
    refine r_aload_n g dX3_add_28 rfl ?_
    refine r_getC (c0 := q0 + 2) g KX3 (shStf hq0) 1 rfl (by decide) w_114 dX3_add_29 ?_
    refine r_aload_n g dX3_add_32 rfl ?_
    refine r_getI g KX3 (shStf hq0) 2 rfl (by decide) w_117 dX3_add_33 ?_
    refine r_iload_n g dX3_add_36 rfl ?_
    refine r_iast g (shStfY hq0) (by decide) dX3_add_37 ?_
    intro S4_
    exact r_vret g dX3_add_38 rfl rfl
  · exact r_vret g dX3_add_7 rfl rfl
theorem kX0_readPair (S : St)  : Con yX0_readPair cX0_readPair 3 (some .boolean) { frames := 3, cells := 0, slots := 0, locals := 64 } false SHC (SHC, 0, 0) (fun b => [.ref (b + 7)]) S (fun _ => oIS) (fun v => v.2) (pX0_readPair S) := by
  refine Con_of (fun b => [some (.ref (b + 7)), none, none]) (by decide) (fun _ => rfl) (fun _ => Nat.le_of_ble_eq_true rfl) ?_
  intro G g _ _ _
  change Ok G cX0_readPair RX0 3 { frames := 3, cells := 0, slots := 0, locals := 64 } (some .boolean) at g
  show Rg G oIS (fun v => v.2) (SHC, 0, 0) (SHC, 0, 0) S 0 [some (vr G 7), none, none] [] (pX0_readPair S)
  unfold pX0_readPair
  refine r_aload_n g dX0_readPair_0 rfl ?_
  refine r_getC (c0 := 8) g KX0 shc_7 0 rfl (by decide) w_170 dX0_readPair_1 ?_
  refine r_callV_PI (q := 8) (as := fun b => []) g (kX3_isFull S 8 (by decide)) mX3_isFull shc_8 rfl w_405 w_406 w_407 (by decide) (fun _ => rfl) rfl (Nat.le_of_ble_eq_true rfl) dX0_readPair_4 ?_
  intro z1_
  refine r_if_eq g 12 dX0_readPair_7 (by decide) ?_ ?_
  · refine r_aload_n g dX0_readPair_12 rfl ?_
    refine r_dup g dX0_readPair_13 rfl ?_
    refine r_getI g KX0 shc_7 2 rfl (by decide) w_173 dX0_readPair_14 ?_
    refine r_iconst g dX0_readPair_17 ?_
    refine r_iadd g dX0_readPair_18 ?_
    refine r_putI g KX0 shc_7 2 rfl (by decide) rfl rfl w_173 dX0_readPair_19 ?_
    intro S2_ _
    refine r_aload_n g dX0_readPair_22 rfl ?_
    refine r_iconst g dX0_readPair_23 ?_
    refine r_callV_WI (q := 7) (as := fun b => [vi 2]) g (kX0_number S2_ 2) mX0_number shc_7 rfl w_409 w_411 w_4 (by decide) (fun _ => rfl) rfl (Nat.le_of_ble_eq_true rfl) dX0_readPair_24 ?_
    intro z3_ S4_
    refine r_istore_n g 1 dX0_readPair_27 rfl (by decide) rfl ?_
    refine r_iload_n g dX0_readPair_28 rfl ?_
    refine r_bipush g dX0_readPair_29 (by decide) ?_
    refine r_icmp_gt g 53 dX0_readPair_31 (by decide) ?_ ?_
    · refine r_iconst g dX0_readPair_53 ?_
      exact r_zret0 g (by decide) dX0_readPair_54 rfl rfl
    · refine r_iload_n g dX0_readPair_34 rfl ?_
      refine r_aload_n g dX0_readPair_35 rfl ?_
      refine r_getC (c0 := 8) g KX0 shc_7 0 rfl (by decide) w_170 dX0_readPair_36 ?_
      refine r_getC (c0 := 9) g KX3 shc_8 0 rfl (by decide) w_112 dX0_readPair_39 ?_
      refine r_aload_n g dX0_readPair_42 rfl ?_
      refine r_getC (c0 := 8) g KX0 shc_7 0 rfl (by decide) w_170 dX0_readPair_43 ?_
      refine r_getI g KX3 shc_8 2 rfl (by decide) w_118 dX0_readPair_46 ?_
      refine r_iald g shc_9 (by decide) dX0_readPair_49 ?_
      intro z5_
      refine r_icmp_gt g 55 dX0_readPair_50 (by decide) ?_ ?_
      · refine r_aload_n g dX0_readPair_55 rfl ?_
        refine r_callV_PI (q := 7) (as := fun b => []) g (kX0_here S4_) mX0_here shc_7 rfl w_392 w_394 w_1 (by decide) (fun _ => rfl) rfl (Nat.le_of_ble_eq_true rfl) dX0_readPair_56 ?_
        intro z6_
        refine r_bipush g dX0_readPair_59 (by decide) ?_
        refine r_icmp_eq g 66 dX0_readPair_61 (by decide) ?_ ?_
        · refine r_aload_n g dX0_readPair_66 rfl ?_
          refine r_dup g dX0_readPair_67 rfl ?_
          refine r_getI g KX0 shc_7 2 rfl (by decide) w_173 dX0_readPair_68 ?_
          refine r_iconst g dX0_readPair_71 ?_
          refine r_iadd g dX0_readPair_72 ?_
          refine r_putI g KX0 shc_7 2 rfl (by decide) rfl rfl w_173 dX0_readPair_73 ?_
          intro S7_ _
          refine r_aload_n g dX0_readPair_76 rfl ?_
          refine r_iconst g dX0_readPair_77 ?_
          refine r_callV_WI (q := 7) (as := fun b => [vi 3]) g (kX0_number S7_ 3) mX0_number shc_7 rfl w_409 w_411 w_4 (by decide) (fun _ => rfl) rfl (Nat.le_of_ble_eq_true rfl) dX0_readPair_78 ?_
          intro z8_ S9_
          refine r_istore_n g 2 dX0_readPair_81 rfl (by decide) rfl ?_
          refine r_iload_n g dX0_readPair_82 rfl ?_
          refine r_aload_n g dX0_readPair_83 rfl ?_
          refine r_getC (c0 := 8) g KX0 shc_7 0 rfl (by decide) w_170 dX0_readPair_84 ?_
          refine r_getC (c0 := 10) g KX3 shc_8 1 rfl (by decide) w_115 dX0_readPair_87 ?_
          refine r_aload_n g dX0_readPair_90 rfl ?_
          refine r_getC (c0 := 8) g KX0 shc_7 0 rfl (by decide) w_170 dX0_readPair_91 ?_
          refine r_getI g KX3 shc_8 2 rfl (by decide) w_118 dX0_readPair_94 ?_
          refine r_iald g shc_10 (by decide) dX0_readPair_97 ?_
          intro z10_
          refine r_icmp_gt g 103 dX0_readPair_98 (by decide) ?_ ?_
          · refine r_aload_n g dX0_readPair_103 rfl ?_
            refine r_getC (c0 := 8) g KX0 shc_7 0 rfl (by decide) w_170 dX0_readPair_104 ?_
            refine r_iload_n g dX0_readPair_107 rfl ?_
            refine r_iload_n g dX0_readPair_108 rfl ?_
            refine r_callV_WV (q := 8) (as := fun b => [vi z3_, vi z8_]) g (kX3_add S9_ 8 z3_ z8_ (by decide)) mX3_add shc_8 rfl w_414 w_415 w_416 (by decide) (fun _ => rfl) rfl (Nat.le_of_ble_eq_true rfl) dX0_readPair_109 ?_
            intro S11_
            refine r_iconst g dX0_readPair_112 ?_
            exact r_zret0 g (by decide) dX0_readPair_113 rfl rfl
          · refine r_iconst g dX0_readPair_101 ?_
            exact r_zret0 g (by decide) dX0_readPair_102 rfl rfl
        · refine r_iconst g dX0_readPair_64 ?_
          exact r_zret0 g (by decide) dX0_readPair_65 rfl rfl
      · refine r_iconst g dX0_readPair_53 ?_
        exact r_zret0 g (by decide) dX0_readPair_54 rfl rfl
  · refine r_iconst g dX0_readPair_10 ?_
    exact r_zret0 g (by decide) dX0_readPair_11 rfl rfl
theorem kX0_readItem (S : St) (x1 : Int)  : Con yX0_readItem cX0_readItem 2 (some .boolean) { frames := 4, cells := 0, slots := 0, locals := 86 } false SHC (SHC, 0, 0) (fun b => [.ref (b + 7), vi x1]) S (fun _ => oIS) (fun v => v.2) (pX0_readItem S x1) := by
  refine Con_of (fun b => [some (.ref (b + 7)), some (vi x1)]) (by decide) (fun _ => rfl) (fun _ => Nat.le_of_ble_eq_true rfl) ?_
  intro G g _ _ _
  change Ok G cX0_readItem RX0 2 { frames := 4, cells := 0, slots := 0, locals := 86 } (some .boolean) at g
  show Rg G oIS (fun v => v.2) (SHC, 0, 0) (SHC, 0, 0) S 0 [some (vr G 7), some (vi x1)] [] (pX0_readItem S x1)
  unfold pX0_readItem
  refine r_iload_n g dX0_readItem_0 rfl ?_
  refine r_split ?_ ?_
  · intro hi0 he0
    refine r_look (off := 56) g 57 hi0 dX0_readItem_1 (by decide) (by rw [he0]; rfl) (by decide) ?_
    refine r_aload_n g dX0_readItem_57 rfl ?_
    refine r_callV_WI (q := 7) (as := fun b => []) g (kX0_readCold S) mX0_readCold shc_7 rfl w_419 w_421 w_5 (by decide) (fun _ => rfl) rfl (Nat.le_of_ble_eq_true rfl) dX0_readItem_58 ?_
    intro z1_ S2_
    exact r_zret g dX0_readItem_61 rfl rfl
  · intro hi0 he0
    refine r_split ?_ ?_
    · intro hi1 he1
      refine r_look (off := 61) g 62 hi1 dX0_readItem_1 (by decide) (by rw [he1]; rfl) (by decide) ?_
      refine r_aload_n g dX0_readItem_62 rfl ?_
      refine r_iload_n g dX0_readItem_63 rfl ?_
      refine r_callV_WI (q := 7) (as := fun b => [vi x1]) g (kX0_readPlain S x1) mX0_readPlain shc_7 rfl w_423 w_425 w_6 (by decide) (fun _ => rfl) rfl (Nat.le_of_ble_eq_true rfl) dX0_readItem_64 ?_
      intro z3_ S4_
      exact r_zret g dX0_readItem_67 rfl rfl
    · intro hi1 he1
      refine r_split ?_ ?_
      · intro hi2 he2
        refine r_look (off := 51) g 52 hi2 dX0_readItem_1 (by decide) (by rw [he2]; rfl) (by decide) ?_
        refine r_aload_n g dX0_readItem_52 rfl ?_
        refine r_callV_WI (q := 7) (as := fun b => []) g (kX0_readPair S) mX0_readPair shc_7 rfl w_401 w_403 w_3 (by decide) (fun _ => rfl) rfl (Nat.le_of_ble_eq_true rfl) dX0_readItem_53 ?_
        intro z5_ S6_
        exact r_zret g dX0_readItem_56 rfl rfl
      · intro hi2 he2
        refine r_split ?_ ?_
        · intro hi3 he3
          refine r_look (off := 61) g 62 hi3 dX0_readItem_1 (by decide) (by rw [he3]; rfl) (by decide) ?_
          refine r_aload_n g dX0_readItem_62 rfl ?_
          refine r_iload_n g dX0_readItem_63 rfl ?_
          refine r_callV_WI (q := 7) (as := fun b => [vi x1]) g (kX0_readPlain S x1) mX0_readPlain shc_7 rfl w_423 w_425 w_6 (by decide) (fun _ => rfl) rfl (Nat.le_of_ble_eq_true rfl) dX0_readItem_64 ?_
          intro z7_ S8_
          exact r_zret g dX0_readItem_67 rfl rfl
        · intro hi3 he3
          refine r_split ?_ ?_
          · intro hi4 he4
            refine r_look (off := 61) g 62 hi4 dX0_readItem_1 (by decide) (by rw [he4]; rfl) (by decide) ?_
            refine r_aload_n g dX0_readItem_62 rfl ?_
            refine r_iload_n g dX0_readItem_63 rfl ?_
            refine r_callV_WI (q := 7) (as := fun b => [vi x1]) g (kX0_readPlain S x1) mX0_readPlain shc_7 rfl w_423 w_425 w_6 (by decide) (fun _ => rfl) rfl (Nat.le_of_ble_eq_true rfl) dX0_readItem_64 ?_
            intro z9_ S10_
            exact r_zret g dX0_readItem_67 rfl rfl
          · intro hi4 he4
            refine r_look (off := 67) g 68 hi0 dX0_readItem_1 (by decide) (by simp [Op.lookupswitch.offset_cons, Op.lookupswitch.offset, Ne.symm he0, Ne.symm he1, Ne.symm he2, Ne.symm he3, Ne.symm he4]) (by decide) ?_
            refine r_iconst g dX0_readItem_68 ?_
            exact r_zret0 g (by decide) dX0_readItem_69 rfl rfl
theorem tX0_read_83 {G : Gx}  {S : St}  (g : Ok G cX0_read RX0 3 { frames := 5, cells := 0, slots := 0, locals := 107 } (some .int))   : Rg G oIS (fun v => v.2) (SHC, 0, 0) (SHC, 0, 0) S 83 [some (vr G 7), none, none] [] (pX0_read_83 S) := by
  unfold pX0_read_83
  refine r_aload_n g dX0_read_83 rfl ?_
  refine r_getC (c0 := 8) g KX0 shc_7 0 rfl (by decide) w_170 dX0_read_84 ?_
  refine r_callV_PI (q := 8) (as := fun b => []) g (kX3_isMissing S 8 (by decide)) mX3_isMissing shc_8 rfl w_427 w_428 w_429 (by decide) (fun _ => rfl) rfl (Nat.le_of_ble_eq_true rfl) dX0_read_87 ?_
  intro z4_
  refine r_if_eq g 103 dX0_read_90 (by decide) ?_ ?_
  · refine r_bipush g dX0_read_103 (by decide) ?_
    exact r_iret g dX0_read_105 rfl rfl
  · refine r_aload_n g dX0_read_93 rfl ?_
    refine r_getR (P := isRow) g KX0 shc_7 1 rfl (by decide) w_172 dX0_read_94 ?_
    intro q5_ hq5_
    refine r_getI g KX1 (shRow hq5_) 1 rfl (by decide) w_162 dX0_read_97 ?_
    refine r_goto g 105 dX0_read_100 (by decide) ?_
    exact r_iret g dX0_read_105 rfl rfl
theorem tX0_read_77 {G : Gx} {k19 : St → Int → Option (Int × St)} {S : St} {x2 : Int} (g : Ok G cX0_read RX0 3 { frames := 5, cells := 0, slots := 0, locals := 107 } (some .int)) (hk19 : ∀ (S' : St) (x2' : Int), Rg G oIS (fun v => v.2) (SHC, 0, 0) (SHC, 0, 0) S' 19 [some (vr G 7), none, some (vi (x2'))] [] (k19 S' x2'))  : Rg G oIS (fun v => v.2) (SHC, 0, 0) (SHC, 0, 0) S 77 [some (vr G 7), none, some (vi x2)] [] (pX0_read_77 k19 S x2) := by
  unfold pX0_read_77
  refine r_iinc g dX0_read_77 (by decide) rfl ?_
  intro x2_11_
  change Rg _ _ _ _ _ _ _ [some (vr G 7), none, some (vi x2_11_)] _ _
  refine r_goto g 19 dX0_read_80 (by decide) ?_
  exact hk19 _ _
theorem tX0_read_19B {G : Gx}  (g : Ok G cX0_read RX0 3 { frames := 5, cells := 0, slots := 0, locals := 107 } (some .int))   {k19 : St → Int → Option (Int × St)} (hk19 : ∀ (S' : St) (x2' : Int), Rg G oIS (fun v => v.2) (SHC, 0, 0) (SHC, 0, 0) S' 19 [some (vr G 7), none, some (vi (x2'))] [] (k19 S' x2')) {S : St} {x2 : Int} : Rg G oIS (fun v => v.2) (SHC, 0, 0) (SHC, 0, 0) S 19 [some (vr G 7), none, some (vi x2)] [] (pX0_read_19B k19 S x2) := by
  unfold pX0_read_19B
  refine r_iload_n g dX0_read_19 rfl ?_
  refine r_bipush g dX0_read_20 (by decide) ?_
  refine r_icmp_gt g 83 dX0_read_22 (by decide) ?_ ?_
  · refine r_msk [true, false, false] rfl ?_
    exact tX0_read_83 g
  · refine r_aload_n g dX0_read_25 rfl ?_
    refine r_getI g KX0 shc_7 2 rfl (by decide) w_173 dX0_read_26 ?_
    refine r_aload_n g dX0_read_29 rfl ?_
    refine r_getR (P := isRow) g KX0 shc_7 1 rfl (by decide) w_172 dX0_read_30 ?_
    intro q6_ hq6_
    refine r_getI g KX1 (shRow hq6_) 1 rfl (by decide) w_162 dX0_read_33 ?_
    refine r_icmp_ge g 83 dX0_read_36 (by decide) ?_ ?_
    · refine r_msk [true, false, false] rfl ?_
      exact tX0_read_83 g
    · refine r_aload_n g dX0_read_39 rfl ?_
      refine r_callV_PI (q := 7) (as := fun b => []) g (kX0_here S) mX0_here shc_7 rfl w_392 w_394 w_1 (by decide) (fun _ => rfl) rfl (Nat.le_of_ble_eq_true rfl) dX0_read_40 ?_
      intro z7_
      refine r_bipush g dX0_read_43 (by decide) ?_
      refine r_icmp_ne g 61 dX0_read_45 (by decide) ?_ ?_
      · refine r_aload_n g dX0_read_61 rfl ?_
        refine r_aload_n g dX0_read_62 rfl ?_
        refine r_callV_PI (q := 7) (as := fun b => []) g (kX0_here S) mX0_here shc_7 rfl w_392 w_394 w_1 (by decide) (fun _ => rfl) rfl (Nat.le_of_ble_eq_true rfl) dX0_read_63 ?_
        intro z8_
        refine r_callV_WI (q := 7) (as := fun b => [vi z8_]) g (kX0_readItem S z8_) mX0_readItem shc_7 rfl w_397 w_399 w_2 (by decide) (fun _ => rfl) rfl (Nat.le_of_ble_eq_true rfl) dX0_read_66 ?_
        intro z9_ S10_
        refine r_if_ne g 77 dX0_read_69 (by decide) ?_ ?_
        · exact tX0_read_77 g hk19
        · refine r_aload_n g dX0_read_72 rfl ?_
          refine r_getI g KX0 shc_7 2 rfl (by decide) w_173 dX0_read_73 ?_
          exact r_iret g dX0_read_76 rfl rfl
      · refine r_aload_n g dX0_read_48 rfl ?_
        refine r_dup g dX0_read_49 rfl ?_
        refine r_getI g KX0 shc_7 2 rfl (by decide) w_173 dX0_read_50 ?_
        refine r_iconst g dX0_read_53 ?_
        refine r_iadd g dX0_read_54 ?_
        refine r_putI g KX0 shc_7 2 rfl (by decide) rfl rfl w_173 dX0_read_55 ?_
        intro S12_ _
        refine r_goto g 77 dX0_read_58 (by decide) ?_
        exact tX0_read_77 g hk19
theorem tX0_read_19 {G : Gx}  (g : Ok G cX0_read RX0 3 { frames := 5, cells := 0, slots := 0, locals := 107 } (some .int))   : ∀ (n_ : Nat) (S : St) (x2 : Int), Rg G oIS (fun v => v.2) (SHC, 0, 0) (SHC, 0, 0) S 19 [some (vr G 7), none, some (vi x2)] [] (lo2 (pX0_read_19B) n_ S x2) := by
  intro n_
  induction n_ with
  | zero => intro S x2; exact r_none
  | succ n_ ih => intro S x2; exact tX0_read_19B g   ih
theorem kX0_read (S : St) (q1 : Nat) (hq1 : isRow q1 = true) : Con yX0_read cX0_read 3 (some .int) { frames := 5, cells := 0, slots := 0, locals := 107 } false SHC (SHC, 0, 0) (fun b => [.ref (b + 7), .ref (b + q1)]) S (fun _ => oIS) (fun v => v.2) (pX0_read S q1) := by
  refine Con_of (fun b => [some (.ref (b + 7)), some (.ref (b + q1)), none]) (by decide) (fun _ => rfl) (fun _ => Nat.le_of_ble_eq_true rfl) ?_
  intro G g _ _ _
  change Ok G cX0_read RX0 3 { frames := 5, cells := 0, slots := 0, locals := 107 } (some .int) at g
  show Rg G oIS (fun v => v.2) (SHC, 0, 0) (SHC, 0, 0) S 0 [some (vr G 7), some (vr G q1), none] [] (pX0_read S q1)
  unfold pX0_read
  refine r_aload_n g dX0_read_0 rfl ?_
  refine r_getC (c0 := 8) g KX0 shc_7 0 rfl (by decide) w_170 dX0_read_1 ?_
  refine r_callV_WV (q := 8) (as := fun b => []) g (kX3_clear S 8 (by decide)) mX3_clear shc_8 rfl w_388 w_389 w_390 (by decide) (fun _ => rfl) rfl (Nat.le_of_ble_eq_true rfl) dX0_read_4 ?_
  intro S1_
  refine r_aload_n g dX0_read_7 rfl ?_
  refine r_aload_n g dX0_read_8 rfl ?_
  refine r_putR g KX0 shc_7 1 rfl (by decide) rfl rfl w_172 dX0_read_9 ?_
  intro S2_ _
  refine r_aload_n g dX0_read_12 rfl ?_
  refine r_iconst g dX0_read_13 ?_
  refine r_putI g KX0 shc_7 2 rfl (by decide) rfl rfl w_173 dX0_read_14 ?_
  intro S3_ _
  refine r_iconst g dX0_read_17 ?_
  refine r_istore_n g 2 dX0_read_18 rfl (by decide) rfl ?_
  refine r_msk [true, false, true] rfl ?_
  exact tX0_read_19 g _ _ _
theorem kX1_isMissing (S : St) (q0 : Nat) (hq0 : isRow q0 = true) : Con yX1_isMissing cX1_isMissing 1 (some .boolean) { frames := 0, cells := 0, slots := 0, locals := 0 } false SHC (SHC, 0, 0) (fun b => [.ref (b + q0)]) S (fun _ => oI) (fun _ => S) (pX1_isMissing S q0) := by
  refine Con_of (fun b => [some (.ref (b + q0))]) (by decide) (fun _ => rfl) (fun _ => Nat.le_of_ble_eq_true rfl) ?_
  intro G g _ _ _
  change Ok G cX1_isMissing RX1 1 { frames := 0, cells := 0, slots := 0, locals := 0 } (some .boolean) at g
  show Rg G oI (fun _ => S) (SHC, 0, 0) (SHC, 0, 0) S 0 [some (vr G q0)] [] (pX1_isMissing S q0)
  unfold pX1_isMissing
  refine r_aload_n g dX1_isMissing_0 rfl ?_
  refine r_getI g KX1 (shRow hq0) 1 rfl (by decide) w_161 dX1_isMissing_1 ?_
  refine r_if_ge g 11 dX1_isMissing_4 (by decide) ?_ ?_
  · refine r_iconst g dX1_isMissing_11 ?_
    exact r_zret0 g (by decide) dX1_isMissing_12 rfl rfl
  · refine r_iconst g dX1_isMissing_7 ?_
    refine r_goto g 12 dX1_isMissing_8 (by decide) ?_
    exact r_zret0 g (by decide) dX1_isMissing_12 rfl rfl
theorem kX1_hasRun (S : St) (q0 : Nat) (x1 : Int) (x2 : Int) (hq0 : isRow q0 = true) : Con yX1_hasRun cX1_hasRun 3 (some .boolean) { frames := 0, cells := 0, slots := 0, locals := 0 } false SHC (SHC, 0, 0) (fun b => [.ref (b + q0), vi x1, vi x2]) S (fun _ => oI) (fun _ => S) (pX1_hasRun S q0 x1 x2) := by
  refine Con_of (fun b => [some (.ref (b + q0)), some (vi x1), some (vi x2)]) (by decide) (fun _ => rfl) (fun _ => Nat.le_of_ble_eq_true rfl) ?_
  intro G g _ _ _
  change Ok G cX1_hasRun RX1 3 { frames := 0, cells := 0, slots := 0, locals := 0 } (some .boolean) at g
  show Rg G oI (fun _ => S) (SHC, 0, 0) (SHC, 0, 0) S 0 [some (vr G q0), some (vi x1), some (vi x2)] [] (pX1_hasRun S q0 x1 x2)
  unfold pX1_hasRun
  refine r_iload_n g dX1_hasRun_0 rfl ?_
  refine r_if_lt g 26 dX1_hasRun_1 (by decide) ?_ ?_
  · refine r_iconst g dX1_hasRun_26 ?_
    exact r_zret0 g (by decide) dX1_hasRun_27 rfl rfl
  · refine r_iload_n g dX1_hasRun_4 rfl ?_
    refine r_if_lt g 26 dX1_hasRun_5 (by decide) ?_ ?_
    · refine r_iconst g dX1_hasRun_26 ?_
      exact r_zret0 g (by decide) dX1_hasRun_27 rfl rfl
    · refine r_iload_n g dX1_hasRun_8 rfl ?_
      refine r_i2l g dX1_hasRun_9 ?_
      refine r_iload_n g dX1_hasRun_10 rfl ?_
      refine r_i2l g dX1_hasRun_11 ?_
      refine r_ladd g dX1_hasRun_12 ?_
      refine r_aload_n g dX1_hasRun_13 rfl ?_
      refine r_getI g KX1 (shRow hq0) 1 rfl (by decide) w_161 dX1_hasRun_14 ?_
      refine r_i2l g dX1_hasRun_17 ?_
      refine r_lcmp_gt g 26 dX1_hasRun_18 dX1_hasRun_19 (by decide) ?_ ?_
      · refine r_iconst g dX1_hasRun_26 ?_
        exact r_zret0 g (by decide) dX1_hasRun_27 rfl rfl
      · refine r_iconst g dX1_hasRun_22 ?_
        refine r_goto g 27 dX1_hasRun_23 (by decide) ?_
        exact r_zret0 g (by decide) dX1_hasRun_27 rfl rfl
theorem tX1_make_15B {G : Gx} {q0 : Nat} {x2 : Int} (g : Ok G cX1_make RX1 4 { frames := 1, cells := 0, slots := 0, locals := 24 } none)  (hq0 : isRow q0 = true) {k15 : St → Int → Option (St)} (hk15 : ∀ (S' : St) (x3' : Int), Rg G oVS id (SHC, 0, 0) (SHC, 0, 0) S' 15 [some (vr G q0), none, some (vi x2), some (vi (x3'))] [] (k15 S' x3')) {S : St} {x3 : Int} : Rg G oVS id (SHC, 0, 0) (SHC, 0, 0) S 15 [some (vr G q0), none, some (vi x2), some (vi x3)] [] (pX1_make_15B q0 x2 k15 S x3) := by
  unfold pX1_make_15B
  refine r_iload_n g dX1_make_15 rfl ?_
  refine r_aload_n g dX1_make_16 rfl ?_
  refine r_getI g KX1 (shRow hq0) 1 rfl (by decide) w_161 dX1_make_17 ?_
  refine r_icmp_ge g 36 dX1_make_20 (by decide) ?_ ?_
  · exact r_vret g dX1_make_36 rfl rfl
  · refine r_aload_n g dX1_make_23 rfl ?_
    refine r_getC (c0 := q0 + 1) g KX1 (shRow hq0) 0 rfl (by decide) w_157 dX1_make_24 ?_
    refine r_iload_n g dX1_make_27 rfl ?_
    refine r_iload_n g dX1_make_28 rfl ?_
    refine r_iast g (shRowA hq0) (rlen_le _) dX1_make_29 ?_
    intro S3_
    refine r_iinc g dX1_make_30 (by decide) rfl ?_
    intro x3_4_
    change Rg _ _ _ _ _ _ _ [some (vr G q0), none, some (vi x2), some (vi x3_4_)] _ _
    refine r_goto g 15 dX1_make_33 (by decide) ?_
    exact hk15 _ _
theorem tX1_make_15 {G : Gx} {q0 : Nat} {x2 : Int} (g : Ok G cX1_make RX1 4 { frames := 1, cells := 0, slots := 0, locals := 24 } none)  (hq0 : isRow q0 = true) : ∀ (n_ : Nat) (S : St) (x3 : Int), Rg G oVS id (SHC, 0, 0) (SHC, 0, 0) S 15 [some (vr G q0), none, some (vi x2), some (vi x3)] [] (lo2 (pX1_make_15B q0 x2) n_ S x3) := by
  intro n_
  induction n_ with
  | zero => intro S x3; exact r_none
  | succ n_ ih => intro S x3; exact tX1_make_15B g  hq0 ih
theorem kX1_make (S : St) (q0 : Nat) (x1 : Int) (x2 : Int) (hq0 : isRow q0 = true) : Con yX1_make cX1_make 4 none { frames := 1, cells := 0, slots := 0, locals := 24 } false SHC (SHC, 0, 0) (fun b => [.ref (b + q0), vi x1, vi x2]) S (fun _ => oVS) id (pX1_make S q0 x1 x2) := by
  refine Con_of (fun b => [some (.ref (b + q0)), some (vi x1), some (vi x2), none]) (by decide) (fun _ => rfl) (fun _ => Nat.le_of_ble_eq_true rfl) ?_
  intro G g _ _ _
  change Ok G cX1_make RX1 4 { frames := 1, cells := 0, slots := 0, locals := 24 } none at g
  show Rg G oVS id (SHC, 0, 0) (SHC, 0, 0) S 0 [some (vr G q0), some (vi x1), some (vi x2), none] [] (pX1_make S q0 x1 x2)
  unfold pX1_make
  refine r_aload_n g dX1_make_0 rfl ?_
  refine r_iload_n g dX1_make_1 rfl ?_
  refine r_aload_n g dX1_make_2 rfl ?_
  refine r_getC (c0 := q0 + 1) g KX1 (shRow hq0) 0 rfl (by decide) w_157 dX1_make_3 ?_
  refine r_alen (t := 0) g (fun _ => rfl) (shRowA hq0) dX1_make_6 ?_
  refine rJ9_min_7cf53 g w_335 w_336 w_77 w_337 ⟨by decide, Nat.le_of_ble_eq_true rfl⟩ dX1_make_7 ?_
  intro z1_
  refine r_putI g KX1 (shRow hq0) 1 rfl (by decide) rfl rfl w_161 dX1_make_10 ?_
  intro S2_ _
  refine r_iconst g dX1_make_13 ?_
  refine r_istore_n g 3 dX1_make_14 rfl (by decide) rfl ?_
  refine r_msk [true, false, true, true] rfl ?_
  exact tX1_make_15 g hq0 _ _ _
theorem kX5_mix (S : St) (x0 : Int) (x2 : Int)  : Con yX5_mix cX5_mix 4 (some .long) { frames := 0, cells := 0, slots := 0, locals := 0 } false SHC (SHC, 0, 0) (fun b => [vl x0, vl x2]) S (fun _ => oL) (fun _ => S) (pX5_mix x0 x2) := by
  refine Con_of (fun b => [some (vl x0), none, some (vl x2), none]) (by decide) (fun _ => rfl) (fun _ => Nat.le_of_ble_eq_true rfl) ?_
  intro G g _ _ _
  change Ok G cX5_mix RX5 4 { frames := 0, cells := 0, slots := 0, locals := 0 } (some .long) at g
  show Rg G oL (fun _ => S) (SHC, 0, 0) (SHC, 0, 0) S 0 [some (vl x0), none, some (vl x2), none] [] (pX5_mix x0 x2)
  unfold pX5_mix
  refine r_ldc2 (x := 31) g dX5_mix_0 w_841 (by decide) ?_
  refine r_lload_n g dX5_mix_3 rfl ?_
  refine r_lmul g dX5_mix_4 ?_
  refine r_lload_n g dX5_mix_5 rfl ?_
  refine r_ladd g dX5_mix_6 ?_
  exact r_lret g dX5_mix_7 rfl rfl
theorem tX1_mixInto_13B {G : Gx} {S : St} {q0 : Nat} (g : Ok G cX1_mixInto RX1 6 { frames := 1, cells := 0, slots := 0, locals := 23 } (some .long))  (hq0 : isRow q0 = true) {k13 : Int → Int → Option (Int)} (hk13 : ∀ (x3' : Int) (x5' : Int), Rg G oL (fun _ => S) (SHC, 0, 0) (SHC, 0, 0) S 13 [some (vr G q0), none, none, some (vl (x3')), none, some (vi (x5'))] [] (k13 x3' x5')) {x3 : Int} {x5 : Int} : Rg G oL (fun _ => S) (SHC, 0, 0) (SHC, 0, 0) S 13 [some (vr G q0), none, none, some (vl x3), none, some (vi x5)] [] (pX1_mixInto_13B S q0 k13 x3 x5) := by
  unfold pX1_mixInto_13B
  refine r_iload g dX1_mixInto_13 rfl ?_
  refine r_aload_n g dX1_mixInto_15 rfl ?_
  refine r_getI g KX1 (shRow hq0) 1 rfl (by decide) w_161 dX1_mixInto_16 ?_
  refine r_icmp_ge g 41 dX1_mixInto_19 (by decide) ?_ ?_
  · refine r_lload_n g dX1_mixInto_41 rfl ?_
    exact r_lret g dX1_mixInto_42 rfl rfl
  · refine r_lload_n g dX1_mixInto_22 rfl ?_
    refine r_aload_n g dX1_mixInto_23 rfl ?_
    refine r_getC (c0 := q0 + 1) g KX1 (shRow hq0) 0 rfl (by decide) w_157 dX1_mixInto_24 ?_
    refine r_iload g dX1_mixInto_27 rfl ?_
    refine r_iald g (shRowA hq0) (rlen_le _) dX1_mixInto_29 ?_
    intro z2_
    refine r_i2l g dX1_mixInto_30 ?_
    refine r_callSN_PL g (kX5_mix S x3 z2_) mX5_mix w_863 w_839 (by decide) (fun _ => rfl) rfl (Nat.le_of_ble_eq_true rfl) dX1_mixInto_31 ?_
    intro z3_
    refine r_lstore_n g 3 dX1_mixInto_34 rfl (by decide) rfl ?_
    refine r_iinc g dX1_mixInto_35 (by decide) rfl ?_
    intro x5_4_
    change Rg _ _ _ _ _ _ _ [some (vr G q0), none, none, some (vl z3_), none, some (vi x5_4_)] _ _
    refine r_goto g 13 dX1_mixInto_38 (by decide) ?_
    exact hk13 _ _
theorem tX1_mixInto_13 {G : Gx} {S : St} {q0 : Nat} (g : Ok G cX1_mixInto RX1 6 { frames := 1, cells := 0, slots := 0, locals := 23 } (some .long))  (hq0 : isRow q0 = true) : ∀ (n_ : Nat) (x3 : Int) (x5 : Int), Rg G oL (fun _ => S) (SHC, 0, 0) (SHC, 0, 0) S 13 [some (vr G q0), none, none, some (vl x3), none, some (vi x5)] [] (lo2 (pX1_mixInto_13B S q0) n_ x3 x5) := by
  intro n_
  induction n_ with
  | zero => intro x3 x5; exact r_none
  | succ n_ ih => intro x3 x5; exact tX1_mixInto_13B g  hq0 ih
theorem kX1_mixInto (S : St) (q0 : Nat) (x1 : Int) (hq0 : isRow q0 = true) : Con yX1_mixInto cX1_mixInto 6 (some .long) { frames := 1, cells := 0, slots := 0, locals := 23 } false SHC (SHC, 0, 0) (fun b => [.ref (b + q0), vl x1]) S (fun _ => oL) (fun _ => S) (pX1_mixInto S q0 x1) := by
  refine Con_of (fun b => [some (.ref (b + q0)), some (vl x1), none, none, none, none]) (by decide) (fun _ => rfl) (fun _ => Nat.le_of_ble_eq_true rfl) ?_
  intro G g _ _ _
  change Ok G cX1_mixInto RX1 6 { frames := 1, cells := 0, slots := 0, locals := 23 } (some .long) at g
  show Rg G oL (fun _ => S) (SHC, 0, 0) (SHC, 0, 0) S 0 [some (vr G q0), some (vl x1), none, none, none, none] [] (pX1_mixInto S q0 x1)
  unfold pX1_mixInto
  refine r_lload_n g dX1_mixInto_0 rfl ?_
  refine r_aload_n g dX1_mixInto_1 rfl ?_
  refine r_getI g KX1 (shRow hq0) 1 rfl (by decide) w_161 dX1_mixInto_2 ?_
  refine r_i2l g dX1_mixInto_5 ?_
  refine r_callSN_PL g (kX5_mix S x1 (S q0 1)) mX5_mix w_863 w_839 (by decide) (fun _ => rfl) rfl (Nat.le_of_ble_eq_true rfl) dX1_mixInto_6 ?_
  intro z1_
  refine r_lstore_n g 3 dX1_mixInto_9 rfl (by decide) rfl ?_
  refine r_iconst g dX1_mixInto_10 ?_
  refine r_istore g dX1_mixInto_11 (by decide) rfl ?_
  refine r_msk [true, false, false, true, false, true] rfl ?_
  exact tX1_mixInto_13 g hq0 _ _ _
theorem kX2_isMissing (S : St) (q0 : Nat) (hq0 : isSeal q0 = true) : Con yX2_isMissing cX2_isMissing 1 (some .boolean) { frames := 0, cells := 0, slots := 0, locals := 0 } false SHC (SHC, 0, 0) (fun b => [.ref (b + q0)]) S (fun _ => oI) (fun _ => S) (pX2_isMissing S q0) := by
  refine Con_of (fun b => [some (.ref (b + q0))]) (by decide) (fun _ => rfl) (fun _ => Nat.le_of_ble_eq_true rfl) ?_
  intro G g _ _ _
  change Ok G cX2_isMissing RX2 1 { frames := 0, cells := 0, slots := 0, locals := 0 } (some .boolean) at g
  show Rg G oI (fun _ => S) (SHC, 0, 0) (SHC, 0, 0) S 0 [some (vr G q0)] [] (pX2_isMissing S q0)
  unfold pX2_isMissing
  refine r_aload_n g dX2_isMissing_0 rfl ?_
  refine r_getI g KX2 (shSeal hq0) 0 rfl (by decide) w_243 dX2_isMissing_1 ?_
  refine r_if_ge g 11 dX2_isMissing_4 (by decide) ?_ ?_
  · refine r_iconst g dX2_isMissing_11 ?_
    exact r_zret0 g (by decide) dX2_isMissing_12 rfl rfl
  · refine r_iconst g dX2_isMissing_7 ?_
    refine r_goto g 12 dX2_isMissing_8 (by decide) ?_
    exact r_zret0 g (by decide) dX2_isMissing_12 rfl rfl
theorem tX2_is_10 {G : Gx}  {S : St} {q0 : Nat} {x1 : Int} (g : Ok G cX2_is RX2 2 { frames := 0, cells := 0, slots := 0, locals := 0 } (some .boolean))  (hq0 : isSeal q0 = true) : Rg G oI (fun _ => S) (SHC, 0, 0) (SHC, 0, 0) S 10 [some (vr G q0), some (vi x1)] [] (pX2_is_10 S q0 x1) := by
  unfold pX2_is_10
  refine r_aload_n g dX2_is_10 rfl ?_
  refine r_getI g KX2 (shSeal hq0) 0 rfl (by decide) w_243 dX2_is_11 ?_
  refine r_iload_n g dX2_is_14 rfl ?_
  refine r_icmp_ne g 22 dX2_is_15 (by decide) ?_ ?_
  · refine r_iconst g dX2_is_22 ?_
    exact r_zret0 g (by decide) dX2_is_23 rfl rfl
  · refine r_iconst g dX2_is_18 ?_
    refine r_goto g 23 dX2_is_19 (by decide) ?_
    exact r_zret0 g (by decide) dX2_is_23 rfl rfl
theorem kX2_is (S : St) (q0 : Nat) (x1 : Int) (hq0 : isSeal q0 = true) : Con yX2_is cX2_is 2 (some .boolean) { frames := 0, cells := 0, slots := 0, locals := 0 } false SHC (SHC, 0, 0) (fun b => [.ref (b + q0), vi x1]) S (fun _ => oI) (fun _ => S) (pX2_is S q0 x1) := by
  refine Con_of (fun b => [some (.ref (b + q0)), some (vi x1)]) (by decide) (fun _ => rfl) (fun _ => Nat.le_of_ble_eq_true rfl) ?_
  intro G g _ _ _
  change Ok G cX2_is RX2 2 { frames := 0, cells := 0, slots := 0, locals := 0 } (some .boolean) at g
  show Rg G oI (fun _ => S) (SHC, 0, 0) (SHC, 0, 0) S 0 [some (vr G q0), some (vi x1)] [] (pX2_is S q0 x1)
  unfold pX2_is
  refine r_iload_n g dX2_is_0 rfl ?_
  refine r_iconst g dX2_is_1 ?_
  refine r_icmp_eq g 10 dX2_is_2 (by decide) ?_ ?_
  · exact tX2_is_10 g hq0
  · refine r_iload_n g dX2_is_5 rfl ?_
    refine r_iconst g dX2_is_6 ?_
    refine r_icmp_ne g 24 dX2_is_7 (by decide) ?_ ?_
    · refine r_aload_n g dX2_is_24 rfl ?_
      refine r_getI g KX2 (shSeal hq0) 0 rfl (by decide) w_243 dX2_is_25 ?_
      refine r_iload_n g dX2_is_28 rfl ?_
      refine r_icmp_lt g 36 dX2_is_29 (by decide) ?_ ?_
      · refine r_iconst g dX2_is_36 ?_
        exact r_zret0 g (by decide) dX2_is_37 rfl rfl
      · refine r_iconst g dX2_is_32 ?_
        refine r_goto g 37 dX2_is_33 (by decide) ?_
        exact r_zret0 g (by decide) dX2_is_37 rfl rfl
    · exact tX2_is_10 g hq0
theorem kX2_become (S : St) (q0 : Nat) (x1 : Int) (x2 : Int) (x3 : Int) (x4 : Int) (hq0 : isSeal q0 = true) : Con yX2_become cX2_become 5 none { frames := 0, cells := 0, slots := 0, locals := 0 } false SHC (SHC, 0, 0) (fun b => [.ref (b + q0), vi x1, vi x2, vi x3, vi x4]) S (fun _ => oVS) id (pX2_become S q0 x1 x2 x3 x4) := by
  refine Con_of (fun b => [some (.ref (b + q0)), some (vi x1), some (vi x2), some (vi x3), some (vi x4)]) (by decide) (fun _ => rfl) (fun _ => Nat.le_of_ble_eq_true rfl) ?_
  intro G g _ _ _
  change Ok G cX2_become RX2 5 { frames := 0, cells := 0, slots := 0, locals := 0 } none at g
  show Rg G oVS id (SHC, 0, 0) (SHC, 0, 0) S 0 [some (vr G q0), some (vi x1), some (vi x2), some (vi x3), some (vi x4)] [] (pX2_become S q0 x1 x2 x3 x4)
  unfold pX2_become
  refine r_aload_n g dX2_become_0 rfl ?_
  refine r_iload_n g dX2_become_1 rfl ?_
  refine r_putI g KX2 (shSeal hq0) 0 rfl (by decide) rfl rfl w_243 dX2_become_2 ?_
  intro S1_ _
  refine r_aload_n g dX2_become_5 rfl ?_
  refine r_iload_n g dX2_become_6 rfl ?_
  refine r_putI g KX2 (shSeal hq0) 1 rfl (by decide) rfl rfl w_245 dX2_become_7 ?_
  intro S2_ _
  refine r_aload_n g dX2_become_10 rfl ?_
  refine r_iload_n g dX2_become_11 rfl ?_
  refine r_putI g KX2 (shSeal hq0) 2 rfl (by decide) rfl rfl w_247 dX2_become_12 ?_
  intro S3_ _
  refine r_aload_n g dX2_become_15 rfl ?_
  refine r_iload_n g dX2_become_16 rfl ?_
  refine r_putI g KX2 (shSeal hq0) 3 rfl (by decide) rfl rfl w_249 dX2_become_17 ?_
  intro S4_ _
  refine r_aload_n g dX2_become_20 rfl ?_
  refine r_iload g dX2_become_21 rfl ?_
  refine r_putI g KX2 (shSeal hq0) 4 rfl (by decide) rfl rfl w_252 dX2_become_23 ?_
  intro S5_ _
  refine r_aload_n g dX2_become_26 rfl ?_
  refine r_iconst g dX2_become_27 ?_
  refine r_putI g KX2 (shSeal hq0) 5 rfl (by decide) rfl rfl w_255 dX2_become_28 ?_
  intro S6_ _
  refine r_aload_n g dX2_become_31 rfl ?_
  refine r_iconst g dX2_become_32 ?_
  refine r_putI g KX2 (shSeal hq0) 6 rfl (by decide) rfl rfl w_257 dX2_become_33 ?_
  intro S7_ _
  exact r_vret g dX2_become_36 rfl rfl
theorem kX2_stretchedHeight (S : St) (q0 : Nat) (hq0 : isSeal q0 = true) : Con yX2_stretchedHeight cX2_stretchedHeight 1 (some .int) { frames := 0, cells := 0, slots := 0, locals := 0 } false SHC (SHC, 0, 0) (fun b => [.ref (b + q0)]) S (fun _ => oI) (fun _ => S) (pX2_stretchedHeight S q0) := by
  refine Con_of (fun b => [some (.ref (b + q0))]) (by decide) (fun _ => rfl) (fun _ => Nat.le_of_ble_eq_true rfl) ?_
  intro G g _ _ _
  change Ok G cX2_stretchedHeight RX2 1 { frames := 0, cells := 0, slots := 0, locals := 0 } (some .int) at g
  show Rg G oI (fun _ => S) (SHC, 0, 0) (SHC, 0, 0) S 0 [some (vr G q0)] [] (pX2_stretchedHeight S q0)
  unfold pX2_stretchedHeight
  refine r_aload_n g dX2_stretchedHeight_0 rfl ?_
  refine r_getI g KX2 (shSeal hq0) 2 rfl (by decide) w_247 dX2_stretchedHeight_1 ?_
  refine r_sipush g dX2_stretchedHeight_4 (by decide) ?_
  refine r_aload_n g dX2_stretchedHeight_7 rfl ?_
  refine r_getI g KX2 (shSeal hq0) 5 rfl (by decide) w_255 dX2_stretchedHeight_8 ?_
  refine r_isub g dX2_stretchedHeight_11 ?_
  refine r_imul g dX2_stretchedHeight_12 ?_
  refine r_sipush g dX2_stretchedHeight_13 (by decide) ?_
  refine r_idiv g dX2_stretchedHeight_16 ?_
  intro z1_
  exact r_iret g dX2_stretchedHeight_17 rfl rfl
theorem kX2_tells (S : St) (q0 : Nat) (x1 : Int) (hq0 : isSeal q0 = true) : Con yX2_tells cX2_tells 2 (some .int) { frames := 0, cells := 0, slots := 0, locals := 0 } false SHC (SHC, 0, 0) (fun b => [.ref (b + q0), vi x1]) S (fun _ => oI) (fun _ => S) (pX2_tells S q0 x1) := by
  refine Con_of (fun b => [some (.ref (b + q0)), some (vi x1)]) (by decide) (fun _ => rfl) (fun _ => Nat.le_of_ble_eq_true rfl) ?_
  intro G g _ _ _
  change Ok G cX2_tells RX2 2 { frames := 0, cells := 0, slots := 0, locals := 0 } (some .int) at g
  show Rg G oI (fun _ => S) (SHC, 0, 0) (SHC, 0, 0) S 0 [some (vr G q0), some (vi x1)] [] (pX2_tells S q0 x1)
  unfold pX2_tells
  refine r_iload_n g dX2_tells_0 rfl ?_
  refine r_split ?_ ?_
  · intro hi0 he0
    refine r_tabIn g 28 hi0 dX2_tells_1 (by omega) (by omega) (by rw [he0]; rfl) (by decide) ?_
    refine r_aload_n g dX2_tells_28 rfl ?_
    refine r_getI g KX2 (shSeal hq0) 0 rfl (by decide) w_243 dX2_tells_29 ?_
    exact r_iret g dX2_tells_32 rfl rfl
  · intro hi0 he0
    refine r_split ?_ ?_
    · intro hi1 he1
      refine r_tabIn g 33 hi1 dX2_tells_1 (by omega) (by omega) (by rw [he1]; rfl) (by decide) ?_
      refine r_aload_n g dX2_tells_33 rfl ?_
      refine r_getI g KX2 (shSeal hq0) 3 rfl (by decide) w_249 dX2_tells_34 ?_
      exact r_iret g dX2_tells_37 rfl rfl
    · intro hi1 he1
      refine r_split ?_ ?_
      · intro hi2 he2
        refine r_tabIn g 38 hi2 dX2_tells_1 (by omega) (by omega) (by rw [he2]; rfl) (by decide) ?_
        refine r_aload_n g dX2_tells_38 rfl ?_
        refine r_getI g KX2 (shSeal hq0) 2 rfl (by decide) w_247 dX2_tells_39 ?_
        exact r_iret g dX2_tells_42 rfl rfl
      · intro hi2 he2
        refine r_tabOut g 43 hi0 dX2_tells_1 (by omega) (by decide) ?_
        refine r_aload_n g dX2_tells_43 rfl ?_
        refine r_getI g KX2 (shSeal hq0) 4 rfl (by decide) w_252 dX2_tells_44 ?_
        exact r_iret g dX2_tells_47 rfl rfl
theorem kX2_tellsAs (S : St) (q0 : Nat) (x1 : Int) (hq0 : isSeal q0 = true) : Con yX2_tellsAs cX2_tellsAs 2 (some .int) { frames := 0, cells := 0, slots := 0, locals := 0 } false SHC (SHC, 0, 0) (fun b => [.ref (b + q0), vi x1]) S (fun _ => oI) (fun _ => S) (pX2_tellsAs S q0 x1) := by
  refine Con_of (fun b => [some (.ref (b + q0)), some (vi x1)]) (by decide) (fun _ => rfl) (fun _ => Nat.le_of_ble_eq_true rfl) ?_
  intro G g _ _ _
  change Ok G cX2_tellsAs RX2 2 { frames := 0, cells := 0, slots := 0, locals := 0 } (some .int) at g
  show Rg G oI (fun _ => S) (SHC, 0, 0) (SHC, 0, 0) S 0 [some (vr G q0), some (vi x1)] [] (pX2_tellsAs S q0 x1)
  unfold pX2_tellsAs
  refine r_iload_n g dX2_tellsAs_0 rfl ?_
  refine r_iconst g dX2_tellsAs_1 ?_
  refine r_icmp_ne g 10 dX2_tellsAs_2 (by decide) ?_ ?_
  · refine r_iload_n g dX2_tellsAs_10 rfl ?_
    refine r_iconst g dX2_tellsAs_11 ?_
    refine r_icmp_ne g 22 dX2_tellsAs_12 (by decide) ?_ ?_
    · refine r_aload_n g dX2_tellsAs_22 rfl ?_
      refine r_getI g KX2 (shSeal hq0) 6 rfl (by decide) w_257 dX2_tellsAs_23 ?_
      exact r_iret g dX2_tellsAs_26 rfl rfl
    · refine r_aload_n g dX2_tellsAs_15 rfl ?_
      refine r_getI g KX2 (shSeal hq0) 5 rfl (by decide) w_255 dX2_tellsAs_16 ?_
      refine r_goto g 26 dX2_tellsAs_19 (by decide) ?_
      exact r_iret g dX2_tellsAs_26 rfl rfl
  · refine r_aload_n g dX2_tellsAs_5 rfl ?_
    refine r_getI g KX2 (shSeal hq0) 1 rfl (by decide) w_245 dX2_tellsAs_6 ?_
    exact r_iret g dX2_tellsAs_9 rfl rfl
theorem tX2_mixInto_88 {G : Gx}  {S : St} {s0 : Int} {s1 : Int} (g : Ok G cX2_mixInto RX2 6 { frames := 1, cells := 0, slots := 0, locals := 23 } (some .long))   : Rg G oL (fun _ => S) (SHC, 0, 0) (SHC, 0, 0) S 88 [none, none, none, none, none, none] [vl s0, vl s1] (pX2_mixInto_88 S s0 s1) := by
  unfold pX2_mixInto_88
  refine r_callSN_PL g (kX5_mix S s1 s0) mX5_mix w_848 w_839 (by decide) (fun _ => rfl) rfl (Nat.le_of_ble_eq_true rfl) dX2_mixInto_88 ?_
  intro z5_
  exact r_lret g dX2_mixInto_91 rfl rfl
theorem tX2_mixInto_64 {G : Gx}  {S : St} {q0 : Nat} {s0 : Int} {s1 : Int} (g : Ok G cX2_mixInto RX2 6 { frames := 1, cells := 0, slots := 0, locals := 23 } (some .long))  (hq0 : isSeal q0 = true) : Rg G oL (fun _ => S) (SHC, 0, 0) (SHC, 0, 0) S 64 [some (vr G q0), none, none, none, none, none] [vl s0, vl s1] (pX2_mixInto_64 S q0 s0 s1) := by
  unfold pX2_mixInto_64
  refine r_callSN_PL g (kX5_mix S s1 s0) mX5_mix w_848 w_839 (by decide) (fun _ => rfl) rfl (Nat.le_of_ble_eq_true rfl) dX2_mixInto_64 ?_
  intro z3_
  refine r_lstore_n g 3 dX2_mixInto_67 rfl (by decide) rfl ?_
  refine r_lload_n g dX2_mixInto_68 rfl ?_
  refine r_aload_n g dX2_mixInto_69 rfl ?_
  refine r_iconst g dX2_mixInto_70 ?_
  refine r_callV_PI (q := q0) (as := fun b => [vi 2]) g (kX2_is S q0 2 hq0) mX2_is (shSeal hq0) rfl w_850 w_516 w_517 (by decide) (fun _ => rfl) rfl (Nat.le_of_ble_eq_true rfl) dX2_mixInto_71 ?_
  intro z4_
  refine r_if_eq g 85 dX2_mixInto_74 (by decide) ?_ ?_
  · refine r_ldc2 (x := (-1)) g dX2_mixInto_85 w_847 (by decide) ?_
    refine r_msk [false, false, false, false, false, false] rfl ?_
    exact tX2_mixInto_88 g
  · refine r_aload_n g dX2_mixInto_77 rfl ?_
    refine r_getI g KX2 (shSeal hq0) 5 rfl (by decide) w_255 dX2_mixInto_78 ?_
    refine r_i2l g dX2_mixInto_81 ?_
    refine r_goto g 88 dX2_mixInto_82 (by decide) ?_
    refine r_msk [false, false, false, false, false, false] rfl ?_
    exact tX2_mixInto_88 g
theorem tX2_mixInto_20B {G : Gx} {S : St} {q0 : Nat} (g : Ok G cX2_mixInto RX2 6 { frames := 1, cells := 0, slots := 0, locals := 23 } (some .long))  (hq0 : isSeal q0 = true) {k20 : Int → Int → Option (Int)} (hk20 : ∀ (x3' : Int) (x5' : Int), Rg G oL (fun _ => S) (SHC, 0, 0) (SHC, 0, 0) S 20 [some (vr G q0), none, none, some (vl (x3')), none, some (vi (x5'))] [] (k20 x3' x5')) {x3 : Int} {x5 : Int} : Rg G oL (fun _ => S) (SHC, 0, 0) (SHC, 0, 0) S 20 [some (vr G q0), none, none, some (vl x3), none, some (vi x5)] [] (pX2_mixInto_20B S q0 k20 x3 x5) := by
  unfold pX2_mixInto_20B
  refine r_iload g dX2_mixInto_20 rfl ?_
  refine r_iconst g dX2_mixInto_22 ?_
  refine r_icmp_gt g 44 dX2_mixInto_23 (by decide) ?_ ?_
  · refine r_lload_n g dX2_mixInto_44 rfl ?_
    refine r_aload_n g dX2_mixInto_45 rfl ?_
    refine r_iconst g dX2_mixInto_46 ?_
    refine r_callV_PI (q := q0) (as := fun b => [vi 1]) g (kX2_is S q0 1 hq0) mX2_is (shSeal hq0) rfl w_850 w_516 w_517 (by decide) (fun _ => rfl) rfl (Nat.le_of_ble_eq_true rfl) dX2_mixInto_47 ?_
    intro z2_
    refine r_if_eq g 61 dX2_mixInto_50 (by decide) ?_ ?_
    · refine r_ldc2 (x := (-1)) g dX2_mixInto_61 w_847 (by decide) ?_
      refine r_msk [true, false, false, false, false, false] rfl ?_
      exact tX2_mixInto_64 g hq0
    · refine r_aload_n g dX2_mixInto_53 rfl ?_
      refine r_getI g KX2 (shSeal hq0) 1 rfl (by decide) w_245 dX2_mixInto_54 ?_
      refine r_i2l g dX2_mixInto_57 ?_
      refine r_goto g 64 dX2_mixInto_58 (by decide) ?_
      refine r_msk [true, false, false, false, false, false] rfl ?_
      exact tX2_mixInto_64 g hq0
  · refine r_lload_n g dX2_mixInto_26 rfl ?_
    refine r_aload_n g dX2_mixInto_27 rfl ?_
    refine r_iload g dX2_mixInto_28 rfl ?_
    refine r_callV_PI (q := q0) (as := fun b => [vi x5]) g (kX2_tells S q0 x5 hq0) mX2_tells (shSeal hq0) rfl w_849 w_528 w_529 (by decide) (fun _ => rfl) rfl (Nat.le_of_ble_eq_true rfl) dX2_mixInto_30 ?_
    intro z6_
    refine r_i2l g dX2_mixInto_33 ?_
    refine r_callSN_PL g (kX5_mix S x3 z6_) mX5_mix w_848 w_839 (by decide) (fun _ => rfl) rfl (Nat.le_of_ble_eq_true rfl) dX2_mixInto_34 ?_
    intro z7_
    refine r_lstore_n g 3 dX2_mixInto_37 rfl (by decide) rfl ?_
    refine r_iinc g dX2_mixInto_38 (by decide) rfl ?_
    intro x5_8_
    change Rg _ _ _ _ _ _ _ [some (vr G q0), none, none, some (vl z7_), none, some (vi x5_8_)] _ _
    refine r_goto g 20 dX2_mixInto_41 (by decide) ?_
    exact hk20 _ _
theorem tX2_mixInto_20 {G : Gx} {S : St} {q0 : Nat} (g : Ok G cX2_mixInto RX2 6 { frames := 1, cells := 0, slots := 0, locals := 23 } (some .long))  (hq0 : isSeal q0 = true) : ∀ (n_ : Nat) (x3 : Int) (x5 : Int), Rg G oL (fun _ => S) (SHC, 0, 0) (SHC, 0, 0) S 20 [some (vr G q0), none, none, some (vl x3), none, some (vi x5)] [] (lo2 (pX2_mixInto_20B S q0) n_ x3 x5) := by
  intro n_
  induction n_ with
  | zero => intro x3 x5; exact r_none
  | succ n_ ih => intro x3 x5; exact tX2_mixInto_20B g  hq0 ih
theorem kX2_mixInto (S : St) (q0 : Nat) (x1 : Int) (hq0 : isSeal q0 = true) : Con yX2_mixInto cX2_mixInto 6 (some .long) { frames := 1, cells := 0, slots := 0, locals := 23 } false SHC (SHC, 0, 0) (fun b => [.ref (b + q0), vl x1]) S (fun _ => oL) (fun _ => S) (pX2_mixInto S q0 x1) := by
  refine Con_of (fun b => [some (.ref (b + q0)), some (vl x1), none, none, none, none]) (by decide) (fun _ => rfl) (fun _ => Nat.le_of_ble_eq_true rfl) ?_
  intro G g _ _ _
  change Ok G cX2_mixInto RX2 6 { frames := 1, cells := 0, slots := 0, locals := 23 } (some .long) at g
  show Rg G oL (fun _ => S) (SHC, 0, 0) (SHC, 0, 0) S 0 [some (vr G q0), some (vl x1), none, none, none, none] [] (pX2_mixInto S q0 x1)
  unfold pX2_mixInto
  refine r_aload_n g dX2_mixInto_0 rfl ?_
  refine r_callV_PI (q := q0) (as := fun b => []) g (kX2_isMissing S q0 hq0) mX2_isMissing (shSeal hq0) rfl w_846 w_500 w_501 (by decide) (fun _ => rfl) rfl (Nat.le_of_ble_eq_true rfl) dX2_mixInto_1 ?_
  intro z1_
  refine r_if_eq g 15 dX2_mixInto_4 (by decide) ?_ ?_
  · refine r_lload_n g dX2_mixInto_15 rfl ?_
    refine r_lstore_n g 3 dX2_mixInto_16 rfl (by decide) rfl ?_
    refine r_iconst g dX2_mixInto_17 ?_
    refine r_istore g dX2_mixInto_18 (by decide) rfl ?_
    refine r_msk [true, false, false, true, false, true] rfl ?_
    exact tX2_mixInto_20 g hq0 _ _ _
  · refine r_lload_n g dX2_mixInto_7 rfl ?_
    refine r_ldc2 (x := (-1)) g dX2_mixInto_8 w_847 (by decide) ?_
    refine r_callSN_PL g (kX5_mix S x1 ((-1))) mX5_mix w_848 w_839 (by decide) (fun _ => rfl) rfl (Nat.le_of_ble_eq_true rfl) dX2_mixInto_11 ?_
    intro z9_
    exact r_lret g dX2_mixInto_14 rfl rfl
theorem tX3_become_2B {G : Gx} {q0 : Nat} {q1 : Nat} (g : Ok G cX3_become RX3 3 { frames := 0, cells := 0, slots := 0, locals := 0 } none)  (hq0 : isStf q0 = true) (hq1 : isStf q1 = true) {k2 : St → Int → Option (St)} (hk2 : ∀ (S' : St) (x2' : Int), Rg G oVS id (SHC, 0, 0) (SHC, 0, 0) S' 2 [some (vr G q0), some (vr G q1), some (vi (x2'))] [] (k2 S' x2')) {S : St} {x2 : Int} : Rg G oVS id (SHC, 0, 0) (SHC, 0, 0) S 2 [some (vr G q0), some (vr G q1), some (vi x2)] [] (pX3_become_2B q0 q1 k2 S x2) := by
  unfold pX3_become_2B
  refine r_iload_n g dX3_become_2 rfl ?_
  refine r_iconst g dX3_become_3 ?_
  refine r_icmp_gt g 37 dX3_become_4 (by decide) ?_ ?_
  · refine r_aload_n g dX3_become_37 rfl ?_
    refine r_aload_n g dX3_become_38 rfl ?_
    refine r_getI g KX3 (shStf hq1) 2 rfl (by decide) w_117 dX3_become_39 ?_
    refine r_putI g KX3 (shStf hq0) 2 rfl (by decide) rfl rfl w_117 dX3_become_42 ?_
    intro S1_ _
    refine r_aload_n g dX3_become_45 rfl ?_
    refine r_aload_n g dX3_become_46 rfl ?_
    refine r_getI g KX3 (shStf hq1) 3 rfl (by decide) w_120 dX3_become_47 ?_
    refine r_putI g KX3 (shStf hq0) 3 rfl (by decide) rfl rfl w_120 dX3_become_50 ?_
    intro S2_ _
    refine r_aload_n g dX3_become_53 rfl ?_
    refine r_aload_n g dX3_become_54 rfl ?_
    refine r_getI g KX3 (shStf hq1) 4 rfl (by decide) w_123 dX3_become_55 ?_
    refine r_putI g KX3 (shStf hq0) 4 rfl (by decide) rfl rfl w_123 dX3_become_58 ?_
    intro S3_ _
    refine r_aload_n g dX3_become_61 rfl ?_
    refine r_aload_n g dX3_become_62 rfl ?_
    refine r_getI g KX3 (shStf hq1) 5 rfl (by decide) w_126 dX3_become_63 ?_
    refine r_putI g KX3 (shStf hq0) 5 rfl (by decide) rfl rfl w_126 dX3_become_66 ?_
    intro S4_ _
    refine r_aload_n g dX3_become_69 rfl ?_
    refine r_aload_n g dX3_become_70 rfl ?_
    refine r_getI g KX3 (shStf hq1) 6 rfl (by decide) w_129 dX3_become_71 ?_
    refine r_putI g KX3 (shStf hq0) 6 rfl (by decide) rfl rfl w_129 dX3_become_74 ?_
    intro S5_ _
    exact r_vret g dX3_become_77 rfl rfl
  · refine r_aload_n g dX3_become_7 rfl ?_
    refine r_getC (c0 := q0 + 1) g KX3 (shStf hq0) 0 rfl (by decide) w_111 dX3_become_8 ?_
    refine r_iload_n g dX3_become_11 rfl ?_
    refine r_aload_n g dX3_become_12 rfl ?_
    refine r_getC (c0 := q1 + 1) g KX3 (shStf hq1) 0 rfl (by decide) w_111 dX3_become_13 ?_
    refine r_iload_n g dX3_become_16 rfl ?_
    refine r_iald g (shStfX hq1) (by decide) dX3_become_17 ?_
    intro z6_
    refine r_iast g (shStfX hq0) (by decide) dX3_become_18 ?_
    intro S7_
    refine r_aload_n g dX3_become_19 rfl ?_
    refine r_getC (c0 := q0 + 2) g KX3 (shStf hq0) 1 rfl (by decide) w_114 dX3_become_20 ?_
    refine r_iload_n g dX3_become_23 rfl ?_
    refine r_aload_n g dX3_become_24 rfl ?_
    refine r_getC (c0 := q1 + 2) g KX3 (shStf hq1) 1 rfl (by decide) w_114 dX3_become_25 ?_
    refine r_iload_n g dX3_become_28 rfl ?_
    refine r_iald g (shStfY hq1) (by decide) dX3_become_29 ?_
    intro z8_
    refine r_iast g (shStfY hq0) (by decide) dX3_become_30 ?_
    intro S9_
    refine r_iinc g dX3_become_31 (by decide) rfl ?_
    intro x2_10_
    change Rg _ _ _ _ _ _ _ [some (vr G q0), some (vr G q1), some (vi x2_10_)] _ _
    refine r_goto g 2 dX3_become_34 (by decide) ?_
    exact hk2 _ _
theorem tX3_become_2 {G : Gx} {q0 : Nat} {q1 : Nat} (g : Ok G cX3_become RX3 3 { frames := 0, cells := 0, slots := 0, locals := 0 } none)  (hq0 : isStf q0 = true) (hq1 : isStf q1 = true) : ∀ (n_ : Nat) (S : St) (x2 : Int), Rg G oVS id (SHC, 0, 0) (SHC, 0, 0) S 2 [some (vr G q0), some (vr G q1), some (vi x2)] [] (lo2 (pX3_become_2B q0 q1) n_ S x2) := by
  intro n_
  induction n_ with
  | zero => intro S x2; exact r_none
  | succ n_ ih => intro S x2; exact tX3_become_2B g  hq0 hq1 ih
theorem kX3_become (S : St) (q0 : Nat) (q1 : Nat) (hq0 : isStf q0 = true) (hq1 : isStf q1 = true) : Con yX3_become cX3_become 3 none { frames := 0, cells := 0, slots := 0, locals := 0 } false SHC (SHC, 0, 0) (fun b => [.ref (b + q0), .ref (b + q1)]) S (fun _ => oVS) id (pX3_become S q0 q1) := by
  refine Con_of (fun b => [some (.ref (b + q0)), some (.ref (b + q1)), none]) (by decide) (fun _ => rfl) (fun _ => Nat.le_of_ble_eq_true rfl) ?_
  intro G g _ _ _
  change Ok G cX3_become RX3 3 { frames := 0, cells := 0, slots := 0, locals := 0 } none at g
  show Rg G oVS id (SHC, 0, 0) (SHC, 0, 0) S 0 [some (vr G q0), some (vr G q1), none] [] (pX3_become S q0 q1)
  unfold pX3_become
  refine r_iconst g dX3_become_0 ?_
  refine r_istore_n g 2 dX3_become_1 rfl (by decide) rfl ?_
  exact tX3_become_2 g hq0 hq1 _ _ _
theorem kX3_tells (S : St) (q0 : Nat) (x1 : Int) (hq0 : isStf q0 = true) : Con yX3_tells cX3_tells 2 (some .int) { frames := 0, cells := 0, slots := 0, locals := 0 } false SHC (SHC, 0, 0) (fun b => [.ref (b + q0), vi x1]) S (fun _ => oI) (fun _ => S) (pX3_tells S q0 x1) := by
  refine Con_of (fun b => [some (.ref (b + q0)), some (vi x1)]) (by decide) (fun _ => rfl) (fun _ => Nat.le_of_ble_eq_true rfl) ?_
  intro G g _ _ _
  change Ok G cX3_tells RX3 2 { frames := 0, cells := 0, slots := 0, locals := 0 } (some .int) at g
  show Rg G oI (fun _ => S) (SHC, 0, 0) (SHC, 0, 0) S 0 [some (vr G q0), some (vi x1)] [] (pX3_tells S q0 x1)
  unfold pX3_tells
  refine r_iload_n g dX3_tells_0 rfl ?_
  refine r_split ?_ ?_
  · intro hi0 he0
    refine r_tabIn g 32 hi0 dX3_tells_1 (by omega) (by omega) (by rw [he0]; rfl) (by decide) ?_
    refine r_aload_n g dX3_tells_32 rfl ?_
    refine r_getI g KX3 (shStf hq0) 2 rfl (by decide) w_117 dX3_tells_33 ?_
    exact r_iret g dX3_tells_36 rfl rfl
  · intro hi0 he0
    refine r_split ?_ ?_
    · intro hi1 he1
      refine r_tabIn g 37 hi1 dX3_tells_1 (by omega) (by omega) (by rw [he1]; rfl) (by decide) ?_
      refine r_aload_n g dX3_tells_37 rfl ?_
      refine r_getI g KX3 (shStf hq0) 3 rfl (by decide) w_120 dX3_tells_38 ?_
      exact r_iret g dX3_tells_41 rfl rfl
    · intro hi1 he1
      refine r_split ?_ ?_
      · intro hi2 he2
        refine r_tabIn g 42 hi2 dX3_tells_1 (by omega) (by omega) (by rw [he2]; rfl) (by decide) ?_
        refine r_aload_n g dX3_tells_42 rfl ?_
        refine r_getI g KX3 (shStf hq0) 4 rfl (by decide) w_123 dX3_tells_43 ?_
        exact r_iret g dX3_tells_46 rfl rfl
      · intro hi2 he2
        refine r_split ?_ ?_
        · intro hi3 he3
          refine r_tabIn g 47 hi3 dX3_tells_1 (by omega) (by omega) (by rw [he3]; rfl) (by decide) ?_
          refine r_aload_n g dX3_tells_47 rfl ?_
          refine r_getI g KX3 (shStf hq0) 5 rfl (by decide) w_126 dX3_tells_48 ?_
          exact r_iret g dX3_tells_51 rfl rfl
        · intro hi3 he3
          refine r_tabOut g 52 hi0 dX3_tells_1 (by omega) (by decide) ?_
          refine r_aload_n g dX3_tells_52 rfl ?_
          refine r_getI g KX3 (shStf hq0) 6 rfl (by decide) w_129 dX3_tells_53 ?_
          exact r_iret g dX3_tells_56 rfl rfl
theorem tX3_pieceAt_7B {G : Gx} {S : St} {q0 : Nat} {x1 : Int} (g : Ok G cX3_pieceAt RX3 4 { frames := 0, cells := 0, slots := 0, locals := 0 } (some .int))  (hq0 : isStf q0 = true) {k7 : Int → Option (Int)} (hk7 : ∀ (x3' : Int), Rg G oI (fun _ => S) (SHC, 0, 0) (SHC, 0, 0) S 7 [some (vr G q0), some (vl x1), none, some (vi (x3'))] [] (k7 x3')) {x3 : Int} : Rg G oI (fun _ => S) (SHC, 0, 0) (SHC, 0, 0) S 7 [some (vr G q0), some (vl x1), none, some (vi x3)] [] (pX3_pieceAt_7B S q0 x1 k7 x3) := by
  unfold pX3_pieceAt_7B
  refine r_iload_n g dX3_pieceAt_7 rfl ?_
  refine r_if_le g 31 dX3_pieceAt_8 (by decide) ?_ ?_
  · refine r_iconst g dX3_pieceAt_31 ?_
    exact r_iret g dX3_pieceAt_32 rfl rfl
  · refine r_aload_n g dX3_pieceAt_11 rfl ?_
    refine r_getC (c0 := q0 + 1) g KX3 (shStf hq0) 0 rfl (by decide) w_111 dX3_pieceAt_12 ?_
    refine r_iload_n g dX3_pieceAt_15 rfl ?_
    refine r_iald g (shStfX hq0) (by decide) dX3_pieceAt_16 ?_
    intro z2_
    refine r_i2l g dX3_pieceAt_17 ?_
    refine r_lload_n g dX3_pieceAt_18 rfl ?_
    refine r_lcmp_gt g 25 dX3_pieceAt_19 dX3_pieceAt_20 (by decide) ?_ ?_
    · refine r_iinc g dX3_pieceAt_25 (by decide) rfl ?_
      intro x3_3_
      change Rg _ _ _ _ _ _ _ [some (vr G q0), some (vl x1), none, some (vi x3_3_)] _ _
      refine r_goto g 7 dX3_pieceAt_28 (by decide) ?_
      exact hk7 _
    · refine r_iload_n g dX3_pieceAt_23 rfl ?_
      exact r_iret g dX3_pieceAt_24 rfl rfl
theorem tX3_pieceAt_7 {G : Gx} {S : St} {q0 : Nat} {x1 : Int} (g : Ok G cX3_pieceAt RX3 4 { frames := 0, cells := 0, slots := 0, locals := 0 } (some .int))  (hq0 : isStf q0 = true) : ∀ (n_ : Nat) (x3 : Int), Rg G oI (fun _ => S) (SHC, 0, 0) (SHC, 0, 0) S 7 [some (vr G q0), some (vl x1), none, some (vi x3)] [] (lo1 (pX3_pieceAt_7B S q0 x1) n_ x3) := by
  intro n_
  induction n_ with
  | zero => intro x3; exact r_none
  | succ n_ ih => intro x3; exact tX3_pieceAt_7B g  hq0 ih
theorem kX3_pieceAt (S : St) (q0 : Nat) (x1 : Int) (hq0 : isStf q0 = true) : Con yX3_pieceAt cX3_pieceAt 4 (some .int) { frames := 0, cells := 0, slots := 0, locals := 0 } false SHC (SHC, 0, 0) (fun b => [.ref (b + q0), vl x1]) S (fun _ => oI) (fun _ => S) (pX3_pieceAt S q0 x1) := by
  refine Con_of (fun b => [some (.ref (b + q0)), some (vl x1), none, none]) (by decide) (fun _ => rfl) (fun _ => Nat.le_of_ble_eq_true rfl) ?_
  intro G g _ _ _
  change Ok G cX3_pieceAt RX3 4 { frames := 0, cells := 0, slots := 0, locals := 0 } (some .int) at g
  show Rg G oI (fun _ => S) (SHC, 0, 0) (SHC, 0, 0) S 0 [some (vr G q0), some (vl x1), none, none] [] (pX3_pieceAt S q0 x1)
  unfold pX3_pieceAt
  refine r_aload_n g dX3_pieceAt_0 rfl ?_
  refine r_getI g KX3 (shStf hq0) 2 rfl (by decide) w_117 dX3_pieceAt_1 ?_
  refine r_iconst g dX3_pieceAt_4 ?_
  refine r_isub g dX3_pieceAt_5 ?_
  refine r_topi ?_
  intro x3_1_
  refine r_istore_n g 3 dX3_pieceAt_6 rfl (by decide) rfl ?_
  exact tX3_pieceAt_7 g hq0 _ _
theorem tX3_width_9 {G : Gx}  {S : St}  (g : Ok G cX3_width RX3 2 { frames := 1, cells := 0, slots := 0, locals := 24 } (some .int))   : Rg G oI (fun _ => S) (SHC, 0, 0) (SHC, 0, 0) S 9 [none, none] [] (pX3_width_9 S) := by
  unfold pX3_width_9
  refine r_iconst g dX3_width_9 ?_
  refine r_goto g 32 dX3_width_10 (by decide) ?_
  exact r_iret g dX3_width_32 rfl rfl
theorem kX3_width (S : St) (q0 : Nat) (x1 : Int) (hq0 : isStf q0 = true) : Con yX3_width cX3_width 2 (some .int) { frames := 1, cells := 0, slots := 0, locals := 24 } false SHC (SHC, 0, 0) (fun b => [.ref (b + q0), vi x1]) S (fun _ => oI) (fun _ => S) (pX3_width S q0 x1) := by
  refine Con_of (fun b => [some (.ref (b + q0)), some (vi x1)]) (by decide) (fun _ => rfl) (fun _ => Nat.le_of_ble_eq_true rfl) ?_
  intro G g _ _ _
  change Ok G cX3_width RX3 2 { frames := 1, cells := 0, slots := 0, locals := 24 } (some .int) at g
  show Rg G oI (fun _ => S) (SHC, 0, 0) (SHC, 0, 0) S 0 [some (vr G q0), some (vi x1)] [] (pX3_width S q0 x1)
  unfold pX3_width
  refine r_iload_n g dX3_width_0 rfl ?_
  refine r_if_lt g 9 dX3_width_1 (by decide) ?_ ?_
  · refine r_msk [false, false] rfl ?_
    exact tX3_width_9 g
  · refine r_iload_n g dX3_width_4 rfl ?_
    refine r_iconst g dX3_width_5 ?_
    refine r_icmp_lt g 13 dX3_width_6 (by decide) ?_ ?_
    · refine r_iconst g dX3_width_13 ?_
      refine r_aload_n g dX3_width_14 rfl ?_
      refine r_getC (c0 := q0 + 1) g KX3 (shStf hq0) 0 rfl (by decide) w_111 dX3_width_15 ?_
      refine r_iload_n g dX3_width_18 rfl ?_
      refine r_iconst g dX3_width_19 ?_
      refine r_iadd g dX3_width_20 ?_
      refine r_iald g (shStfX hq0) (by decide) dX3_width_21 ?_
      intro z1_
      refine r_aload_n g dX3_width_22 rfl ?_
      refine r_getC (c0 := q0 + 1) g KX3 (shStf hq0) 0 rfl (by decide) w_111 dX3_width_23 ?_
      refine r_iload_n g dX3_width_26 rfl ?_
      refine r_iald g (shStfX hq0) (by decide) dX3_width_27 ?_
      intro z2_
      refine r_isub g dX3_width_28 ?_
      refine rJ9_max_7cf53 g w_472 w_155 w_77 w_156 ⟨by decide, Nat.le_of_ble_eq_true rfl⟩ dX3_width_29 ?_
      intro z3_
      exact r_iret g dX3_width_32 rfl rfl
    · refine r_msk [false, false] rfl ?_
      exact tX3_width_9 g
theorem tX3_rise_9 {G : Gx}  {S : St}  (g : Ok G cX3_rise RX3 2 { frames := 0, cells := 0, slots := 0, locals := 0 } (some .int))   : Rg G oI (fun _ => S) (SHC, 0, 0) (SHC, 0, 0) S 9 [none, none] [] (pX3_rise_9 S) := by
  unfold pX3_rise_9
  refine r_iconst g dX3_rise_9 ?_
  refine r_goto g 28 dX3_rise_10 (by decide) ?_
  exact r_iret g dX3_rise_28 rfl rfl
theorem kX3_rise (S : St) (q0 : Nat) (x1 : Int) (hq0 : isStf q0 = true) : Con yX3_rise cX3_rise 2 (some .int) { frames := 0, cells := 0, slots := 0, locals := 0 } false SHC (SHC, 0, 0) (fun b => [.ref (b + q0), vi x1]) S (fun _ => oI) (fun _ => S) (pX3_rise S q0 x1) := by
  refine Con_of (fun b => [some (.ref (b + q0)), some (vi x1)]) (by decide) (fun _ => rfl) (fun _ => Nat.le_of_ble_eq_true rfl) ?_
  intro G g _ _ _
  change Ok G cX3_rise RX3 2 { frames := 0, cells := 0, slots := 0, locals := 0 } (some .int) at g
  show Rg G oI (fun _ => S) (SHC, 0, 0) (SHC, 0, 0) S 0 [some (vr G q0), some (vi x1)] [] (pX3_rise S q0 x1)
  unfold pX3_rise
  refine r_iload_n g dX3_rise_0 rfl ?_
  refine r_if_lt g 9 dX3_rise_1 (by decide) ?_ ?_
  · refine r_msk [false, false] rfl ?_
    exact tX3_rise_9 g
  · refine r_iload_n g dX3_rise_4 rfl ?_
    refine r_iconst g dX3_rise_5 ?_
    refine r_icmp_lt g 13 dX3_rise_6 (by decide) ?_ ?_
    · refine r_aload_n g dX3_rise_13 rfl ?_
      refine r_getC (c0 := q0 + 2) g KX3 (shStf hq0) 1 rfl (by decide) w_114 dX3_rise_14 ?_
      refine r_iload_n g dX3_rise_17 rfl ?_
      refine r_iconst g dX3_rise_18 ?_
      refine r_iadd g dX3_rise_19 ?_
      refine r_iald g (shStfY hq0) (by decide) dX3_rise_20 ?_
      intro z1_
      refine r_aload_n g dX3_rise_21 rfl ?_
      refine r_getC (c0 := q0 + 2) g KX3 (shStf hq0) 1 rfl (by decide) w_114 dX3_rise_22 ?_
      refine r_iload_n g dX3_rise_25 rfl ?_
      refine r_iald g (shStfY hq0) (by decide) dX3_rise_26 ?_
      intro z2_
      refine r_isub g dX3_rise_27 ?_
      exact r_iret g dX3_rise_28 rfl rfl
    · refine r_msk [false, false] rfl ?_
      exact tX3_rise_9 g
theorem kX3_scaledPush (S : St) (q0 : Nat) (x1 : Int) (hq0 : isStf q0 = true) : Con yX3_scaledPush cX3_scaledPush 3 (some .long) { frames := 2, cells := 0, slots := 0, locals := 45 } false SHC (SHC, 0, 0) (fun b => [.ref (b + q0), vi x1]) S (fun _ => oL) (fun _ => S) (pX3_scaledPush S q0 x1) := by
  refine Con_of (fun b => [some (.ref (b + q0)), some (vi x1), none]) (by decide) (fun _ => rfl) (fun _ => Nat.le_of_ble_eq_true rfl) ?_
  intro G g _ _ _
  change Ok G cX3_scaledPush RX3 3 { frames := 2, cells := 0, slots := 0, locals := 45 } (some .long) at g
  show Rg G oL (fun _ => S) (SHC, 0, 0) (SHC, 0, 0) S 0 [some (vr G q0), some (vi x1), none] [] (pX3_scaledPush S q0 x1)
  unfold pX3_scaledPush
  refine r_aload_n g dX3_scaledPush_0 rfl ?_
  refine r_iload_n g dX3_scaledPush_1 rfl ?_
  refine r_i2l g dX3_scaledPush_2 ?_
  refine r_callV_PI (q := q0) (as := fun b => [vl x1]) g (kX3_pieceAt S q0 x1 hq0) mX3_pieceAt (shStf hq0) rfl w_459 w_460 w_461 (by decide) (fun _ => rfl) rfl (Nat.le_of_ble_eq_true rfl) dX3_scaledPush_3 ?_
  intro z1_
  refine r_istore_n g 2 dX3_scaledPush_6 rfl (by decide) rfl ?_
  refine r_aload_n g dX3_scaledPush_7 rfl ?_
  refine r_getC (c0 := q0 + 2) g KX3 (shStf hq0) 1 rfl (by decide) w_114 dX3_scaledPush_8 ?_
  refine r_iload_n g dX3_scaledPush_11 rfl ?_
  refine r_iald g (shStfY hq0) (by decide) dX3_scaledPush_12 ?_
  intro z2_
  refine r_i2l g dX3_scaledPush_13 ?_
  refine r_ldc2 (x := 232792560) g dX3_scaledPush_14 w_463 (by decide) ?_
  refine r_lmul g dX3_scaledPush_17 ?_
  refine r_iload_n g dX3_scaledPush_18 rfl ?_
  refine r_aload_n g dX3_scaledPush_19 rfl ?_
  refine r_getC (c0 := q0 + 1) g KX3 (shStf hq0) 0 rfl (by decide) w_111 dX3_scaledPush_20 ?_
  refine r_iload_n g dX3_scaledPush_23 rfl ?_
  refine r_iald g (shStfX hq0) (by decide) dX3_scaledPush_24 ?_
  intro z3_
  refine r_isub g dX3_scaledPush_25 ?_
  refine r_i2l g dX3_scaledPush_26 ?_
  refine r_aload_n g dX3_scaledPush_27 rfl ?_
  refine r_iload_n g dX3_scaledPush_28 rfl ?_
  refine r_callV_PI (q := q0) (as := fun b => [vi z1_]) g (kX3_rise S q0 z1_ hq0) mX3_rise (shStf hq0) rfl w_464 w_465 w_466 (by decide) (fun _ => rfl) rfl (Nat.le_of_ble_eq_true rfl) dX3_scaledPush_29 ?_
  intro z4_
  refine r_i2l g dX3_scaledPush_32 ?_
  refine r_ldc2 (x := 232792560) g dX3_scaledPush_33 w_463 (by decide) ?_
  refine r_aload_n g dX3_scaledPush_36 rfl ?_
  refine r_iload_n g dX3_scaledPush_37 rfl ?_
  refine r_callV_PI (q := q0) (as := fun b => [vi z1_]) g (kX3_width S q0 z1_ hq0) mX3_width (shStf hq0) rfl w_468 w_469 w_470 (by decide) (fun _ => rfl) rfl (Nat.le_of_ble_eq_true rfl) dX3_scaledPush_38 ?_
  intro z5_
  refine r_i2l g dX3_scaledPush_41 ?_
  refine r_ldiv g dX3_scaledPush_42 ?_
  intro z6_
  refine r_lmul g dX3_scaledPush_43 ?_
  refine r_lmul g dX3_scaledPush_44 ?_
  refine r_ladd g dX3_scaledPush_45 ?_
  exact r_lret g dX3_scaledPush_46 rfl rfl
theorem tX3_fits_2B {G : Gx} {S : St} {q0 : Nat} {q1 : Nat} {x2 : Int} (g : Ok G cX3_fits RX3 6 { frames := 3, cells := 0, slots := 0, locals := 67 } (some .boolean))  (hq0 : isStf q0 = true) (hq1 : isRow q1 = true) {k2 : Int → Option (Int)} (hk2 : ∀ (x3' : Int), Rg G oI (fun _ => S) (SHC, 0, 0) (SHC, 0, 0) S 2 [some (vr G q0), some (vr G q1), some (vi x2), some (vi (x3')), none, none] [] (k2 x3')) {x3 : Int} : Rg G oI (fun _ => S) (SHC, 0, 0) (SHC, 0, 0) S 2 [some (vr G q0), some (vr G q1), some (vi x2), some (vi x3), none, none] [] (pX3_fits_2B S q0 q1 x2 k2 x3) := by
  unfold pX3_fits_2B
  refine r_iload_n g dX3_fits_2 rfl ?_
  refine r_iconst g dX3_fits_3 ?_
  refine r_iadd g dX3_fits_4 ?_
  refine r_aload_n g dX3_fits_5 rfl ?_
  refine r_getI g KX1 (shRow hq1) 1 rfl (by decide) w_164 dX3_fits_6 ?_
  refine r_icmp_ge g 61 dX3_fits_9 (by decide) ?_ ?_
  · refine r_iconst g dX3_fits_61 ?_
    exact r_zret0 g (by decide) dX3_fits_62 rfl rfl
  · refine r_aload_n g dX3_fits_12 rfl ?_
    refine r_aload_n g dX3_fits_13 rfl ?_
    refine r_getC (c0 := q1 + 1) g KX1 (shRow hq1) 0 rfl (by decide) w_160 dX3_fits_14 ?_
    refine r_iload_n g dX3_fits_17 rfl ?_
    refine r_iald g (shRowA hq1) (rlen_le _) dX3_fits_18 ?_
    intro z1_
    refine r_callV_PL (q := q0) (as := fun b => [vi z1_]) g (kX3_scaledPush S q0 z1_ hq0) mX3_scaledPush (shStf hq0) rfl w_720 w_456 w_457 (by decide) (fun _ => rfl) rfl (Nat.le_of_ble_eq_true rfl) dX3_fits_19 ?_
    intro z2_
    refine r_aload_n g dX3_fits_22 rfl ?_
    refine r_getC (c0 := q1 + 1) g KX1 (shRow hq1) 0 rfl (by decide) w_160 dX3_fits_23 ?_
    refine r_iload_n g dX3_fits_26 rfl ?_
    refine r_iconst g dX3_fits_27 ?_
    refine r_iadd g dX3_fits_28 ?_
    refine r_iald g (shRowA hq1) (rlen_le _) dX3_fits_29 ?_
    intro z3_
    refine r_i2l g dX3_fits_30 ?_
    refine r_ldc2 (x := 232792560) g dX3_fits_31 w_463 (by decide) ?_
    refine r_lmul g dX3_fits_34 ?_
    refine r_lsub g dX3_fits_35 ?_
    refine r_topl ?_
    intro x4_4_
    refine r_lstore g dX3_fits_36 (by decide) rfl ?_
    refine r_lload g dX3_fits_38 rfl ?_
    refine rJ9_abs_067f4 g w_721 w_722 w_77 w_723 ⟨by decide, Nat.le_of_ble_eq_true rfl⟩ dX3_fits_40 ?_
    intro z5_
    refine r_iload_n g dX3_fits_43 rfl ?_
    refine r_i2l g dX3_fits_44 ?_
    refine r_ldc2 (x := 232792560) g dX3_fits_45 w_463 (by decide) ?_
    refine r_lmul g dX3_fits_48 ?_
    refine r_lcmp_le g 55 dX3_fits_49 dX3_fits_50 (by decide) ?_ ?_
    · refine r_iinc g dX3_fits_55 (by decide) rfl ?_
      intro x3_6_
      change Rg _ _ _ _ _ _ _ [some (vr G q0), some (vr G q1), some (vi x2), some (vi x3_6_), some (vl x4_4_), none] _ _
      refine r_goto g 2 dX3_fits_58 (by decide) ?_
      refine r_msk [true, true, true, true, false, false] rfl ?_
      exact hk2 _
    · refine r_iconst g dX3_fits_53 ?_
      exact r_zret0 g (by decide) dX3_fits_54 rfl rfl
theorem tX3_fits_2 {G : Gx} {S : St} {q0 : Nat} {q1 : Nat} {x2 : Int} (g : Ok G cX3_fits RX3 6 { frames := 3, cells := 0, slots := 0, locals := 67 } (some .boolean))  (hq0 : isStf q0 = true) (hq1 : isRow q1 = true) : ∀ (n_ : Nat) (x3 : Int), Rg G oI (fun _ => S) (SHC, 0, 0) (SHC, 0, 0) S 2 [some (vr G q0), some (vr G q1), some (vi x2), some (vi x3), none, none] [] (lo1 (pX3_fits_2B S q0 q1 x2) n_ x3) := by
  intro n_
  induction n_ with
  | zero => intro x3; exact r_none
  | succ n_ ih => intro x3; exact tX3_fits_2B g  hq0 hq1 ih
theorem kX3_fits (S : St) (q0 : Nat) (q1 : Nat) (x2 : Int) (hq0 : isStf q0 = true) (hq1 : isRow q1 = true) : Con yX3_fits cX3_fits 6 (some .boolean) { frames := 3, cells := 0, slots := 0, locals := 67 } false SHC (SHC, 0, 0) (fun b => [.ref (b + q0), .ref (b + q1), vi x2]) S (fun _ => oI) (fun _ => S) (pX3_fits S q0 q1 x2) := by
  refine Con_of (fun b => [some (.ref (b + q0)), some (.ref (b + q1)), some (vi x2), none, none, none]) (by decide) (fun _ => rfl) (fun _ => Nat.le_of_ble_eq_true rfl) ?_
  intro G g _ _ _
  change Ok G cX3_fits RX3 6 { frames := 3, cells := 0, slots := 0, locals := 67 } (some .boolean) at g
  show Rg G oI (fun _ => S) (SHC, 0, 0) (SHC, 0, 0) S 0 [some (vr G q0), some (vr G q1), some (vi x2), none, none, none] [] (pX3_fits S q0 q1 x2)
  unfold pX3_fits
  refine r_iconst g dX3_fits_0 ?_
  refine r_istore_n g 3 dX3_fits_1 rfl (by decide) rfl ?_
  exact tX3_fits_2 g hq0 hq1 _ _
theorem tX3_mixInto_47B {G : Gx} {S : St} {q0 : Nat} (g : Ok G cX3_mixInto RX3 6 { frames := 1, cells := 0, slots := 0, locals := 23 } (some .long))  (hq0 : isStf q0 = true) {k47 : Int → Int → Option (Int)} (hk47 : ∀ (x3' : Int) (x5' : Int), Rg G oL (fun _ => S) (SHC, 0, 0) (SHC, 0, 0) S 47 [some (vr G q0), none, none, some (vl (x3')), none, some (vi (x5'))] [] (k47 x3' x5')) {x3 : Int} {x5 : Int} : Rg G oL (fun _ => S) (SHC, 0, 0) (SHC, 0, 0) S 47 [some (vr G q0), none, none, some (vl x3), none, some (vi x5)] [] (pX3_mixInto_47B S q0 k47 x3 x5) := by
  unfold pX3_mixInto_47B
  refine r_iload g dX3_mixInto_47 rfl ?_
  refine r_aload_n g dX3_mixInto_49 rfl ?_
  refine r_getI g KX3 (shStf hq0) 2 rfl (by decide) w_117 dX3_mixInto_50 ?_
  refine r_icmp_gt g 86 dX3_mixInto_53 (by decide) ?_ ?_
  · refine r_lload_n g dX3_mixInto_86 rfl ?_
    exact r_lret g dX3_mixInto_87 rfl rfl
  · refine r_lload_n g dX3_mixInto_56 rfl ?_
    refine r_aload_n g dX3_mixInto_57 rfl ?_
    refine r_getC (c0 := q0 + 1) g KX3 (shStf hq0) 0 rfl (by decide) w_111 dX3_mixInto_58 ?_
    refine r_iload g dX3_mixInto_61 rfl ?_
    refine r_iald g (shStfX hq0) (by decide) dX3_mixInto_63 ?_
    intro z2_
    refine r_i2l g dX3_mixInto_64 ?_
    refine r_callSN_PL g (kX5_mix S x3 z2_) mX5_mix w_857 w_839 (by decide) (fun _ => rfl) rfl (Nat.le_of_ble_eq_true rfl) dX3_mixInto_65 ?_
    intro z3_
    refine r_aload_n g dX3_mixInto_68 rfl ?_
    refine r_getC (c0 := q0 + 2) g KX3 (shStf hq0) 1 rfl (by decide) w_114 dX3_mixInto_69 ?_
    refine r_iload g dX3_mixInto_72 rfl ?_
    refine r_iald g (shStfY hq0) (by decide) dX3_mixInto_74 ?_
    intro z4_
    refine r_i2l g dX3_mixInto_75 ?_
    refine r_callSN_PL g (kX5_mix S z3_ z4_) mX5_mix w_857 w_839 (by decide) (fun _ => rfl) rfl (Nat.le_of_ble_eq_true rfl) dX3_mixInto_76 ?_
    intro z5_
    refine r_lstore_n g 3 dX3_mixInto_79 rfl (by decide) rfl ?_
    refine r_iinc g dX3_mixInto_80 (by decide) rfl ?_
    intro x5_6_
    change Rg _ _ _ _ _ _ _ [some (vr G q0), none, none, some (vl z5_), none, some (vi x5_6_)] _ _
    refine r_goto g 47 dX3_mixInto_83 (by decide) ?_
    exact hk47 _ _
theorem tX3_mixInto_47 {G : Gx} {S : St} {q0 : Nat} (g : Ok G cX3_mixInto RX3 6 { frames := 1, cells := 0, slots := 0, locals := 23 } (some .long))  (hq0 : isStf q0 = true) : ∀ (n_ : Nat) (x3 : Int) (x5 : Int), Rg G oL (fun _ => S) (SHC, 0, 0) (SHC, 0, 0) S 47 [some (vr G q0), none, none, some (vl x3), none, some (vi x5)] [] (lo2 (pX3_mixInto_47B S q0) n_ x3 x5) := by
  intro n_
  induction n_ with
  | zero => intro x3 x5; exact r_none
  | succ n_ ih => intro x3 x5; exact tX3_mixInto_47B g  hq0 ih
theorem tX3_mixInto_20B {G : Gx} {S : St} {q0 : Nat} (g : Ok G cX3_mixInto RX3 6 { frames := 1, cells := 0, slots := 0, locals := 23 } (some .long))  (hq0 : isStf q0 = true) {k20 : Int → Int → Option (Int)} (hk20 : ∀ (x3' : Int) (x5' : Int), Rg G oL (fun _ => S) (SHC, 0, 0) (SHC, 0, 0) S 20 [some (vr G q0), none, none, some (vl (x3')), none, some (vi (x5'))] [] (k20 x3' x5')) {x3 : Int} {x5 : Int} : Rg G oL (fun _ => S) (SHC, 0, 0) (SHC, 0, 0) S 20 [some (vr G q0), none, none, some (vl x3), none, some (vi x5)] [] (pX3_mixInto_20B S q0 k20 x3 x5) := by
  unfold pX3_mixInto_20B
  refine r_iload g dX3_mixInto_20 rfl ?_
  refine r_iconst g dX3_mixInto_22 ?_
  refine r_icmp_gt g 44 dX3_mixInto_23 (by decide) ?_ ?_
  · refine r_iconst g dX3_mixInto_44 ?_
    refine r_istore g dX3_mixInto_45 (by decide) rfl ?_
    exact tX3_mixInto_47 g hq0 _ _ _
  · refine r_lload_n g dX3_mixInto_26 rfl ?_
    refine r_aload_n g dX3_mixInto_27 rfl ?_
    refine r_iload g dX3_mixInto_28 rfl ?_
    refine r_callV_PI (q := q0) (as := fun b => [vi x5]) g (kX3_tells S q0 x5 hq0) mX3_tells (shStf hq0) rfl w_858 w_448 w_449 (by decide) (fun _ => rfl) rfl (Nat.le_of_ble_eq_true rfl) dX3_mixInto_30 ?_
    intro z7_
    refine r_i2l g dX3_mixInto_33 ?_
    refine r_callSN_PL g (kX5_mix S x3 z7_) mX5_mix w_857 w_839 (by decide) (fun _ => rfl) rfl (Nat.le_of_ble_eq_true rfl) dX3_mixInto_34 ?_
    intro z8_
    refine r_lstore_n g 3 dX3_mixInto_37 rfl (by decide) rfl ?_
    refine r_iinc g dX3_mixInto_38 (by decide) rfl ?_
    intro x5_9_
    change Rg _ _ _ _ _ _ _ [some (vr G q0), none, none, some (vl z8_), none, some (vi x5_9_)] _ _
    refine r_goto g 20 dX3_mixInto_41 (by decide) ?_
    exact hk20 _ _
theorem tX3_mixInto_20 {G : Gx} {S : St} {q0 : Nat} (g : Ok G cX3_mixInto RX3 6 { frames := 1, cells := 0, slots := 0, locals := 23 } (some .long))  (hq0 : isStf q0 = true) : ∀ (n_ : Nat) (x3 : Int) (x5 : Int), Rg G oL (fun _ => S) (SHC, 0, 0) (SHC, 0, 0) S 20 [some (vr G q0), none, none, some (vl x3), none, some (vi x5)] [] (lo2 (pX3_mixInto_20B S q0) n_ x3 x5) := by
  intro n_
  induction n_ with
  | zero => intro x3 x5; exact r_none
  | succ n_ ih => intro x3 x5; exact tX3_mixInto_20B g  hq0 ih
theorem kX3_mixInto (S : St) (q0 : Nat) (x1 : Int) (hq0 : isStf q0 = true) : Con yX3_mixInto cX3_mixInto 6 (some .long) { frames := 1, cells := 0, slots := 0, locals := 23 } false SHC (SHC, 0, 0) (fun b => [.ref (b + q0), vl x1]) S (fun _ => oL) (fun _ => S) (pX3_mixInto S q0 x1) := by
  refine Con_of (fun b => [some (.ref (b + q0)), some (vl x1), none, none, none, none]) (by decide) (fun _ => rfl) (fun _ => Nat.le_of_ble_eq_true rfl) ?_
  intro G g _ _ _
  change Ok G cX3_mixInto RX3 6 { frames := 1, cells := 0, slots := 0, locals := 23 } (some .long) at g
  show Rg G oL (fun _ => S) (SHC, 0, 0) (SHC, 0, 0) S 0 [some (vr G q0), some (vl x1), none, none, none, none] [] (pX3_mixInto S q0 x1)
  unfold pX3_mixInto
  refine r_aload_n g dX3_mixInto_0 rfl ?_
  refine r_callV_PI (q := q0) (as := fun b => []) g (kX3_isMissing S q0 hq0) mX3_isMissing (shStf hq0) rfl w_855 w_428 w_429 (by decide) (fun _ => rfl) rfl (Nat.le_of_ble_eq_true rfl) dX3_mixInto_1 ?_
  intro z1_
  refine r_if_eq g 15 dX3_mixInto_4 (by decide) ?_ ?_
  · refine r_lload_n g dX3_mixInto_15 rfl ?_
    refine r_lstore_n g 3 dX3_mixInto_16 rfl (by decide) rfl ?_
    refine r_iconst g dX3_mixInto_17 ?_
    refine r_istore g dX3_mixInto_18 (by decide) rfl ?_
    refine r_msk [true, false, false, true, false, true] rfl ?_
    exact tX3_mixInto_20 g hq0 _ _ _
  · refine r_lload_n g dX3_mixInto_7 rfl ?_
    refine r_ldc2 (x := (-1)) g dX3_mixInto_8 w_856 (by decide) ?_
    refine r_callSN_PL g (kX5_mix S x1 ((-1))) mX5_mix w_857 w_839 (by decide) (fun _ => rfl) rfl (Nat.le_of_ble_eq_true rfl) dX3_mixInto_11 ?_
    intro z10_
    exact r_lret g dX3_mixInto_14 rfl rfl
theorem kX5_within (S : St) (x0 : Int) (x1 : Int) (x2 : Int)  : Con yX5_within cX5_within 3 (some .boolean) { frames := 0, cells := 0, slots := 0, locals := 0 } false SHC (SHC, 0, 0) (fun b => [vi x0, vi x1, vi x2]) S (fun _ => oI) (fun _ => S) (pX5_within x0 x1 x2) := by
  refine Con_of (fun b => [some (vi x0), some (vi x1), some (vi x2)]) (by decide) (fun _ => rfl) (fun _ => Nat.le_of_ble_eq_true rfl) ?_
  intro G g _ _ _
  change Ok G cX5_within RX5 3 { frames := 0, cells := 0, slots := 0, locals := 0 } (some .boolean) at g
  show Rg G oI (fun _ => S) (SHC, 0, 0) (SHC, 0, 0) S 0 [some (vi x0), some (vi x1), some (vi x2)] [] (pX5_within x0 x1 x2)
  unfold pX5_within
  refine r_iload_n g dX5_within_0 rfl ?_
  refine r_iload_n g dX5_within_1 rfl ?_
  refine r_icmp_lt g 14 dX5_within_2 (by decide) ?_ ?_
  · refine r_iconst g dX5_within_14 ?_
    exact r_zret0 g (by decide) dX5_within_15 rfl rfl
  · refine r_iload_n g dX5_within_5 rfl ?_
    refine r_iload_n g dX5_within_6 rfl ?_
    refine r_icmp_gt g 14 dX5_within_7 (by decide) ?_ ?_
    · refine r_iconst g dX5_within_14 ?_
      exact r_zret0 g (by decide) dX5_within_15 rfl rfl
    · refine r_iconst g dX5_within_10 ?_
      refine r_goto g 15 dX5_within_11 (by decide) ?_
      exact r_zret0 g (by decide) dX5_within_15 rfl rfl
theorem kX5_isPlace (S : St) (x0 : Int)  : Con yX5_isPlace cX5_isPlace 1 (some .boolean) { frames := 1, cells := 0, slots := 0, locals := 22 } false SHC (SHC, 0, 0) (fun b => [vi x0]) S (fun _ => oI) (fun _ => S) (pX5_isPlace x0) := by
  refine Con_of (fun b => [some (vi x0)]) (by decide) (fun _ => rfl) (fun _ => Nat.le_of_ble_eq_true rfl) ?_
  intro G g _ _ _
  change Ok G cX5_isPlace RX5 1 { frames := 1, cells := 0, slots := 0, locals := 22 } (some .boolean) at g
  show Rg G oI (fun _ => S) (SHC, 0, 0) (SHC, 0, 0) S 0 [some (vi x0)] [] (pX5_isPlace x0)
  unfold pX5_isPlace
  refine r_iload_n g dX5_isPlace_0 rfl ?_
  refine r_iconst g dX5_isPlace_1 ?_
  refine r_iconst g dX5_isPlace_2 ?_
  refine r_callS_PI g (kX5_within S x0 0 3) mX5_within w_324 w_325 (by decide) (fun _ => rfl) rfl (Nat.le_of_ble_eq_true rfl) dX5_isPlace_3 ?_
  intro z1_
  exact r_zret g dX5_isPlace_6 rfl rfl
theorem tX4_layDown_45 {G : Gx}  {S : St} {x1 : Int} {q2 : Nat} {x3 : Int} {q4 : Nat} {s0 : Int} {s1 : Int} (g : Ok G cX4_layDown RX4 5 { frames := 2, cells := 0, slots := 0, locals := 42 } none)  (hq2 : isSeal q2 = true) (hq4 : isStf q4 = true) : Rg G oVS id (SHC, 0, 0) (SHC, 0, 0) S 45 [some (vr G 13), some (vi x1), some (vr G q2), some (vi x3), some (vr G q4)] [vi s0, vi s1, vr G 14] (pX4_layDown_45 S x1 q2 x3 q4 s0 s1) := by
  unfold pX4_layDown_45
  refine r_zast g shc_14 (by decide) dX4_layDown_45 ?_
  intro S5_
  refine r_aload_n g dX4_layDown_46 rfl ?_
  refine r_getC (c0 := 16) g KX4 shc_13 2 rfl (by decide) w_191 dX4_layDown_47 ?_
  refine r_iload_n g dX4_layDown_50 rfl ?_
  refine r_aload_n g dX4_layDown_51 rfl ?_
  refine r_getI g KX2 (shSeal hq2) 3 rfl (by decide) w_250 dX4_layDown_52 ?_
  refine r_iload_n g dX4_layDown_55 rfl ?_
  refine r_isub g dX4_layDown_56 ?_
  refine r_iast g shc_16 (by decide) dX4_layDown_57 ?_
  intro S6_
  refine r_aload_n g dX4_layDown_58 rfl ?_
  refine r_getC (c0 := 17) g KX4 shc_13 3 rfl (by decide) w_193 dX4_layDown_59 ?_
  refine r_iload_n g dX4_layDown_62 rfl ?_
  refine r_aload_n g dX4_layDown_63 rfl ?_
  refine r_getI g KX2 (shSeal hq2) 4 rfl (by decide) w_253 dX4_layDown_64 ?_
  refine r_iast g shc_17 (by decide) dX4_layDown_67 ?_
  intro S7_
  refine r_aload_n g dX4_layDown_68 rfl ?_
  refine r_getC (c0 := 18) g KX4 shc_13 4 rfl (by decide) w_194 dX4_layDown_69 ?_
  refine r_iload_n g dX4_layDown_72 rfl ?_
  refine r_aload g dX4_layDown_73 rfl ?_
  refine r_aast (vc := (RX3, TX3, 7)) g 1 (fun _ => rfl) shc_18 (shStf hq4) rfl (by decide) dX4_layDown_75 ?_
  intro S8_
  exact r_vret g dX4_layDown_76 rfl rfl
theorem tX4_layDown_44 {G : Gx}  {S : St} {x1 : Int} {q2 : Nat} {x3 : Int} {q4 : Nat} {s0 : Int} (g : Ok G cX4_layDown RX4 5 { frames := 2, cells := 0, slots := 0, locals := 42 } none)  (hq2 : isSeal q2 = true) (hq4 : isStf q4 = true) : Rg G oVS id (SHC, 0, 0) (SHC, 0, 0) S 44 [some (vr G 13), some (vi x1), some (vr G q2), some (vi x3), some (vr G q4)] [vi s0, vr G 14] (pX4_layDown_44 S x1 q2 x3 q4 s0) := by
  unfold pX4_layDown_44
  refine r_iconst g dX4_layDown_44 ?_
  exact tX4_layDown_45 g hq2 hq4
theorem kX4_layDown (S : St) (x1 : Int) (q2 : Nat) (x3 : Int) (q4 : Nat) (hq2 : isSeal q2 = true) (hq4 : isStf q4 = true) : Con yX4_layDown cX4_layDown 5 none { frames := 2, cells := 0, slots := 0, locals := 42 } false SHC (SHC, 0, 0) (fun b => [.ref (b + 13), vi x1, .ref (b + q2), vi x3, .ref (b + q4)]) S (fun _ => oVS) id (pX4_layDown S x1 q2 x3 q4) := by
  refine Con_of (fun b => [some (.ref (b + 13)), some (vi x1), some (.ref (b + q2)), some (vi x3), some (.ref (b + q4))]) (by decide) (fun _ => rfl) (fun _ => Nat.le_of_ble_eq_true rfl) ?_
  intro G g _ _ _
  change Ok G cX4_layDown RX4 5 { frames := 2, cells := 0, slots := 0, locals := 42 } none at g
  show Rg G oVS id (SHC, 0, 0) (SHC, 0, 0) S 0 [some (vr G 13), some (vi x1), some (vr G q2), some (vi x3), some (vr G q4)] [] (pX4_layDown S x1 q2 x3 q4)
  unfold pX4_layDown
  refine r_iload_n g dX4_layDown_0 rfl ?_
  refine r_callSN_PI g (kX5_isPlace S x1) mX5_isPlace w_569 w_489 (by decide) (fun _ => rfl) rfl (Nat.le_of_ble_eq_true rfl) dX4_layDown_1 ?_
  intro z1_
  refine r_if_ne g 8 dX4_layDown_4 (by decide) ?_ ?_
  · refine r_aload_n g dX4_layDown_8 rfl ?_
    refine r_getC (c0 := 15) g KX4 shc_13 1 rfl (by decide) w_189 dX4_layDown_9 ?_
    refine r_iload_n g dX4_layDown_12 rfl ?_
    refine r_aload_n g dX4_layDown_13 rfl ?_
    refine r_iconst g dX4_layDown_14 ?_
    refine r_callV_PI (q := q2) (as := fun b => [vi 1]) g (kX2_is S q2 1 hq2) mX2_is (shSeal hq2) rfl w_570 w_516 w_517 (by decide) (fun _ => rfl) rfl (Nat.le_of_ble_eq_true rfl) dX4_layDown_15 ?_
    intro z2_
    refine r_zast g shc_15 (by decide) dX4_layDown_18 ?_
    intro S3_
    refine r_aload_n g dX4_layDown_19 rfl ?_
    refine r_getC (c0 := 14) g KX4 shc_13 0 rfl (by decide) w_188 dX4_layDown_20 ?_
    refine r_iload_n g dX4_layDown_23 rfl ?_
    refine r_aload_n g dX4_layDown_24 rfl ?_
    refine r_callV_PI (q := q2) (as := fun b => []) g (kX2_isMissing S3_ q2 hq2) mX2_isMissing (shSeal hq2) rfl w_571 w_500 w_501 (by decide) (fun _ => rfl) rfl (Nat.le_of_ble_eq_true rfl) dX4_layDown_25 ?_
    intro z4_
    refine r_if_ne g 44 dX4_layDown_28 (by decide) ?_ ?_
    · exact tX4_layDown_44 g hq2 hq4
    · refine r_aload_n g dX4_layDown_31 rfl ?_
      refine r_getC (c0 := 15) g KX4 shc_13 1 rfl (by decide) w_189 dX4_layDown_32 ?_
      refine r_iload_n g dX4_layDown_35 rfl ?_
      refine r_zald g shc_15 (by decide) dX4_layDown_36 ?_
      intro z9_
      refine r_if_ne g 44 dX4_layDown_37 (by decide) ?_ ?_
      · exact tX4_layDown_44 g hq2 hq4
      · refine r_iconst g dX4_layDown_40 ?_
        refine r_goto g 45 dX4_layDown_41 (by decide) ?_
        exact tX4_layDown_45 g hq2 hq4
  · exact r_vret g dX4_layDown_7 rfl rfl
theorem tX4_floorHeight_29 {G : Gx} {k4 : Int → Int → Option (Int)} {S : St} {x1 : Int} {x2 : Int} (g : Ok G cX4_floorHeight RX4 3 { frames := 1, cells := 0, slots := 0, locals := 24 } (some .int)) (hk4 : ∀ (x1' : Int) (x2' : Int), Rg G oI (fun _ => S) (SHC, 0, 0) (SHC, 0, 0) S 4 [some (vr G 13), some (vi (x1')), some (vi (x2'))] [] (k4 x1' x2'))  : Rg G oI (fun _ => S) (SHC, 0, 0) (SHC, 0, 0) S 29 [some (vr G 13), some (vi x1), some (vi x2)] [] (pX4_floorHeight_29 k4 S x1 x2) := by
  unfold pX4_floorHeight_29
  refine r_iinc g dX4_floorHeight_29 (by decide) rfl ?_
  intro x2_2_
  change Rg _ _ _ _ _ _ _ [some (vr G 13), some (vi x1), some (vi x2_2_)] _ _
  refine r_goto g 4 dX4_floorHeight_32 (by decide) ?_
  exact hk4 _ _
theorem tX4_floorHeight_4B {G : Gx} {S : St} (g : Ok G cX4_floorHeight RX4 3 { frames := 1, cells := 0, slots := 0, locals := 24 } (some .int))   {k4 : Int → Int → Option (Int)} (hk4 : ∀ (x1' : Int) (x2' : Int), Rg G oI (fun _ => S) (SHC, 0, 0) (SHC, 0, 0) S 4 [some (vr G 13), some (vi (x1')), some (vi (x2'))] [] (k4 x1' x2')) {x1 : Int} {x2 : Int} : Rg G oI (fun _ => S) (SHC, 0, 0) (SHC, 0, 0) S 4 [some (vr G 13), some (vi x1), some (vi x2)] [] (pX4_floorHeight_4B S k4 x1 x2) := by
  unfold pX4_floorHeight_4B
  refine r_iload_n g dX4_floorHeight_4 rfl ?_
  refine r_iconst g dX4_floorHeight_5 ?_
  refine r_icmp_ge g 35 dX4_floorHeight_6 (by decide) ?_ ?_
  · refine r_iload_n g dX4_floorHeight_35 rfl ?_
    exact r_iret g dX4_floorHeight_36 rfl rfl
  · refine r_aload_n g dX4_floorHeight_9 rfl ?_
    refine r_getC (c0 := 14) g KX4 shc_13 0 rfl (by decide) w_188 dX4_floorHeight_10 ?_
    refine r_iload_n g dX4_floorHeight_13 rfl ?_
    refine r_zald g shc_14 (by decide) dX4_floorHeight_14 ?_
    intro z1_
    refine r_if_eq g 29 dX4_floorHeight_15 (by decide) ?_ ?_
    · exact tX4_floorHeight_29 g hk4
    · refine r_iload_n g dX4_floorHeight_18 rfl ?_
      refine r_aload_n g dX4_floorHeight_19 rfl ?_
      refine r_getC (c0 := 16) g KX4 shc_13 2 rfl (by decide) w_191 dX4_floorHeight_20 ?_
      refine r_iload_n g dX4_floorHeight_23 rfl ?_
      refine r_iald g shc_16 (by decide) dX4_floorHeight_24 ?_
      intro z3_
      refine rJ9_max_7cf53 g w_580 w_155 w_77 w_156 ⟨by decide, Nat.le_of_ble_eq_true rfl⟩ dX4_floorHeight_25 ?_
      intro z4_
      refine r_istore_n g 1 dX4_floorHeight_28 rfl (by decide) rfl ?_
      exact tX4_floorHeight_29 g hk4
theorem tX4_floorHeight_4 {G : Gx} {S : St} (g : Ok G cX4_floorHeight RX4 3 { frames := 1, cells := 0, slots := 0, locals := 24 } (some .int))   : ∀ (n_ : Nat) (x1 : Int) (x2 : Int), Rg G oI (fun _ => S) (SHC, 0, 0) (SHC, 0, 0) S 4 [some (vr G 13), some (vi x1), some (vi x2)] [] (lo2 (pX4_floorHeight_4B S) n_ x1 x2) := by
  intro n_
  induction n_ with
  | zero => intro x1 x2; exact r_none
  | succ n_ ih => intro x1 x2; exact tX4_floorHeight_4B g   ih
theorem kX4_floorHeight (S : St)  : Con yX4_floorHeight cX4_floorHeight 3 (some .int) { frames := 1, cells := 0, slots := 0, locals := 24 } false SHC (SHC, 0, 0) (fun b => [.ref (b + 13)]) S (fun _ => oI) (fun _ => S) (pX4_floorHeight S) := by
  refine Con_of (fun b => [some (.ref (b + 13)), none, none]) (by decide) (fun _ => rfl) (fun _ => Nat.le_of_ble_eq_true rfl) ?_
  intro G g _ _ _
  change Ok G cX4_floorHeight RX4 3 { frames := 1, cells := 0, slots := 0, locals := 24 } (some .int) at g
  show Rg G oI (fun _ => S) (SHC, 0, 0) (SHC, 0, 0) S 0 [some (vr G 13), none, none] [] (pX4_floorHeight S)
  unfold pX4_floorHeight
  refine r_iconst g dX4_floorHeight_0 ?_
  refine r_istore_n g 1 dX4_floorHeight_1 rfl (by decide) rfl ?_
  refine r_iconst g dX4_floorHeight_2 ?_
  refine r_istore_n g 2 dX4_floorHeight_3 rfl (by decide) rfl ?_
  exact tX4_floorHeight_4 g _ _ _
theorem tX4_highestTop_29 {G : Gx} {k4 : Int → Int → Option (Int)} {S : St} {x2 : Int} {x3 : Int} (g : Ok G cX4_highestTop RX4 4 { frames := 1, cells := 0, slots := 0, locals := 24 } (some .int)) (hk4 : ∀ (x2' : Int) (x3' : Int), Rg G oI (fun _ => S) (SHC, 0, 0) (SHC, 0, 0) S 4 [some (vr G 13), none, some (vi (x2')), some (vi (x3'))] [] (k4 x2' x3'))  : Rg G oI (fun _ => S) (SHC, 0, 0) (SHC, 0, 0) S 29 [some (vr G 13), none, some (vi x2), some (vi x3)] [] (pX4_highestTop_29 k4 S x2 x3) := by
  unfold pX4_highestTop_29
  refine r_iinc g dX4_highestTop_29 (by decide) rfl ?_
  intro x3_2_
  change Rg _ _ _ _ _ _ _ [some (vr G 13), none, some (vi x2), some (vi x3_2_)] _ _
  refine r_goto g 4 dX4_highestTop_32 (by decide) ?_
  exact hk4 _ _
theorem tX4_highestTop_4B {G : Gx} {S : St} (g : Ok G cX4_highestTop RX4 4 { frames := 1, cells := 0, slots := 0, locals := 24 } (some .int))   {k4 : Int → Int → Option (Int)} (hk4 : ∀ (x2' : Int) (x3' : Int), Rg G oI (fun _ => S) (SHC, 0, 0) (SHC, 0, 0) S 4 [some (vr G 13), none, some (vi (x2')), some (vi (x3'))] [] (k4 x2' x3')) {x2 : Int} {x3 : Int} : Rg G oI (fun _ => S) (SHC, 0, 0) (SHC, 0, 0) S 4 [some (vr G 13), none, some (vi x2), some (vi x3)] [] (pX4_highestTop_4B S k4 x2 x3) := by
  unfold pX4_highestTop_4B
  refine r_iload_n g dX4_highestTop_4 rfl ?_
  refine r_iconst g dX4_highestTop_5 ?_
  refine r_icmp_ge g 35 dX4_highestTop_6 (by decide) ?_ ?_
  · refine r_iload_n g dX4_highestTop_35 rfl ?_
    exact r_iret g dX4_highestTop_36 rfl rfl
  · refine r_aload_n g dX4_highestTop_9 rfl ?_
    refine r_getC (c0 := 15) g KX4 shc_13 1 rfl (by decide) w_189 dX4_highestTop_10 ?_
    refine r_iload_n g dX4_highestTop_13 rfl ?_
    refine r_zald g shc_15 (by decide) dX4_highestTop_14 ?_
    intro z1_
    refine r_if_eq g 29 dX4_highestTop_15 (by decide) ?_ ?_
    · exact tX4_highestTop_29 g hk4
    · refine r_iload_n g dX4_highestTop_18 rfl ?_
      refine r_aload_n g dX4_highestTop_19 rfl ?_
      refine r_getC (c0 := 16) g KX4 shc_13 2 rfl (by decide) w_191 dX4_highestTop_20 ?_
      refine r_iload_n g dX4_highestTop_23 rfl ?_
      refine r_iald g shc_16 (by decide) dX4_highestTop_24 ?_
      intro z3_
      refine rJ9_max_7cf53 g w_580 w_155 w_77 w_156 ⟨by decide, Nat.le_of_ble_eq_true rfl⟩ dX4_highestTop_25 ?_
      intro z4_
      refine r_istore_n g 2 dX4_highestTop_28 rfl (by decide) rfl ?_
      exact tX4_highestTop_29 g hk4
theorem tX4_highestTop_4 {G : Gx} {S : St} (g : Ok G cX4_highestTop RX4 4 { frames := 1, cells := 0, slots := 0, locals := 24 } (some .int))   : ∀ (n_ : Nat) (x2 : Int) (x3 : Int), Rg G oI (fun _ => S) (SHC, 0, 0) (SHC, 0, 0) S 4 [some (vr G 13), none, some (vi x2), some (vi x3)] [] (lo2 (pX4_highestTop_4B S) n_ x2 x3) := by
  intro n_
  induction n_ with
  | zero => intro x2 x3; exact r_none
  | succ n_ ih => intro x2 x3; exact tX4_highestTop_4B g   ih
theorem kX4_highestTop (S : St) (x1 : Int)  : Con yX4_highestTop cX4_highestTop 4 (some .int) { frames := 1, cells := 0, slots := 0, locals := 24 } false SHC (SHC, 0, 0) (fun b => [.ref (b + 13), vi x1]) S (fun _ => oI) (fun _ => S) (pX4_highestTop S x1) := by
  refine Con_of (fun b => [some (.ref (b + 13)), some (vi x1), none, none]) (by decide) (fun _ => rfl) (fun _ => Nat.le_of_ble_eq_true rfl) ?_
  intro G g _ _ _
  change Ok G cX4_highestTop RX4 4 { frames := 1, cells := 0, slots := 0, locals := 24 } (some .int) at g
  show Rg G oI (fun _ => S) (SHC, 0, 0) (SHC, 0, 0) S 0 [some (vr G 13), some (vi x1), none, none] [] (pX4_highestTop S x1)
  unfold pX4_highestTop
  refine r_iload_n g dX4_highestTop_0 rfl ?_
  refine r_istore_n g 2 dX4_highestTop_1 rfl (by decide) rfl ?_
  refine r_iconst g dX4_highestTop_2 ?_
  refine r_istore_n g 3 dX4_highestTop_3 rfl (by decide) rfl ?_
  refine r_msk [true, false, true, true] rfl ?_
  exact tX4_highestTop_4 g _ _ _
theorem kX4_stiffness (S : St) (x1 : Int)  : Con yX4_stiffness cX4_stiffness 2 (some .long) { frames := 0, cells := 0, slots := 0, locals := 0 } false SHC (SHC, 0, 0) (fun b => [.ref (b + 13), vi x1]) S (fun _ => oL) (fun _ => S) (pX4_stiffness S x1) := by
  refine Con_of (fun b => [some (.ref (b + 13)), some (vi x1)]) (by decide) (fun _ => rfl) (fun _ => Nat.le_of_ble_eq_true rfl) ?_
  intro G g _ _ _
  change Ok G cX4_stiffness RX4 2 { frames := 0, cells := 0, slots := 0, locals := 0 } (some .long) at g
  show Rg G oL (fun _ => S) (SHC, 0, 0) (SHC, 0, 0) S 0 [some (vr G 13), some (vi x1)] [] (pX4_stiffness S x1)
  unfold pX4_stiffness
  refine r_aload_n g dX4_stiffness_0 rfl ?_
  refine r_getI g KX4 shc_13 6 rfl (by decide) w_198 dX4_stiffness_1 ?_
  refine r_aload_n g dX4_stiffness_4 rfl ?_
  refine r_getC (c0 := 18) g KX4 shc_13 4 rfl (by decide) w_194 dX4_stiffness_5 ?_
  refine r_iload_n g dX4_stiffness_8 rfl ?_
  refine r_aaldR (P := isStf) g 1 (fun _ => rfl) shc_18 (by decide) dX4_stiffness_9 ?_
  intro q1_ hq1_
  refine r_getI g KX3 (shStf hq1_) 4 rfl (by decide) w_125 dX4_stiffness_10 ?_
  refine r_icmp_ge g 22 dX4_stiffness_13 (by decide) ?_ ?_
  · refine r_lconst (x := 1) g dX4_stiffness_22 (by decide) ?_
    exact r_lret g dX4_stiffness_23 rfl rfl
  · refine r_ldc2 (x := 3) g dX4_stiffness_16 w_594 (by decide) ?_
    refine r_goto g 23 dX4_stiffness_19 (by decide) ?_
    exact r_lret g dX4_stiffness_23 rfl rfl
theorem tX4_pushAt_73 {G : Gx} {k5 : Int → Int → Option (Int)} {S : St} {x1 : Int} {x2 : Int} {x4 : Int} (g : Ok G cX4_pushAt RX4 5 { frames := 3, cells := 0, slots := 0, locals := 67 } (some .long)) (hk5 : ∀ (x2' : Int) (x4' : Int), Rg G oL (fun _ => S) (SHC, 0, 0) (SHC, 0, 0) S 5 [some (vr G 13), some (vi x1), some (vl (x2')), none, some (vi (x4'))] [] (k5 x2' x4'))  : Rg G oL (fun _ => S) (SHC, 0, 0) (SHC, 0, 0) S 73 [some (vr G 13), some (vi x1), some (vl x2), none, some (vi x4)] [] (pX4_pushAt_73 k5 S x1 x2 x4) := by
  unfold pX4_pushAt_73
  refine r_iinc g dX4_pushAt_73 (by decide) rfl ?_
  intro x4_2_
  change Rg _ _ _ _ _ _ _ [some (vr G 13), some (vi x1), some (vl x2), none, some (vi x4_2_)] _ _
  refine r_goto g 5 dX4_pushAt_76 (by decide) ?_
  exact hk5 _ _
theorem tX4_pushAt_5B {G : Gx} {S : St} {x1 : Int} (g : Ok G cX4_pushAt RX4 5 { frames := 3, cells := 0, slots := 0, locals := 67 } (some .long))   {k5 : Int → Int → Option (Int)} (hk5 : ∀ (x2' : Int) (x4' : Int), Rg G oL (fun _ => S) (SHC, 0, 0) (SHC, 0, 0) S 5 [some (vr G 13), some (vi x1), some (vl (x2')), none, some (vi (x4'))] [] (k5 x2' x4')) {x2 : Int} {x4 : Int} : Rg G oL (fun _ => S) (SHC, 0, 0) (SHC, 0, 0) S 5 [some (vr G 13), some (vi x1), some (vl x2), none, some (vi x4)] [] (pX4_pushAt_5B S x1 k5 x2 x4) := by
  unfold pX4_pushAt_5B
  refine r_iload g dX4_pushAt_5 rfl ?_
  refine r_iconst g dX4_pushAt_7 ?_
  refine r_icmp_ge g 79 dX4_pushAt_8 (by decide) ?_ ?_
  · refine r_lload_n g dX4_pushAt_79 rfl ?_
    exact r_lret g dX4_pushAt_80 rfl rfl
  · refine r_aload_n g dX4_pushAt_11 rfl ?_
    refine r_getC (c0 := 15) g KX4 shc_13 1 rfl (by decide) w_189 dX4_pushAt_12 ?_
    refine r_iload g dX4_pushAt_15 rfl ?_
    refine r_zald g shc_15 (by decide) dX4_pushAt_17 ?_
    intro z1_
    refine r_if_eq g 73 dX4_pushAt_18 (by decide) ?_ ?_
    · exact tX4_pushAt_73 g hk5
    · refine r_aload_n g dX4_pushAt_21 rfl ?_
      refine r_getC (c0 := 16) g KX4 shc_13 2 rfl (by decide) w_191 dX4_pushAt_22 ?_
      refine r_iload g dX4_pushAt_25 rfl ?_
      refine r_iald g shc_16 (by decide) dX4_pushAt_27 ?_
      intro z3_
      refine r_iload_n g dX4_pushAt_28 rfl ?_
      refine r_icmp_gt g 35 dX4_pushAt_29 (by decide) ?_ ?_
      · refine r_lload_n g dX4_pushAt_35 rfl ?_
        refine r_aload_n g dX4_pushAt_36 rfl ?_
        refine r_getC (c0 := 17) g KX4 shc_13 3 rfl (by decide) w_193 dX4_pushAt_37 ?_
        refine r_iload g dX4_pushAt_40 rfl ?_
        refine r_iald g shc_17 (by decide) dX4_pushAt_42 ?_
        intro z4_
        refine r_i2l g dX4_pushAt_43 ?_
        refine r_aload_n g dX4_pushAt_44 rfl ?_
        refine r_iload g dX4_pushAt_45 rfl ?_
        refine r_callV_PL (q := 13) (as := fun b => [vi x4]) g (kX4_stiffness S x4) mX4_stiffness shc_13 rfl w_590 w_592 w_16 (by decide) (fun _ => rfl) rfl (Nat.le_of_ble_eq_true rfl) dX4_pushAt_47 ?_
        intro z5_
        refine r_lmul g dX4_pushAt_50 ?_
        refine r_aload_n g dX4_pushAt_51 rfl ?_
        refine r_getC (c0 := 18) g KX4 shc_13 4 rfl (by decide) w_194 dX4_pushAt_52 ?_
        refine r_iload g dX4_pushAt_55 rfl ?_
        refine r_aaldR (P := isStf) g 1 (fun _ => rfl) shc_18 (by decide) dX4_pushAt_57 ?_
        intro q6_ hq6_
        refine r_aload_n g dX4_pushAt_58 rfl ?_
        refine r_getC (c0 := 16) g KX4 shc_13 2 rfl (by decide) w_191 dX4_pushAt_59 ?_
        refine r_iload g dX4_pushAt_62 rfl ?_
        refine r_iald g shc_16 (by decide) dX4_pushAt_64 ?_
        intro z7_
        refine r_iload_n g dX4_pushAt_65 rfl ?_
        refine r_isub g dX4_pushAt_66 ?_
        refine r_callV_PL (q := q6_) (as := fun b => [vi (z7_ - x1)]) g (kX3_scaledPush S q6_ (z7_ - x1) hq6_) mX3_scaledPush (shStf hq6_) rfl w_595 w_456 w_457 (by decide) (fun _ => rfl) rfl (Nat.le_of_ble_eq_true rfl) dX4_pushAt_67 ?_
        intro z8_
        refine r_lmul g dX4_pushAt_70 ?_
        refine r_ladd g dX4_pushAt_71 ?_
        refine r_topl ?_
        intro x2_9_
        refine r_lstore_n g 2 dX4_pushAt_72 rfl (by decide) rfl ?_
        exact tX4_pushAt_73 g hk5
      · refine r_goto g 73 dX4_pushAt_32 (by decide) ?_
        exact tX4_pushAt_73 g hk5
theorem tX4_pushAt_5 {G : Gx} {S : St} {x1 : Int} (g : Ok G cX4_pushAt RX4 5 { frames := 3, cells := 0, slots := 0, locals := 67 } (some .long))   : ∀ (n_ : Nat) (x2 : Int) (x4 : Int), Rg G oL (fun _ => S) (SHC, 0, 0) (SHC, 0, 0) S 5 [some (vr G 13), some (vi x1), some (vl x2), none, some (vi x4)] [] (lo2 (pX4_pushAt_5B S x1) n_ x2 x4) := by
  intro n_
  induction n_ with
  | zero => intro x2 x4; exact r_none
  | succ n_ ih => intro x2 x4; exact tX4_pushAt_5B g   ih
theorem kX4_pushAt (S : St) (x1 : Int)  : Con yX4_pushAt cX4_pushAt 5 (some .long) { frames := 3, cells := 0, slots := 0, locals := 67 } false SHC (SHC, 0, 0) (fun b => [.ref (b + 13), vi x1]) S (fun _ => oL) (fun _ => S) (pX4_pushAt S x1) := by
  refine Con_of (fun b => [some (.ref (b + 13)), some (vi x1), none, none, none]) (by decide) (fun _ => rfl) (fun _ => Nat.le_of_ble_eq_true rfl) ?_
  intro G g _ _ _
  change Ok G cX4_pushAt RX4 5 { frames := 3, cells := 0, slots := 0, locals := 67 } (some .long) at g
  show Rg G oL (fun _ => S) (SHC, 0, 0) (SHC, 0, 0) S 0 [some (vr G 13), some (vi x1), none, none, none] [] (pX4_pushAt S x1)
  unfold pX4_pushAt
  refine r_lconst (x := 0) g dX4_pushAt_0 (by decide) ?_
  refine r_lstore_n g 2 dX4_pushAt_1 rfl (by decide) rfl ?_
  refine r_iconst g dX4_pushAt_2 ?_
  refine r_istore g dX4_pushAt_3 (by decide) rfl ?_
  exact tX4_pushAt_5 g _ _ _
theorem kX4_squeezed (S : St) (x1 : Int)  : Con yX4_squeezed cX4_squeezed 2 (some .long) { frames := 1, cells := 0, slots := 0, locals := 24 } false SHC (SHC, 0, 0) (fun b => [.ref (b + 13), vi x1]) S (fun _ => oL) (fun _ => S) (pX4_squeezed S x1) := by
  refine Con_of (fun b => [some (.ref (b + 13)), some (vi x1)]) (by decide) (fun _ => rfl) (fun _ => Nat.le_of_ble_eq_true rfl) ?_
  intro G g _ _ _
  change Ok G cX4_squeezed RX4 2 { frames := 1, cells := 0, slots := 0, locals := 24 } (some .long) at g
  show Rg G oL (fun _ => S) (SHC, 0, 0) (SHC, 0, 0) S 0 [some (vr G 13), some (vi x1)] [] (pX4_squeezed S x1)
  unfold pX4_squeezed
  refine r_lconst (x := 0) g dX4_squeezed_0 (by decide) ?_
  refine r_aload_n g dX4_squeezed_1 rfl ?_
  refine r_getC (c0 := 16) g KX4 shc_13 2 rfl (by decide) w_191 dX4_squeezed_2 ?_
  refine r_iload_n g dX4_squeezed_5 rfl ?_
  refine r_iald g shc_16 (by decide) dX4_squeezed_6 ?_
  intro z1_
  refine r_i2l g dX4_squeezed_7 ?_
  refine r_aload_n g dX4_squeezed_8 rfl ?_
  refine r_getL g KX4 shc_13 9 rfl (by decide) w_204 dX4_squeezed_9 ?_
  refine r_lmul g dX4_squeezed_12 ?_
  refine r_aload_n g dX4_squeezed_13 rfl ?_
  refine r_getL g KX4 shc_13 8 rfl (by decide) w_202 dX4_squeezed_14 ?_
  refine r_lsub g dX4_squeezed_17 ?_
  refine rJ9_max_f86c9 g w_601 w_482 w_77 w_483 ⟨by decide, Nat.le_of_ble_eq_true rfl⟩ dX4_squeezed_18 ?_
  intro z2_
  exact r_lret g dX4_squeezed_21 rfl rfl
theorem kX5_cut (S : St) (x0 : Int) (x2 : Int)  : Con yX5_cut cX5_cut 4 (some .long) { frames := 0, cells := 0, slots := 0, locals := 0 } false SHC (SHC, 0, 0) (fun b => [vl x0, vl x2]) S (fun _ => oL) (fun _ => S) (pX5_cut x0 x2) := by
  refine Con_of (fun b => [some (vl x0), none, some (vl x2), none]) (by decide) (fun _ => rfl) (fun _ => Nat.le_of_ble_eq_true rfl) ?_
  intro G g _ _ _
  change Ok G cX5_cut RX5 4 { frames := 0, cells := 0, slots := 0, locals := 0 } (some .long) at g
  show Rg G oL (fun _ => S) (SHC, 0, 0) (SHC, 0, 0) S 0 [some (vl x0), none, some (vl x2), none] [] (pX5_cut x0 x2)
  unfold pX5_cut
  refine r_lload_n g dX5_cut_0 rfl ?_
  refine r_lconst (x := 1) g dX5_cut_1 (by decide) ?_
  refine r_lcmp_ge g 10 dX5_cut_2 dX5_cut_3 (by decide) ?_ ?_
  · refine r_lload_n g dX5_cut_10 rfl ?_
    refine r_lload_n g dX5_cut_11 rfl ?_
    refine r_ldiv g dX5_cut_12 ?_
    intro z1_
    exact r_lret g dX5_cut_13 rfl rfl
  · refine r_lconst (x := 0) g dX5_cut_6 (by decide) ?_
    refine r_goto g 13 dX5_cut_7 (by decide) ?_
    exact r_lret g dX5_cut_13 rfl rfl
theorem kX4_findPress (S : St) (x1 : Int)  : Con yX4_findPress cX4_findPress 11 none { frames := 2, cells := 0, slots := 0, locals := 45 } false SHC (SHC, 0, 0) (fun b => [.ref (b + 13), vi x1]) S (fun _ => oVS) id (pX4_findPress S x1) := by
  refine Con_of (fun b => [some (.ref (b + 13)), some (vi x1), none, none, none, none, none, none, none, none, none]) (by decide) (fun _ => rfl) (fun _ => Nat.le_of_ble_eq_true rfl) ?_
  intro G g _ _ _
  change Ok G cX4_findPress RX4 11 { frames := 2, cells := 0, slots := 0, locals := 45 } none at g
  show Rg G oVS id (SHC, 0, 0) (SHC, 0, 0) S 0 [some (vr G 13), some (vi x1), none, none, none, none, none, none, none, none, none] [] (pX4_findPress S x1)
  unfold pX4_findPress
  refine r_aload_n g dX4_findPress_0 rfl ?_
  refine r_getC (c0 := 19) g KX4 shc_13 10 rfl (by decide) w_206 dX4_findPress_1 ?_
  refine r_iload_n g dX4_findPress_4 rfl ?_
  refine r_lconst (x := 0) g dX4_findPress_5 (by decide) ?_
  refine r_last g shc_19 (by decide) dX4_findPress_6 ?_
  intro S1_
  refine r_aload_n g dX4_findPress_7 rfl ?_
  refine r_getC (c0 := 20) g KX4 shc_13 11 rfl (by decide) w_208 dX4_findPress_8 ?_
  refine r_iload_n g dX4_findPress_11 rfl ?_
  refine r_iconst g dX4_findPress_12 ?_
  refine r_iast g shc_20 (by decide) dX4_findPress_13 ?_
  intro S2_
  refine r_aload_n g dX4_findPress_14 rfl ?_
  refine r_iload_n g dX4_findPress_15 rfl ?_
  refine r_callV_PL (q := 13) (as := fun b => [vi x1]) g (kX4_squeezed S2_ x1) mX4_squeezed shc_13 rfl w_606 w_607 w_608 (by decide) (fun _ => rfl) rfl (Nat.le_of_ble_eq_true rfl) dX4_findPress_16 ?_
  intro z3_
  refine r_lstore_n g 2 dX4_findPress_19 rfl (by decide) rfl ?_
  refine r_aload_n g dX4_findPress_20 rfl ?_
  refine r_getC (c0 := 15) g KX4 shc_13 1 rfl (by decide) w_189 dX4_findPress_21 ?_
  refine r_iload_n g dX4_findPress_24 rfl ?_
  refine r_zald g shc_15 (by decide) dX4_findPress_25 ?_
  intro z4_
  refine r_if_eq g 35 dX4_findPress_26 (by decide) ?_ ?_
  · exact r_vret g dX4_findPress_35 rfl rfl
  · refine r_lload_n g dX4_findPress_29 rfl ?_
    refine r_lconst (x := 0) g dX4_findPress_30 (by decide) ?_
    refine r_lcmp_ne g 36 dX4_findPress_31 dX4_findPress_32 (by decide) ?_ ?_
    · refine r_aload_n g dX4_findPress_36 rfl ?_
      refine r_getC (c0 := 18) g KX4 shc_13 4 rfl (by decide) w_194 dX4_findPress_37 ?_
      refine r_iload_n g dX4_findPress_40 rfl ?_
      refine r_aaldR (P := isStf) g 1 (fun _ => rfl) shc_18 (by decide) dX4_findPress_41 ?_
      intro q5_ hq5_
      refine r_astore g dX4_findPress_42 (by decide) rfl ?_
      refine r_aload g dX4_findPress_44 rfl ?_
      refine r_lload_n g dX4_findPress_46 rfl ?_
      refine r_aload_n g dX4_findPress_47 rfl ?_
      refine r_getL g KX4 shc_13 9 rfl (by decide) w_204 dX4_findPress_48 ?_
      refine r_callSN_PL g (kX5_cut S2_ z3_ (S2_ 13 9)) mX5_cut w_610 w_611 (by decide) (fun _ => rfl) rfl (Nat.le_of_ble_eq_true rfl) dX4_findPress_51 ?_
      intro z6_
      refine r_callV_PI (q := q5_) (as := fun b => [vl z6_]) g (kX3_pieceAt S2_ q5_ z6_ hq5_) mX3_pieceAt (shStf hq5_) rfl w_613 w_460 w_461 (by decide) (fun _ => rfl) rfl (Nat.le_of_ble_eq_true rfl) dX4_findPress_54 ?_
      intro z7_
      refine r_istore g dX4_findPress_57 (by decide) rfl ?_
      refine r_aload g dX4_findPress_59 rfl ?_
      refine r_iload g dX4_findPress_61 rfl ?_
      refine r_callV_PI (q := q5_) (as := fun b => [vi z7_]) g (kX3_width S2_ q5_ z7_ hq5_) mX3_width (shStf hq5_) rfl w_614 w_469 w_470 (by decide) (fun _ => rfl) rfl (Nat.le_of_ble_eq_true rfl) dX4_findPress_63 ?_
      intro z8_
      refine r_istore g dX4_findPress_66 (by decide) rfl ?_
      refine r_aload g dX4_findPress_68 rfl ?_
      refine r_getC (c0 := q5_ + 2) g KX3 (shStf hq5_) 1 rfl (by decide) w_116 dX4_findPress_70 ?_
      refine r_iload g dX4_findPress_73 rfl ?_
      refine r_iald g (shStfY hq5_) (by decide) dX4_findPress_75 ?_
      intro z9_
      refine r_iload g dX4_findPress_76 rfl ?_
      refine r_imul g dX4_findPress_78 ?_
      refine r_i2l g dX4_findPress_79 ?_
      refine r_aload_n g dX4_findPress_80 rfl ?_
      refine r_getL g KX4 shc_13 9 rfl (by decide) w_204 dX4_findPress_81 ?_
      refine r_lmul g dX4_findPress_84 ?_
      refine r_topl ?_
      intro x7_10_
      refine r_lstore g dX4_findPress_85 (by decide) rfl ?_
      refine r_lload_n g dX4_findPress_87 rfl ?_
      refine r_aload g dX4_findPress_88 rfl ?_
      refine r_getC (c0 := q5_ + 1) g KX3 (shStf hq5_) 0 rfl (by decide) w_113 dX4_findPress_90 ?_
      refine r_iload g dX4_findPress_93 rfl ?_
      refine r_iald g (shStfX hq5_) (by decide) dX4_findPress_95 ?_
      intro z11_
      refine r_i2l g dX4_findPress_96 ?_
      refine r_aload_n g dX4_findPress_97 rfl ?_
      refine r_getL g KX4 shc_13 9 rfl (by decide) w_204 dX4_findPress_98 ?_
      refine r_lmul g dX4_findPress_101 ?_
      refine r_lsub g dX4_findPress_102 ?_
      refine r_aload g dX4_findPress_103 rfl ?_
      refine r_iload g dX4_findPress_105 rfl ?_
      refine r_callV_PI (q := q5_) (as := fun b => [vi z7_]) g (kX3_rise S2_ q5_ z7_ hq5_) mX3_rise (shStf hq5_) rfl w_615 w_465 w_466 (by decide) (fun _ => rfl) rfl (Nat.le_of_ble_eq_true rfl) dX4_findPress_107 ?_
      intro z12_
      refine r_i2l g dX4_findPress_110 ?_
      refine r_lmul g dX4_findPress_111 ?_
      refine r_topl ?_
      intro x9_13_
      refine r_lstore g dX4_findPress_112 (by decide) rfl ?_
      refine r_aload_n g dX4_findPress_114 rfl ?_
      refine r_getC (c0 := 19) g KX4 shc_13 10 rfl (by decide) w_206 dX4_findPress_115 ?_
      refine r_iload_n g dX4_findPress_118 rfl ?_
      refine r_aload_n g dX4_findPress_119 rfl ?_
      refine r_iload_n g dX4_findPress_120 rfl ?_
      refine r_callV_PL (q := 13) (as := fun b => [vi x1]) g (kX4_stiffness S2_ x1) mX4_stiffness shc_13 rfl w_590 w_592 w_16 (by decide) (fun _ => rfl) rfl (Nat.le_of_ble_eq_true rfl) dX4_findPress_121 ?_
      intro z14_
      refine r_lload g dX4_findPress_124 rfl ?_
      refine r_lload g dX4_findPress_126 rfl ?_
      refine r_ladd g dX4_findPress_128 ?_
      refine r_lmul g dX4_findPress_129 ?_
      refine r_last g shc_19 (by decide) dX4_findPress_130 ?_
      intro S15_
      refine r_aload_n g dX4_findPress_131 rfl ?_
      refine r_getC (c0 := 20) g KX4 shc_13 11 rfl (by decide) w_208 dX4_findPress_132 ?_
      refine r_iload_n g dX4_findPress_135 rfl ?_
      refine r_iload g dX4_findPress_136 rfl ?_
      refine r_iast g shc_20 (by decide) dX4_findPress_138 ?_
      intro S16_
      exact r_vret g dX4_findPress_139 rfl rfl
    · exact r_vret g dX4_findPress_35 rfl rfl
theorem tX5_commonDivisor_9B {G : Gx} {S : St} (g : Ok G cX5_commonDivisor RX5 11 { frames := 0, cells := 0, slots := 0, locals := 0 } (some .long))   {k9 : Int → Int → Int → Option (Int)} (hk9 : ∀ (x4' : Int) (x6' : Int) (x8' : Int), Rg G oL (fun _ => S) (SHC, 0, 0) (SHC, 0, 0) S 9 [none, none, none, none, some (vl (x4')), none, some (vl (x6')), none, some (vi (x8')), none, none] [] (k9 x4' x6' x8')) {x4 : Int} {x6 : Int} {x8 : Int} : Rg G oL (fun _ => S) (SHC, 0, 0) (SHC, 0, 0) S 9 [none, none, none, none, some (vl x4), none, some (vl x6), none, some (vi x8), none, none] [] (pX5_commonDivisor_9B k9 x4 x6 x8) := by
  unfold pX5_commonDivisor_9B
  refine r_iload g dX5_commonDivisor_9 rfl ?_
  refine r_sipush g dX5_commonDivisor_11 (by decide) ?_
  refine r_icmp_ge g 45 dX5_commonDivisor_14 (by decide) ?_ ?_
  · refine r_lload g dX5_commonDivisor_45 rfl ?_
    exact r_lret g dX5_commonDivisor_47 rfl rfl
  · refine r_lload g dX5_commonDivisor_17 rfl ?_
    refine r_lconst (x := 0) g dX5_commonDivisor_19 (by decide) ?_
    refine r_lcmp_eq g 45 dX5_commonDivisor_20 dX5_commonDivisor_21 (by decide) ?_ ?_
    · refine r_lload g dX5_commonDivisor_45 rfl ?_
      exact r_lret g dX5_commonDivisor_47 rfl rfl
    · refine r_lload g dX5_commonDivisor_24 rfl ?_
      refine r_lload g dX5_commonDivisor_26 rfl ?_
      refine r_lrem g dX5_commonDivisor_28 ?_
      intro z1_
      refine r_lstore g dX5_commonDivisor_29 (by decide) rfl ?_
      refine r_lload g dX5_commonDivisor_31 rfl ?_
      refine r_lstore g dX5_commonDivisor_33 (by decide) rfl ?_
      refine r_lload g dX5_commonDivisor_35 rfl ?_
      refine r_lstore g dX5_commonDivisor_37 (by decide) rfl ?_
      refine r_iinc g dX5_commonDivisor_39 (by decide) rfl ?_
      intro x8_2_
      change Rg _ _ _ _ _ _ _ [none, none, none, none, some (vl x6), none, some (vl z1_), none, some (vi x8_2_), some (vl z1_), none] _ _
      refine r_goto g 9 dX5_commonDivisor_42 (by decide) ?_
      refine r_msk [false, false, false, false, true, false, true, false, true, false, false] rfl ?_
      exact hk9 _ _ _
theorem tX5_commonDivisor_9 {G : Gx} {S : St} (g : Ok G cX5_commonDivisor RX5 11 { frames := 0, cells := 0, slots := 0, locals := 0 } (some .long))   : ∀ (n_ : Nat) (x4 : Int) (x6 : Int) (x8 : Int), Rg G oL (fun _ => S) (SHC, 0, 0) (SHC, 0, 0) S 9 [none, none, none, none, some (vl x4), none, some (vl x6), none, some (vi x8), none, none] [] (lo3 (pX5_commonDivisor_9B) n_ x4 x6 x8) := by
  intro n_
  induction n_ with
  | zero => intro x4 x6 x8; exact r_none
  | succ n_ ih => intro x4 x6 x8; exact tX5_commonDivisor_9B g   ih
theorem kX5_commonDivisor (S : St) (x0 : Int) (x2 : Int)  : Con yX5_commonDivisor cX5_commonDivisor 11 (some .long) { frames := 0, cells := 0, slots := 0, locals := 0 } false SHC (SHC, 0, 0) (fun b => [vl x0, vl x2]) S (fun _ => oL) (fun _ => S) (pX5_commonDivisor x0 x2) := by
  refine Con_of (fun b => [some (vl x0), none, some (vl x2), none, none, none, none, none, none, none, none]) (by decide) (fun _ => rfl) (fun _ => Nat.le_of_ble_eq_true rfl) ?_
  intro G g _ _ _
  change Ok G cX5_commonDivisor RX5 11 { frames := 0, cells := 0, slots := 0, locals := 0 } (some .long) at g
  show Rg G oL (fun _ => S) (SHC, 0, 0) (SHC, 0, 0) S 0 [some (vl x0), none, some (vl x2), none, none, none, none, none, none, none, none] [] (pX5_commonDivisor x0 x2)
  unfold pX5_commonDivisor
  refine r_lload_n g dX5_commonDivisor_0 rfl ?_
  refine r_lstore g dX5_commonDivisor_1 (by decide) rfl ?_
  refine r_lload_n g dX5_commonDivisor_3 rfl ?_
  refine r_lstore g dX5_commonDivisor_4 (by decide) rfl ?_
  refine r_iconst g dX5_commonDivisor_6 ?_
  refine r_istore g dX5_commonDivisor_7 (by decide) rfl ?_
  refine r_msk [false, false, false, false, true, false, true, false, true, false, false] rfl ?_
  exact tX5_commonDivisor_9 g _ _ _ _
theorem kX4_restBetween (S : St) (x1 : Int) (x2 : Int) (x4 : Int) (x6 : Int)  : Con yX4_restBetween cX4_restBetween 14 none { frames := 1, cells := 0, slots := 0, locals := 30 } false SHC (SHC, 0, 0) (fun b => [.ref (b + 13), vi x1, vl x2, vl x4, vl x6]) S (fun _ => oVS) id (pX4_restBetween S x1 x2 x4 x6) := by
  refine Con_of (fun b => [some (.ref (b + 13)), some (vi x1), some (vl x2), none, some (vl x4), none, some (vl x6), none, none, none, none, none, none, none]) (by decide) (fun _ => rfl) (fun _ => Nat.le_of_ble_eq_true rfl) ?_
  intro G g _ _ _
  change Ok G cX4_restBetween RX4 14 { frames := 1, cells := 0, slots := 0, locals := 30 } none at g
  show Rg G oVS id (SHC, 0, 0) (SHC, 0, 0) S 0 [some (vr G 13), some (vi x1), some (vl x2), none, some (vl x4), none, some (vl x6), none, none, none, none, none, none, none] [] (pX4_restBetween S x1 x2 x4 x6)
  unfold pX4_restBetween
  refine r_lload_n g dX4_restBetween_0 rfl ?_
  refine r_lload g dX4_restBetween_1 rfl ?_
  refine r_lsub g dX4_restBetween_3 ?_
  refine r_topl ?_
  intro x8_1_
  refine r_lstore g dX4_restBetween_4 (by decide) rfl ?_
  refine r_lload g dX4_restBetween_6 rfl ?_
  refine r_lconst (x := 1) g dX4_restBetween_8 (by decide) ?_
  refine r_lcmp_ge g 14 dX4_restBetween_9 dX4_restBetween_10 (by decide) ?_ ?_
  · refine r_iload_n g dX4_restBetween_14 rfl ?_
    refine r_i2l g dX4_restBetween_15 ?_
    refine r_lload g dX4_restBetween_16 rfl ?_
    refine r_lmul g dX4_restBetween_18 ?_
    refine r_lload g dX4_restBetween_19 rfl ?_
    refine r_lload g dX4_restBetween_21 rfl ?_
    refine r_lsub g dX4_restBetween_23 ?_
    refine r_lsub g dX4_restBetween_24 ?_
    refine r_topl ?_
    intro x10_2_
    refine r_lstore g dX4_restBetween_25 (by decide) rfl ?_
    refine r_lconst (x := 1) g dX4_restBetween_27 (by decide) ?_
    refine r_lload g dX4_restBetween_28 rfl ?_
    refine r_lload g dX4_restBetween_30 rfl ?_
    refine r_callSN_PL g (kX5_commonDivisor S x10_2_ x8_1_) mX5_commonDivisor w_600 w_479 (by decide) (fun _ => rfl) rfl (Nat.le_of_ble_eq_true rfl) dX4_restBetween_32 ?_
    intro z3_
    refine rJ9_max_f86c9 g w_601 w_482 w_77 w_483 ⟨by decide, Nat.le_of_ble_eq_true rfl⟩ dX4_restBetween_35 ?_
    intro z4_
    refine r_lstore g dX4_restBetween_38 (by decide) rfl ?_
    refine r_aload_n g dX4_restBetween_40 rfl ?_
    refine r_lload g dX4_restBetween_41 rfl ?_
    refine r_lload g dX4_restBetween_43 rfl ?_
    refine r_ldiv g dX4_restBetween_45 ?_
    intro z5_
    refine r_putL g KX4 shc_13 8 rfl (by decide) rfl rfl w_202 dX4_restBetween_46 ?_
    intro S6_ _
    refine r_aload_n g dX4_restBetween_49 rfl ?_
    refine r_lload g dX4_restBetween_50 rfl ?_
    refine r_lload g dX4_restBetween_52 rfl ?_
    refine r_ldiv g dX4_restBetween_54 ?_
    intro z7_
    refine r_putL g KX4 shc_13 9 rfl (by decide) rfl rfl w_204 dX4_restBetween_55 ?_
    intro S8_ _
    exact r_vret g dX4_restBetween_58 rfl rfl
  · exact r_vret g dX4_restBetween_13 rfl rfl
