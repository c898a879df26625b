theorem kX6_readPoint (S : St) (x1 : Int)  : Con yX6_readPoint cX6_readPoint 3 (some .boolean) { frames := 2, cells := 0, slots := 0, locals := 45 } false SHM (SHM, 0, 0) (fun b => [.ref (b + 0), vi x1]) S (fun _ => oIS) (fun v => v.2) (pX6_readPoint S x1) := by
  refine Con_of (fun b => [some (.ref (b + 0)), some (vi x1), none]) (by decide) (fun _ => rfl) (fun _ => Nat.le_of_ble_eq_true rfl) ?_
  intro G g _ _ _
  change Ok G cX6_readPoint RX6 3 { frames := 2, cells := 0, slots := 0, locals := 45 } (some .boolean) at g
  show Rg G oIS (fun v => v.2) (SHM, 0, 0) (SHM, 0, 0) S 0 [some (vr G 0), some (vi x1), none] [] (pX6_readPoint S x1)
  unfold pX6_readPoint
  refine r_aload_n g dX6_readPoint_0 rfl ?_
  refine r_getI g KX6 shm_0 18 rfl (by decide) w_888 dX6_readPoint_1 ?_
  refine r_iconst g dX6_readPoint_4 ?_
  refine r_icmp_ne g 10 dX6_readPoint_5 (by decide) ?_ ?_
  · refine r_aload_n g dX6_readPoint_10 rfl ?_
    refine r_dup g dX6_readPoint_11 rfl ?_
    refine r_getI g KX6 shm_0 22 rfl (by decide) w_892 dX6_readPoint_12 ?_
    refine r_iconst g dX6_readPoint_15 ?_
    refine r_iadd g dX6_readPoint_16 ?_
    refine r_putI g KX6 shm_0 22 rfl (by decide) rfl rfl w_892 dX6_readPoint_17 ?_
    intro S1_ _
    refine r_aload_n g dX6_readPoint_20 rfl ?_
    refine r_getI g KX6 shm_0 18 rfl (by decide) w_888 dX6_readPoint_21 ?_
    refine r_topi ?_
    intro x2_2_
    refine r_istore_n g 2 dX6_readPoint_24 rfl (by decide) rfl ?_
    refine r_aload_n g dX6_readPoint_25 rfl ?_
    refine r_iload_n g dX6_readPoint_26 rfl ?_
    refine r_iconst g dX6_readPoint_27 ?_
    refine r_callV_WI (q := 0) (as := fun b => [vi x1, vi 2]) g (kX6_readNumber S1_ x1 2) mX6_readNumber shm_0 rfl w_1114 w_1116 w_35 (by decide) (fun _ => rfl) rfl (Nat.le_of_ble_eq_true rfl) dX6_readPoint_28 ?_
    intro z3_ S4_
    refine r_if_eq g 56 dX6_readPoint_31 (by decide) ?_ ?_
    · refine r_iconst g dX6_readPoint_56 ?_
      exact r_zret0 g (by decide) dX6_readPoint_57 rfl rfl
    · refine r_aload_n g dX6_readPoint_34 rfl ?_
      refine r_getI g KX6 shm_0 23 rfl (by decide) w_893 dX6_readPoint_35 ?_
      refine r_aload_n g dX6_readPoint_38 rfl ?_
      refine r_getC (c0 := 15) g KX6 shm_0 19 rfl (by decide) w_889 dX6_readPoint_39 ?_
      refine r_iload_n g dX6_readPoint_42 rfl ?_
      refine r_iald g shm_15 (by decide) dX6_readPoint_43 ?_
      intro z5_
      refine r_icmp_le g 56 dX6_readPoint_44 (by decide) ?_ ?_
      · refine r_iconst g dX6_readPoint_56 ?_
        exact r_zret0 g (by decide) dX6_readPoint_57 rfl rfl
      · refine r_aload_n g dX6_readPoint_47 rfl ?_
        refine r_getI g KX6 shm_0 23 rfl (by decide) w_893 dX6_readPoint_48 ?_
        refine r_bipush g dX6_readPoint_51 (by decide) ?_
        refine r_icmp_le g 58 dX6_readPoint_53 (by decide) ?_ ?_
        · refine r_aload_n g dX6_readPoint_58 rfl ?_
          refine r_getC (c0 := 15) g KX6 shm_0 19 rfl (by decide) w_889 dX6_readPoint_59 ?_
          refine r_iload_n g dX6_readPoint_62 rfl ?_
          refine r_iconst g dX6_readPoint_63 ?_
          refine r_iadd g dX6_readPoint_64 ?_
          refine r_aload_n g dX6_readPoint_65 rfl ?_
          refine r_getI g KX6 shm_0 23 rfl (by decide) w_893 dX6_readPoint_66 ?_
          refine r_iast g shm_15 (by decide) dX6_readPoint_69 ?_
          intro S6_
          refine r_aload_n g dX6_readPoint_70 rfl ?_
          refine r_iload_n g dX6_readPoint_71 rfl ?_
          refine r_aload_n g dX6_readPoint_72 rfl ?_
          refine r_getI g KX6 shm_0 22 rfl (by decide) w_892 dX6_readPoint_73 ?_
          refine r_callV_PI (q := 0) (as := fun b => [vi x1, vi (S6_ 0 22)]) g (kX6_byteAt S6_ x1 (S6_ 0 22)) mX6_byteAt shm_0 rfl w_1102 w_1104 w_32 (by decide) (fun _ => rfl) rfl (Nat.le_of_ble_eq_true rfl) dX6_readPoint_76 ?_
          intro z7_
          refine r_bipush g dX6_readPoint_79 (by decide) ?_
          refine r_icmp_eq g 86 dX6_readPoint_81 (by decide) ?_ ?_
          · refine r_aload_n g dX6_readPoint_86 rfl ?_
            refine r_dup g dX6_readPoint_87 rfl ?_
            refine r_getI g KX6 shm_0 22 rfl (by decide) w_892 dX6_readPoint_88 ?_
            refine r_iconst g dX6_readPoint_91 ?_
            refine r_iadd g dX6_readPoint_92 ?_
            refine r_putI g KX6 shm_0 22 rfl (by decide) rfl rfl w_892 dX6_readPoint_93 ?_
            intro S8_ _
            refine r_aload_n g dX6_readPoint_96 rfl ?_
            refine r_iload_n g dX6_readPoint_97 rfl ?_
            refine r_iconst g dX6_readPoint_98 ?_
            refine r_callV_WI (q := 0) (as := fun b => [vi x1, vi 3]) g (kX6_readNumber S8_ x1 3) mX6_readNumber shm_0 rfl w_1114 w_1116 w_35 (by decide) (fun _ => rfl) rfl (Nat.le_of_ble_eq_true rfl) dX6_readPoint_99 ?_
            intro z9_ S10_
            refine r_if_eq g 118 dX6_readPoint_102 (by decide) ?_ ?_
            · refine r_iconst g dX6_readPoint_118 ?_
              exact r_zret0 g (by decide) dX6_readPoint_119 rfl rfl
            · refine r_aload_n g dX6_readPoint_105 rfl ?_
              refine r_getI g KX6 shm_0 23 rfl (by decide) w_893 dX6_readPoint_106 ?_
              refine r_aload_n g dX6_readPoint_109 rfl ?_
              refine r_getC (c0 := 16) g KX6 shm_0 20 rfl (by decide) w_890 dX6_readPoint_110 ?_
              refine r_iload_n g dX6_readPoint_113 rfl ?_
              refine r_iald g shm_16 (by decide) dX6_readPoint_114 ?_
              intro z11_
              refine r_icmp_gt g 120 dX6_readPoint_115 (by decide) ?_ ?_
              · refine r_aload_n g dX6_readPoint_120 rfl ?_
                refine r_getC (c0 := 16) g KX6 shm_0 20 rfl (by decide) w_890 dX6_readPoint_121 ?_
                refine r_iload_n g dX6_readPoint_124 rfl ?_
                refine r_iconst g dX6_readPoint_125 ?_
                refine r_iadd g dX6_readPoint_126 ?_
                refine r_aload_n g dX6_readPoint_127 rfl ?_
                refine r_getI g KX6 shm_0 23 rfl (by decide) w_893 dX6_readPoint_128 ?_
                refine r_iast g shm_16 (by decide) dX6_readPoint_131 ?_
                intro S12_
                refine r_aload_n g dX6_readPoint_132 rfl ?_
                refine r_dup g dX6_readPoint_133 rfl ?_
                refine r_getI g KX6 shm_0 18 rfl (by decide) w_888 dX6_readPoint_134 ?_
                refine r_iconst g dX6_readPoint_137 ?_
                refine r_iadd g dX6_readPoint_138 ?_
                refine r_putI g KX6 shm_0 18 rfl (by decide) rfl rfl w_888 dX6_readPoint_139 ?_
                intro S13_ _
                refine r_iconst g dX6_readPoint_142 ?_
                exact r_zret0 g (by decide) dX6_readPoint_143 rfl rfl
              · refine r_iconst g dX6_readPoint_118 ?_
                exact r_zret0 g (by decide) dX6_readPoint_119 rfl rfl
          · refine r_iconst g dX6_readPoint_84 ?_
            exact r_zret0 g (by decide) dX6_readPoint_85 rfl rfl
        · refine r_iconst g dX6_readPoint_56 ?_
          exact r_zret0 g (by decide) dX6_readPoint_57 rfl rfl
  · refine r_iconst g dX6_readPoint_8 ?_
    exact r_zret0 g (by decide) dX6_readPoint_9 rfl rfl
theorem kX6_letterOf (S : St) (x0 : Int)  : Con yX6_letterOf cX6_letterOf 1 (some .int) { frames := 0, cells := 0, slots := 0, locals := 0 } false SHM (SHM, 0, 0) (fun b => [vi x0]) S (fun _ => oI) (fun _ => S) (pX6_letterOf x0) := by
  refine Con_of (fun b => [some (vi x0)]) (by decide) (fun _ => rfl) (fun _ => Nat.le_of_ble_eq_true rfl) ?_
  intro G g _ _ _
  change Ok G cX6_letterOf RX6 1 { frames := 0, cells := 0, slots := 0, locals := 0 } (some .int) at g
  show Rg G oI (fun _ => S) (SHM, 0, 0) (SHM, 0, 0) S 0 [some (vi x0)] [] (pX6_letterOf x0)
  unfold pX6_letterOf
  refine r_iload_n g dX6_letterOf_0 rfl ?_
  refine r_bipush g dX6_letterOf_1 (by decide) ?_
  refine r_icmp_ne g 10 dX6_letterOf_3 (by decide) ?_ ?_
  · refine r_iload_n g dX6_letterOf_10 rfl ?_
    refine r_bipush g dX6_letterOf_11 (by decide) ?_
    refine r_icmp_ne g 20 dX6_letterOf_13 (by decide) ?_ ?_
    · refine r_iload_n g dX6_letterOf_20 rfl ?_
      refine r_bipush g dX6_letterOf_21 (by decide) ?_
      refine r_icmp_ne g 30 dX6_letterOf_23 (by decide) ?_ ?_
      · refine r_iload_n g dX6_letterOf_30 rfl ?_
        refine r_bipush g dX6_letterOf_31 (by decide) ?_
        refine r_icmp_ne g 40 dX6_letterOf_33 (by decide) ?_ ?_
        · refine r_bipush g dX6_letterOf_40 (by decide) ?_
          exact r_iret g dX6_letterOf_42 rfl rfl
        · refine r_iconst g dX6_letterOf_36 ?_
          refine r_goto g 42 dX6_letterOf_37 (by decide) ?_
          exact r_iret g dX6_letterOf_42 rfl rfl
      · refine r_iconst g dX6_letterOf_26 ?_
        refine r_goto g 42 dX6_letterOf_27 (by decide) ?_
        exact r_iret g dX6_letterOf_42 rfl rfl
    · refine r_iconst g dX6_letterOf_16 ?_
      refine r_goto g 42 dX6_letterOf_17 (by decide) ?_
      exact r_iret g dX6_letterOf_42 rfl rfl
  · refine r_iconst g dX6_letterOf_6 ?_
    refine r_goto g 42 dX6_letterOf_7 (by decide) ?_
    exact r_iret g dX6_letterOf_42 rfl rfl
theorem tX6_readItem_90 {G : Gx}  {S : St} {x1 : Int} {x2 : Int} {x3 : Int} {s0 : Int} {s1 : Int} (g : Ok G cX6_readItem RX6 4 { frames := 3, cells := 0, slots := 0, locals := 67 } (some .boolean))   : Rg G oIS (fun v => v.2) (SHM, 0, 0) (SHM, 0, 0) S 90 [some (vr G 0), some (vi x1), some (vi x2), some (vi x3)] [vi s0, vi s1, vr G 0] (pX6_readItem_90 S x1 x2 x3 s0 s1) := by
  unfold pX6_readItem_90
  refine r_iadd g dX6_readItem_90 ?_
  refine r_putI g KX6 shm_0 22 rfl (by decide) rfl rfl w_892 dX6_readItem_91 ?_
  intro S5_ _
  refine r_aload_n g dX6_readItem_94 rfl ?_
  refine r_iload_n g dX6_readItem_95 rfl ?_
  refine r_iconst g dX6_readItem_96 ?_
  refine r_callV_WI (q := 0) (as := fun b => [vi x1, vi 2]) g (kX6_readNumber S5_ x1 2) mX6_readNumber shm_0 rfl w_1114 w_1116 w_35 (by decide) (fun _ => rfl) rfl (Nat.le_of_ble_eq_true rfl) dX6_readItem_97 ?_
  intro z6_ S7_
  refine r_if_ne g 105 dX6_readItem_100 (by decide) ?_ ?_
  · refine r_aload_n g dX6_readItem_105 rfl ?_
    refine r_getC (c0 := 17) g KX6 shm_0 21 rfl (by decide) w_891 dX6_readItem_106 ?_
    refine r_iload_n g dX6_readItem_109 rfl ?_
    refine r_iload_n g dX6_readItem_110 rfl ?_
    refine r_if_eq g 122 dX6_readItem_111 (by decide) ?_ ?_
    · refine r_aload_n g dX6_readItem_122 rfl ?_
      refine r_getI g KX6 shm_0 23 rfl (by decide) w_893 dX6_readItem_123 ?_
      refine r_iast g shm_17 (by decide) dX6_readItem_126 ?_
      intro S8_
      refine r_iconst g dX6_readItem_127 ?_
      exact r_zret0 g (by decide) dX6_readItem_128 rfl rfl
    · refine r_aload_n g dX6_readItem_114 rfl ?_
      refine r_getI g KX6 shm_0 23 rfl (by decide) w_893 dX6_readItem_115 ?_
      refine r_ineg g dX6_readItem_118 ?_
      refine r_goto g 126 dX6_readItem_119 (by decide) ?_
      refine r_iast g shm_17 (by decide) dX6_readItem_126 ?_
      intro S9_
      refine r_iconst g dX6_readItem_127 ?_
      exact r_zret0 g (by decide) dX6_readItem_128 rfl rfl
  · refine r_iconst g dX6_readItem_103 ?_
    exact r_zret0 g (by decide) dX6_readItem_104 rfl rfl
theorem tX6_readItem_75 {G : Gx}  {S : St} {x1 : Int} {x2 : Int} {s0 : Int} (g : Ok G cX6_readItem RX6 4 { frames := 3, cells := 0, slots := 0, locals := 67 } (some .boolean))   : Rg G oIS (fun v => v.2) (SHM, 0, 0) (SHM, 0, 0) S 75 [some (vr G 0), some (vi x1), some (vi x2), none] [vi s0] (pX6_readItem_75 S x1 x2 s0) := by
  unfold pX6_readItem_75
  refine r_istore_n g 3 dX6_readItem_75 rfl (by decide) rfl ?_
  refine r_aload_n g dX6_readItem_76 rfl ?_
  refine r_dup g dX6_readItem_77 rfl ?_
  refine r_getI g KX6 shm_0 22 rfl (by decide) w_892 dX6_readItem_78 ?_
  refine r_iload_n g dX6_readItem_81 rfl ?_
  refine r_if_eq g 89 dX6_readItem_82 (by decide) ?_ ?_
  · refine r_iconst g dX6_readItem_89 ?_
    exact tX6_readItem_90 g
  · refine r_iconst g dX6_readItem_85 ?_
    refine r_goto g 90 dX6_readItem_86 (by decide) ?_
    exact tX6_readItem_90 g
theorem tX6_readItem_74 {G : Gx}  {S : St} {x1 : Int} {x2 : Int} (g : Ok G cX6_readItem RX6 4 { frames := 3, cells := 0, slots := 0, locals := 67 } (some .boolean))   : Rg G oIS (fun v => v.2) (SHM, 0, 0) (SHM, 0, 0) S 74 [some (vr G 0), some (vi x1), some (vi x2), none] [] (pX6_readItem_74 S x1 x2) := by
  unfold pX6_readItem_74
  refine r_iconst g dX6_readItem_74 ?_
  exact tX6_readItem_75 g
theorem kX6_readItem (S : St) (x1 : Int)  : Con yX6_readItem cX6_readItem 4 (some .boolean) { frames := 3, cells := 0, slots := 0, locals := 67 } false SHM (SHM, 0, 0) (fun b => [.ref (b + 0), vi x1]) S (fun _ => oIS) (fun v => v.2) (pX6_readItem S x1) := by
  refine Con_of (fun b => [some (.ref (b + 0)), some (vi x1), none, none]) (by decide) (fun _ => rfl) (fun _ => Nat.le_of_ble_eq_true rfl) ?_
  intro G g _ _ _
  change Ok G cX6_readItem RX6 4 { frames := 3, cells := 0, slots := 0, locals := 67 } (some .boolean) at g
  show Rg G oIS (fun v => v.2) (SHM, 0, 0) (SHM, 0, 0) S 0 [some (vr G 0), some (vi x1), none, none] [] (pX6_readItem S x1)
  unfold pX6_readItem
  refine r_aload_n g dX6_readItem_0 rfl ?_
  refine r_iload_n g dX6_readItem_1 rfl ?_
  refine r_aload_n g dX6_readItem_2 rfl ?_
  refine r_getI g KX6 shm_0 22 rfl (by decide) w_892 dX6_readItem_3 ?_
  refine r_callV_PI (q := 0) (as := fun b => [vi x1, vi (S 0 22)]) g (kX6_byteAt S x1 (S 0 22)) mX6_byteAt shm_0 rfl w_1102 w_1104 w_32 (by decide) (fun _ => rfl) rfl (Nat.le_of_ble_eq_true rfl) dX6_readItem_6 ?_
  intro z1_
  refine r_bipush g dX6_readItem_9 (by decide) ?_
  refine r_icmp_ne g 20 dX6_readItem_11 (by decide) ?_ ?_
  · refine r_aload_n g dX6_readItem_20 rfl ?_
    refine r_iload_n g dX6_readItem_21 rfl ?_
    refine r_aload_n g dX6_readItem_22 rfl ?_
    refine r_getI g KX6 shm_0 22 rfl (by decide) w_892 dX6_readItem_23 ?_
    refine r_callV_PI (q := 0) (as := fun b => [vi x1, vi (S 0 22)]) g (kX6_byteAt S x1 (S 0 22)) mX6_byteAt shm_0 rfl w_1102 w_1104 w_32 (by decide) (fun _ => rfl) rfl (Nat.le_of_ble_eq_true rfl) dX6_readItem_26 ?_
    intro z2_
    refine r_callS_PI g (kX6_letterOf S z2_) mX6_letterOf w_1118 w_1119 (by decide) (fun _ => rfl) rfl (Nat.le_of_ble_eq_true rfl) dX6_readItem_29 ?_
    intro z3_
    refine r_istore_n g 2 dX6_readItem_32 rfl (by decide) rfl ?_
    refine r_iload_n g dX6_readItem_33 rfl ?_
    refine r_bipush g dX6_readItem_34 (by decide) ?_
    refine r_icmp_ne g 41 dX6_readItem_36 (by decide) ?_ ?_
    · refine r_aload_n g dX6_readItem_41 rfl ?_
      refine r_dup g dX6_readItem_42 rfl ?_
      refine r_getI g KX6 shm_0 22 rfl (by decide) w_892 dX6_readItem_43 ?_
      refine r_iconst g dX6_readItem_46 ?_
      refine r_iadd g dX6_readItem_47 ?_
      refine r_putI g KX6 shm_0 22 rfl (by decide) rfl rfl w_892 dX6_readItem_48 ?_
      intro S4_ _
      refine r_iload_n g dX6_readItem_51 rfl ?_
      refine r_iconst g dX6_readItem_52 ?_
      refine r_icmp_ne g 74 dX6_readItem_53 (by decide) ?_ ?_
      · exact tX6_readItem_74 g
      · refine r_aload_n g dX6_readItem_56 rfl ?_
        refine r_iload_n g dX6_readItem_57 rfl ?_
        refine r_aload_n g dX6_readItem_58 rfl ?_
        refine r_getI g KX6 shm_0 22 rfl (by decide) w_892 dX6_readItem_59 ?_
        refine r_callV_PI (q := 0) (as := fun b => [vi x1, vi (S4_ 0 22)]) g (kX6_byteAt S4_ x1 (S4_ 0 22)) mX6_byteAt shm_0 rfl w_1102 w_1104 w_32 (by decide) (fun _ => rfl) rfl (Nat.le_of_ble_eq_true rfl) dX6_readItem_62 ?_
        intro z10_
        refine r_bipush g dX6_readItem_65 (by decide) ?_
        refine r_icmp_ne g 74 dX6_readItem_67 (by decide) ?_ ?_
        · exact tX6_readItem_74 g
        · refine r_iconst g dX6_readItem_70 ?_
          refine r_goto g 75 dX6_readItem_71 (by decide) ?_
          exact tX6_readItem_75 g
    · refine r_iconst g dX6_readItem_39 ?_
      exact r_zret0 g (by decide) dX6_readItem_40 rfl rfl
  · refine r_aload_n g dX6_readItem_14 rfl ?_
    refine r_iload_n g dX6_readItem_15 rfl ?_
    refine r_callV_WI (q := 0) (as := fun b => [vi x1]) g (kX6_readPoint S x1) mX6_readPoint shm_0 rfl w_1110 w_1112 w_34 (by decide) (fun _ => rfl) rfl (Nat.le_of_ble_eq_true rfl) dX6_readItem_16 ?_
    intro z11_ S12_
    exact r_zret g dX6_readItem_19 rfl rfl
theorem tX6_faultOf_40B {G : Gx} {x1 : Int} (g : Ok G cX6_faultOf RX6 3 { frames := 4, cells := 0, slots := 0, locals := 90 } (some .int))   {k40 : St → Option (Int × St)} (hk40 : ∀ (S' : St), Rg G oIS (fun v => v.2) (SHM, 0, 0) (SHM, 0, 0) S' 40 [some (vr G 0), some (vi x1), none] [] (k40 S')) {S : St} : Rg G oIS (fun v => v.2) (SHM, 0, 0) (SHM, 0, 0) S 40 [some (vr G 0), some (vi x1), none] [] (pX6_faultOf_40B x1 k40 S) := by
  unfold pX6_faultOf_40B
  refine r_aload_n g dX6_faultOf_40 rfl ?_
  refine r_getI g KX6 shm_0 22 rfl (by decide) w_892 dX6_faultOf_41 ?_
  refine r_aload_n g dX6_faultOf_44 rfl ?_
  refine r_getC (c0 := 5) g KX6 shm_0 8 rfl (by decide) w_878 dX6_faultOf_45 ?_
  refine r_iload_n g dX6_faultOf_48 rfl ?_
  refine r_iald g shm_5 (by decide) dX6_faultOf_49 ?_
  intro z3_
  refine r_icmp_ge g 93 dX6_faultOf_50 (by decide) ?_ ?_
  · refine r_aload_n g dX6_faultOf_93 rfl ?_
    refine r_getI g KX6 shm_0 18 rfl (by decide) w_888 dX6_faultOf_94 ?_
    refine r_if_ne g 109 dX6_faultOf_97 (by decide) ?_ ?_
    · refine r_bipush g dX6_faultOf_109 (by decide) ?_
      exact r_iret g dX6_faultOf_111 rfl rfl
    · refine r_aload_n g dX6_faultOf_100 rfl ?_
      refine r_getC (c0 := 5) g KX6 shm_0 8 rfl (by decide) w_878 dX6_faultOf_101 ?_
      refine r_iload_n g dX6_faultOf_104 rfl ?_
      refine r_iald g shm_5 (by decide) dX6_faultOf_105 ?_
      intro z4_
      refine r_goto g 111 dX6_faultOf_106 (by decide) ?_
      exact r_iret g dX6_faultOf_111 rfl rfl
  · refine r_aload_n g dX6_faultOf_53 rfl ?_
    refine r_iload_n g dX6_faultOf_54 rfl ?_
    refine r_aload_n g dX6_faultOf_55 rfl ?_
    refine r_getI g KX6 shm_0 22 rfl (by decide) w_892 dX6_faultOf_56 ?_
    refine r_callV_PI (q := 0) (as := fun b => [vi x1, vi (S 0 22)]) g (kX6_byteAt S x1 (S 0 22)) mX6_byteAt shm_0 rfl w_1102 w_1104 w_32 (by decide) (fun _ => rfl) rfl (Nat.le_of_ble_eq_true rfl) dX6_faultOf_59 ?_
    intro z5_
    refine r_bipush g dX6_faultOf_62 (by decide) ?_
    refine r_icmp_ne g 80 dX6_faultOf_64 (by decide) ?_ ?_
    · refine r_aload_n g dX6_faultOf_80 rfl ?_
      refine r_iload_n g dX6_faultOf_81 rfl ?_
      refine r_callV_WI (q := 0) (as := fun b => [vi x1]) g (kX6_readItem S x1) mX6_readItem shm_0 rfl w_1106 w_1108 w_33 (by decide) (fun _ => rfl) rfl (Nat.le_of_ble_eq_true rfl) dX6_faultOf_82 ?_
      intro z6_ S7_
      refine r_if_ne g 40 dX6_faultOf_85 (by decide) ?_ ?_
      · exact hk40 _
      · refine r_aload_n g dX6_faultOf_88 rfl ?_
        refine r_getI g KX6 shm_0 22 rfl (by decide) w_892 dX6_faultOf_89 ?_
        exact r_iret g dX6_faultOf_92 rfl rfl
    · refine r_aload_n g dX6_faultOf_67 rfl ?_
      refine r_dup g dX6_faultOf_68 rfl ?_
      refine r_getI g KX6 shm_0 22 rfl (by decide) w_892 dX6_faultOf_69 ?_
      refine r_iconst g dX6_faultOf_72 ?_
      refine r_iadd g dX6_faultOf_73 ?_
      refine r_putI g KX6 shm_0 22 rfl (by decide) rfl rfl w_892 dX6_faultOf_74 ?_
      intro S8_ _
      refine r_goto g 40 dX6_faultOf_77 (by decide) ?_
      exact hk40 _
theorem tX6_faultOf_40 {G : Gx} {x1 : Int} (g : Ok G cX6_faultOf RX6 3 { frames := 4, cells := 0, slots := 0, locals := 90 } (some .int))   : ∀ (n_ : Nat) (S : St), Rg G oIS (fun v => v.2) (SHM, 0, 0) (SHM, 0, 0) S 40 [some (vr G 0), some (vi x1), none] [] (lo1 (pX6_faultOf_40B x1) n_ S) := by
  intro n_
  induction n_ with
  | zero => intro S; exact r_none
  | succ n_ ih => intro S; exact tX6_faultOf_40B g   ih
theorem tX6_faultOf_28 {G : Gx} {k7 : St → Int → Option (Int × St)} {S : St} {x1 : Int} {x2 : Int} {s0 : Int} {s1 : Int} (g : Ok G cX6_faultOf RX6 3 { frames := 4, cells := 0, slots := 0, locals := 90 } (some .int)) (hk7 : ∀ (S' : St) (x2' : Int), Rg G oIS (fun v => v.2) (SHM, 0, 0) (SHM, 0, 0) S' 7 [some (vr G 0), some (vi x1), some (vi (x2'))] [] (k7 S' x2'))  : Rg G oIS (fun v => v.2) (SHM, 0, 0) (SHM, 0, 0) S 28 [some (vr G 0), some (vi x1), some (vi x2)] [vi s0, vi s1, vr G 17] (pX6_faultOf_28 k7 S x1 x2 s0 s1) := by
  unfold pX6_faultOf_28
  refine r_iast g shm_17 (by decide) dX6_faultOf_28 ?_
  intro S9_
  refine r_iinc g dX6_faultOf_29 (by decide) rfl ?_
  intro x2_10_
  change Rg _ _ _ _ _ _ _ [some (vr G 0), some (vi x1), some (vi x2_10_)] _ _
  refine r_goto g 7 dX6_faultOf_32 (by decide) ?_
  exact hk7 _ _
theorem tX6_faultOf_7B {G : Gx} {x1 : Int} (g : Ok G cX6_faultOf RX6 3 { frames := 4, cells := 0, slots := 0, locals := 90 } (some .int))   {k7 : St → Int → Option (Int × St)} (hk7 : ∀ (S' : St) (x2' : Int), Rg G oIS (fun v => v.2) (SHM, 0, 0) (SHM, 0, 0) S' 7 [some (vr G 0), some (vi x1), some (vi (x2'))] [] (k7 S' x2')) {S : St} {x2 : Int} : Rg G oIS (fun v => v.2) (SHM, 0, 0) (SHM, 0, 0) S 7 [some (vr G 0), some (vi x1), some (vi x2)] [] (pX6_faultOf_7B x1 k7 S x2) := by
  unfold pX6_faultOf_7B
  refine r_iload_n g dX6_faultOf_7 rfl ?_
  refine r_iconst g dX6_faultOf_8 ?_
  refine r_icmp_ge g 35 dX6_faultOf_9 (by decide) ?_ ?_
  · refine r_aload_n g dX6_faultOf_35 rfl ?_
    refine r_iconst g dX6_faultOf_36 ?_
    refine r_putI g KX6 shm_0 22 rfl (by decide) rfl rfl w_892 dX6_faultOf_37 ?_
    intro S2_ _
    refine r_msk [true, true, false] rfl ?_
    exact tX6_faultOf_40 g _ _
  · refine r_aload_n g dX6_faultOf_12 rfl ?_
    refine r_getC (c0 := 17) g KX6 shm_0 21 rfl (by decide) w_891 dX6_faultOf_13 ?_
    refine r_iload_n g dX6_faultOf_16 rfl ?_
    refine r_iload_n g dX6_faultOf_17 rfl ?_
    refine r_iconst g dX6_faultOf_18 ?_
    refine r_icmp_ne g 27 dX6_faultOf_19 (by decide) ?_ ?_
    · refine r_iconst g dX6_faultOf_27 ?_
      exact tX6_faultOf_28 g hk7
    · refine r_bipush g dX6_faultOf_22 (by decide) ?_
      refine r_goto g 28 dX6_faultOf_24 (by decide) ?_
      exact tX6_faultOf_28 g hk7
theorem tX6_faultOf_7 {G : Gx} {x1 : Int} (g : Ok G cX6_faultOf RX6 3 { frames := 4, cells := 0, slots := 0, locals := 90 } (some .int))   : ∀ (n_ : Nat) (S : St) (x2 : Int), Rg G oIS (fun v => v.2) (SHM, 0, 0) (SHM, 0, 0) S 7 [some (vr G 0), some (vi x1), some (vi x2)] [] (lo2 (pX6_faultOf_7B x1) n_ S x2) := by
  intro n_
  induction n_ with
  | zero => intro S x2; exact r_none
  | succ n_ ih => intro S x2; exact tX6_faultOf_7B g   ih
theorem kX6_faultOf (S : St) (x1 : Int)  : Con yX6_faultOf cX6_faultOf 3 (some .int) { frames := 4, cells := 0, slots := 0, locals := 90 } false SHM (SHM, 0, 0) (fun b => [.ref (b + 0), vi x1]) S (fun _ => oIS) (fun v => v.2) (pX6_faultOf S x1) := by
  refine Con_of (fun b => [some (.ref (b + 0)), some (vi x1), none]) (by decide) (fun _ => rfl) (fun _ => Nat.le_of_ble_eq_true rfl) ?_
  intro G g _ _ _
  change Ok G cX6_faultOf RX6 3 { frames := 4, cells := 0, slots := 0, locals := 90 } (some .int) at g
  show Rg G oIS (fun v => v.2) (SHM, 0, 0) (SHM, 0, 0) S 0 [some (vr G 0), some (vi x1), none] [] (pX6_faultOf S x1)
  unfold pX6_faultOf
  refine r_aload_n g dX6_faultOf_0 rfl ?_
  refine r_iconst g dX6_faultOf_1 ?_
  refine r_putI g KX6 shm_0 18 rfl (by decide) rfl rfl w_888 dX6_faultOf_2 ?_
  intro S1_ _
  refine r_iconst g dX6_faultOf_5 ?_
  refine r_istore_n g 2 dX6_faultOf_6 rfl (by decide) rfl ?_
  exact tX6_faultOf_7 g _ _ _
theorem kX6_fault (S : St) (x1 : Int)  : Con yX6_fault cX6_fault 2 (some .int) { frames := 5, cells := 0, slots := 0, locals := 112 } false SHM (SHM, 0, 0) (fun b => [.ref (b + 0), vi x1]) S (fun _ => oIS) (fun v => v.2) (pX6_fault S x1) := by
  refine Con_of (fun b => [some (.ref (b + 0)), some (vi x1)]) (by decide) (fun _ => rfl) (fun _ => Nat.le_of_ble_eq_true rfl) ?_
  intro G g _ _ _
  change Ok G cX6_fault RX6 2 { frames := 5, cells := 0, slots := 0, locals := 112 } (some .int) at g
  show Rg G oIS (fun v => v.2) (SHM, 0, 0) (SHM, 0, 0) S 0 [some (vr G 0), some (vi x1)] [] (pX6_fault S x1)
  unfold pX6_fault
  refine r_iload_n g dX6_fault_0 rfl ?_
  refine r_callS_PI g (kX6_isText S x1) mX6_isText w_1087 w_1088 (by decide) (fun _ => rfl) rfl (Nat.le_of_ble_eq_true rfl) dX6_fault_1 ?_
  intro z1_
  refine r_if_ne g 9 dX6_fault_4 (by decide) ?_ ?_
  · refine r_aload_n g dX6_fault_9 rfl ?_
    refine r_getC (c0 := 5) g KX6 shm_0 8 rfl (by decide) w_878 dX6_fault_10 ?_
    refine r_iload_n g dX6_fault_13 rfl ?_
    refine r_iald g shm_5 (by decide) dX6_fault_14 ?_
    intro z2_
    refine r_if_ge g 26 dX6_fault_15 (by decide) ?_ ?_
    · refine r_aload_n g dX6_fault_26 rfl ?_
      refine r_iload_n g dX6_fault_27 rfl ?_
      refine r_callV_WI (q := 0) (as := fun b => [vi x1]) g (kX6_faultOf S x1) mX6_faultOf shm_0 rfl w_1098 w_1100 w_31 (by decide) (fun _ => rfl) rfl (Nat.le_of_ble_eq_true rfl) dX6_fault_28 ?_
      intro z3_ S4_
      exact r_iret g dX6_fault_31 rfl rfl
    · refine r_aload_n g dX6_fault_18 rfl ?_
      refine r_iconst g dX6_fault_19 ?_
      refine r_callV_WI (q := 0) (as := fun b => [vi 1]) g (kX6_meets S 1) mX6_meets shm_0 rfl w_1055 w_1057 w_28 (by decide) (fun _ => rfl) rfl (Nat.le_of_ble_eq_true rfl) dX6_fault_20 ?_
      intro z5_ S6_
      refine r_goto g 31 dX6_fault_23 (by decide) ?_
      exact r_iret g dX6_fault_31 rfl rfl
  · refine r_iconst g dX6_fault_7 ?_
    exact r_iret g dX6_fault_8 rfl rfl
theorem tX6_stuff_65B {G : Gx} {x1 : Int} (g : Ok G cX6_stuff RX6 4 { frames := 5, cells := 0, slots := 0, locals := 112 } (some .int))   {k65 : St → Int → Option (Int × St)} (hk65 : ∀ (S' : St) (x3' : Int), Rg G oIS (fun v => v.2) (SHM, 0, 0) (SHM, 0, 0) S' 65 [some (vr G 0), some (vi x1), none, some (vi (x3'))] [] (k65 S' x3')) {S : St} {x3 : Int} : Rg G oIS (fun v => v.2) (SHM, 0, 0) (SHM, 0, 0) S 65 [some (vr G 0), some (vi x1), none, some (vi x3)] [] (pX6_stuff_65B x1 k65 S x3) := by
  unfold pX6_stuff_65B
  refine r_iload_n g dX6_stuff_65 rfl ?_
  refine r_aload_n g dX6_stuff_66 rfl ?_
  refine r_getI g KX6 shm_0 18 rfl (by decide) w_888 dX6_stuff_67 ?_
  refine r_icmp_gt g 111 dX6_stuff_70 (by decide) ?_ ?_
  · refine r_aload_n g dX6_stuff_111 rfl ?_
    refine r_getC (c0 := 11) g KX6 shm_0 14 rfl (by decide) w_884 dX6_stuff_112 ?_
    refine r_iload_n g dX6_stuff_115 rfl ?_
    refine r_aload_n g dX6_stuff_116 rfl ?_
    refine r_getC (c0 := 17) g KX6 shm_0 21 rfl (by decide) w_891 dX6_stuff_117 ?_
    refine r_iconst g dX6_stuff_120 ?_
    refine r_iald g shm_17 (by decide) dX6_stuff_121 ?_
    intro z8_
    refine r_iast g shm_11 (by decide) dX6_stuff_122 ?_
    intro S9_
    refine r_aload_n g dX6_stuff_123 rfl ?_
    refine r_getC (c0 := 12) g KX6 shm_0 15 rfl (by decide) w_885 dX6_stuff_124 ?_
    refine r_iload_n g dX6_stuff_127 rfl ?_
    refine r_aload_n g dX6_stuff_128 rfl ?_
    refine r_getC (c0 := 17) g KX6 shm_0 21 rfl (by decide) w_891 dX6_stuff_129 ?_
    refine r_iconst g dX6_stuff_132 ?_
    refine r_iald g shm_17 (by decide) dX6_stuff_133 ?_
    intro z10_
    refine r_iast g shm_12 (by decide) dX6_stuff_134 ?_
    intro S11_
    refine r_aload_n g dX6_stuff_135 rfl ?_
    refine r_getC (c0 := 13) g KX6 shm_0 16 rfl (by decide) w_886 dX6_stuff_136 ?_
    refine r_iload_n g dX6_stuff_139 rfl ?_
    refine r_aload_n g dX6_stuff_140 rfl ?_
    refine r_getC (c0 := 17) g KX6 shm_0 21 rfl (by decide) w_891 dX6_stuff_141 ?_
    refine r_iconst g dX6_stuff_144 ?_
    refine r_iald g shm_17 (by decide) dX6_stuff_145 ?_
    intro z12_
    refine r_iast g shm_13 (by decide) dX6_stuff_146 ?_
    intro S13_
    refine r_aload_n g dX6_stuff_147 rfl ?_
    refine r_getC (c0 := 14) g KX6 shm_0 17 rfl (by decide) w_887 dX6_stuff_148 ?_
    refine r_iload_n g dX6_stuff_151 rfl ?_
    refine r_aload_n g dX6_stuff_152 rfl ?_
    refine r_getC (c0 := 17) g KX6 shm_0 21 rfl (by decide) w_891 dX6_stuff_153 ?_
    refine r_iconst g dX6_stuff_156 ?_
    refine r_iald g shm_17 (by decide) dX6_stuff_157 ?_
    intro z14_
    refine r_iast g shm_14 (by decide) dX6_stuff_158 ?_
    intro S15_
    refine r_aload_n g dX6_stuff_159 rfl ?_
    refine r_getI g KX6 shm_0 18 rfl (by decide) w_888 dX6_stuff_160 ?_
    exact r_iret g dX6_stuff_163 rfl rfl
  · refine r_aload_n g dX6_stuff_73 rfl ?_
    refine r_getC (c0 := 9) g KX6 shm_0 12 rfl (by decide) w_882 dX6_stuff_74 ?_
    refine r_iconst g dX6_stuff_77 ?_
    refine r_iload_n g dX6_stuff_78 rfl ?_
    refine r_imul g dX6_stuff_79 ?_
    refine r_iload_n g dX6_stuff_80 rfl ?_
    refine r_iadd g dX6_stuff_81 ?_
    refine r_aload_n g dX6_stuff_82 rfl ?_
    refine r_getC (c0 := 15) g KX6 shm_0 19 rfl (by decide) w_889 dX6_stuff_83 ?_
    refine r_iload_n g dX6_stuff_86 rfl ?_
    refine r_iald g shm_15 (by decide) dX6_stuff_87 ?_
    intro z16_
    refine r_iast g shm_9 (by decide) dX6_stuff_88 ?_
    intro S17_
    refine r_aload_n g dX6_stuff_89 rfl ?_
    refine r_getC (c0 := 10) g KX6 shm_0 13 rfl (by decide) w_883 dX6_stuff_90 ?_
    refine r_iconst g dX6_stuff_93 ?_
    refine r_iload_n g dX6_stuff_94 rfl ?_
    refine r_imul g dX6_stuff_95 ?_
    refine r_iload_n g dX6_stuff_96 rfl ?_
    refine r_iadd g dX6_stuff_97 ?_
    refine r_aload_n g dX6_stuff_98 rfl ?_
    refine r_getC (c0 := 16) g KX6 shm_0 20 rfl (by decide) w_890 dX6_stuff_99 ?_
    refine r_iload_n g dX6_stuff_102 rfl ?_
    refine r_iald g shm_16 (by decide) dX6_stuff_103 ?_
    intro z18_
    refine r_iast g shm_10 (by decide) dX6_stuff_104 ?_
    intro S19_
    refine r_iinc g dX6_stuff_105 (by decide) rfl ?_
    intro x3_20_
    change Rg _ _ _ _ _ _ _ [some (vr G 0), some (vi x1), none, some (vi x3_20_)] _ _
    refine r_goto g 65 dX6_stuff_108 (by decide) ?_
    exact hk65 _ _
theorem tX6_stuff_65 {G : Gx} {x1 : Int} (g : Ok G cX6_stuff RX6 4 { frames := 5, cells := 0, slots := 0, locals := 112 } (some .int))   : ∀ (n_ : Nat) (S : St) (x3 : Int), Rg G oIS (fun v => v.2) (SHM, 0, 0) (SHM, 0, 0) S 65 [some (vr G 0), some (vi x1), none, some (vi x3)] [] (lo2 (pX6_stuff_65B x1) n_ S x3) := by
  intro n_
  induction n_ with
  | zero => intro S x3; exact r_none
  | succ n_ ih => intro S x3; exact tX6_stuff_65B g   ih
theorem kX6_stuff (S : St) (x1 : Int) (x2 : Int)  : Con yX6_stuff cX6_stuff 4 (some .int) { frames := 5, cells := 0, slots := 0, locals := 112 } false SHM (SHM, 0, 0) (fun b => [.ref (b + 0), vi x1, vi x2]) S (fun _ => oIS) (fun v => v.2) (pX6_stuff S x1 x2) := by
  refine Con_of (fun b => [some (.ref (b + 0)), some (vi x1), some (vi x2), none]) (by decide) (fun _ => rfl) (fun _ => Nat.le_of_ble_eq_true rfl) ?_
  intro G g _ _ _
  change Ok G cX6_stuff RX6 4 { frames := 5, cells := 0, slots := 0, locals := 112 } (some .int) at g
  show Rg G oIS (fun v => v.2) (SHM, 0, 0) (SHM, 0, 0) S 0 [some (vr G 0), some (vi x1), some (vi x2), none] [] (pX6_stuff S x1 x2)
  unfold pX6_stuff
  refine r_iload_n g dX6_stuff_0 rfl ?_
  refine r_iconst g dX6_stuff_1 ?_
  refine r_iconst g dX6_stuff_2 ?_
  refine r_callS_PI g (kX6_in S x1 0 5) mX6_in w_1033 w_1034 (by decide) (fun _ => rfl) rfl (Nat.le_of_ble_eq_true rfl) dX6_stuff_3 ?_
  intro z1_
  refine r_if_eq g 16 dX6_stuff_6 (by decide) ?_ ?_
  · refine r_iconst g dX6_stuff_16 ?_
    exact r_iret g dX6_stuff_17 rfl rfl
  · refine r_iload_n g dX6_stuff_9 rfl ?_
    refine r_callS_PI g (kX6_isText S x2) mX6_isText w_1087 w_1088 (by decide) (fun _ => rfl) rfl (Nat.le_of_ble_eq_true rfl) dX6_stuff_10 ?_
    intro z2_
    refine r_if_ne g 18 dX6_stuff_13 (by decide) ?_ ?_
    · refine r_aload_n g dX6_stuff_18 rfl ?_
      refine r_getC (c0 := 5) g KX6 shm_0 8 rfl (by decide) w_878 dX6_stuff_19 ?_
      refine r_iload_n g dX6_stuff_22 rfl ?_
      refine r_iald g shm_5 (by decide) dX6_stuff_23 ?_
      intro z3_
      refine r_if_ge g 33 dX6_stuff_24 (by decide) ?_ ?_
      · refine r_aload_n g dX6_stuff_33 rfl ?_
        refine r_iload_n g dX6_stuff_34 rfl ?_
        refine r_callV_WI (q := 0) (as := fun b => [vi x2]) g (kX6_faultOf S x2) mX6_faultOf shm_0 rfl w_1098 w_1100 w_31 (by decide) (fun _ => rfl) rfl (Nat.le_of_ble_eq_true rfl) dX6_stuff_35 ?_
        intro z4_ S5_
        refine r_bipush g dX6_stuff_38 (by decide) ?_
        refine r_icmp_eq g 46 dX6_stuff_40 (by decide) ?_ ?_
        · refine r_aload_n g dX6_stuff_46 rfl ?_
          refine r_getC (c0 := 7) g KX6 shm_0 10 rfl (by decide) w_880 dX6_stuff_47 ?_
          refine r_iload_n g dX6_stuff_50 rfl ?_
          refine r_iconst g dX6_stuff_51 ?_
          refine r_zast g shm_7 (by decide) dX6_stuff_52 ?_
          intro S6_
          refine r_aload_n g dX6_stuff_53 rfl ?_
          refine r_getC (c0 := 8) g KX6 shm_0 11 rfl (by decide) w_881 dX6_stuff_54 ?_
          refine r_iload_n g dX6_stuff_57 rfl ?_
          refine r_aload_n g dX6_stuff_58 rfl ?_
          refine r_getI g KX6 shm_0 18 rfl (by decide) w_888 dX6_stuff_59 ?_
          refine r_iast g shm_8 (by decide) dX6_stuff_62 ?_
          intro S7_
          refine r_iconst g dX6_stuff_63 ?_
          refine r_istore_n g 3 dX6_stuff_64 rfl (by decide) rfl ?_
          refine r_msk [true, true, false, true] rfl ?_
          exact tX6_stuff_65 g _ _ _
        · refine r_bipush g dX6_stuff_43 (by decide) ?_
          exact r_iret g dX6_stuff_45 rfl rfl
      · refine r_aload_n g dX6_stuff_27 rfl ?_
        refine r_iconst g dX6_stuff_28 ?_
        refine r_callV_WI (q := 0) (as := fun b => [vi 1]) g (kX6_meets S 1) mX6_meets shm_0 rfl w_1055 w_1057 w_28 (by decide) (fun _ => rfl) rfl (Nat.le_of_ble_eq_true rfl) dX6_stuff_29 ?_
        intro z21_ S22_
        exact r_iret g dX6_stuff_32 rfl rfl
    · refine r_iconst g dX6_stuff_16 ?_
      exact r_iret g dX6_stuff_17 rfl rfl
theorem kX6_stuffTells (S : St) (x1 : Int) (x2 : Int)  : Con yX6_stuffTells cX6_stuffTells 3 (some .int) { frames := 0, cells := 0, slots := 0, locals := 0 } false SHM (SHM, 0, 0) (fun b => [.ref (b + 0), vi x1, vi x2]) S (fun _ => oI) (fun _ => S) (pX6_stuffTells S x1 x2) := by
  refine Con_of (fun b => [some (.ref (b + 0)), some (vi x1), some (vi x2)]) (by decide) (fun _ => rfl) (fun _ => Nat.le_of_ble_eq_true rfl) ?_
  intro G g _ _ _
  change Ok G cX6_stuffTells RX6 3 { frames := 0, cells := 0, slots := 0, locals := 0 } (some .int) at g
  show Rg G oI (fun _ => S) (SHM, 0, 0) (SHM, 0, 0) S 0 [some (vr G 0), some (vi x1), some (vi x2)] [] (pX6_stuffTells S x1 x2)
  unfold pX6_stuffTells
  refine r_iload_n g dX6_stuffTells_0 rfl ?_
  refine r_if_ne g 13 dX6_stuffTells_1 (by decide) ?_ ?_
  · refine r_iload_n g dX6_stuffTells_13 rfl ?_
    refine r_iconst g dX6_stuffTells_14 ?_
    refine r_icmp_ne g 27 dX6_stuffTells_15 (by decide) ?_ ?_
    · refine r_iload_n g dX6_stuffTells_27 rfl ?_
      refine r_iconst g dX6_stuffTells_28 ?_
      refine r_icmp_ne g 41 dX6_stuffTells_29 (by decide) ?_ ?_
      · refine r_iload_n g dX6_stuffTells_41 rfl ?_
        refine r_iconst g dX6_stuffTells_42 ?_
        refine r_icmp_ne g 55 dX6_stuffTells_43 (by decide) ?_ ?_
        · refine r_aload_n g dX6_stuffTells_55 rfl ?_
          refine r_getC (c0 := 14) g KX6 shm_0 17 rfl (by decide) w_887 dX6_stuffTells_56 ?_
          refine r_iload_n g dX6_stuffTells_59 rfl ?_
          refine r_iald g shm_14 (by decide) dX6_stuffTells_60 ?_
          intro z1_
          exact r_iret g dX6_stuffTells_61 rfl rfl
        · refine r_aload_n g dX6_stuffTells_46 rfl ?_
          refine r_getC (c0 := 13) g KX6 shm_0 16 rfl (by decide) w_886 dX6_stuffTells_47 ?_
          refine r_iload_n g dX6_stuffTells_50 rfl ?_
          refine r_iald g shm_13 (by decide) dX6_stuffTells_51 ?_
          intro z2_
          refine r_goto g 61 dX6_stuffTells_52 (by decide) ?_
          exact r_iret g dX6_stuffTells_61 rfl rfl
      · refine r_aload_n g dX6_stuffTells_32 rfl ?_
        refine r_getC (c0 := 12) g KX6 shm_0 15 rfl (by decide) w_885 dX6_stuffTells_33 ?_
        refine r_iload_n g dX6_stuffTells_36 rfl ?_
        refine r_iald g shm_12 (by decide) dX6_stuffTells_37 ?_
        intro z3_
        refine r_goto g 61 dX6_stuffTells_38 (by decide) ?_
        exact r_iret g dX6_stuffTells_61 rfl rfl
    · refine r_aload_n g dX6_stuffTells_18 rfl ?_
      refine r_getC (c0 := 11) g KX6 shm_0 14 rfl (by decide) w_884 dX6_stuffTells_19 ?_
      refine r_iload_n g dX6_stuffTells_22 rfl ?_
      refine r_iald g shm_11 (by decide) dX6_stuffTells_23 ?_
      intro z4_
      refine r_goto g 61 dX6_stuffTells_24 (by decide) ?_
      exact r_iret g dX6_stuffTells_61 rfl rfl
  · refine r_aload_n g dX6_stuffTells_4 rfl ?_
    refine r_getC (c0 := 8) g KX6 shm_0 11 rfl (by decide) w_881 dX6_stuffTells_5 ?_
    refine r_iload_n g dX6_stuffTells_8 rfl ?_
    refine r_iald g shm_8 (by decide) dX6_stuffTells_9 ?_
    intro z5_
    refine r_goto g 61 dX6_stuffTells_10 (by decide) ?_
    exact r_iret g dX6_stuffTells_61 rfl rfl
theorem tX6_needStuff_13 {G : Gx}  {S : St}  (g : Ok G cX6_needStuff RX6 3 { frames := 1, cells := 0, slots := 0, locals := 22 } (some .int))   : Rg G oIS (fun v => v.2) (SHM, 0, 0) (SHM, 0, 0) S 13 [none, none, none] [] (pX6_needStuff_13 S) := by
  unfold pX6_needStuff_13
  refine r_iconst g dX6_needStuff_13 ?_
  refine r_goto g 35 dX6_needStuff_14 (by decide) ?_
  exact r_iret g dX6_needStuff_35 rfl rfl
theorem kX6_needStuff (S : St) (x1 : Int) (x2 : Int)  : Con yX6_needStuff cX6_needStuff 3 (some .int) { frames := 1, cells := 0, slots := 0, locals := 22 } false SHM (SHM, 0, 0) (fun b => [.ref (b + 0), vi x1, vi x2]) S (fun _ => oIS) (fun v => v.2) (pX6_needStuff S x1 x2) := by
  refine Con_of (fun b => [some (.ref (b + 0)), some (vi x1), some (vi x2)]) (by decide) (fun _ => rfl) (fun _ => Nat.le_of_ble_eq_true rfl) ?_
  intro G g _ _ _
  change Ok G cX6_needStuff RX6 3 { frames := 1, cells := 0, slots := 0, locals := 22 } (some .int) at g
  show Rg G oIS (fun v => v.2) (SHM, 0, 0) (SHM, 0, 0) S 0 [some (vr G 0), some (vi x1), some (vi x2)] [] (pX6_needStuff S x1 x2)
  unfold pX6_needStuff
  refine r_iload_n g dX6_needStuff_0 rfl ?_
  refine r_iconst g dX6_needStuff_1 ?_
  refine r_iconst g dX6_needStuff_2 ?_
  refine r_callS_PI g (kX6_in S x2 0 5) mX6_in w_1033 w_1034 (by decide) (fun _ => rfl) rfl (Nat.le_of_ble_eq_true rfl) dX6_needStuff_3 ?_
  intro z1_
  refine r_if_eq g 13 dX6_needStuff_6 (by decide) ?_ ?_
  · refine r_msk [false, false, false] rfl ?_
    exact tX6_needStuff_13 g
  · refine r_iload_n g dX6_needStuff_9 rfl ?_
    refine r_if_ne g 17 dX6_needStuff_10 (by decide) ?_ ?_
    · refine r_aload_n g dX6_needStuff_17 rfl ?_
      refine r_getC (c0 := 7) g KX6 shm_0 10 rfl (by decide) w_880 dX6_needStuff_18 ?_
      refine r_iload_n g dX6_needStuff_21 rfl ?_
      refine r_zald g shm_7 (by decide) dX6_needStuff_22 ?_
      intro z2_
      refine r_if_eq g 30 dX6_needStuff_23 (by decide) ?_ ?_
      · refine r_aload_n g dX6_needStuff_30 rfl ?_
        refine r_iconst g dX6_needStuff_31 ?_
        refine r_callV_WI (q := 0) (as := fun b => [vi 1]) g (kX6_meets S 1) mX6_meets shm_0 rfl w_1055 w_1057 w_28 (by decide) (fun _ => rfl) rfl (Nat.le_of_ble_eq_true rfl) dX6_needStuff_32 ?_
        intro z3_ S4_
        exact r_iret g dX6_needStuff_35 rfl rfl
      · refine r_iconst g dX6_needStuff_26 ?_
        refine r_goto g 35 dX6_needStuff_27 (by decide) ?_
        exact r_iret g dX6_needStuff_35 rfl rfl
    · refine r_msk [false, false, false] rfl ?_
      exact tX6_needStuff_13 g
theorem kX6_about (S : St) (x1 : Int) (x2 : Int)  : Con yX6_about cX6_about 4 (some .int) { frames := 2, cells := 0, slots := 0, locals := 44 } false SHM (SHM, 0, 0) (fun b => [.ref (b + 0), vi x1, vi x2]) S (fun _ => oIS) (fun v => v.2) (pX6_about S x1 x2) := by
  refine Con_of (fun b => [some (.ref (b + 0)), some (vi x1), some (vi x2), none]) (by decide) (fun _ => rfl) (fun _ => Nat.le_of_ble_eq_true rfl) ?_
  intro G g _ _ _
  change Ok G cX6_about RX6 4 { frames := 2, cells := 0, slots := 0, locals := 44 } (some .int) at g
  show Rg G oIS (fun v => v.2) (SHM, 0, 0) (SHM, 0, 0) S 0 [some (vr G 0), some (vi x1), some (vi x2), none] [] (pX6_about S x1 x2)
  unfold pX6_about
  refine r_aload_n g dX6_about_0 rfl ?_
  refine r_iload_n g dX6_about_1 rfl ?_
  refine r_iconst g dX6_about_2 ?_
  refine r_iconst g dX6_about_3 ?_
  refine r_callS_PI g (kX6_in S x2 0 4) mX6_in w_1033 w_1034 (by decide) (fun _ => rfl) rfl (Nat.le_of_ble_eq_true rfl) dX6_about_4 ?_
  intro z1_
  refine r_iload_n g dX6_about_7 rfl ?_
  refine r_callV_WI (q := 0) (as := fun b => [vi z1_, vi x1]) g (kX6_needStuff S z1_ x1) mX6_needStuff shm_0 rfl w_1129 w_1131 w_36 (by decide) (fun _ => rfl) rfl (Nat.le_of_ble_eq_true rfl) dX6_about_8 ?_
  intro z2_ S3_
  refine r_istore_n g 3 dX6_about_11 rfl (by decide) rfl ?_
  refine r_iload_n g dX6_about_12 rfl ?_
  refine r_if_ge g 20 dX6_about_13 (by decide) ?_ ?_
  · refine r_aload_n g dX6_about_20 rfl ?_
    refine r_aload_n g dX6_about_21 rfl ?_
    refine r_iload_n g dX6_about_22 rfl ?_
    refine r_iload_n g dX6_about_23 rfl ?_
    refine r_callV_PI (q := 0) (as := fun b => [vi x1, vi x2]) g (kX6_stuffTells S3_ x1 x2) mX6_stuffTells shm_0 rfl w_1133 w_1135 w_37 (by decide) (fun _ => rfl) rfl (Nat.le_of_ble_eq_true rfl) dX6_about_24 ?_
    intro z4_
    refine r_iconst g dX6_about_27 ?_
    refine r_callV_WI (q := 0) (as := fun b => [vi z4_, vi 1]) g (kX6_tells S3_ z4_ 1) mX6_tells shm_0 rfl w_1067 w_1069 w_30 (by decide) (fun _ => rfl) rfl (Nat.le_of_ble_eq_true rfl) dX6_about_28 ?_
    intro z5_ S6_
    exact r_iret g dX6_about_31 rfl rfl
  · refine r_iload_n g dX6_about_16 rfl ?_
    refine r_goto g 31 dX6_about_17 (by decide) ?_
    exact r_iret g dX6_about_31 rfl rfl
theorem tX6_lineOf_3B {G : Gx} {S : St} {x1 : Int} {x2 : Int} {x4 : Int} (g : Ok G cX6_lineOf RX6 7 { frames := 0, cells := 0, slots := 0, locals := 0 } (some .int))   {k3 : Int → Option (Int)} (hk3 : ∀ (x6' : Int), Rg G oI (fun _ => S) (SHM, 0, 0) (SHM, 0, 0) S 3 [some (vr G 0), some (vi x1), some (vl x2), none, some (vl x4), none, some (vi (x6'))] [] (k3 x6')) {x6 : Int} : Rg G oI (fun _ => S) (SHM, 0, 0) (SHM, 0, 0) S 3 [some (vr G 0), some (vi x1), some (vl x2), none, some (vl x4), none, some (vi x6)] [] (pX6_lineOf_3B S x1 x2 x4 k3 x6) := by
  unfold pX6_lineOf_3B
  refine r_iload g dX6_lineOf_3 rfl ?_
  refine r_iconst g dX6_lineOf_5 ?_
  refine r_iadd g dX6_lineOf_6 ?_
  refine r_aload_n g dX6_lineOf_7 rfl ?_
  refine r_getC (c0 := 8) g KX6 shm_0 11 rfl (by decide) w_881 dX6_lineOf_8 ?_
  refine r_iload_n g dX6_lineOf_11 rfl ?_
  refine r_iald g shm_8 (by decide) dX6_lineOf_12 ?_
  intro z1_
  refine r_icmp_ge g 44 dX6_lineOf_13 (by decide) ?_ ?_
  · refine r_iload g dX6_lineOf_44 rfl ?_
    exact r_iret g dX6_lineOf_46 rfl rfl
  · refine r_aload_n g dX6_lineOf_16 rfl ?_
    refine r_getC (c0 := 9) g KX6 shm_0 12 rfl (by decide) w_882 dX6_lineOf_17 ?_
    refine r_iconst g dX6_lineOf_20 ?_
    refine r_iload_n g dX6_lineOf_21 rfl ?_
    refine r_imul g dX6_lineOf_22 ?_
    refine r_iload g dX6_lineOf_23 rfl ?_
    refine r_iadd g dX6_lineOf_25 ?_
    refine r_iconst g dX6_lineOf_26 ?_
    refine r_iadd g dX6_lineOf_27 ?_
    refine r_iald g shm_9 (by decide) dX6_lineOf_28 ?_
    intro z2_
    refine r_i2l g dX6_lineOf_29 ?_
    refine r_lload g dX6_lineOf_30 rfl ?_
    refine r_lmul g dX6_lineOf_32 ?_
    refine r_lload_n g dX6_lineOf_33 rfl ?_
    refine r_lcmp_gt g 44 dX6_lineOf_34 dX6_lineOf_35 (by decide) ?_ ?_
    · refine r_iload g dX6_lineOf_44 rfl ?_
      exact r_iret g dX6_lineOf_46 rfl rfl
    · refine r_iinc g dX6_lineOf_38 (by decide) rfl ?_
      intro x6_3_
      change Rg _ _ _ _ _ _ _ [some (vr G 0), some (vi x1), some (vl x2), none, some (vl x4), none, some (vi x6_3_)] _ _
      refine r_goto g 3 dX6_lineOf_41 (by decide) ?_
      exact hk3 _
theorem tX6_lineOf_3 {G : Gx} {S : St} {x1 : Int} {x2 : Int} {x4 : Int} (g : Ok G cX6_lineOf RX6 7 { frames := 0, cells := 0, slots := 0, locals := 0 } (some .int))   : ∀ (n_ : Nat) (x6 : Int), Rg G oI (fun _ => S) (SHM, 0, 0) (SHM, 0, 0) S 3 [some (vr G 0), some (vi x1), some (vl x2), none, some (vl x4), none, some (vi x6)] [] (lo1 (pX6_lineOf_3B S x1 x2 x4) n_ x6) := by
  intro n_
  induction n_ with
  | zero => intro x6; exact r_none
  | succ n_ ih => intro x6; exact tX6_lineOf_3B g   ih
theorem kX6_lineOf (S : St) (x1 : Int) (x2 : Int) (x4 : Int)  : Con yX6_lineOf cX6_lineOf 7 (some .int) { frames := 0, cells := 0, slots := 0, locals := 0 } false SHM (SHM, 0, 0) (fun b => [.ref (b + 0), vi x1, vl x2, vl x4]) S (fun _ => oI) (fun _ => S) (pX6_lineOf S x1 x2 x4) := by
  refine Con_of (fun b => [some (.ref (b + 0)), some (vi x1), some (vl x2), none, some (vl x4), none, none]) (by decide) (fun _ => rfl) (fun _ => Nat.le_of_ble_eq_true rfl) ?_
  intro G g _ _ _
  change Ok G cX6_lineOf RX6 7 { frames := 0, cells := 0, slots := 0, locals := 0 } (some .int) at g
  show Rg G oI (fun _ => S) (SHM, 0, 0) (SHM, 0, 0) S 0 [some (vr G 0), some (vi x1), some (vl x2), none, some (vl x4), none, none] [] (pX6_lineOf S x1 x2 x4)
  unfold pX6_lineOf
  refine r_iconst g dX6_lineOf_0 ?_
  refine r_istore g dX6_lineOf_1 (by decide) rfl ?_
  exact tX6_lineOf_3 g _ _
theorem kX6_run (S : St) (x1 : Int) (x2 : Int)  : Con yX6_run cX6_run 3 (some .int) { frames := 0, cells := 0, slots := 0, locals := 0 } false SHM (SHM, 0, 0) (fun b => [.ref (b + 0), vi x1, vi x2]) S (fun _ => oI) (fun _ => S) (pX6_run S x1 x2) := by
  refine Con_of (fun b => [some (.ref (b + 0)), some (vi x1), some (vi x2)]) (by decide) (fun _ => rfl) (fun _ => Nat.le_of_ble_eq_true rfl) ?_
  intro G g _ _ _
  change Ok G cX6_run RX6 3 { frames := 0, cells := 0, slots := 0, locals := 0 } (some .int) at g
  show Rg G oI (fun _ => S) (SHM, 0, 0) (SHM, 0, 0) S 0 [some (vr G 0), some (vi x1), some (vi x2)] [] (pX6_run S x1 x2)
  unfold pX6_run
  refine r_aload_n g dX6_run_0 rfl ?_
  refine r_getC (c0 := 9) g KX6 shm_0 12 rfl (by decide) w_882 dX6_run_1 ?_
  refine r_iconst g dX6_run_4 ?_
  refine r_iload_n g dX6_run_5 rfl ?_
  refine r_imul g dX6_run_6 ?_
  refine r_iload_n g dX6_run_7 rfl ?_
  refine r_iadd g dX6_run_8 ?_
  refine r_iconst g dX6_run_9 ?_
  refine r_iadd g dX6_run_10 ?_
  refine r_iald g shm_9 (by decide) dX6_run_11 ?_
  intro z1_
  refine r_aload_n g dX6_run_12 rfl ?_
  refine r_getC (c0 := 9) g KX6 shm_0 12 rfl (by decide) w_882 dX6_run_13 ?_
  refine r_iconst g dX6_run_16 ?_
  refine r_iload_n g dX6_run_17 rfl ?_
  refine r_imul g dX6_run_18 ?_
  refine r_iload_n g dX6_run_19 rfl ?_
  refine r_iadd g dX6_run_20 ?_
  refine r_iald g shm_9 (by decide) dX6_run_21 ?_
  intro z2_
  refine r_isub g dX6_run_22 ?_
  exact r_iret g dX6_run_23 rfl rfl
theorem kX6_rise (S : St) (x1 : Int) (x2 : Int)  : Con yX6_rise cX6_rise 3 (some .int) { frames := 0, cells := 0, slots := 0, locals := 0 } false SHM (SHM, 0, 0) (fun b => [.ref (b + 0), vi x1, vi x2]) S (fun _ => oI) (fun _ => S) (pX6_rise S x1 x2) := by
  refine Con_of (fun b => [some (.ref (b + 0)), some (vi x1), some (vi x2)]) (by decide) (fun _ => rfl) (fun _ => Nat.le_of_ble_eq_true rfl) ?_
  intro G g _ _ _
  change Ok G cX6_rise RX6 3 { frames := 0, cells := 0, slots := 0, locals := 0 } (some .int) at g
  show Rg G oI (fun _ => S) (SHM, 0, 0) (SHM, 0, 0) S 0 [some (vr G 0), some (vi x1), some (vi x2)] [] (pX6_rise S x1 x2)
  unfold pX6_rise
  refine r_aload_n g dX6_rise_0 rfl ?_
  refine r_getC (c0 := 10) g KX6 shm_0 13 rfl (by decide) w_883 dX6_rise_1 ?_
  refine r_iconst g dX6_rise_4 ?_
  refine r_iload_n g dX6_rise_5 rfl ?_
  refine r_imul g dX6_rise_6 ?_
  refine r_iload_n g dX6_rise_7 rfl ?_
  refine r_iadd g dX6_rise_8 ?_
  refine r_iconst g dX6_rise_9 ?_
  refine r_iadd g dX6_rise_10 ?_
  refine r_iald g shm_10 (by decide) dX6_rise_11 ?_
  intro z1_
  refine r_aload_n g dX6_rise_12 rfl ?_
  refine r_getC (c0 := 10) g KX6 shm_0 13 rfl (by decide) w_883 dX6_rise_13 ?_
  refine r_iconst g dX6_rise_16 ?_
  refine r_iload_n g dX6_rise_17 rfl ?_
  refine r_imul g dX6_rise_18 ?_
  refine r_iload_n g dX6_rise_19 rfl ?_
  refine r_iadd g dX6_rise_20 ?_
  refine r_iald g shm_10 (by decide) dX6_rise_21 ?_
  intro z2_
  refine r_isub g dX6_rise_22 ?_
  exact r_iret g dX6_rise_23 rfl rfl
theorem kX6_layPush (S : St) (x1 : Int) (x2 : Int) (x4 : Int)  : Con yX6_layPush cX6_layPush 11 none { frames := 1, cells := 0, slots := 0, locals := 29 } false SHM (SHM, 0, 0) (fun b => [.ref (b + 0), vi x1, vl x2, vl x4]) S (fun _ => oVS) id (pX6_layPush S x1 x2 x4) := by
  refine Con_of (fun b => [some (.ref (b + 0)), some (vi x1), some (vl x2), none, some (vl x4), none, none, none, none, none, none]) (by decide) (fun _ => rfl) (fun _ => Nat.le_of_ble_eq_true rfl) ?_
  intro G g _ _ _
  change Ok G cX6_layPush RX6 11 { frames := 1, cells := 0, slots := 0, locals := 29 } none at g
  show Rg G oVS id (SHM, 0, 0) (SHM, 0, 0) S 0 [some (vr G 0), some (vi x1), some (vl x2), none, some (vl x4), none, none, none, none, none, none] [] (pX6_layPush S x1 x2 x4)
  unfold pX6_layPush
  refine r_aload_n g dX6_layPush_0 rfl ?_
  refine r_iload_n g dX6_layPush_1 rfl ?_
  refine r_lload_n g dX6_layPush_2 rfl ?_
  refine r_lload g dX6_layPush_3 rfl ?_
  refine r_callV_PI (q := 0) (as := fun b => [vi x1, vl x2, vl x4]) g (kX6_lineOf S x1 x2 x4) mX6_lineOf shm_0 rfl w_1145 w_1147 w_39 (by decide) (fun _ => rfl) rfl (Nat.le_of_ble_eq_true rfl) dX6_layPush_5 ?_
  intro z1_
  refine r_istore g dX6_layPush_8 (by decide) rfl ?_
  refine r_aload_n g dX6_layPush_10 rfl ?_
  refine r_iload_n g dX6_layPush_11 rfl ?_
  refine r_iload g dX6_layPush_12 rfl ?_
  refine r_callV_PI (q := 0) (as := fun b => [vi x1, vi z1_]) g (kX6_run S x1 z1_) mX6_run shm_0 rfl w_1149 w_1151 w_40 (by decide) (fun _ => rfl) rfl (Nat.le_of_ble_eq_true rfl) dX6_layPush_14 ?_
  intro z2_
  refine r_i2l g dX6_layPush_17 ?_
  refine r_lstore g dX6_layPush_18 (by decide) rfl ?_
  refine r_aload_n g dX6_layPush_20 rfl ?_
  refine r_aload_n g dX6_layPush_21 rfl ?_
  refine r_getC (c0 := 10) g KX6 shm_0 13 rfl (by decide) w_883 dX6_layPush_22 ?_
  refine r_iconst g dX6_layPush_25 ?_
  refine r_iload_n g dX6_layPush_26 rfl ?_
  refine r_imul g dX6_layPush_27 ?_
  refine r_iload g dX6_layPush_28 rfl ?_
  refine r_iadd g dX6_layPush_30 ?_
  refine r_iald g shm_10 (by decide) dX6_layPush_31 ?_
  intro z3_
  refine r_i2l g dX6_layPush_32 ?_
  refine r_lload g dX6_layPush_33 rfl ?_
  refine r_lmul g dX6_layPush_35 ?_
  refine r_lload g dX6_layPush_36 rfl ?_
  refine r_lmul g dX6_layPush_38 ?_
  refine r_lload_n g dX6_layPush_39 rfl ?_
  refine r_aload_n g dX6_layPush_40 rfl ?_
  refine r_getC (c0 := 9) g KX6 shm_0 12 rfl (by decide) w_882 dX6_layPush_41 ?_
  refine r_iconst g dX6_layPush_44 ?_
  refine r_iload_n g dX6_layPush_45 rfl ?_
  refine r_imul g dX6_layPush_46 ?_
  refine r_iload g dX6_layPush_47 rfl ?_
  refine r_iadd g dX6_layPush_49 ?_
  refine r_iald g shm_9 (by decide) dX6_layPush_50 ?_
  intro z4_
  refine r_i2l g dX6_layPush_51 ?_
  refine r_lload g dX6_layPush_52 rfl ?_
  refine r_lmul g dX6_layPush_54 ?_
  refine r_lsub g dX6_layPush_55 ?_
  refine r_aload_n g dX6_layPush_56 rfl ?_
  refine r_iload_n g dX6_layPush_57 rfl ?_
  refine r_iload g dX6_layPush_58 rfl ?_
  refine r_callV_PI (q := 0) (as := fun b => [vi x1, vi z1_]) g (kX6_rise S x1 z1_) mX6_rise shm_0 rfl w_1153 w_1155 w_41 (by decide) (fun _ => rfl) rfl (Nat.le_of_ble_eq_true rfl) dX6_layPush_60 ?_
  intro z5_
  refine r_i2l g dX6_layPush_63 ?_
  refine r_lmul g dX6_layPush_64 ?_
  refine r_ladd g dX6_layPush_65 ?_
  refine r_putL g KX6 shm_0 24 rfl (by decide) rfl rfl w_894 dX6_layPush_66 ?_
  intro S6_ _
  refine r_aload_n g dX6_layPush_69 rfl ?_
  refine r_lload g dX6_layPush_70 rfl ?_
  refine r_lload g dX6_layPush_72 rfl ?_
  refine r_lmul g dX6_layPush_74 ?_
  refine r_putL g KX6 shm_0 25 rfl (by decide) rfl rfl w_895 dX6_layPush_75 ?_
  intro S7_ _
  refine r_aload_n g dX6_layPush_78 rfl ?_
  refine r_getL g KX6 shm_0 24 rfl (by decide) w_894 dX6_layPush_79 ?_
  refine r_aload_n g dX6_layPush_82 rfl ?_
  refine r_getL g KX6 shm_0 25 rfl (by decide) w_895 dX6_layPush_83 ?_
  refine r_callS_PL g (kX6_gcd S7_ (S7_ 0 24) (S7_ 0 25)) mX6_gcd w_1157 w_1158 (by decide) (fun _ => rfl) rfl (Nat.le_of_ble_eq_true rfl) dX6_layPush_86 ?_
  intro z8_
  refine r_lstore g dX6_layPush_89 (by decide) rfl ?_
  refine r_aload_n g dX6_layPush_91 rfl ?_
  refine r_dup g dX6_layPush_92 rfl ?_
  refine r_getL g KX6 shm_0 24 rfl (by decide) w_894 dX6_layPush_93 ?_
  refine r_lload g dX6_layPush_96 rfl ?_
  refine r_ldiv g dX6_layPush_98 ?_
  intro z9_
  refine r_putL g KX6 shm_0 24 rfl (by decide) rfl rfl w_894 dX6_layPush_99 ?_
  intro S10_ _
  refine r_aload_n g dX6_layPush_102 rfl ?_
  refine r_dup g dX6_layPush_103 rfl ?_
  refine r_getL g KX6 shm_0 25 rfl (by decide) w_895 dX6_layPush_104 ?_
  refine r_lload g dX6_layPush_107 rfl ?_
  refine r_ldiv g dX6_layPush_109 ?_
  intro z11_
  refine r_putL g KX6 shm_0 25 rfl (by decide) rfl rfl w_895 dX6_layPush_110 ?_
  intro S12_ _
  exact r_vret g dX6_layPush_113 rfl rfl
theorem kX6_push (S : St) (x1 : Int) (x2 : Int)  : Con yX6_push cX6_push 4 (some .int) { frames := 2, cells := 0, slots := 0, locals := 59 } false SHM (SHM, 0, 0) (fun b => [.ref (b + 0), vi x1, vi x2]) S (fun _ => oIS) (fun v => v.2) (pX6_push S x1 x2) := by
  refine Con_of (fun b => [some (.ref (b + 0)), some (vi x1), some (vi x2), none]) (by decide) (fun _ => rfl) (fun _ => Nat.le_of_ble_eq_true rfl) ?_
  intro G g _ _ _
  change Ok G cX6_push RX6 4 { frames := 2, cells := 0, slots := 0, locals := 59 } (some .int) at g
  show Rg G oIS (fun v => v.2) (SHM, 0, 0) (SHM, 0, 0) S 0 [some (vr G 0), some (vi x1), some (vi x2), none] [] (pX6_push S x1 x2)
  unfold pX6_push
  refine r_aload_n g dX6_push_0 rfl ?_
  refine r_iload_n g dX6_push_1 rfl ?_
  refine r_iconst g dX6_push_2 ?_
  refine r_bipush g dX6_push_3 (by decide) ?_
  refine r_callS_PI g (kX6_in S x2 0 99) mX6_in w_1033 w_1034 (by decide) (fun _ => rfl) rfl (Nat.le_of_ble_eq_true rfl) dX6_push_5 ?_
  intro z1_
  refine r_iload_n g dX6_push_8 rfl ?_
  refine r_callV_WI (q := 0) (as := fun b => [vi z1_, vi x1]) g (kX6_needStuff S z1_ x1) mX6_needStuff shm_0 rfl w_1129 w_1131 w_36 (by decide) (fun _ => rfl) rfl (Nat.le_of_ble_eq_true rfl) dX6_push_9 ?_
  intro z2_ S3_
  refine r_istore_n g 3 dX6_push_12 rfl (by decide) rfl ?_
  refine r_iload_n g dX6_push_13 rfl ?_
  refine r_if_ge g 19 dX6_push_14 (by decide) ?_ ?_
  · refine r_aload_n g dX6_push_19 rfl ?_
    refine r_iload_n g dX6_push_20 rfl ?_
    refine r_iload_n g dX6_push_21 rfl ?_
    refine r_i2l g dX6_push_22 ?_
    refine r_lconst (x := 1) g dX6_push_23 (by decide) ?_
    refine r_callV_WV (q := 0) (as := fun b => [vi x1, vl x2, vl 1]) g (kX6_layPush S3_ x1 x2 1) mX6_layPush shm_0 rfl w_1141 w_1143 w_38 (by decide) (fun _ => rfl) rfl (Nat.le_of_ble_eq_true rfl) dX6_push_24 ?_
    intro S4_
    refine r_aload_n g dX6_push_27 rfl ?_
    refine r_aload_n g dX6_push_28 rfl ?_
    refine r_getL g KX6 shm_0 24 rfl (by decide) w_894 dX6_push_29 ?_
    refine r_aload_n g dX6_push_32 rfl ?_
    refine r_getL g KX6 shm_0 25 rfl (by decide) w_895 dX6_push_33 ?_
    refine r_iconst g dX6_push_36 ?_
    refine r_callV_WI (q := 0) (as := fun b => [vl (S4_ 0 24), vl (S4_ 0 25), vi 1]) g (kX6_fraction S4_ (S4_ 0 24) (S4_ 0 25) 1) mX6_fraction shm_0 rfl w_1160 w_1162 w_42 (by decide) (fun _ => rfl) rfl (Nat.le_of_ble_eq_true rfl) dX6_push_37 ?_
    intro z5_ S6_
    exact r_iret g dX6_push_40 rfl rfl
  · refine r_iload_n g dX6_push_17 rfl ?_
    exact r_iret g dX6_push_18 rfl rfl
theorem kX6_isPlace (S : St) (x0 : Int)  : Con yX6_isPlace cX6_isPlace 1 (some .boolean) { frames := 1, cells := 0, slots := 0, locals := 22 } false SHM (SHM, 0, 0) (fun b => [vi x0]) S (fun _ => oI) (fun _ => S) (pX6_isPlace x0) := by
  refine Con_of (fun b => [some (vi x0)]) (by decide) (fun _ => rfl) (fun _ => Nat.le_of_ble_eq_true rfl) ?_
  intro G g _ _ _
  change Ok G cX6_isPlace RX6 1 { frames := 1, cells := 0, slots := 0, locals := 22 } (some .boolean) at g
  show Rg G oI (fun _ => S) (SHM, 0, 0) (SHM, 0, 0) S 0 [some (vi x0)] [] (pX6_isPlace x0)
  unfold pX6_isPlace
  refine r_iload_n g dX6_isPlace_0 rfl ?_
  refine r_iconst g dX6_isPlace_1 ?_
  refine r_iconst g dX6_isPlace_2 ?_
  refine r_callS_PI g (kX6_in S x0 0 3) mX6_in w_1033 w_1034 (by decide) (fun _ => rfl) rfl (Nat.le_of_ble_eq_true rfl) dX6_isPlace_3 ?_
  intro z1_
  exact r_zret g dX6_isPlace_6 rfl rfl
theorem kX6_isSeal (S : St) (x1 : Int)  : Con yX6_isSeal cX6_isSeal 2 (some .boolean) { frames := 0, cells := 0, slots := 0, locals := 0 } false SHM (SHM, 0, 0) (fun b => [.ref (b + 0), vi x1]) S (fun _ => oI) (fun _ => S) (pX6_isSeal S x1) := by
  refine Con_of (fun b => [some (.ref (b + 0)), some (vi x1)]) (by decide) (fun _ => rfl) (fun _ => Nat.le_of_ble_eq_true rfl) ?_
  intro G g _ _ _
  change Ok G cX6_isSeal RX6 2 { frames := 0, cells := 0, slots := 0, locals := 0 } (some .boolean) at g
  show Rg G oI (fun _ => S) (SHM, 0, 0) (SHM, 0, 0) S 0 [some (vr G 0), some (vi x1)] [] (pX6_isSeal S x1)
  unfold pX6_isSeal
  refine r_aload_n g dX6_isSeal_0 rfl ?_
  refine r_getC (c0 := 18) g KX6 shm_0 26 rfl (by decide) w_896 dX6_isSeal_1 ?_
  refine r_iload_n g dX6_isSeal_4 rfl ?_
  refine r_iald g shm_18 (by decide) dX6_isSeal_5 ?_
  intro z1_
  refine r_bipush g dX6_isSeal_6 (by decide) ?_
  refine r_icmp_eq g 15 dX6_isSeal_8 (by decide) ?_ ?_
  · refine r_iconst g dX6_isSeal_15 ?_
    exact r_zret0 g (by decide) dX6_isSeal_16 rfl rfl
  · refine r_iconst g dX6_isSeal_11 ?_
    refine r_goto g 16 dX6_isSeal_12 (by decide) ?_
    exact r_zret0 g (by decide) dX6_isSeal_16 rfl rfl
theorem kX6_isRubber (S : St) (x1 : Int)  : Con yX6_isRubber cX6_isRubber 2 (some .boolean) { frames := 0, cells := 0, slots := 0, locals := 0 } false SHM (SHM, 0, 0) (fun b => [.ref (b + 0), vi x1]) S (fun _ => oI) (fun _ => S) (pX6_isRubber S x1) := by
  refine Con_of (fun b => [some (.ref (b + 0)), some (vi x1)]) (by decide) (fun _ => rfl) (fun _ => Nat.le_of_ble_eq_true rfl) ?_
  intro G g _ _ _
  change Ok G cX6_isRubber RX6 2 { frames := 0, cells := 0, slots := 0, locals := 0 } (some .boolean) at g
  show Rg G oI (fun _ => S) (SHM, 0, 0) (SHM, 0, 0) S 0 [some (vr G 0), some (vi x1)] [] (pX6_isRubber S x1)
  unfold pX6_isRubber
  refine r_aload_n g dX6_isRubber_0 rfl ?_
  refine r_getC (c0 := 18) g KX6 shm_0 26 rfl (by decide) w_896 dX6_isRubber_1 ?_
  refine r_iload_n g dX6_isRubber_4 rfl ?_
  refine r_iald g shm_18 (by decide) dX6_isRubber_5 ?_
  intro z1_
  refine r_if_le g 13 dX6_isRubber_6 (by decide) ?_ ?_
  · refine r_iconst g dX6_isRubber_13 ?_
    exact r_zret0 g (by decide) dX6_isRubber_14 rfl rfl
  · refine r_iconst g dX6_isRubber_9 ?_
    refine r_goto g 14 dX6_isRubber_10 (by decide) ?_
    exact r_zret0 g (by decide) dX6_isRubber_14 rfl rfl
theorem kX6_isRing (S : St) (x1 : Int)  : Con yX6_isRing cX6_isRing 2 (some .boolean) { frames := 0, cells := 0, slots := 0, locals := 0 } false SHM (SHM, 0, 0) (fun b => [.ref (b + 0), vi x1]) S (fun _ => oI) (fun _ => S) (pX6_isRing S x1) := by
  refine Con_of (fun b => [some (.ref (b + 0)), some (vi x1)]) (by decide) (fun _ => rfl) (fun _ => Nat.le_of_ble_eq_true rfl) ?_
  intro G g _ _ _
  change Ok G cX6_isRing RX6 2 { frames := 0, cells := 0, slots := 0, locals := 0 } (some .boolean) at g
  show Rg G oI (fun _ => S) (SHM, 0, 0) (SHM, 0, 0) S 0 [some (vr G 0), some (vi x1)] [] (pX6_isRing S x1)
  unfold pX6_isRing
  refine r_aload_n g dX6_isRing_0 rfl ?_
  refine r_getC (c0 := 18) g KX6 shm_0 26 rfl (by decide) w_896 dX6_isRing_1 ?_
  refine r_iload_n g dX6_isRing_4 rfl ?_
  refine r_iald g shm_18 (by decide) dX6_isRing_5 ?_
  intro z1_
  refine r_iconst g dX6_isRing_6 ?_
  refine r_icmp_lt g 14 dX6_isRing_7 (by decide) ?_ ?_
  · refine r_iconst g dX6_isRing_14 ?_
    exact r_zret0 g (by decide) dX6_isRing_15 rfl rfl
  · refine r_iconst g dX6_isRing_10 ?_
    refine r_goto g 15 dX6_isRing_11 (by decide) ?_
    exact r_zret0 g (by decide) dX6_isRing_15 rfl rfl
theorem tX6_seal_86 {G : Gx}  {S : St} {x1 : Int} {x2 : Int} {x3 : Int} {x4 : Int} {x5 : Int} (g : Ok G cX6_seal RX6 7 { frames := 2, cells := 0, slots := 0, locals := 42 } (some .int))   : Rg G oIS (fun v => v.2) (SHM, 0, 0) (SHM, 0, 0) S 86 [some (vr G 0), some (vi x1), some (vi x2), some (vi x3), some (vi x4), some (vi x5), none] [] (pX6_seal_86 S x1 x2 x3 x4 x5) := by
  unfold pX6_seal_86
  refine r_aload_n g dX6_seal_86 rfl ?_
  refine r_getC (c0 := 18) g KX6 shm_0 26 rfl (by decide) w_896 dX6_seal_87 ?_
  refine r_iload_n g dX6_seal_90 rfl ?_
  refine r_iload_n g dX6_seal_91 rfl ?_
  refine r_iast g shm_18 (by decide) dX6_seal_92 ?_
  intro S5_
  refine r_aload_n g dX6_seal_93 rfl ?_
  refine r_getC (c0 := 19) g KX6 shm_0 27 rfl (by decide) w_897 dX6_seal_94 ?_
  refine r_iload_n g dX6_seal_97 rfl ?_
  refine r_iload_n g dX6_seal_98 rfl ?_
  refine r_iast g shm_19 (by decide) dX6_seal_99 ?_
  intro S6_
  refine r_aload_n g dX6_seal_100 rfl ?_
  refine r_getC (c0 := 20) g KX6 shm_0 28 rfl (by decide) w_898 dX6_seal_101 ?_
  refine r_iload_n g dX6_seal_104 rfl ?_
  refine r_iload g dX6_seal_105 rfl ?_
  refine r_iast g shm_20 (by decide) dX6_seal_107 ?_
  intro S7_
  refine r_aload_n g dX6_seal_108 rfl ?_
  refine r_getC (c0 := 21) g KX6 shm_0 29 rfl (by decide) w_899 dX6_seal_109 ?_
  refine r_iload_n g dX6_seal_112 rfl ?_
  refine r_iload g dX6_seal_113 rfl ?_
  refine r_iast g shm_21 (by decide) dX6_seal_115 ?_
  intro S8_
  refine r_aload_n g dX6_seal_116 rfl ?_
  refine r_getC (c0 := 22) g KX6 shm_0 30 rfl (by decide) w_900 dX6_seal_117 ?_
  refine r_iload_n g dX6_seal_120 rfl ?_
  refine r_iload g dX6_seal_121 rfl ?_
  refine r_iast g shm_22 (by decide) dX6_seal_123 ?_
  intro S9_
  refine r_aload_n g dX6_seal_124 rfl ?_
  refine r_getC (c0 := 23) g KX6 shm_0 31 rfl (by decide) w_901 dX6_seal_125 ?_
  refine r_iload_n g dX6_seal_128 rfl ?_
  refine r_iconst g dX6_seal_129 ?_
  refine r_iast g shm_23 (by decide) dX6_seal_130 ?_
  intro S10_
  refine r_aload_n g dX6_seal_131 rfl ?_
  refine r_getC (c0 := 24) g KX6 shm_0 32 rfl (by decide) w_902 dX6_seal_132 ?_
  refine r_iload_n g dX6_seal_135 rfl ?_
  refine r_iconst g dX6_seal_136 ?_
  refine r_iast g shm_24 (by decide) dX6_seal_137 ?_
  intro S11_
  refine r_iconst g dX6_seal_138 ?_
  exact r_iret g dX6_seal_139 rfl rfl
theorem tX6_seal_18 {G : Gx}  {S : St} {x1 : Int} {x2 : Int} {x3 : Int} {x4 : Int} {x5 : Int} {s0 : Int} (g : Ok G cX6_seal RX6 7 { frames := 2, cells := 0, slots := 0, locals := 42 } (some .int))   : Rg G oIS (fun v => v.2) (SHM, 0, 0) (SHM, 0, 0) S 18 [some (vr G 0), some (vi x1), some (vi x2), some (vi x3), some (vi x4), some (vi x5), none] [vi s0] (pX6_seal_18 S x1 x2 x3 x4 x5 s0) := by
  unfold pX6_seal_18
  refine r_istore g dX6_seal_18 (by decide) rfl ?_
  refine r_iload_n g dX6_seal_20 rfl ?_
  refine r_callS_PI g (kX6_isPlace S x1) mX6_isPlace w_1168 w_1169 (by decide) (fun _ => rfl) rfl (Nat.le_of_ble_eq_true rfl) dX6_seal_21 ?_
  intro z1_
  refine r_if_eq g 65 dX6_seal_24 (by decide) ?_ ?_
  · refine r_iconst g dX6_seal_65 ?_
    exact r_iret g dX6_seal_66 rfl rfl
  · refine r_iload_n g dX6_seal_27 rfl ?_
    refine r_iconst g dX6_seal_28 ?_
    refine r_iconst g dX6_seal_29 ?_
    refine r_callS_PI g (kX6_in S x2 0 4) mX6_in w_1033 w_1034 (by decide) (fun _ => rfl) rfl (Nat.le_of_ble_eq_true rfl) dX6_seal_30 ?_
    intro z2_
    refine r_if_eq g 65 dX6_seal_33 (by decide) ?_ ?_
    · refine r_iconst g dX6_seal_65 ?_
      exact r_iret g dX6_seal_66 rfl rfl
    · refine r_iload g dX6_seal_36 rfl ?_
      refine r_if_eq g 65 dX6_seal_38 (by decide) ?_ ?_
      · refine r_iconst g dX6_seal_65 ?_
        exact r_iret g dX6_seal_66 rfl rfl
      · refine r_iload g dX6_seal_41 rfl ?_
        refine r_bipush g dX6_seal_43 (by decide) ?_
        refine r_sipush g dX6_seal_45 (by decide) ?_
        refine r_callS_PI g (kX6_in S x4 50 400) mX6_in w_1033 w_1034 (by decide) (fun _ => rfl) rfl (Nat.le_of_ble_eq_true rfl) dX6_seal_48 ?_
        intro z3_
        refine r_if_eq g 65 dX6_seal_51 (by decide) ?_ ?_
        · refine r_iconst g dX6_seal_65 ?_
          exact r_iret g dX6_seal_66 rfl rfl
        · refine r_iload g dX6_seal_54 rfl ?_
          refine r_iconst g dX6_seal_56 ?_
          refine r_bipush g dX6_seal_57 (by decide) ?_
          refine r_callS_PI g (kX6_in S x5 1 9) mX6_in w_1033 w_1034 (by decide) (fun _ => rfl) rfl (Nat.le_of_ble_eq_true rfl) dX6_seal_59 ?_
          intro z4_
          refine r_if_ne g 67 dX6_seal_62 (by decide) ?_ ?_
          · refine r_iload_n g dX6_seal_67 rfl ?_
            refine r_if_eq g 86 dX6_seal_68 (by decide) ?_ ?_
            · refine r_msk [true, true, true, true, true, true, false] rfl ?_
              exact tX6_seal_86 g
            · refine r_aload_n g dX6_seal_71 rfl ?_
              refine r_getC (c0 := 7) g KX6 shm_0 10 rfl (by decide) w_880 dX6_seal_72 ?_
              refine r_iload_n g dX6_seal_75 rfl ?_
              refine r_zald g shm_7 (by decide) dX6_seal_76 ?_
              intro z12_
              refine r_if_ne g 86 dX6_seal_77 (by decide) ?_ ?_
              · refine r_msk [true, true, true, true, true, true, false] rfl ?_
                exact tX6_seal_86 g
              · refine r_aload_n g dX6_seal_80 rfl ?_
                refine r_iconst g dX6_seal_81 ?_
                refine r_callV_WI (q := 0) (as := fun b => [vi 1]) g (kX6_meets S 1) mX6_meets shm_0 rfl w_1055 w_1057 w_28 (by decide) (fun _ => rfl) rfl (Nat.le_of_ble_eq_true rfl) dX6_seal_82 ?_
                intro z13_ S14_
                exact r_iret g dX6_seal_85 rfl rfl
          · refine r_iconst g dX6_seal_65 ?_
            exact r_iret g dX6_seal_66 rfl rfl
theorem tX6_seal_13 {G : Gx}  {S : St} {x1 : Int} {x2 : Int} {x3 : Int} {x4 : Int} {x5 : Int} (g : Ok G cX6_seal RX6 7 { frames := 2, cells := 0, slots := 0, locals := 42 } (some .int))   : Rg G oIS (fun v => v.2) (SHM, 0, 0) (SHM, 0, 0) S 13 [some (vr G 0), some (vi x1), some (vi x2), some (vi x3), some (vi x4), some (vi x5), none] [] (pX6_seal_13 S x1 x2 x3 x4 x5) := by
  unfold pX6_seal_13
  refine r_iconst g dX6_seal_13 ?_
  refine r_goto g 18 dX6_seal_14 (by decide) ?_
  exact tX6_seal_18 g
theorem kX6_seal (S : St) (x1 : Int) (x2 : Int) (x3 : Int) (x4 : Int) (x5 : Int)  : Con yX6_seal cX6_seal 7 (some .int) { frames := 2, cells := 0, slots := 0, locals := 42 } false SHM (SHM, 0, 0) (fun b => [.ref (b + 0), vi x1, vi x2, vi x3, vi x4, vi x5]) S (fun _ => oIS) (fun v => v.2) (pX6_seal S x1 x2 x3 x4 x5) := by
  refine Con_of (fun b => [some (.ref (b + 0)), some (vi x1), some (vi x2), some (vi x3), some (vi x4), some (vi x5), none]) (by decide) (fun _ => rfl) (fun _ => Nat.le_of_ble_eq_true rfl) ?_
  intro G g _ _ _
  change Ok G cX6_seal RX6 7 { frames := 2, cells := 0, slots := 0, locals := 42 } (some .int) at g
  show Rg G oIS (fun v => v.2) (SHM, 0, 0) (SHM, 0, 0) S 0 [some (vr G 0), some (vi x1), some (vi x2), some (vi x3), some (vi x4), some (vi x5), none] [] (pX6_seal S x1 x2 x3 x4 x5)
  unfold pX6_seal
  refine r_iload_n g dX6_seal_0 rfl ?_
  refine r_if_eq g 13 dX6_seal_1 (by decide) ?_ ?_
  · exact tX6_seal_13 g
  · refine r_iload_n g dX6_seal_4 rfl ?_
    refine r_iconst g dX6_seal_5 ?_
    refine r_iconst g dX6_seal_6 ?_
    refine r_callS_PI g (kX6_in S x3 0 5) mX6_in w_1033 w_1034 (by decide) (fun _ => rfl) rfl (Nat.le_of_ble_eq_true rfl) dX6_seal_7 ?_
    intro z15_
    refine r_if_eq g 17 dX6_seal_10 (by decide) ?_ ?_
    · refine r_iconst g dX6_seal_17 ?_
      exact tX6_seal_18 g
    · exact tX6_seal_13 g
theorem tX6_needSeal_11 {G : Gx}  {S : St}  (g : Ok G cX6_needSeal RX6 3 { frames := 2, cells := 0, slots := 0, locals := 42 } (some .int))   : Rg G oIS (fun v => v.2) (SHM, 0, 0) (SHM, 0, 0) S 11 [none, none, none] [] (pX6_needSeal_11 S) := by
  unfold pX6_needSeal_11
  refine r_iconst g dX6_needSeal_11 ?_
  refine r_goto g 32 dX6_needSeal_12 (by decide) ?_
  exact r_iret g dX6_needSeal_32 rfl rfl
theorem kX6_needSeal (S : St) (x1 : Int) (x2 : Int)  : Con yX6_needSeal cX6_needSeal 3 (some .int) { frames := 2, cells := 0, slots := 0, locals := 42 } false SHM (SHM, 0, 0) (fun b => [.ref (b + 0), vi x1, vi x2]) S (fun _ => oIS) (fun v => v.2) (pX6_needSeal S x1 x2) := by
  refine Con_of (fun b => [some (.ref (b + 0)), some (vi x1), some (vi x2)]) (by decide) (fun _ => rfl) (fun _ => Nat.le_of_ble_eq_true rfl) ?_
  intro G g _ _ _
  change Ok G cX6_needSeal RX6 3 { frames := 2, cells := 0, slots := 0, locals := 42 } (some .int) at g
  show Rg G oIS (fun v => v.2) (SHM, 0, 0) (SHM, 0, 0) S 0 [some (vr G 0), some (vi x1), some (vi x2)] [] (pX6_needSeal S x1 x2)
  unfold pX6_needSeal
  refine r_iload_n g dX6_needSeal_0 rfl ?_
  refine r_callS_PI g (kX6_isPlace S x2) mX6_isPlace w_1168 w_1169 (by decide) (fun _ => rfl) rfl (Nat.le_of_ble_eq_true rfl) dX6_needSeal_1 ?_
  intro z1_
  refine r_if_eq g 11 dX6_needSeal_4 (by decide) ?_ ?_
  · refine r_msk [false, false, false] rfl ?_
    exact tX6_needSeal_11 g
  · refine r_iload_n g dX6_needSeal_7 rfl ?_
    refine r_if_ne g 15 dX6_needSeal_8 (by decide) ?_ ?_
    · refine r_aload_n g dX6_needSeal_15 rfl ?_
      refine r_iload_n g dX6_needSeal_16 rfl ?_
      refine r_callV_PI (q := 0) (as := fun b => [vi x2]) g (kX6_isSeal S x2) mX6_isSeal shm_0 rfl w_1179 w_1181 w_44 (by decide) (fun _ => rfl) rfl (Nat.le_of_ble_eq_true rfl) dX6_needSeal_17 ?_
      intro z2_
      refine r_if_eq g 27 dX6_needSeal_20 (by decide) ?_ ?_
      · refine r_aload_n g dX6_needSeal_27 rfl ?_
        refine r_iconst g dX6_needSeal_28 ?_
        refine r_callV_WI (q := 0) (as := fun b => [vi 1]) g (kX6_meets S 1) mX6_meets shm_0 rfl w_1055 w_1057 w_28 (by decide) (fun _ => rfl) rfl (Nat.le_of_ble_eq_true rfl) dX6_needSeal_29 ?_
        intro z3_ S4_
        exact r_iret g dX6_needSeal_32 rfl rfl
      · refine r_iconst g dX6_needSeal_23 ?_
        refine r_goto g 32 dX6_needSeal_24 (by decide) ?_
        exact r_iret g dX6_needSeal_32 rfl rfl
    · refine r_msk [false, false, false] rfl ?_
      exact tX6_needSeal_11 g
theorem kX6_needRubber (S : St) (x1 : Int) (x2 : Int)  : Con yX6_needRubber cX6_needRubber 4 (some .int) { frames := 3, cells := 0, slots := 0, locals := 64 } false SHM (SHM, 0, 0) (fun b => [.ref (b + 0), vi x1, vi x2]) S (fun _ => oIS) (fun v => v.2) (pX6_needRubber S x1 x2) := by
  refine Con_of (fun b => [some (.ref (b + 0)), some (vi x1), some (vi x2), none]) (by decide) (fun _ => rfl) (fun _ => Nat.le_of_ble_eq_true rfl) ?_
  intro G g _ _ _
  change Ok G cX6_needRubber RX6 4 { frames := 3, cells := 0, slots := 0, locals := 64 } (some .int) at g
  show Rg G oIS (fun v => v.2) (SHM, 0, 0) (SHM, 0, 0) S 0 [some (vr G 0), some (vi x1), some (vi x2), none] [] (pX6_needRubber S x1 x2)
  unfold pX6_needRubber
  refine r_aload_n g dX6_needRubber_0 rfl ?_
  refine r_iload_n g dX6_needRubber_1 rfl ?_
  refine r_iload_n g dX6_needRubber_2 rfl ?_
  refine r_callV_WI (q := 0) (as := fun b => [vi x1, vi x2]) g (kX6_needSeal S x1 x2) mX6_needSeal shm_0 rfl w_1175 w_1177 w_43 (by decide) (fun _ => rfl) rfl (Nat.le_of_ble_eq_true rfl) dX6_needRubber_3 ?_
  intro z1_ S2_
  refine r_istore_n g 3 dX6_needRubber_6 rfl (by decide) rfl ?_
  refine r_iload_n g dX6_needRubber_7 rfl ?_
  refine r_if_ge g 15 dX6_needRubber_8 (by decide) ?_ ?_
  · refine r_aload_n g dX6_needRubber_15 rfl ?_
    refine r_iload_n g dX6_needRubber_16 rfl ?_
    refine r_callV_PI (q := 0) (as := fun b => [vi x2]) g (kX6_isRubber S2_ x2) mX6_isRubber shm_0 rfl w_1210 w_1212 w_47 (by decide) (fun _ => rfl) rfl (Nat.le_of_ble_eq_true rfl) dX6_needRubber_17 ?_
    intro z3_
    refine r_if_eq g 27 dX6_needRubber_20 (by decide) ?_ ?_
    · refine r_aload_n g dX6_needRubber_27 rfl ?_
      refine r_iconst g dX6_needRubber_28 ?_
      refine r_callV_WI (q := 0) (as := fun b => [vi 3]) g (kX6_meets S2_ 3) mX6_meets shm_0 rfl w_1055 w_1057 w_28 (by decide) (fun _ => rfl) rfl (Nat.le_of_ble_eq_true rfl) dX6_needRubber_29 ?_
      intro z4_ S5_
      exact r_iret g dX6_needRubber_32 rfl rfl
    · refine r_iconst g dX6_needRubber_23 ?_
      refine r_goto g 32 dX6_needRubber_24 (by decide) ?_
      exact r_iret g dX6_needRubber_32 rfl rfl
  · refine r_iload_n g dX6_needRubber_11 rfl ?_
    refine r_goto g 32 dX6_needRubber_12 (by decide) ?_
    exact r_iret g dX6_needRubber_32 rfl rfl
theorem kX6_take (S : St) (x1 : Int)  : Con yX6_take cX6_take 3 (some .int) { frames := 3, cells := 0, slots := 0, locals := 64 } false SHM (SHM, 0, 0) (fun b => [.ref (b + 0), vi x1]) S (fun _ => oIS) (fun v => v.2) (pX6_take S x1) := by
  refine Con_of (fun b => [some (.ref (b + 0)), some (vi x1), none]) (by decide) (fun _ => rfl) (fun _ => Nat.le_of_ble_eq_true rfl) ?_
  intro G g _ _ _
  change Ok G cX6_take RX6 3 { frames := 3, cells := 0, slots := 0, locals := 64 } (some .int) at g
  show Rg G oIS (fun v => v.2) (SHM, 0, 0) (SHM, 0, 0) S 0 [some (vr G 0), some (vi x1), none] [] (pX6_take S x1)
  unfold pX6_take
  refine r_aload_n g dX6_take_0 rfl ?_
  refine r_iconst g dX6_take_1 ?_
  refine r_iload_n g dX6_take_2 rfl ?_
  refine r_callV_WI (q := 0) (as := fun b => [vi 1, vi x1]) g (kX6_needSeal S 1 x1) mX6_needSeal shm_0 rfl w_1175 w_1177 w_43 (by decide) (fun _ => rfl) rfl (Nat.le_of_ble_eq_true rfl) dX6_take_3 ?_
  intro z1_ S2_
  refine r_istore_n g 2 dX6_take_6 rfl (by decide) rfl ?_
  refine r_iload_n g dX6_take_7 rfl ?_
  refine r_if_ge g 13 dX6_take_8 (by decide) ?_ ?_
  · refine r_aload_n g dX6_take_13 rfl ?_
    refine r_getC (c0 := 18) g KX6 shm_0 26 rfl (by decide) w_896 dX6_take_14 ?_
    refine r_iload_n g dX6_take_17 rfl ?_
    refine r_bipush g dX6_take_18 (by decide) ?_
    refine r_iast g shm_18 (by decide) dX6_take_20 ?_
    intro S3_
    refine r_iconst g dX6_take_21 ?_
    exact r_iret g dX6_take_22 rfl rfl
  · refine r_iload_n g dX6_take_11 rfl ?_
    exact r_iret g dX6_take_12 rfl rfl
theorem kX6_depth (S : St) (x1 : Int) (x2 : Int)  : Con yX6_depth cX6_depth 4 (some .int) { frames := 2, cells := 0, slots := 0, locals := 42 } false SHM (SHM, 0, 0) (fun b => [.ref (b + 0), vi x1, vi x2]) S (fun _ => oIS) (fun v => v.2) (pX6_depth S x1 x2) := by
  refine Con_of (fun b => [some (.ref (b + 0)), some (vi x1), some (vi x2), none]) (by decide) (fun _ => rfl) (fun _ => Nat.le_of_ble_eq_true rfl) ?_
  intro G g _ _ _
  change Ok G cX6_depth RX6 4 { frames := 2, cells := 0, slots := 0, locals := 42 } (some .int) at g
  show Rg G oIS (fun v => v.2) (SHM, 0, 0) (SHM, 0, 0) S 0 [some (vr G 0), some (vi x1), some (vi x2), none] [] (pX6_depth S x1 x2)
  unfold pX6_depth
  refine r_iload_n g dX6_depth_0 rfl ?_
  refine r_callS_PI g (kX6_isPlace S x1) mX6_isPlace w_1168 w_1169 (by decide) (fun _ => rfl) rfl (Nat.le_of_ble_eq_true rfl) dX6_depth_1 ?_
  intro z1_
  refine r_if_eq g 18 dX6_depth_4 (by decide) ?_ ?_
  · refine r_iconst g dX6_depth_18 ?_
    exact r_iret g dX6_depth_19 rfl rfl
  · refine r_iload_n g dX6_depth_7 rfl ?_
    refine r_iconst g dX6_depth_8 ?_
    refine r_sipush g dX6_depth_9 (by decide) ?_
    refine r_callS_PI g (kX6_in S x2 0 200) mX6_in w_1033 w_1034 (by decide) (fun _ => rfl) rfl (Nat.le_of_ble_eq_true rfl) dX6_depth_12 ?_
    intro z2_
    refine r_if_ne g 20 dX6_depth_15 (by decide) ?_ ?_
    · refine r_aload_n g dX6_depth_20 rfl ?_
      refine r_getC (c0 := 25) g KX6 shm_0 33 rfl (by decide) w_903 dX6_depth_21 ?_
      refine r_iload_n g dX6_depth_24 rfl ?_
      refine r_iald g shm_25 (by decide) dX6_depth_25 ?_
      intro z3_
      refine r_istore_n g 3 dX6_depth_26 rfl (by decide) rfl ?_
      refine r_aload_n g dX6_depth_27 rfl ?_
      refine r_getC (c0 := 25) g KX6 shm_0 33 rfl (by decide) w_903 dX6_depth_28 ?_
      refine r_iload_n g dX6_depth_31 rfl ?_
      refine r_iload_n g dX6_depth_32 rfl ?_
      refine r_iast g shm_25 (by decide) dX6_depth_33 ?_
      intro S4_
      refine r_iload_n g dX6_depth_34 rfl ?_
      exact r_iret g dX6_depth_35 rfl rfl
    · refine r_iconst g dX6_depth_18 ?_
      exact r_iret g dX6_depth_19 rfl rfl
theorem kX6_stretched (S : St) (x0 : Int) (x1 : Int)  : Con yX6_stretched cX6_stretched 2 (some .int) { frames := 0, cells := 0, slots := 0, locals := 0 } false SHM (SHM, 0, 0) (fun b => [vi x0, vi x1]) S (fun _ => oI) (fun _ => S) (pX6_stretched x0 x1) := by
  refine Con_of (fun b => [some (vi x0), some (vi x1)]) (by decide) (fun _ => rfl) (fun _ => Nat.le_of_ble_eq_true rfl) ?_
  intro G g _ _ _
  change Ok G cX6_stretched RX6 2 { frames := 0, cells := 0, slots := 0, locals := 0 } (some .int) at g
  show Rg G oI (fun _ => S) (SHM, 0, 0) (SHM, 0, 0) S 0 [some (vi x0), some (vi x1)] [] (pX6_stretched x0 x1)
  unfold pX6_stretched
  refine r_iload_n g dX6_stretched_0 rfl ?_
  refine r_sipush g dX6_stretched_1 (by decide) ?_
  refine r_iload_n g dX6_stretched_4 rfl ?_
  refine r_isub g dX6_stretched_5 ?_
  refine r_imul g dX6_stretched_6 ?_
  refine r_sipush g dX6_stretched_7 (by decide) ?_
  refine r_idiv g dX6_stretched_10 ?_
  intro z1_
  exact r_iret g dX6_stretched_11 rfl rfl
theorem kX6_stretch (S : St) (x1 : Int) (x2 : Int)  : Con yX6_stretch cX6_stretch 4 (some .int) { frames := 3, cells := 0, slots := 0, locals := 64 } false SHM (SHM, 0, 0) (fun b => [.ref (b + 0), vi x1, vi x2]) S (fun _ => oIS) (fun v => v.2) (pX6_stretch S x1 x2) := by
  refine Con_of (fun b => [some (.ref (b + 0)), some (vi x1), some (vi x2), none]) (by decide) (fun _ => rfl) (fun _ => Nat.le_of_ble_eq_true rfl) ?_
  intro G g _ _ _
  change Ok G cX6_stretch RX6 4 { frames := 3, cells := 0, slots := 0, locals := 64 } (some .int) at g
  show Rg G oIS (fun v => v.2) (SHM, 0, 0) (SHM, 0, 0) S 0 [some (vr G 0), some (vi x1), some (vi x2), none] [] (pX6_stretch S x1 x2)
  unfold pX6_stretch
  refine r_aload_n g dX6_stretch_0 rfl ?_
  refine r_iload_n g dX6_stretch_1 rfl ?_
  refine r_iconst g dX6_stretch_2 ?_
  refine r_bipush g dX6_stretch_3 (by decide) ?_
  refine r_callS_PI g (kX6_in S x2 0 40) mX6_in w_1033 w_1034 (by decide) (fun _ => rfl) rfl (Nat.le_of_ble_eq_true rfl) dX6_stretch_5 ?_
  intro z1_
  refine r_iload_n g dX6_stretch_8 rfl ?_
  refine r_callV_WI (q := 0) (as := fun b => [vi z1_, vi x1]) g (kX6_needSeal S z1_ x1) mX6_needSeal shm_0 rfl w_1175 w_1177 w_43 (by decide) (fun _ => rfl) rfl (Nat.le_of_ble_eq_true rfl) dX6_stretch_9 ?_
  intro z2_ S3_
  refine r_istore_n g 3 dX6_stretch_12 rfl (by decide) rfl ?_
  refine r_iload_n g dX6_stretch_13 rfl ?_
  refine r_if_ge g 19 dX6_stretch_14 (by decide) ?_ ?_
  · refine r_aload_n g dX6_stretch_19 rfl ?_
    refine r_iload_n g dX6_stretch_20 rfl ?_
    refine r_callV_PI (q := 0) (as := fun b => [vi x1]) g (kX6_isRing S3_ x1) mX6_isRing shm_0 rfl w_1191 w_1193 w_45 (by decide) (fun _ => rfl) rfl (Nat.le_of_ble_eq_true rfl) dX6_stretch_21 ?_
    intro z4_
    refine r_if_ne g 33 dX6_stretch_24 (by decide) ?_ ?_
    · refine r_aload_n g dX6_stretch_33 rfl ?_
      refine r_getC (c0 := 23) g KX6 shm_0 31 rfl (by decide) w_901 dX6_stretch_34 ?_
      refine r_iload_n g dX6_stretch_37 rfl ?_
      refine r_iload_n g dX6_stretch_38 rfl ?_
      refine r_iast g shm_23 (by decide) dX6_stretch_39 ?_
      intro S5_
      refine r_aload_n g dX6_stretch_40 rfl ?_
      refine r_getC (c0 := 21) g KX6 shm_0 29 rfl (by decide) w_899 dX6_stretch_41 ?_
      refine r_iload_n g dX6_stretch_44 rfl ?_
      refine r_aload_n g dX6_stretch_45 rfl ?_
      refine r_getC (c0 := 20) g KX6 shm_0 28 rfl (by decide) w_898 dX6_stretch_46 ?_
      refine r_iload_n g dX6_stretch_49 rfl ?_
      refine r_iald g shm_20 (by decide) dX6_stretch_50 ?_
      intro z6_
      refine r_iload_n g dX6_stretch_51 rfl ?_
      refine r_callS_PI g (kX6_stretched S5_ z6_ x2) mX6_stretched w_1195 w_1196 (by decide) (fun _ => rfl) rfl (Nat.le_of_ble_eq_true rfl) dX6_stretch_52 ?_
      intro z7_
      refine r_iast g shm_21 (by decide) dX6_stretch_55 ?_
      intro S8_
      refine r_aload_n g dX6_stretch_56 rfl ?_
      refine r_getC (c0 := 21) g KX6 shm_0 29 rfl (by decide) w_899 dX6_stretch_57 ?_
      refine r_iload_n g dX6_stretch_60 rfl ?_
      refine r_iald g shm_21 (by decide) dX6_stretch_61 ?_
      intro z9_
      exact r_iret g dX6_stretch_62 rfl rfl
    · refine r_aload_n g dX6_stretch_27 rfl ?_
      refine r_iconst g dX6_stretch_28 ?_
      refine r_callV_WI (q := 0) (as := fun b => [vi 3]) g (kX6_meets S3_ 3) mX6_meets shm_0 rfl w_1055 w_1057 w_28 (by decide) (fun _ => rfl) rfl (Nat.le_of_ble_eq_true rfl) dX6_stretch_29 ?_
      intro z10_ S11_
      exact r_iret g dX6_stretch_32 rfl rfl
  · refine r_iload_n g dX6_stretch_17 rfl ?_
    exact r_iret g dX6_stretch_18 rfl rfl
theorem kX6_sealTells (S : St) (x1 : Int) (x2 : Int)  : Con yX6_sealTells cX6_sealTells 3 (some .int) { frames := 0, cells := 0, slots := 0, locals := 0 } false SHM (SHM, 0, 0) (fun b => [.ref (b + 0), vi x1, vi x2]) S (fun _ => oI) (fun _ => S) (pX6_sealTells S x1 x2) := by
  refine Con_of (fun b => [some (.ref (b + 0)), some (vi x1), some (vi x2)]) (by decide) (fun _ => rfl) (fun _ => Nat.le_of_ble_eq_true rfl) ?_
  intro G g _ _ _
  change Ok G cX6_sealTells RX6 3 { frames := 0, cells := 0, slots := 0, locals := 0 } (some .int) at g
  show Rg G oI (fun _ => S) (SHM, 0, 0) (SHM, 0, 0) S 0 [some (vr G 0), some (vi x1), some (vi x2)] [] (pX6_sealTells S x1 x2)
  unfold pX6_sealTells
  refine r_iload_n g dX6_sealTells_0 rfl ?_
  refine r_if_ne g 13 dX6_sealTells_1 (by decide) ?_ ?_
  · refine r_iload_n g dX6_sealTells_13 rfl ?_
    refine r_iconst g dX6_sealTells_14 ?_
    refine r_icmp_ne g 27 dX6_sealTells_15 (by decide) ?_ ?_
    · refine r_iload_n g dX6_sealTells_27 rfl ?_
      refine r_iconst g dX6_sealTells_28 ?_
      refine r_icmp_ne g 41 dX6_sealTells_29 (by decide) ?_ ?_
      · refine r_iload_n g dX6_sealTells_41 rfl ?_
        refine r_iconst g dX6_sealTells_42 ?_
        refine r_icmp_ne g 55 dX6_sealTells_43 (by decide) ?_ ?_
        · refine r_aload_n g dX6_sealTells_55 rfl ?_
          refine r_getC (c0 := 25) g KX6 shm_0 33 rfl (by decide) w_903 dX6_sealTells_56 ?_
          refine r_iload_n g dX6_sealTells_59 rfl ?_
          refine r_iald g shm_25 (by decide) dX6_sealTells_60 ?_
          intro z1_
          exact r_iret g dX6_sealTells_61 rfl rfl
        · refine r_aload_n g dX6_sealTells_46 rfl ?_
          refine r_getC (c0 := 22) g KX6 shm_0 30 rfl (by decide) w_900 dX6_sealTells_47 ?_
          refine r_iload_n g dX6_sealTells_50 rfl ?_
          refine r_iald g shm_22 (by decide) dX6_sealTells_51 ?_
          intro z2_
          refine r_goto g 61 dX6_sealTells_52 (by decide) ?_
          exact r_iret g dX6_sealTells_61 rfl rfl
      · refine r_aload_n g dX6_sealTells_32 rfl ?_
        refine r_getC (c0 := 20) g KX6 shm_0 28 rfl (by decide) w_898 dX6_sealTells_33 ?_
        refine r_iload_n g dX6_sealTells_36 rfl ?_
        refine r_iald g shm_20 (by decide) dX6_sealTells_37 ?_
        intro z3_
        refine r_goto g 61 dX6_sealTells_38 (by decide) ?_
        exact r_iret g dX6_sealTells_61 rfl rfl
    · refine r_aload_n g dX6_sealTells_18 rfl ?_
      refine r_getC (c0 := 21) g KX6 shm_0 29 rfl (by decide) w_899 dX6_sealTells_19 ?_
      refine r_iload_n g dX6_sealTells_22 rfl ?_
      refine r_iald g shm_21 (by decide) dX6_sealTells_23 ?_
      intro z4_
      refine r_goto g 61 dX6_sealTells_24 (by decide) ?_
      exact r_iret g dX6_sealTells_61 rfl rfl
  · refine r_aload_n g dX6_sealTells_4 rfl ?_
    refine r_getC (c0 := 18) g KX6 shm_0 26 rfl (by decide) w_896 dX6_sealTells_5 ?_
    refine r_iload_n g dX6_sealTells_8 rfl ?_
    refine r_iald g shm_18 (by decide) dX6_sealTells_9 ?_
    intro z5_
    refine r_goto g 61 dX6_sealTells_10 (by decide) ?_
    exact r_iret g dX6_sealTells_61 rfl rfl
theorem kX6_told (S : St) (x1 : Int) (x2 : Int)  : Con yX6_told cX6_told 4 (some .int) { frames := 3, cells := 0, slots := 0, locals := 64 } false SHM (SHM, 0, 0) (fun b => [.ref (b + 0), vi x1, vi x2]) S (fun _ => oIS) (fun v => v.2) (pX6_told S x1 x2) := by
  refine Con_of (fun b => [some (.ref (b + 0)), some (vi x1), some (vi x2), none]) (by decide) (fun _ => rfl) (fun _ => Nat.le_of_ble_eq_true rfl) ?_
  intro G g _ _ _
  change Ok G cX6_told RX6 4 { frames := 3, cells := 0, slots := 0, locals := 64 } (some .int) at g
  show Rg G oIS (fun v => v.2) (SHM, 0, 0) (SHM, 0, 0) S 0 [some (vr G 0), some (vi x1), some (vi x2), none] [] (pX6_told S x1 x2)
  unfold pX6_told
  refine r_aload_n g dX6_told_0 rfl ?_
  refine r_iload_n g dX6_told_1 rfl ?_
  refine r_iconst g dX6_told_2 ?_
  refine r_iconst g dX6_told_3 ?_
  refine r_callS_PI g (kX6_in S x2 0 4) mX6_in w_1033 w_1034 (by decide) (fun _ => rfl) rfl (Nat.le_of_ble_eq_true rfl) dX6_told_4 ?_
  intro z1_
  refine r_iload_n g dX6_told_7 rfl ?_
  refine r_callV_WI (q := 0) (as := fun b => [vi z1_, vi x1]) g (kX6_needSeal S z1_ x1) mX6_needSeal shm_0 rfl w_1175 w_1177 w_43 (by decide) (fun _ => rfl) rfl (Nat.le_of_ble_eq_true rfl) dX6_told_8 ?_
  intro z2_ S3_
  refine r_istore_n g 3 dX6_told_11 rfl (by decide) rfl ?_
  refine r_iload_n g dX6_told_12 rfl ?_
  refine r_if_ge g 20 dX6_told_13 (by decide) ?_ ?_
  · refine r_aload_n g dX6_told_20 rfl ?_
    refine r_aload_n g dX6_told_21 rfl ?_
    refine r_iload_n g dX6_told_22 rfl ?_
    refine r_iload_n g dX6_told_23 rfl ?_
    refine r_callV_PI (q := 0) (as := fun b => [vi x1, vi x2]) g (kX6_sealTells S3_ x1 x2) mX6_sealTells shm_0 rfl w_1202 w_1204 w_46 (by decide) (fun _ => rfl) rfl (Nat.le_of_ble_eq_true rfl) dX6_told_24 ?_
    intro z4_
    refine r_iconst g dX6_told_27 ?_
    refine r_callV_WI (q := 0) (as := fun b => [vi z4_, vi 1]) g (kX6_tells S3_ z4_ 1) mX6_tells shm_0 rfl w_1067 w_1069 w_30 (by decide) (fun _ => rfl) rfl (Nat.le_of_ble_eq_true rfl) dX6_told_28 ?_
    intro z5_ S6_
    exact r_iret g dX6_told_31 rfl rfl
  · refine r_iload_n g dX6_told_16 rfl ?_
    refine r_goto g 31 dX6_told_17 (by decide) ?_
    exact r_iret g dX6_told_31 rfl rfl
theorem tX6_mark_59 {G : Gx}  {S : St} {x1 : Int} {x2 : Int} {s0 : Int} (g : Ok G cX6_mark RX6 5 { frames := 3, cells := 0, slots := 0, locals := 64 } (some .int))   : Rg G oIS (fun v => v.2) (SHM, 0, 0) (SHM, 0, 0) S 59 [some (vr G 0), some (vi x1), some (vi x2), none, none] [vi s0] (pX6_mark_59 S x1 x2 s0) := by
  unfold pX6_mark_59
  refine r_istore g dX6_mark_59 (by decide) rfl ?_
  refine r_iload g dX6_mark_61 rfl ?_
  refine r_if_ne g 74 dX6_mark_63 (by decide) ?_ ?_
  · refine r_iload_n g dX6_mark_74 rfl ?_
    refine r_iconst g dX6_mark_75 ?_
    refine r_icmp_ne g 88 dX6_mark_76 (by decide) ?_ ?_
    · refine r_iload_n g dX6_mark_88 rfl ?_
      refine r_iconst g dX6_mark_89 ?_
      refine r_icmp_ne g 102 dX6_mark_90 (by decide) ?_ ?_
      · refine r_aload_n g dX6_mark_102 rfl ?_
        refine r_getC (c0 := 24) g KX6 shm_0 32 rfl (by decide) w_902 dX6_mark_103 ?_
        refine r_iload_n g dX6_mark_106 rfl ?_
        refine r_iald g shm_24 (by decide) dX6_mark_107 ?_
        intro z5_
        exact r_iret g dX6_mark_108 rfl rfl
      · refine r_aload_n g dX6_mark_93 rfl ?_
        refine r_getC (c0 := 23) g KX6 shm_0 31 rfl (by decide) w_901 dX6_mark_94 ?_
        refine r_iload_n g dX6_mark_97 rfl ?_
        refine r_iald g shm_23 (by decide) dX6_mark_98 ?_
        intro z6_
        refine r_goto g 108 dX6_mark_99 (by decide) ?_
        exact r_iret g dX6_mark_108 rfl rfl
    · refine r_aload_n g dX6_mark_79 rfl ?_
      refine r_getC (c0 := 19) g KX6 shm_0 27 rfl (by decide) w_897 dX6_mark_80 ?_
      refine r_iload_n g dX6_mark_83 rfl ?_
      refine r_iald g shm_19 (by decide) dX6_mark_84 ?_
      intro z7_
      refine r_goto g 108 dX6_mark_85 (by decide) ?_
      exact r_iret g dX6_mark_108 rfl rfl
  · refine r_aload_n g dX6_mark_66 rfl ?_
    refine r_iconst g dX6_mark_67 ?_
    refine r_callV_WI (q := 0) (as := fun b => [vi 3]) g (kX6_meets S 3) mX6_meets shm_0 rfl w_1055 w_1057 w_28 (by decide) (fun _ => rfl) rfl (Nat.le_of_ble_eq_true rfl) dX6_mark_68 ?_
    intro z8_ S9_
    refine r_goto g 108 dX6_mark_71 (by decide) ?_
    exact r_iret g dX6_mark_108 rfl rfl
theorem kX6_mark (S : St) (x1 : Int) (x2 : Int)  : Con yX6_mark cX6_mark 5 (some .int) { frames := 3, cells := 0, slots := 0, locals := 64 } false SHM (SHM, 0, 0) (fun b => [.ref (b + 0), vi x1, vi x2]) S (fun _ => oIS) (fun v => v.2) (pX6_mark S x1 x2) := by
  refine Con_of (fun b => [some (.ref (b + 0)), some (vi x1), some (vi x2), none, none]) (by decide) (fun _ => rfl) (fun _ => Nat.le_of_ble_eq_true rfl) ?_
  intro G g _ _ _
  change Ok G cX6_mark RX6 5 { frames := 3, cells := 0, slots := 0, locals := 64 } (some .int) at g
  show Rg G oIS (fun v => v.2) (SHM, 0, 0) (SHM, 0, 0) S 0 [some (vr G 0), some (vi x1), some (vi x2), none, none] [] (pX6_mark S x1 x2)
  unfold pX6_mark
  refine r_aload_n g dX6_mark_0 rfl ?_
  refine r_iload_n g dX6_mark_1 rfl ?_
  refine r_iconst g dX6_mark_2 ?_
  refine r_iconst g dX6_mark_3 ?_
  refine r_callS_PI g (kX6_in S x2 1 4) mX6_in w_1033 w_1034 (by decide) (fun _ => rfl) rfl (Nat.le_of_ble_eq_true rfl) dX6_mark_4 ?_
  intro z1_
  refine r_iload_n g dX6_mark_7 rfl ?_
  refine r_callV_WI (q := 0) (as := fun b => [vi z1_, vi x1]) g (kX6_needSeal S z1_ x1) mX6_needSeal shm_0 rfl w_1175 w_1177 w_43 (by decide) (fun _ => rfl) rfl (Nat.le_of_ble_eq_true rfl) dX6_mark_8 ?_
  intro z2_ S3_
  refine r_istore_n g 3 dX6_mark_11 rfl (by decide) rfl ?_
  refine r_iload_n g dX6_mark_12 rfl ?_
  refine r_if_ge g 18 dX6_mark_13 (by decide) ?_ ?_
  · refine r_iload_n g dX6_mark_18 rfl ?_
    refine r_iconst g dX6_mark_19 ?_
    refine r_icmp_ne g 31 dX6_mark_20 (by decide) ?_ ?_
    · refine r_iload_n g dX6_mark_31 rfl ?_
      refine r_iconst g dX6_mark_32 ?_
      refine r_icmp_ne g 44 dX6_mark_33 (by decide) ?_ ?_
      · refine r_aload_n g dX6_mark_44 rfl ?_
        refine r_getC (c0 := 18) g KX6 shm_0 26 rfl (by decide) w_896 dX6_mark_45 ?_
        refine r_iload_n g dX6_mark_48 rfl ?_
        refine r_iald g shm_18 (by decide) dX6_mark_49 ?_
        intro z4_
        refine r_iload_n g dX6_mark_50 rfl ?_
        refine r_icmp_ne g 58 dX6_mark_51 (by decide) ?_ ?_
        · refine r_iconst g dX6_mark_58 ?_
          refine r_msk [true, true, true, false, false] rfl ?_
          exact tX6_mark_59 g
        · refine r_iconst g dX6_mark_54 ?_
          refine r_goto g 59 dX6_mark_55 (by decide) ?_
          refine r_msk [true, true, true, false, false] rfl ?_
          exact tX6_mark_59 g
      · refine r_aload_n g dX6_mark_36 rfl ?_
        refine r_iload_n g dX6_mark_37 rfl ?_
        refine r_callV_PI (q := 0) (as := fun b => [vi x1]) g (kX6_isRing S3_ x1) mX6_isRing shm_0 rfl w_1191 w_1193 w_45 (by decide) (fun _ => rfl) rfl (Nat.le_of_ble_eq_true rfl) dX6_mark_38 ?_
        intro z10_
        refine r_goto g 59 dX6_mark_41 (by decide) ?_
        refine r_msk [true, true, true, false, false] rfl ?_
        exact tX6_mark_59 g
    · refine r_aload_n g dX6_mark_23 rfl ?_
      refine r_iload_n g dX6_mark_24 rfl ?_
      refine r_callV_PI (q := 0) (as := fun b => [vi x1]) g (kX6_isRubber S3_ x1) mX6_isRubber shm_0 rfl w_1210 w_1212 w_47 (by decide) (fun _ => rfl) rfl (Nat.le_of_ble_eq_true rfl) dX6_mark_25 ?_
      intro z11_
      refine r_goto g 59 dX6_mark_28 (by decide) ?_
      refine r_msk [true, true, true, false, false] rfl ?_
      exact tX6_mark_59 g
  · refine r_iload_n g dX6_mark_16 rfl ?_
    exact r_iret g dX6_mark_17 rfl rfl
theorem tX6_let_161 {G : Gx}  {S : St} {x1 : Int} {x2 : Int} {x4 : Int} {s0 : Int} (g : Ok G cX6_let RX6 5 { frames := 1, cells := 0, slots := 0, locals := 22 } (some .int))   : Rg G oIS (fun v => v.2) (SHM, 0, 0) (SHM, 0, 0) S 161 [some (vr G 0), some (vi x1), some (vi x2), none, some (vi x4)] [vi s0, vr G 0] (pX6_let_161 S x1 x2 x4 s0) := by
  unfold pX6_let_161
  refine r_putI g KX6 shm_0 36 rfl (by decide) rfl rfl w_906 dX6_let_161 ?_
  intro S3_ _
  refine r_aload_n g dX6_let_164 rfl ?_
  refine r_iload_n g dX6_let_165 rfl ?_
  refine r_iconst g dX6_let_166 ?_
  refine r_icmp_ne g 174 dX6_let_167 (by decide) ?_ ?_
  · refine r_aload_n g dX6_let_174 rfl ?_
    refine r_getI g KX6 shm_0 37 rfl (by decide) w_907 dX6_let_175 ?_
    refine r_putI g KX6 shm_0 37 rfl (by decide) rfl rfl w_907 dX6_let_178 ?_
    intro S4_ _
    refine r_iload g dX6_let_181 rfl ?_
    exact r_iret g dX6_let_183 rfl rfl
  · refine r_iload_n g dX6_let_170 rfl ?_
    refine r_goto g 178 dX6_let_171 (by decide) ?_
    refine r_putI g KX6 shm_0 37 rfl (by decide) rfl rfl w_907 dX6_let_178 ?_
    intro S5_ _
    refine r_iload g dX6_let_181 rfl ?_
    exact r_iret g dX6_let_183 rfl rfl
theorem tX6_let_144 {G : Gx}  {S : St} {x1 : Int} {x2 : Int} {x4 : Int} {s0 : Int} (g : Ok G cX6_let RX6 5 { frames := 1, cells := 0, slots := 0, locals := 22 } (some .int))   : Rg G oIS (fun v => v.2) (SHM, 0, 0) (SHM, 0, 0) S 144 [some (vr G 0), some (vi x1), some (vi x2), none, some (vi x4)] [vi s0, vr G 0] (pX6_let_144 S x1 x2 x4 s0) := by
  unfold pX6_let_144
  refine r_putI g KX6 shm_0 35 rfl (by decide) rfl rfl w_905 dX6_let_144 ?_
  intro S2_ _
  refine r_aload_n g dX6_let_147 rfl ?_
  refine r_iload_n g dX6_let_148 rfl ?_
  refine r_iconst g dX6_let_149 ?_
  refine r_icmp_ne g 157 dX6_let_150 (by decide) ?_ ?_
  · refine r_aload_n g dX6_let_157 rfl ?_
    refine r_getI g KX6 shm_0 36 rfl (by decide) w_906 dX6_let_158 ?_
    exact tX6_let_161 g
  · refine r_iload_n g dX6_let_153 rfl ?_
    refine r_goto g 161 dX6_let_154 (by decide) ?_
    exact tX6_let_161 g
theorem tX6_let_127 {G : Gx}  {S : St} {x1 : Int} {x2 : Int} {x4 : Int} {s0 : Int} (g : Ok G cX6_let RX6 5 { frames := 1, cells := 0, slots := 0, locals := 22 } (some .int))   : Rg G oIS (fun v => v.2) (SHM, 0, 0) (SHM, 0, 0) S 127 [some (vr G 0), some (vi x1), some (vi x2), none, some (vi x4)] [vi s0, vr G 0] (pX6_let_127 S x1 x2 x4 s0) := by
  unfold pX6_let_127
  refine r_putI g KX6 shm_0 34 rfl (by decide) rfl rfl w_904 dX6_let_127 ?_
  intro S1_ _
  refine r_aload_n g dX6_let_130 rfl ?_
  refine r_iload_n g dX6_let_131 rfl ?_
  refine r_iconst g dX6_let_132 ?_
  refine r_icmp_ne g 140 dX6_let_133 (by decide) ?_ ?_
  · refine r_aload_n g dX6_let_140 rfl ?_
    refine r_getI g KX6 shm_0 35 rfl (by decide) w_905 dX6_let_141 ?_
    exact tX6_let_144 g
  · refine r_iload_n g dX6_let_136 rfl ?_
    refine r_goto g 144 dX6_let_137 (by decide) ?_
    exact tX6_let_144 g
theorem tX6_let_112 {G : Gx}  {S : St} {x1 : Int} {x2 : Int} {s0 : Int} (g : Ok G cX6_let RX6 5 { frames := 1, cells := 0, slots := 0, locals := 22 } (some .int))   : Rg G oIS (fun v => v.2) (SHM, 0, 0) (SHM, 0, 0) S 112 [some (vr G 0), some (vi x1), some (vi x2), none, none] [vi s0] (pX6_let_112 S x1 x2 s0) := by
  unfold pX6_let_112
  refine r_istore g dX6_let_112 (by decide) rfl ?_
  refine r_aload_n g dX6_let_114 rfl ?_
  refine r_iload_n g dX6_let_115 rfl ?_
  refine r_if_ne g 123 dX6_let_116 (by decide) ?_ ?_
  · refine r_aload_n g dX6_let_123 rfl ?_
    refine r_getI g KX6 shm_0 34 rfl (by decide) w_904 dX6_let_124 ?_
    exact tX6_let_127 g
  · refine r_iload_n g dX6_let_119 rfl ?_
    refine r_goto g 127 dX6_let_120 (by decide) ?_
    exact tX6_let_127 g
theorem tX6_let_66 {G : Gx}  {S : St} {x1 : Int} {x2 : Int} {s0 : Int} (g : Ok G cX6_let RX6 5 { frames := 1, cells := 0, slots := 0, locals := 22 } (some .int))   : Rg G oIS (fun v => v.2) (SHM, 0, 0) (SHM, 0, 0) S 66 [some (vr G 0), some (vi x1), some (vi x2), none, none] [vi s0] (pX6_let_66 S x1 x2 s0) := by
  unfold pX6_let_66
  refine r_istore_n g 3 dX6_let_66 rfl (by decide) rfl ?_
  refine r_iload_n g dX6_let_67 rfl ?_
  refine r_if_ne g 73 dX6_let_68 (by decide) ?_ ?_
  · refine r_iload_n g dX6_let_73 rfl ?_
    refine r_if_ne g 84 dX6_let_74 (by decide) ?_ ?_
    · refine r_iload_n g dX6_let_84 rfl ?_
      refine r_iconst g dX6_let_85 ?_
      refine r_icmp_ne g 96 dX6_let_86 (by decide) ?_ ?_
      · refine r_iload_n g dX6_let_96 rfl ?_
        refine r_iconst g dX6_let_97 ?_
        refine r_icmp_ne g 108 dX6_let_98 (by decide) ?_ ?_
        · refine r_aload_n g dX6_let_108 rfl ?_
          refine r_getI g KX6 shm_0 37 rfl (by decide) w_907 dX6_let_109 ?_
          refine r_msk [true, true, true, false, false] rfl ?_
          exact tX6_let_112 g
        · refine r_aload_n g dX6_let_101 rfl ?_
          refine r_getI g KX6 shm_0 36 rfl (by decide) w_906 dX6_let_102 ?_
          refine r_goto g 112 dX6_let_105 (by decide) ?_
          refine r_msk [true, true, true, false, false] rfl ?_
          exact tX6_let_112 g
      · refine r_aload_n g dX6_let_89 rfl ?_
        refine r_getI g KX6 shm_0 35 rfl (by decide) w_905 dX6_let_90 ?_
        refine r_goto g 112 dX6_let_93 (by decide) ?_
        refine r_msk [true, true, true, false, false] rfl ?_
        exact tX6_let_112 g
    · refine r_aload_n g dX6_let_77 rfl ?_
      refine r_getI g KX6 shm_0 34 rfl (by decide) w_904 dX6_let_78 ?_
      refine r_goto g 112 dX6_let_81 (by decide) ?_
      refine r_msk [true, true, true, false, false] rfl ?_
      exact tX6_let_112 g
  · refine r_iconst g dX6_let_71 ?_
    exact r_iret g dX6_let_72 rfl rfl
theorem tX6_let_65 {G : Gx}  {S : St} {x1 : Int} {x2 : Int} (g : Ok G cX6_let RX6 5 { frames := 1, cells := 0, slots := 0, locals := 22 } (some .int))   : Rg G oIS (fun v => v.2) (SHM, 0, 0) (SHM, 0, 0) S 65 [some (vr G 0), some (vi x1), some (vi x2), none, none] [] (pX6_let_65 S x1 x2) := by
  unfold pX6_let_65
  refine r_iconst g dX6_let_65 ?_
  exact tX6_let_66 g
theorem kX6_let (S : St) (x1 : Int) (x2 : Int)  : Con yX6_let cX6_let 5 (some .int) { frames := 1, cells := 0, slots := 0, locals := 22 } false SHM (SHM, 0, 0) (fun b => [.ref (b + 0), vi x1, vi x2]) S (fun _ => oIS) (fun v => v.2) (pX6_let S x1 x2) := by
  refine Con_of (fun b => [some (.ref (b + 0)), some (vi x1), some (vi x2), none, none]) (by decide) (fun _ => rfl) (fun _ => Nat.le_of_ble_eq_true rfl) ?_
  intro G g _ _ _
  change Ok G cX6_let RX6 5 { frames := 1, cells := 0, slots := 0, locals := 22 } (some .int) at g
  show Rg G oIS (fun v => v.2) (SHM, 0, 0) (SHM, 0, 0) S 0 [some (vr G 0), some (vi x1), some (vi x2), none, none] [] (pX6_let S x1 x2)
  unfold pX6_let
  refine r_iload_n g dX6_let_0 rfl ?_
  refine r_if_ne g 14 dX6_let_1 (by decide) ?_ ?_
  · refine r_iload_n g dX6_let_14 rfl ?_
    refine r_iconst g dX6_let_15 ?_
    refine r_icmp_ne g 30 dX6_let_16 (by decide) ?_ ?_
    · refine r_iload_n g dX6_let_30 rfl ?_
      refine r_iconst g dX6_let_31 ?_
      refine r_icmp_ne g 46 dX6_let_32 (by decide) ?_ ?_
      · refine r_iload_n g dX6_let_46 rfl ?_
        refine r_iconst g dX6_let_47 ?_
        refine r_icmp_ne g 65 dX6_let_48 (by decide) ?_ ?_
        · exact tX6_let_65 g
        · refine r_iload_n g dX6_let_51 rfl ?_
          refine r_iconst g dX6_let_52 ?_
          refine r_bipush g dX6_let_53 (by decide) ?_
          refine r_callS_PI g (kX6_in S x2 0 99) mX6_in w_1033 w_1034 (by decide) (fun _ => rfl) rfl (Nat.le_of_ble_eq_true rfl) dX6_let_55 ?_
          intro z6_
          refine r_if_eq g 65 dX6_let_58 (by decide) ?_ ?_
          · exact tX6_let_65 g
          · refine r_iconst g dX6_let_61 ?_
            refine r_goto g 66 dX6_let_62 (by decide) ?_
            exact tX6_let_66 g
      · refine r_iload_n g dX6_let_35 rfl ?_
        refine r_iconst g dX6_let_36 ?_
        refine r_sipush g dX6_let_37 (by decide) ?_
        refine r_callS_PI g (kX6_in S x2 0 9999) mX6_in w_1033 w_1034 (by decide) (fun _ => rfl) rfl (Nat.le_of_ble_eq_true rfl) dX6_let_40 ?_
        intro z7_
        refine r_goto g 66 dX6_let_43 (by decide) ?_
        exact tX6_let_66 g
    · refine r_iload_n g dX6_let_19 rfl ?_
      refine r_bipush g dX6_let_20 (by decide) ?_
      refine r_bipush g dX6_let_22 (by decide) ?_
      refine r_callS_PI g (kX6_in S x2 ((-99)) 99) mX6_in w_1033 w_1034 (by decide) (fun _ => rfl) rfl (Nat.le_of_ble_eq_true rfl) dX6_let_24 ?_
      intro z8_
      refine r_goto g 66 dX6_let_27 (by decide) ?_
      exact tX6_let_66 g
  · refine r_iload_n g dX6_let_4 rfl ?_
    refine r_iconst g dX6_let_5 ?_
    refine r_ldc (x := 99999) g dX6_let_6 w_1218 (by decide) ?_
    refine r_callS_PI g (kX6_in S x2 0 99999) mX6_in w_1033 w_1034 (by decide) (fun _ => rfl) rfl (Nat.le_of_ble_eq_true rfl) dX6_let_8 ?_
    intro z9_
    refine r_goto g 66 dX6_let_11 (by decide) ?_
    exact tX6_let_66 g
theorem kX6_topOf (S : St) (x1 : Int)  : Con yX6_topOf cX6_topOf 2 (some .int) { frames := 0, cells := 0, slots := 0, locals := 0 } false SHM (SHM, 0, 0) (fun b => [.ref (b + 0), vi x1]) S (fun _ => oI) (fun _ => S) (pX6_topOf S x1) := by
  refine Con_of (fun b => [some (.ref (b + 0)), some (vi x1)]) (by decide) (fun _ => rfl) (fun _ => Nat.le_of_ble_eq_true rfl) ?_
  intro G g _ _ _
  change Ok G cX6_topOf RX6 2 { frames := 0, cells := 0, slots := 0, locals := 0 } (some .int) at g
  show Rg G oI (fun _ => S) (SHM, 0, 0) (SHM, 0, 0) S 0 [some (vr G 0), some (vi x1)] [] (pX6_topOf S x1)
  unfold pX6_topOf
  refine r_aload_n g dX6_topOf_0 rfl ?_
  refine r_getC (c0 := 21) g KX6 shm_0 29 rfl (by decide) w_899 dX6_topOf_1 ?_
  refine r_iload_n g dX6_topOf_4 rfl ?_
  refine r_iald g shm_21 (by decide) dX6_topOf_5 ?_
  intro z1_
  refine r_aload_n g dX6_topOf_6 rfl ?_
  refine r_getC (c0 := 25) g KX6 shm_0 33 rfl (by decide) w_903 dX6_topOf_7 ?_
  refine r_iload_n g dX6_topOf_10 rfl ?_
  refine r_iald g shm_25 (by decide) dX6_topOf_11 ?_
  intro z2_
  refine r_isub g dX6_topOf_12 ?_
  exact r_iret g dX6_topOf_13 rfl rfl
theorem kX6_factor (S : St) (x1 : Int)  : Con yX6_factor cX6_factor 2 (some .int) { frames := 0, cells := 0, slots := 0, locals := 0 } false SHM (SHM, 0, 0) (fun b => [.ref (b + 0), vi x1]) S (fun _ => oI) (fun _ => S) (pX6_factor S x1) := by
  refine Con_of (fun b => [some (.ref (b + 0)), some (vi x1)]) (by decide) (fun _ => rfl) (fun _ => Nat.le_of_ble_eq_true rfl) ?_
  intro G g _ _ _
  change Ok G cX6_factor RX6 2 { frames := 0, cells := 0, slots := 0, locals := 0 } (some .int) at g
  show Rg G oI (fun _ => S) (SHM, 0, 0) (SHM, 0, 0) S 0 [some (vr G 0), some (vi x1)] [] (pX6_factor S x1)
  unfold pX6_factor
  refine r_aload_n g dX6_factor_0 rfl ?_
  refine r_getI g KX6 shm_0 35 rfl (by decide) w_905 dX6_factor_1 ?_
  refine r_aload_n g dX6_factor_4 rfl ?_
  refine r_getC (c0 := 12) g KX6 shm_0 15 rfl (by decide) w_885 dX6_factor_5 ?_
  refine r_iload_n g dX6_factor_8 rfl ?_
  refine r_iald g shm_12 (by decide) dX6_factor_9 ?_
  intro z1_
  refine r_icmp_ge g 17 dX6_factor_10 (by decide) ?_ ?_
  · refine r_iconst g dX6_factor_17 ?_
    exact r_iret g dX6_factor_18 rfl rfl
  · refine r_iconst g dX6_factor_13 ?_
    refine r_goto g 18 dX6_factor_14 (by decide) ?_
    exact r_iret g dX6_factor_18 rfl rfl
theorem tX6_highest_84 {G : Gx} {k10 : St → Int → Int → Option (Int × St)} {S : St} {x1 : Int} {x2 : Int} {x3 : Int} {x4 : Int} (g : Ok G cX6_highest RX6 6 { frames := 1, cells := 0, slots := 0, locals := 21 } (some .int)) (hk10 : ∀ (S' : St) (x3' : Int) (x4' : Int), Rg G oIS (fun v => v.2) (SHM, 0, 0) (SHM, 0, 0) S' 10 [some (vr G 0), some (vi x1), some (vi x2), some (vi (x3')), some (vi (x4')), none] [] (k10 S' x3' x4'))  : Rg G oIS (fun v => v.2) (SHM, 0, 0) (SHM, 0, 0) S 84 [some (vr G 0), some (vi x1), some (vi x2), some (vi x3), some (vi x4), none] [] (pX6_highest_84 k10 S x1 x2 x3 x4) := by
  unfold pX6_highest_84
  refine r_iinc g dX6_highest_84 (by decide) rfl ?_
  intro x4_4_
  change Rg _ _ _ _ _ _ _ [some (vr G 0), some (vi x1), some (vi x2), some (vi x3), some (vi x4_4_), none] _ _
  refine r_goto g 10 dX6_highest_87 (by decide) ?_
  exact hk10 _ _ _
theorem tX6_highest_72 {G : Gx} {k10 : St → Int → Int → Option (Int × St)} {S : St} {x1 : Int} {x2 : Int} {x4 : Int} (g : Ok G cX6_highest RX6 6 { frames := 1, cells := 0, slots := 0, locals := 21 } (some .int)) (hk10 : ∀ (S' : St) (x3' : Int) (x4' : Int), Rg G oIS (fun v => v.2) (SHM, 0, 0) (SHM, 0, 0) S' 10 [some (vr G 0), some (vi x1), some (vi x2), some (vi (x3')), some (vi (x4')), none] [] (k10 S' x3' x4'))  : Rg G oIS (fun v => v.2) (SHM, 0, 0) (SHM, 0, 0) S 72 [some (vr G 0), some (vi x1), some (vi x2), none, some (vi x4), none] [] (pX6_highest_72 k10 S x1 x2 x4) := by
  unfold pX6_highest_72
  refine r_aload_n g dX6_highest_72 rfl ?_
  refine r_iload g dX6_highest_73 rfl ?_
  refine r_callV_PI (q := 0) (as := fun b => [vi x4]) g (kX6_topOf S x4) mX6_topOf shm_0 rfl w_1227 w_1229 w_49 (by decide) (fun _ => rfl) rfl (Nat.le_of_ble_eq_true rfl) dX6_highest_75 ?_
  intro z5_
  refine r_istore_n g 3 dX6_highest_78 rfl (by decide) rfl ?_
  refine r_aload_n g dX6_highest_79 rfl ?_
  refine r_iconst g dX6_highest_80 ?_
  refine r_putZ g KX6 shm_0 41 rfl (by decide) rfl rfl w_911 dX6_highest_81 ?_
  intro S6_ _
  exact tX6_highest_84 g hk10
theorem tX6_highest_48 {G : Gx} {k10 : St → Int → Int → Option (Int × St)} {S : St} {x1 : Int} {x2 : Int} {x3 : Int} {x4 : Int} {s0 : Int} (g : Ok G cX6_highest RX6 6 { frames := 1, cells := 0, slots := 0, locals := 21 } (some .int)) (hk10 : ∀ (S' : St) (x3' : Int) (x4' : Int), Rg G oIS (fun v => v.2) (SHM, 0, 0) (SHM, 0, 0) S' 10 [some (vr G 0), some (vi x1), some (vi x2), some (vi (x3')), some (vi (x4')), none] [] (k10 S' x3' x4'))  : Rg G oIS (fun v => v.2) (SHM, 0, 0) (SHM, 0, 0) S 48 [some (vr G 0), some (vi x1), some (vi x2), some (vi x3), some (vi x4), none] [vi s0] (pX6_highest_48 k10 S x1 x2 x3 x4 s0) := by
  unfold pX6_highest_48
  refine r_istore g dX6_highest_48 (by decide) rfl ?_
  refine r_iload g dX6_highest_50 rfl ?_
  refine r_if_eq g 84 dX6_highest_52 (by decide) ?_ ?_
  · refine r_msk [true, true, true, true, true, false] rfl ?_
    exact tX6_highest_84 g hk10
  · refine r_aload_n g dX6_highest_55 rfl ?_
    refine r_getI g KX6 shm_0 41 rfl (by decide) w_911 dX6_highest_56 ?_
    refine r_if_eq g 72 dX6_highest_59 (by decide) ?_ ?_
    · refine r_msk [true, true, true, false, true, false] rfl ?_
      exact tX6_highest_72 g hk10
    · refine r_aload_n g dX6_highest_62 rfl ?_
      refine r_iload g dX6_highest_63 rfl ?_
      refine r_callV_PI (q := 0) (as := fun b => [vi x4]) g (kX6_topOf S x4) mX6_topOf shm_0 rfl w_1227 w_1229 w_49 (by decide) (fun _ => rfl) rfl (Nat.le_of_ble_eq_true rfl) dX6_highest_65 ?_
      intro z7_
      refine r_iload_n g dX6_highest_68 rfl ?_
      refine r_icmp_le g 84 dX6_highest_69 (by decide) ?_ ?_
      · refine r_msk [true, true, true, true, true, false] rfl ?_
        exact tX6_highest_84 g hk10
      · refine r_msk [true, true, true, false, true, false] rfl ?_
        exact tX6_highest_72 g hk10
theorem tX6_highest_47 {G : Gx} {k10 : St → Int → Int → Option (Int × St)} {S : St} {x1 : Int} {x2 : Int} {x3 : Int} {x4 : Int} (g : Ok G cX6_highest RX6 6 { frames := 1, cells := 0, slots := 0, locals := 21 } (some .int)) (hk10 : ∀ (S' : St) (x3' : Int) (x4' : Int), Rg G oIS (fun v => v.2) (SHM, 0, 0) (SHM, 0, 0) S' 10 [some (vr G 0), some (vi x1), some (vi x2), some (vi (x3')), some (vi (x4')), none] [] (k10 S' x3' x4'))  : Rg G oIS (fun v => v.2) (SHM, 0, 0) (SHM, 0, 0) S 47 [some (vr G 0), some (vi x1), some (vi x2), some (vi x3), some (vi x4), none] [] (pX6_highest_47 k10 S x1 x2 x3 x4) := by
  unfold pX6_highest_47
  refine r_iconst g dX6_highest_47 ?_
  exact tX6_highest_48 g hk10
theorem tX6_highest_10B {G : Gx} {x1 : Int} {x2 : Int} (g : Ok G cX6_highest RX6 6 { frames := 1, cells := 0, slots := 0, locals := 21 } (some .int))   {k10 : St → Int → Int → Option (Int × St)} (hk10 : ∀ (S' : St) (x3' : Int) (x4' : Int), Rg G oIS (fun v => v.2) (SHM, 0, 0) (SHM, 0, 0) S' 10 [some (vr G 0), some (vi x1), some (vi x2), some (vi (x3')), some (vi (x4')), none] [] (k10 S' x3' x4')) {S : St} {x3 : Int} {x4 : Int} : Rg G oIS (fun v => v.2) (SHM, 0, 0) (SHM, 0, 0) S 10 [some (vr G 0), some (vi x1), some (vi x2), some (vi x3), some (vi x4), none] [] (pX6_highest_10B x1 x2 k10 S x3 x4) := by
  unfold pX6_highest_10B
  refine r_iload g dX6_highest_10 rfl ?_
  refine r_iconst g dX6_highest_12 ?_
  refine r_icmp_ge g 90 dX6_highest_13 (by decide) ?_ ?_
  · refine r_iload_n g dX6_highest_90 rfl ?_
    exact r_iret g dX6_highest_91 rfl rfl
  · refine r_aload_n g dX6_highest_16 rfl ?_
    refine r_getC (c0 := 18) g KX6 shm_0 26 rfl (by decide) w_896 dX6_highest_17 ?_
    refine r_iload g dX6_highest_20 rfl ?_
    refine r_iald g shm_18 (by decide) dX6_highest_22 ?_
    intro z2_
    refine r_if_ne g 30 dX6_highest_23 (by decide) ?_ ?_
    · refine r_aload_n g dX6_highest_30 rfl ?_
      refine r_iload g dX6_highest_31 rfl ?_
      refine r_callV_PI (q := 0) (as := fun b => [vi x4]) g (kX6_isSeal S x4) mX6_isSeal shm_0 rfl w_1179 w_1181 w_44 (by decide) (fun _ => rfl) rfl (Nat.le_of_ble_eq_true rfl) dX6_highest_33 ?_
      intro z3_
      refine r_if_eq g 47 dX6_highest_36 (by decide) ?_ ?_
      · exact tX6_highest_47 g hk10
      · refine r_iload_n g dX6_highest_39 rfl ?_
        refine r_if_eq g 47 dX6_highest_40 (by decide) ?_ ?_
        · exact tX6_highest_47 g hk10
        · refine r_iconst g dX6_highest_43 ?_
          refine r_goto g 48 dX6_highest_44 (by decide) ?_
          exact tX6_highest_48 g hk10
    · refine r_iload_n g dX6_highest_26 rfl ?_
      refine r_goto g 48 dX6_highest_27 (by decide) ?_
      exact tX6_highest_48 g hk10
theorem tX6_highest_10 {G : Gx} {x1 : Int} {x2 : Int} (g : Ok G cX6_highest RX6 6 { frames := 1, cells := 0, slots := 0, locals := 21 } (some .int))   : ∀ (n_ : Nat) (S : St) (x3 : Int) (x4 : Int), Rg G oIS (fun v => v.2) (SHM, 0, 0) (SHM, 0, 0) S 10 [some (vr G 0), some (vi x1), some (vi x2), some (vi x3), some (vi x4), none] [] (lo3 (pX6_highest_10B x1 x2) n_ S x3 x4) := by
  intro n_
  induction n_ with
  | zero => intro S x3 x4; exact r_none
  | succ n_ ih => intro S x3 x4; exact tX6_highest_10B g   ih
theorem kX6_highest (S : St) (x1 : Int) (x2 : Int)  : Con yX6_highest cX6_highest 6 (some .int) { frames := 1, cells := 0, slots := 0, locals := 21 } false SHM (SHM, 0, 0) (fun b => [.ref (b + 0), vi x1, vi x2]) S (fun _ => oIS) (fun v => v.2) (pX6_highest S x1 x2) := by
  refine Con_of (fun b => [some (.ref (b + 0)), some (vi x1), some (vi x2), none, none, none]) (by decide) (fun _ => rfl) (fun _ => Nat.le_of_ble_eq_true rfl) ?_
  intro G g _ _ _
  change Ok G cX6_highest RX6 6 { frames := 1, cells := 0, slots := 0, locals := 21 } (some .int) at g
  show Rg G oIS (fun v => v.2) (SHM, 0, 0) (SHM, 0, 0) S 0 [some (vr G 0), some (vi x1), some (vi x2), none, none, none] [] (pX6_highest S x1 x2)
  unfold pX6_highest
  refine r_iconst g dX6_highest_0 ?_
  refine r_istore_n g 3 dX6_highest_1 rfl (by decide) rfl ?_
  refine r_aload_n g dX6_highest_2 rfl ?_
  refine r_iconst g dX6_highest_3 ?_
  refine r_putZ g KX6 shm_0 41 rfl (by decide) rfl rfl w_911 dX6_highest_4 ?_
  intro S1_ _
  refine r_iconst g dX6_highest_7 ?_
  refine r_istore g dX6_highest_8 (by decide) rfl ?_
  exact tX6_highest_10 g _ _ _ _
theorem tX6_nextBreak_90 {G : Gx} {k4 : Int → Int → Option (Int)} {S : St} {x1 : Int} {x2 : Int} {x3 : Int} (g : Ok G cX6_nextBreak RX6 7 { frames := 1, cells := 0, slots := 0, locals := 21 } (some .int)) (hk4 : ∀ (x2' : Int) (x3' : Int), Rg G oI (fun _ => S) (SHM, 0, 0) (SHM, 0, 0) S 4 [some (vr G 0), some (vi x1), some (vi (x2')), some (vi (x3')), none, none, none] [] (k4 x2' x3'))  : Rg G oI (fun _ => S) (SHM, 0, 0) (SHM, 0, 0) S 90 [some (vr G 0), some (vi x1), some (vi x2), some (vi x3), none, none, none] [] (pX6_nextBreak_90 k4 S x1 x2 x3) := by
  unfold pX6_nextBreak_90
  refine r_iinc g dX6_nextBreak_90 (by decide) rfl ?_
  intro x3_2_
  change Rg _ _ _ _ _ _ _ [some (vr G 0), some (vi x1), some (vi x2), some (vi x3_2_), none, none, none] _ _
  refine r_goto g 4 dX6_nextBreak_93 (by decide) ?_
  exact hk4 _ _
theorem tX6_nextBreak_83 {G : Gx} {k4 : Int → Int → Option (Int)} {k28 : Int → Int → Option (Int)} {S : St} {x1 : Int} {x3 : Int} {x4 : Int} {x5 : Int} {s0 : Int} (g : Ok G cX6_nextBreak RX6 7 { frames := 1, cells := 0, slots := 0, locals := 21 } (some .int)) (hk4 : ∀ (x2' : Int) (x3' : Int), Rg G oI (fun _ => S) (SHM, 0, 0) (SHM, 0, 0) S 4 [some (vr G 0), some (vi x1), some (vi (x2')), some (vi (x3')), none, none, none] [] (k4 x2' x3')) (hk28 : ∀ (x2' : Int) (x5' : Int), Rg G oI (fun _ => S) (SHM, 0, 0) (SHM, 0, 0) S 28 [some (vr G 0), some (vi x1), some (vi (x2')), some (vi x3), some (vi x4), some (vi (x5')), none] [] (k28 x2' x5'))  : Rg G oI (fun _ => S) (SHM, 0, 0) (SHM, 0, 0) S 83 [some (vr G 0), some (vi x1), none, some (vi x3), some (vi x4), some (vi x5), none] [vi s0] (pX6_nextBreak_83 k4 k28 S x1 x3 x4 x5 s0) := by
  unfold pX6_nextBreak_83
  refine r_istore_n g 2 dX6_nextBreak_83 rfl (by decide) rfl ?_
  refine r_iinc g dX6_nextBreak_84 (by decide) rfl ?_
  intro x5_8_
  change Rg _ _ _ _ _ _ _ [some (vr G 0), some (vi x1), some (vi s0), some (vi x3), some (vi x4), some (vi x5_8_), none] _ _
  refine r_goto g 28 dX6_nextBreak_87 (by decide) ?_
  exact hk28 _ _
theorem tX6_nextBreak_82 {G : Gx} {k4 : Int → Int → Option (Int)} {k28 : Int → Int → Option (Int)} {S : St} {x1 : Int} {x2 : Int} {x3 : Int} {x4 : Int} {x5 : Int} (g : Ok G cX6_nextBreak RX6 7 { frames := 1, cells := 0, slots := 0, locals := 21 } (some .int)) (hk4 : ∀ (x2' : Int) (x3' : Int), Rg G oI (fun _ => S) (SHM, 0, 0) (SHM, 0, 0) S 4 [some (vr G 0), some (vi x1), some (vi (x2')), some (vi (x3')), none, none, none] [] (k4 x2' x3')) (hk28 : ∀ (x2' : Int) (x5' : Int), Rg G oI (fun _ => S) (SHM, 0, 0) (SHM, 0, 0) S 28 [some (vr G 0), some (vi x1), some (vi (x2')), some (vi x3), some (vi x4), some (vi (x5')), none] [] (k28 x2' x5'))  : Rg G oI (fun _ => S) (SHM, 0, 0) (SHM, 0, 0) S 82 [some (vr G 0), some (vi x1), some (vi x2), some (vi x3), some (vi x4), some (vi x5), none] [] (pX6_nextBreak_82 k4 k28 S x1 x2 x3 x4 x5) := by
  unfold pX6_nextBreak_82
  refine r_iload_n g dX6_nextBreak_82 rfl ?_
  refine r_msk [true, true, false, true, true, true, false] rfl ?_
  exact tX6_nextBreak_83 g hk4 hk28
theorem tX6_nextBreak_77 {G : Gx} {k4 : Int → Int → Option (Int)} {k28 : Int → Int → Option (Int)} {S : St} {x1 : Int} {x3 : Int} {x4 : Int} {x5 : Int} {x6 : Int} (g : Ok G cX6_nextBreak RX6 7 { frames := 1, cells := 0, slots := 0, locals := 21 } (some .int)) (hk4 : ∀ (x2' : Int) (x3' : Int), Rg G oI (fun _ => S) (SHM, 0, 0) (SHM, 0, 0) S 4 [some (vr G 0), some (vi x1), some (vi (x2')), some (vi (x3')), none, none, none] [] (k4 x2' x3')) (hk28 : ∀ (x2' : Int) (x5' : Int), Rg G oI (fun _ => S) (SHM, 0, 0) (SHM, 0, 0) S 28 [some (vr G 0), some (vi x1), some (vi (x2')), some (vi x3), some (vi x4), some (vi (x5')), none] [] (k28 x2' x5'))  : Rg G oI (fun _ => S) (SHM, 0, 0) (SHM, 0, 0) S 77 [some (vr G 0), some (vi x1), none, some (vi x3), some (vi x4), some (vi x5), some (vi x6)] [] (pX6_nextBreak_77 k4 k28 S x1 x3 x4 x5 x6) := by
  unfold pX6_nextBreak_77
  refine r_iload g dX6_nextBreak_77 rfl ?_
  refine r_goto g 83 dX6_nextBreak_79 (by decide) ?_
  refine r_msk [true, true, false, true, true, true, false] rfl ?_
  exact tX6_nextBreak_83 g hk4 hk28
theorem tX6_nextBreak_28B {G : Gx} {k4 : Int → Int → Option (Int)} {S : St} {x1 : Int} {x3 : Int} {x4 : Int} (g : Ok G cX6_nextBreak RX6 7 { frames := 1, cells := 0, slots := 0, locals := 21 } (some .int)) (hk4 : ∀ (x2' : Int) (x3' : Int), Rg G oI (fun _ => S) (SHM, 0, 0) (SHM, 0, 0) S 4 [some (vr G 0), some (vi x1), some (vi (x2')), some (vi (x3')), none, none, none] [] (k4 x2' x3'))  {k28 : Int → Int → Option (Int)} (hk28 : ∀ (x2' : Int) (x5' : Int), Rg G oI (fun _ => S) (SHM, 0, 0) (SHM, 0, 0) S 28 [some (vr G 0), some (vi x1), some (vi (x2')), some (vi x3), some (vi x4), some (vi (x5')), none] [] (k28 x2' x5')) {x2 : Int} {x5 : Int} : Rg G oI (fun _ => S) (SHM, 0, 0) (SHM, 0, 0) S 28 [some (vr G 0), some (vi x1), some (vi x2), some (vi x3), some (vi x4), some (vi x5), none] [] (pX6_nextBreak_28B k4 S x1 x3 x4 k28 x2 x5) := by
  unfold pX6_nextBreak_28B
  refine r_iload g dX6_nextBreak_28 rfl ?_
  refine r_aload_n g dX6_nextBreak_30 rfl ?_
  refine r_getC (c0 := 8) g KX6 shm_0 11 rfl (by decide) w_881 dX6_nextBreak_31 ?_
  refine r_iload g dX6_nextBreak_34 rfl ?_
  refine r_iald g shm_8 (by decide) dX6_nextBreak_36 ?_
  intro z4_
  refine r_icmp_ge g 90 dX6_nextBreak_37 (by decide) ?_ ?_
  · refine r_msk [true, true, true, true, false, false, false] rfl ?_
    exact tX6_nextBreak_90 g hk4
  · refine r_aload_n g dX6_nextBreak_40 rfl ?_
    refine r_iload_n g dX6_nextBreak_41 rfl ?_
    refine r_callV_PI (q := 0) (as := fun b => [vi x3]) g (kX6_topOf S x3) mX6_topOf shm_0 rfl w_1227 w_1229 w_49 (by decide) (fun _ => rfl) rfl (Nat.le_of_ble_eq_true rfl) dX6_nextBreak_42 ?_
    intro z5_
    refine r_aload_n g dX6_nextBreak_45 rfl ?_
    refine r_getC (c0 := 9) g KX6 shm_0 12 rfl (by decide) w_882 dX6_nextBreak_46 ?_
    refine r_iconst g dX6_nextBreak_49 ?_
    refine r_iload g dX6_nextBreak_50 rfl ?_
    refine r_imul g dX6_nextBreak_52 ?_
    refine r_iload g dX6_nextBreak_53 rfl ?_
    refine r_iadd g dX6_nextBreak_55 ?_
    refine r_iald g shm_9 (by decide) dX6_nextBreak_56 ?_
    intro z6_
    refine r_isub g dX6_nextBreak_57 ?_
    refine r_topi ?_
    intro x6_7_
    refine r_istore g dX6_nextBreak_58 (by decide) rfl ?_
    refine r_iload g dX6_nextBreak_60 rfl ?_
    refine r_iload_n g dX6_nextBreak_62 rfl ?_
    refine r_icmp_ge g 82 dX6_nextBreak_63 (by decide) ?_ ?_
    · refine r_msk [true, true, true, true, true, true, false] rfl ?_
      exact tX6_nextBreak_82 g hk4 hk28
    · refine r_iload_n g dX6_nextBreak_66 rfl ?_
      refine r_iload_n g dX6_nextBreak_67 rfl ?_
      refine r_icmp_eq g 77 dX6_nextBreak_68 (by decide) ?_ ?_
      · refine r_msk [true, true, false, true, true, true, true] rfl ?_
        exact tX6_nextBreak_77 g hk4 hk28
      · refine r_iload g dX6_nextBreak_71 rfl ?_
        refine r_iload_n g dX6_nextBreak_73 rfl ?_
        refine r_icmp_le g 82 dX6_nextBreak_74 (by decide) ?_ ?_
        · refine r_msk [true, true, true, true, true, true, false] rfl ?_
          exact tX6_nextBreak_82 g hk4 hk28
        · refine r_msk [true, true, false, true, true, true, true] rfl ?_
          exact tX6_nextBreak_77 g hk4 hk28
theorem tX6_nextBreak_28 {G : Gx} {k4 : Int → Int → Option (Int)} {S : St} {x1 : Int} {x3 : Int} {x4 : Int} (g : Ok G cX6_nextBreak RX6 7 { frames := 1, cells := 0, slots := 0, locals := 21 } (some .int)) (hk4 : ∀ (x2' : Int) (x3' : Int), Rg G oI (fun _ => S) (SHM, 0, 0) (SHM, 0, 0) S 4 [some (vr G 0), some (vi x1), some (vi (x2')), some (vi (x3')), none, none, none] [] (k4 x2' x3'))  : ∀ (n_ : Nat) (x2 : Int) (x5 : Int), Rg G oI (fun _ => S) (SHM, 0, 0) (SHM, 0, 0) S 28 [some (vr G 0), some (vi x1), some (vi x2), some (vi x3), some (vi x4), some (vi x5), none] [] (lo2 (pX6_nextBreak_28B k4 S x1 x3 x4) n_ x2 x5) := by
  intro n_
  induction n_ with
  | zero => intro x2 x5; exact r_none
  | succ n_ ih => intro x2 x5; exact tX6_nextBreak_28B g hk4  ih
theorem tX6_nextBreak_4B {G : Gx} {S : St} {x1 : Int} (g : Ok G cX6_nextBreak RX6 7 { frames := 1, cells := 0, slots := 0, locals := 21 } (some .int))   {k4 : Int → Int → Option (Int)} (hk4 : ∀ (x2' : Int) (x3' : Int), Rg G oI (fun _ => S) (SHM, 0, 0) (SHM, 0, 0) S 4 [some (vr G 0), some (vi x1), some (vi (x2')), some (vi (x3')), none, none, none] [] (k4 x2' x3')) {x2 : Int} {x3 : Int} : Rg G oI (fun _ => S) (SHM, 0, 0) (SHM, 0, 0) S 4 [some (vr G 0), some (vi x1), some (vi x2), some (vi x3), none, none, none] [] (pX6_nextBreak_4B S x1 k4 x2 x3) := by
  unfold pX6_nextBreak_4B
  refine r_iload_n g dX6_nextBreak_4 rfl ?_
  refine r_iconst g dX6_nextBreak_5 ?_
  refine r_icmp_ge g 96 dX6_nextBreak_6 (by decide) ?_ ?_
  · refine r_iload_n g dX6_nextBreak_96 rfl ?_
    exact r_iret g dX6_nextBreak_97 rfl rfl
  · refine r_aload_n g dX6_nextBreak_9 rfl ?_
    refine r_iload_n g dX6_nextBreak_10 rfl ?_
    refine r_callV_PI (q := 0) (as := fun b => [vi x3]) g (kX6_isRubber S x3) mX6_isRubber shm_0 rfl w_1210 w_1212 w_47 (by decide) (fun _ => rfl) rfl (Nat.le_of_ble_eq_true rfl) dX6_nextBreak_11 ?_
    intro z1_
    refine r_if_eq g 90 dX6_nextBreak_14 (by decide) ?_ ?_
    · exact tX6_nextBreak_90 g hk4
    · refine r_aload_n g dX6_nextBreak_17 rfl ?_
      refine r_getC (c0 := 19) g KX6 shm_0 27 rfl (by decide) w_897 dX6_nextBreak_18 ?_
      refine r_iload_n g dX6_nextBreak_21 rfl ?_
      refine r_iald g shm_19 (by decide) dX6_nextBreak_22 ?_
      intro z3_
      refine r_istore g dX6_nextBreak_23 (by decide) rfl ?_
      refine r_iconst g dX6_nextBreak_25 ?_
      refine r_istore g dX6_nextBreak_26 (by decide) rfl ?_
      exact tX6_nextBreak_28 g hk4 _ _ _
theorem tX6_nextBreak_4 {G : Gx} {S : St} {x1 : Int} (g : Ok G cX6_nextBreak RX6 7 { frames := 1, cells := 0, slots := 0, locals := 21 } (some .int))   : ∀ (n_ : Nat) (x2 : Int) (x3 : Int), Rg G oI (fun _ => S) (SHM, 0, 0) (SHM, 0, 0) S 4 [some (vr G 0), some (vi x1), some (vi x2), some (vi x3), none, none, none] [] (lo2 (pX6_nextBreak_4B S x1) n_ x2 x3) := by
  intro n_
  induction n_ with
  | zero => intro x2 x3; exact r_none
  | succ n_ ih => intro x2 x3; exact tX6_nextBreak_4B g   ih
theorem kX6_nextBreak (S : St) (x1 : Int)  : Con yX6_nextBreak cX6_nextBreak 7 (some .int) { frames := 1, cells := 0, slots := 0, locals := 21 } false SHM (SHM, 0, 0) (fun b => [.ref (b + 0), vi x1]) S (fun _ => oI) (fun _ => S) (pX6_nextBreak S x1) := by
  refine Con_of (fun b => [some (.ref (b + 0)), some (vi x1), none, none, none, none, none]) (by decide) (fun _ => rfl) (fun _ => Nat.le_of_ble_eq_true rfl) ?_
  intro G g _ _ _
  change Ok G cX6_nextBreak RX6 7 { frames := 1, cells := 0, slots := 0, locals := 21 } (some .int) at g
  show Rg G oI (fun _ => S) (SHM, 0, 0) (SHM, 0, 0) S 0 [some (vr G 0), some (vi x1), none, none, none, none, none] [] (pX6_nextBreak S x1)
  unfold pX6_nextBreak
  refine r_iload_n g dX6_nextBreak_0 rfl ?_
  refine r_istore_n g 2 dX6_nextBreak_1 rfl (by decide) rfl ?_
  refine r_iconst g dX6_nextBreak_2 ?_
  refine r_istore_n g 3 dX6_nextBreak_3 rfl (by decide) rfl ?_
  exact tX6_nextBreak_4 g _ _ _
