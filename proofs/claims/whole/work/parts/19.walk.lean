theorem tX6_sure_47 {G : Gx} {k19 : St → Int → Int → Option (Int × St)} {S : St} {x1 : Int} {x2 : Int} {x4 : Int} {s0 : Int} {s1 : Int} (g : Ok G cX6_sure RX6 5 { frames := 4, cells := 0, slots := 0, locals := 112 } (some .int)) (hk19 : ∀ (S' : St) (x3' : Int) (x4' : Int), Rg G oIS (fun v => v.2) (SHM, 0, 0) (SHM, 0, 0) S' 19 [some (vr G 0), some (vi x1), some (vi x2), some (vi (x3')), some (vi (x4'))] [] (k19 S' x3' x4'))  : Rg G oIS (fun v => v.2) (SHM, 0, 0) (SHM, 0, 0) S 47 [some (vr G 0), some (vi x1), some (vi x2), none, some (vi x4)] [vi s0, vi s1] (pX6_sure_47 k19 S x1 x2 x4 s0 s1) := by
  unfold pX6_sure_47
  refine r_iadd g dX6_sure_47 ?_
  refine r_topi ?_
  intro x3_7_
  refine r_istore_n g 3 dX6_sure_48 rfl (by decide) rfl ?_
  refine r_iinc g dX6_sure_49 (by decide) rfl ?_
  intro x4_8_
  change Rg _ _ _ _ _ _ _ [some (vr G 0), some (vi x1), some (vi x2), some (vi x3_7_), some (vi x4_8_)] _ _
  refine r_goto g 19 dX6_sure_52 (by decide) ?_
  exact hk19 _ _ _
theorem tX6_sure_19B {G : Gx} {x1 : Int} {x2 : Int} (g : Ok G cX6_sure RX6 5 { frames := 4, cells := 0, slots := 0, locals := 112 } (some .int))   {k19 : St → Int → Int → Option (Int × St)} (hk19 : ∀ (S' : St) (x3' : Int) (x4' : Int), Rg G oIS (fun v => v.2) (SHM, 0, 0) (SHM, 0, 0) S' 19 [some (vr G 0), some (vi x1), some (vi x2), some (vi (x3')), some (vi (x4'))] [] (k19 S' x3' x4')) {S : St} {x3 : Int} {x4 : Int} : Rg G oIS (fun v => v.2) (SHM, 0, 0) (SHM, 0, 0) S 19 [some (vr G 0), some (vi x1), some (vi x2), some (vi x3), some (vi x4)] [] (pX6_sure_19B x1 x2 k19 S x3 x4) := by
  unfold pX6_sure_19B
  refine r_iload g dX6_sure_19 rfl ?_
  refine r_bipush g dX6_sure_21 (by decide) ?_
  refine r_icmp_ge g 55 dX6_sure_23 (by decide) ?_ ?_
  · refine r_aload_n g dX6_sure_55 rfl ?_
    refine r_callV_WV (q := 0) (as := fun b => []) g (kX6_putBack S) mX6_putBack shm_0 rfl w_1327 w_1329 w_61 (by decide) (fun _ => rfl) rfl (Nat.le_of_ble_eq_true rfl) dX6_sure_56 ?_
    intro S3_
    refine r_iload_n g dX6_sure_59 rfl ?_
    refine r_bipush g dX6_sure_60 (by decide) ?_
    refine r_icmp_ne g 69 dX6_sure_62 (by decide) ?_ ?_
    · refine r_iload_n g dX6_sure_69 rfl ?_
      refine r_if_le g 77 dX6_sure_70 (by decide) ?_ ?_
      · refine r_iconst g dX6_sure_77 ?_
        exact r_iret g dX6_sure_78 rfl rfl
      · refine r_iconst g dX6_sure_73 ?_
        refine r_goto g 78 dX6_sure_74 (by decide) ?_
        exact r_iret g dX6_sure_78 rfl rfl
    · refine r_iconst g dX6_sure_65 ?_
      refine r_goto g 78 dX6_sure_66 (by decide) ?_
      exact r_iret g dX6_sure_78 rfl rfl
  · refine r_aload_n g dX6_sure_26 rfl ?_
    refine r_iload g dX6_sure_27 rfl ?_
    refine r_iload_n g dX6_sure_29 rfl ?_
    refine r_iload_n g dX6_sure_30 rfl ?_
    refine r_callV_WV (q := 0) (as := fun b => [vi x4, vi x1, vi x2]) g (kX6_layEnd S x4 x1 x2) mX6_layEnd shm_0 rfl w_1323 w_1325 w_60 (by decide) (fun _ => rfl) rfl (Nat.le_of_ble_eq_true rfl) dX6_sure_31 ?_
    intro S4_
    refine r_iload_n g dX6_sure_34 rfl ?_
    refine r_aload_n g dX6_sure_35 rfl ?_
    refine r_callV_WI (q := 0) (as := fun b => []) g (kX6_openNow S4_) mX6_openNow shm_0 rfl w_1267 w_1269 w_57 (by decide) (fun _ => rfl) rfl (Nat.le_of_ble_eq_true rfl) dX6_sure_36 ?_
    intro z5_ S6_
    refine r_if_ne g 46 dX6_sure_39 (by decide) ?_ ?_
    · refine r_iconst g dX6_sure_46 ?_
      refine r_msk [true, true, true, false, true] rfl ?_
      exact tX6_sure_47 g hk19
    · refine r_iconst g dX6_sure_42 ?_
      refine r_goto g 47 dX6_sure_43 (by decide) ?_
      refine r_msk [true, true, true, false, true] rfl ?_
      exact tX6_sure_47 g hk19
theorem tX6_sure_19 {G : Gx} {x1 : Int} {x2 : Int} (g : Ok G cX6_sure RX6 5 { frames := 4, cells := 0, slots := 0, locals := 112 } (some .int))   : ∀ (n_ : Nat) (S : St) (x3 : Int) (x4 : Int), Rg G oIS (fun v => v.2) (SHM, 0, 0) (SHM, 0, 0) S 19 [some (vr G 0), some (vi x1), some (vi x2), some (vi x3), some (vi x4)] [] (lo3 (pX6_sure_19B x1 x2) n_ S x3 x4) := by
  intro n_
  induction n_ with
  | zero => intro S x3 x4; exact r_none
  | succ n_ ih => intro S x3 x4; exact tX6_sure_19B g   ih
theorem kX6_sure (S : St) (x1 : Int) (x2 : Int)  : Con yX6_sure cX6_sure 5 (some .int) { frames := 4, cells := 0, slots := 0, locals := 112 } false SHM (SHM, 0, 0) (fun b => [.ref (b + 0), vi x1, vi x2]) S (fun _ => oIS) (fun v => v.2) (pX6_sure S x1 x2) := by
  refine Con_of (fun b => [some (.ref (b + 0)), some (vi x1), some (vi x2), none, none]) (by decide) (fun _ => rfl) (fun _ => Nat.le_of_ble_eq_true rfl) ?_
  intro G g _ _ _
  change Ok G cX6_sure RX6 5 { frames := 4, cells := 0, slots := 0, locals := 112 } (some .int) at g
  show Rg G oIS (fun v => v.2) (SHM, 0, 0) (SHM, 0, 0) S 0 [some (vr G 0), some (vi x1), some (vi x2), none, none] [] (pX6_sure S x1 x2)
  unfold pX6_sure
  refine r_iload_n g dX6_sure_0 rfl ?_
  refine r_iload_n g dX6_sure_1 rfl ?_
  refine r_callS_PI g (kX6_areEnds S x1 x2) mX6_areEnds w_1315 w_1316 (by decide) (fun _ => rfl) rfl (Nat.le_of_ble_eq_true rfl) dX6_sure_2 ?_
  intro z1_
  refine r_if_ne g 10 dX6_sure_5 (by decide) ?_ ?_
  · refine r_aload_n g dX6_sure_10 rfl ?_
    refine r_callV_WV (q := 0) (as := fun b => []) g (kX6_keepAll S) mX6_keepAll shm_0 rfl w_1318 w_1320 w_59 (by decide) (fun _ => rfl) rfl (Nat.le_of_ble_eq_true rfl) dX6_sure_11 ?_
    intro S2_
    refine r_iconst g dX6_sure_14 ?_
    refine r_istore_n g 3 dX6_sure_15 rfl (by decide) rfl ?_
    refine r_iconst g dX6_sure_16 ?_
    refine r_istore g dX6_sure_17 (by decide) rfl ?_
    exact tX6_sure_19 g _ _ _ _
  · refine r_iconst g dX6_sure_8 ?_
    exact r_iret g dX6_sure_9 rfl rfl
theorem tX6_follows_27 {G : Gx}  {S : St} {x1 : Int} {x2 : Int} {x3 : Int} {s0 : Int} (g : Ok G cX6_follows RX6 9 { frames := 3, cells := 0, slots := 0, locals := 64 } (some .int))   : Rg G oIS (fun v => v.2) (SHM, 0, 0) (SHM, 0, 0) S 27 [some (vr G 0), some (vi x1), some (vi x2), some (vi x3), none, none, none, none, none] [vi s0, vr G 0] (pX6_follows_27 S x1 x2 x3 s0) := by
  unfold pX6_follows_27
  refine r_iload_n g dX6_follows_27 rfl ?_
  refine r_callV_WI (q := 0) (as := fun b => [vi s0, vi x1]) g (kX6_needSeal S s0 x1) mX6_needSeal shm_0 rfl w_1175 w_1177 w_43 (by decide) (fun _ => rfl) rfl (Nat.le_of_ble_eq_true rfl) dX6_follows_28 ?_
  intro z2_ S3_
  refine r_istore g dX6_follows_31 (by decide) rfl ?_
  refine r_iload g dX6_follows_33 rfl ?_
  refine r_if_ge g 41 dX6_follows_35 (by decide) ?_ ?_
  · refine r_aload_n g dX6_follows_41 rfl ?_
    refine r_getC (c0 := 18) g KX6 shm_0 26 rfl (by decide) w_896 dX6_follows_42 ?_
    refine r_iload_n g dX6_follows_45 rfl ?_
    refine r_iald g shm_18 (by decide) dX6_follows_46 ?_
    intro z4_
    refine r_iconst g dX6_follows_47 ?_
    refine r_icmp_eq g 57 dX6_follows_48 (by decide) ?_ ?_
    · refine r_aload_n g dX6_follows_57 rfl ?_
      refine r_getC (c0 := 24) g KX6 shm_0 32 rfl (by decide) w_902 dX6_follows_58 ?_
      refine r_iload_n g dX6_follows_61 rfl ?_
      refine r_dup2 g dX6_follows_62 rfl rfl ?_
      refine r_iald g shm_24 (by decide) dX6_follows_63 ?_
      intro z5_
      refine r_iconst g dX6_follows_64 ?_
      refine r_iadd g dX6_follows_65 ?_
      refine r_iast g shm_24 (by decide) dX6_follows_66 ?_
      intro S6_
      refine r_aload_n g dX6_follows_67 rfl ?_
      refine r_aload_n g dX6_follows_68 rfl ?_
      refine r_getC (c0 := 19) g KX6 shm_0 27 rfl (by decide) w_897 dX6_follows_69 ?_
      refine r_iload_n g dX6_follows_72 rfl ?_
      refine r_iald g shm_19 (by decide) dX6_follows_73 ?_
      intro z7_
      refine r_iload_n g dX6_follows_74 rfl ?_
      refine r_i2l g dX6_follows_75 ?_
      refine r_lconst (x := 1) g dX6_follows_76 (by decide) ?_
      refine r_callV_WV (q := 0) (as := fun b => [vi z7_, vl x3, vl 1]) g (kX6_layPush S6_ z7_ x3 1) mX6_layPush shm_0 rfl w_1141 w_1143 w_38 (by decide) (fun _ => rfl) rfl (Nat.le_of_ble_eq_true rfl) dX6_follows_77 ?_
      intro S8_
      refine r_ldc2 (x := 10) g dX6_follows_80 w_1310 (by decide) ?_
      refine r_aload_n g dX6_follows_83 rfl ?_
      refine r_getL g KX6 shm_0 24 rfl (by decide) w_894 dX6_follows_84 ?_
      refine r_lmul g dX6_follows_87 ?_
      refine r_aload_n g dX6_follows_88 rfl ?_
      refine r_getL g KX6 shm_0 25 rfl (by decide) w_895 dX6_follows_89 ?_
      refine r_ldiv g dX6_follows_92 ?_
      intro z9_
      refine r_lstore g dX6_follows_93 (by decide) rfl ?_
      refine r_iload_n g dX6_follows_95 rfl ?_
      refine r_i2l g dX6_follows_96 ?_
      refine r_iload_n g dX6_follows_97 rfl ?_
      refine r_i2l g dX6_follows_98 ?_
      refine r_lmul g dX6_follows_99 ?_
      refine r_topl ?_
      intro x7_10_
      refine r_lstore g dX6_follows_100 (by decide) rfl ?_
      refine r_ldc2 (x := 2) g dX6_follows_102 w_1339 (by decide) ?_
      refine r_lload g dX6_follows_105 rfl ?_
      refine r_lmul g dX6_follows_107 ?_
      refine r_lload g dX6_follows_108 rfl ?_
      refine r_lcmp_gt g 118 dX6_follows_110 dX6_follows_111 (by decide) ?_ ?_
      · refine r_lload g dX6_follows_118 rfl ?_
        refine r_lload g dX6_follows_120 rfl ?_
        refine r_lcmp_le g 130 dX6_follows_122 dX6_follows_123 (by decide) ?_ ?_
        · refine r_iconst g dX6_follows_130 ?_
          exact r_iret g dX6_follows_131 rfl rfl
        · refine r_iconst g dX6_follows_126 ?_
          refine r_goto g 131 dX6_follows_127 (by decide) ?_
          exact r_iret g dX6_follows_131 rfl rfl
      · refine r_iconst g dX6_follows_114 ?_
        refine r_goto g 131 dX6_follows_115 (by decide) ?_
        exact r_iret g dX6_follows_131 rfl rfl
    · refine r_aload_n g dX6_follows_51 rfl ?_
      refine r_iconst g dX6_follows_52 ?_
      refine r_callV_WI (q := 0) (as := fun b => [vi 3]) g (kX6_meets S3_ 3) mX6_meets shm_0 rfl w_1055 w_1057 w_28 (by decide) (fun _ => rfl) rfl (Nat.le_of_ble_eq_true rfl) dX6_follows_53 ?_
      intro z11_ S12_
      exact r_iret g dX6_follows_56 rfl rfl
  · refine r_iload g dX6_follows_38 rfl ?_
    exact r_iret g dX6_follows_40 rfl rfl
theorem tX6_follows_26 {G : Gx}  {S : St} {x1 : Int} {x2 : Int} {x3 : Int} (g : Ok G cX6_follows RX6 9 { frames := 3, cells := 0, slots := 0, locals := 64 } (some .int))   : Rg G oIS (fun v => v.2) (SHM, 0, 0) (SHM, 0, 0) S 26 [some (vr G 0), some (vi x1), some (vi x2), some (vi x3), none, none, none, none, none] [vr G 0] (pX6_follows_26 S x1 x2 x3) := by
  unfold pX6_follows_26
  refine r_iconst g dX6_follows_26 ?_
  exact tX6_follows_27 g
theorem kX6_follows (S : St) (x1 : Int) (x2 : Int) (x3 : Int)  : Con yX6_follows cX6_follows 9 (some .int) { frames := 3, cells := 0, slots := 0, locals := 64 } false SHM (SHM, 0, 0) (fun b => [.ref (b + 0), vi x1, vi x2, vi x3]) S (fun _ => oIS) (fun v => v.2) (pX6_follows S x1 x2 x3) := by
  refine Con_of (fun b => [some (.ref (b + 0)), some (vi x1), some (vi x2), some (vi x3), none, none, none, none, none]) (by decide) (fun _ => rfl) (fun _ => Nat.le_of_ble_eq_true rfl) ?_
  intro G g _ _ _
  change Ok G cX6_follows RX6 9 { frames := 3, cells := 0, slots := 0, locals := 64 } (some .int) at g
  show Rg G oIS (fun v => v.2) (SHM, 0, 0) (SHM, 0, 0) S 0 [some (vr G 0), some (vi x1), some (vi x2), some (vi x3), none, none, none, none, none] [] (pX6_follows S x1 x2 x3)
  unfold pX6_follows
  refine r_aload_n g dX6_follows_0 rfl ?_
  refine r_iload_n g dX6_follows_1 rfl ?_
  refine r_iconst g dX6_follows_2 ?_
  refine r_sipush g dX6_follows_3 (by decide) ?_
  refine r_callS_PI g (kX6_in S x2 1 9999) mX6_in w_1033 w_1034 (by decide) (fun _ => rfl) rfl (Nat.le_of_ble_eq_true rfl) dX6_follows_6 ?_
  intro z1_
  refine r_if_eq g 26 dX6_follows_9 (by decide) ?_ ?_
  · exact tX6_follows_26 g
  · refine r_iload_n g dX6_follows_12 rfl ?_
    refine r_iconst g dX6_follows_13 ?_
    refine r_bipush g dX6_follows_14 (by decide) ?_
    refine r_callS_PI g (kX6_in S x3 1 20) mX6_in w_1033 w_1034 (by decide) (fun _ => rfl) rfl (Nat.le_of_ble_eq_true rfl) dX6_follows_16 ?_
    intro z13_
    refine r_if_eq g 26 dX6_follows_19 (by decide) ?_ ?_
    · exact tX6_follows_26 g
    · refine r_iconst g dX6_follows_22 ?_
      refine r_goto g 27 dX6_follows_23 (by decide) ?_
      exact tX6_follows_27 g
theorem tX6_isKept_93 {G : Gx} {k6 : St → Int → Int → Option (Int × St)} {S : St} {x1 : Int} {x2 : Int} {x3 : Int} {x5 : Int} {s0 : Int} (g : Ok G cX6_isKept RX6 8 { frames := 2, cells := 0, slots := 0, locals := 59 } (some .boolean)) (hk6 : ∀ (S' : St) (x4' : Int) (x5' : Int), Rg G oIS (fun v => v.2) (SHM, 0, 0) (SHM, 0, 0) S' 6 [some (vr G 0), some (vi x1), some (vi x2), some (vi x3), some (vi (x4')), some (vi (x5')), none, none] [] (k6 S' x4' x5'))  : Rg G oIS (fun v => v.2) (SHM, 0, 0) (SHM, 0, 0) S 93 [some (vr G 0), some (vi x1), some (vi x2), some (vi x3), none, some (vi x5), none, none] [vi s0] (pX6_isKept_93 k6 S x1 x2 x3 x5 s0) := by
  unfold pX6_isKept_93
  refine r_istore g dX6_isKept_93 (by decide) rfl ?_
  refine r_iinc g dX6_isKept_95 (by decide) rfl ?_
  intro x5_6_
  change Rg _ _ _ _ _ _ _ [some (vr G 0), some (vi x1), some (vi x2), some (vi x3), some (vi s0), some (vi x5_6_), none, none] _ _
  refine r_goto g 6 dX6_isKept_98 (by decide) ?_
  exact hk6 _ _ _
theorem tX6_isKept_92 {G : Gx} {k6 : St → Int → Int → Option (Int × St)} {S : St} {x1 : Int} {x2 : Int} {x3 : Int} {x5 : Int} (g : Ok G cX6_isKept RX6 8 { frames := 2, cells := 0, slots := 0, locals := 59 } (some .boolean)) (hk6 : ∀ (S' : St) (x4' : Int) (x5' : Int), Rg G oIS (fun v => v.2) (SHM, 0, 0) (SHM, 0, 0) S' 6 [some (vr G 0), some (vi x1), some (vi x2), some (vi x3), some (vi (x4')), some (vi (x5')), none, none] [] (k6 S' x4' x5'))  : Rg G oIS (fun v => v.2) (SHM, 0, 0) (SHM, 0, 0) S 92 [some (vr G 0), some (vi x1), some (vi x2), some (vi x3), none, some (vi x5), none, none] [] (pX6_isKept_92 k6 S x1 x2 x3 x5) := by
  unfold pX6_isKept_92
  refine r_iconst g dX6_isKept_92 ?_
  exact tX6_isKept_93 g hk6
theorem tX6_isKept_68 {G : Gx} {k6 : St → Int → Int → Option (Int × St)} {S : St} {x1 : Int} {x2 : Int} {x3 : Int} {x4 : Int} {x5 : Int} {s0 : Int} (g : Ok G cX6_isKept RX6 8 { frames := 2, cells := 0, slots := 0, locals := 59 } (some .boolean)) (hk6 : ∀ (S' : St) (x4' : Int) (x5' : Int), Rg G oIS (fun v => v.2) (SHM, 0, 0) (SHM, 0, 0) S' 6 [some (vr G 0), some (vi x1), some (vi x2), some (vi x3), some (vi (x4')), some (vi (x5')), none, none] [] (k6 S' x4' x5'))  : Rg G oIS (fun v => v.2) (SHM, 0, 0) (SHM, 0, 0) S 68 [some (vr G 0), some (vi x1), some (vi x2), some (vi x3), some (vi x4), some (vi x5), none, none] [vl s0] (pX6_isKept_68 k6 S x1 x2 x3 x4 x5 s0) := by
  unfold pX6_isKept_68
  refine r_lstore g dX6_isKept_68 (by decide) rfl ?_
  refine r_iload g dX6_isKept_70 rfl ?_
  refine r_if_eq g 92 dX6_isKept_72 (by decide) ?_ ?_
  · refine r_msk [true, true, true, true, false, true, false, false] rfl ?_
    exact tX6_isKept_92 g hk6
  · refine r_lload g dX6_isKept_75 rfl ?_
    refine r_iload_n g dX6_isKept_77 rfl ?_
    refine r_i2l g dX6_isKept_78 ?_
    refine r_aload_n g dX6_isKept_79 rfl ?_
    refine r_getL g KX6 shm_0 25 rfl (by decide) w_895 dX6_isKept_80 ?_
    refine r_lmul g dX6_isKept_83 ?_
    refine r_lcmp_gt g 92 dX6_isKept_84 dX6_isKept_85 (by decide) ?_ ?_
    · refine r_msk [true, true, true, true, false, true, false, false] rfl ?_
      exact tX6_isKept_92 g hk6
    · refine r_iconst g dX6_isKept_88 ?_
      refine r_goto g 93 dX6_isKept_89 (by decide) ?_
      refine r_msk [true, true, true, true, false, true, false, false] rfl ?_
      exact tX6_isKept_93 g hk6
theorem tX6_isKept_6B {G : Gx} {x1 : Int} {x2 : Int} {x3 : Int} (g : Ok G cX6_isKept RX6 8 { frames := 2, cells := 0, slots := 0, locals := 59 } (some .boolean))   {k6 : St → Int → Int → Option (Int × St)} (hk6 : ∀ (S' : St) (x4' : Int) (x5' : Int), Rg G oIS (fun v => v.2) (SHM, 0, 0) (SHM, 0, 0) S' 6 [some (vr G 0), some (vi x1), some (vi x2), some (vi x3), some (vi (x4')), some (vi (x5')), none, none] [] (k6 S' x4' x5')) {S : St} {x4 : Int} {x5 : Int} : Rg G oIS (fun v => v.2) (SHM, 0, 0) (SHM, 0, 0) S 6 [some (vr G 0), some (vi x1), some (vi x2), some (vi x3), some (vi x4), some (vi x5), none, none] [] (pX6_isKept_6B x1 x2 x3 k6 S x4 x5) := by
  unfold pX6_isKept_6B
  refine r_iload g dX6_isKept_6 rfl ?_
  refine r_aload_n g dX6_isKept_8 rfl ?_
  refine r_getC (c0 := 2) g KX6 shm_0 5 rfl (by decide) w_875 dX6_isKept_9 ?_
  refine r_iload_n g dX6_isKept_12 rfl ?_
  refine r_iald g shm_2 (by decide) dX6_isKept_13 ?_
  intro z1_
  refine r_icmp_ge g 101 dX6_isKept_14 (by decide) ?_ ?_
  · refine r_iload g dX6_isKept_101 rfl ?_
    exact r_zret g dX6_isKept_103 rfl rfl
  · refine r_aload_n g dX6_isKept_17 rfl ?_
    refine r_iload_n g dX6_isKept_18 rfl ?_
    refine r_aload_n g dX6_isKept_19 rfl ?_
    refine r_iload_n g dX6_isKept_20 rfl ?_
    refine r_iload g dX6_isKept_21 rfl ?_
    refine r_callV_PI (q := 0) (as := fun b => [vi x2, vi x5]) g (kX6_rowAt S x2 x5) mX6_rowAt shm_0 rfl w_1063 w_1065 w_29 (by decide) (fun _ => rfl) rfl (Nat.le_of_ble_eq_true rfl) dX6_isKept_23 ?_
    intro z2_
    refine r_i2l g dX6_isKept_26 ?_
    refine r_lconst (x := 1) g dX6_isKept_27 (by decide) ?_
    refine r_callV_WV (q := 0) (as := fun b => [vi x1, vl z2_, vl 1]) g (kX6_layPush S x1 z2_ 1) mX6_layPush shm_0 rfl w_1141 w_1143 w_38 (by decide) (fun _ => rfl) rfl (Nat.le_of_ble_eq_true rfl) dX6_isKept_28 ?_
    intro S3_
    refine r_aload_n g dX6_isKept_31 rfl ?_
    refine r_getL g KX6 shm_0 24 rfl (by decide) w_894 dX6_isKept_32 ?_
    refine r_aload_n g dX6_isKept_35 rfl ?_
    refine r_iload_n g dX6_isKept_36 rfl ?_
    refine r_iload g dX6_isKept_37 rfl ?_
    refine r_iconst g dX6_isKept_39 ?_
    refine r_iadd g dX6_isKept_40 ?_
    refine r_callV_PI (q := 0) (as := fun b => [vi x2, vi (x5 + 1)]) g (kX6_rowAt S3_ x2 (x5 + 1)) mX6_rowAt shm_0 rfl w_1063 w_1065 w_29 (by decide) (fun _ => rfl) rfl (Nat.le_of_ble_eq_true rfl) dX6_isKept_41 ?_
    intro z4_
    refine r_i2l g dX6_isKept_44 ?_
    refine r_aload_n g dX6_isKept_45 rfl ?_
    refine r_getL g KX6 shm_0 25 rfl (by decide) w_895 dX6_isKept_46 ?_
    refine r_lmul g dX6_isKept_49 ?_
    refine r_lsub g dX6_isKept_50 ?_
    refine r_topl ?_
    intro x6_5_
    refine r_lstore g dX6_isKept_51 (by decide) rfl ?_
    refine r_lload g dX6_isKept_53 rfl ?_
    refine r_lconst (x := 0) g dX6_isKept_55 (by decide) ?_
    refine r_lcmp_ge g 66 dX6_isKept_56 dX6_isKept_57 (by decide) ?_ ?_
    · refine r_lload g dX6_isKept_66 rfl ?_
      refine r_msk [true, true, true, true, true, true, false, false] rfl ?_
      exact tX6_isKept_68 g hk6
    · refine r_lload g dX6_isKept_60 rfl ?_
      refine r_lneg g dX6_isKept_62 ?_
      refine r_goto g 68 dX6_isKept_63 (by decide) ?_
      refine r_msk [true, true, true, true, true, true, false, false] rfl ?_
      exact tX6_isKept_68 g hk6
theorem tX6_isKept_6 {G : Gx} {x1 : Int} {x2 : Int} {x3 : Int} (g : Ok G cX6_isKept RX6 8 { frames := 2, cells := 0, slots := 0, locals := 59 } (some .boolean))   : ∀ (n_ : Nat) (S : St) (x4 : Int) (x5 : Int), Rg G oIS (fun v => v.2) (SHM, 0, 0) (SHM, 0, 0) S 6 [some (vr G 0), some (vi x1), some (vi x2), some (vi x3), some (vi x4), some (vi x5), none, none] [] (lo3 (pX6_isKept_6B x1 x2 x3) n_ S x4 x5) := by
  intro n_
  induction n_ with
  | zero => intro S x4 x5; exact r_none
  | succ n_ ih => intro S x4 x5; exact tX6_isKept_6B g   ih
theorem kX6_isKept (S : St) (x1 : Int) (x2 : Int) (x3 : Int)  : Con yX6_isKept cX6_isKept 8 (some .boolean) { frames := 2, cells := 0, slots := 0, locals := 59 } false SHM (SHM, 0, 0) (fun b => [.ref (b + 0), vi x1, vi x2, vi x3]) S (fun _ => oIS) (fun v => v.2) (pX6_isKept S x1 x2 x3) := by
  refine Con_of (fun b => [some (.ref (b + 0)), some (vi x1), some (vi x2), some (vi x3), none, none, none, none]) (by decide) (fun _ => rfl) (fun _ => Nat.le_of_ble_eq_true rfl) ?_
  intro G g _ _ _
  change Ok G cX6_isKept RX6 8 { frames := 2, cells := 0, slots := 0, locals := 59 } (some .boolean) at g
  show Rg G oIS (fun v => v.2) (SHM, 0, 0) (SHM, 0, 0) S 0 [some (vr G 0), some (vi x1), some (vi x2), some (vi x3), none, none, none, none] [] (pX6_isKept S x1 x2 x3)
  unfold pX6_isKept
  refine r_iconst g dX6_isKept_0 ?_
  refine r_istore g dX6_isKept_1 (by decide) rfl ?_
  refine r_iconst g dX6_isKept_3 ?_
  refine r_istore g dX6_isKept_4 (by decide) rfl ?_
  exact tX6_isKept_6 g _ _ _ _
theorem tX6_strip_55 {G : Gx}  {S : St}  (g : Ok G cX6_strip RX6 6 { frames := 3, cells := 0, slots := 0, locals := 86 } (some .int))   : Rg G oIS (fun v => v.2) (SHM, 0, 0) (SHM, 0, 0) S 55 [some (vr G 0), none, none, none, none, none] [] (pX6_strip_55 S) := by
  unfold pX6_strip_55
  refine r_aload_n g dX6_strip_55 rfl ?_
  refine r_iconst g dX6_strip_56 ?_
  refine r_callV_WI (q := 0) (as := fun b => [vi 5]) g (kX6_meets S 5) mX6_meets shm_0 rfl w_1055 w_1057 w_28 (by decide) (fun _ => rfl) rfl (Nat.le_of_ble_eq_true rfl) dX6_strip_57 ?_
  intro z5_ S6_
  exact r_iret g dX6_strip_60 rfl rfl
theorem tX6_strip_182 {G : Gx} {k144 : St → Int → Int → Option (Int × St)} {S : St} {x1 : Int} {x2 : Int} {x5 : Int} {s0 : Int} {s1 : Int} (g : Ok G cX6_strip RX6 6 { frames := 3, cells := 0, slots := 0, locals := 86 } (some .int)) (hk144 : ∀ (S' : St) (x4' : Int) (x5' : Int), Rg G oIS (fun v => v.2) (SHM, 0, 0) (SHM, 0, 0) S' 144 [some (vr G 0), some (vi x1), some (vi x2), none, some (vi (x4')), some (vi (x5'))] [] (k144 S' x4' x5'))  : Rg G oIS (fun v => v.2) (SHM, 0, 0) (SHM, 0, 0) S 182 [some (vr G 0), some (vi x1), some (vi x2), none, none, some (vi x5)] [vi s0, vi s1] (pX6_strip_182 k144 S x1 x2 x5 s0 s1) := by
  unfold pX6_strip_182
  refine r_ior g dX6_strip_182 ?_
  intro z11_
  refine r_istore g dX6_strip_183 (by decide) rfl ?_
  refine r_iinc g dX6_strip_185 (by decide) rfl ?_
  intro x5_12_
  change Rg _ _ _ _ _ _ _ [some (vr G 0), some (vi x1), some (vi x2), none, some (vi z11_), some (vi x5_12_)] _ _
  refine r_goto g 144 dX6_strip_188 (by decide) ?_
  exact hk144 _ _ _
theorem tX6_strip_181 {G : Gx} {k144 : St → Int → Int → Option (Int × St)} {S : St} {x1 : Int} {x2 : Int} {x5 : Int} {s0 : Int} (g : Ok G cX6_strip RX6 6 { frames := 3, cells := 0, slots := 0, locals := 86 } (some .int)) (hk144 : ∀ (S' : St) (x4' : Int) (x5' : Int), Rg G oIS (fun v => v.2) (SHM, 0, 0) (SHM, 0, 0) S' 144 [some (vr G 0), some (vi x1), some (vi x2), none, some (vi (x4')), some (vi (x5'))] [] (k144 S' x4' x5'))  : Rg G oIS (fun v => v.2) (SHM, 0, 0) (SHM, 0, 0) S 181 [some (vr G 0), some (vi x1), some (vi x2), none, none, some (vi x5)] [vi s0] (pX6_strip_181 k144 S x1 x2 x5 s0) := by
  unfold pX6_strip_181
  refine r_iconst g dX6_strip_181 ?_
  exact tX6_strip_182 g hk144
theorem tX6_strip_144B {G : Gx} {x1 : Int} {x2 : Int} (g : Ok G cX6_strip RX6 6 { frames := 3, cells := 0, slots := 0, locals := 86 } (some .int))   {k144 : St → Int → Int → Option (Int × St)} (hk144 : ∀ (S' : St) (x4' : Int) (x5' : Int), Rg G oIS (fun v => v.2) (SHM, 0, 0) (SHM, 0, 0) S' 144 [some (vr G 0), some (vi x1), some (vi x2), none, some (vi (x4')), some (vi (x5'))] [] (k144 S' x4' x5')) {S : St} {x4 : Int} {x5 : Int} : Rg G oIS (fun v => v.2) (SHM, 0, 0) (SHM, 0, 0) S 144 [some (vr G 0), some (vi x1), some (vi x2), none, some (vi x4), some (vi x5)] [] (pX6_strip_144B x1 x2 k144 S x4 x5) := by
  unfold pX6_strip_144B
  refine r_iload g dX6_strip_144 rfl ?_
  refine r_bipush g dX6_strip_146 (by decide) ?_
  refine r_icmp_ge g 191 dX6_strip_148 (by decide) ?_ ?_
  · refine r_iload g dX6_strip_191 rfl ?_
    exact r_iret g dX6_strip_193 rfl rfl
  · refine r_iload g dX6_strip_151 rfl ?_
    refine r_aload_n g dX6_strip_153 rfl ?_
    refine r_getC (c0 := 7) g KX6 shm_0 10 rfl (by decide) w_880 dX6_strip_154 ?_
    refine r_iload g dX6_strip_157 rfl ?_
    refine r_zald g shm_7 (by decide) dX6_strip_159 ?_
    intro z10_
    refine r_if_eq g 181 dX6_strip_160 (by decide) ?_ ?_
    · refine r_msk [true, true, true, false, false, true] rfl ?_
      exact tX6_strip_181 g hk144
    · refine r_aload_n g dX6_strip_163 rfl ?_
      refine r_iload g dX6_strip_164 rfl ?_
      refine r_iload_n g dX6_strip_166 rfl ?_
      refine r_iload_n g dX6_strip_167 rfl ?_
      refine r_callV_WI (q := 0) (as := fun b => [vi x5, vi x1, vi x2]) g (kX6_isKept S x5 x1 x2) mX6_isKept shm_0 rfl w_1344 w_1346 w_62 (by decide) (fun _ => rfl) rfl (Nat.le_of_ble_eq_true rfl) dX6_strip_168 ?_
      intro z13_ S14_
      refine r_if_eq g 181 dX6_strip_171 (by decide) ?_ ?_
      · refine r_msk [true, true, true, false, false, true] rfl ?_
        exact tX6_strip_181 g hk144
      · refine r_iconst g dX6_strip_174 ?_
        refine r_iload g dX6_strip_175 rfl ?_
        refine r_ishl g dX6_strip_177 ?_
        intro z15_
        refine r_goto g 182 dX6_strip_178 (by decide) ?_
        refine r_msk [true, true, true, false, false, true] rfl ?_
        exact tX6_strip_182 g hk144
theorem tX6_strip_144 {G : Gx} {x1 : Int} {x2 : Int} (g : Ok G cX6_strip RX6 6 { frames := 3, cells := 0, slots := 0, locals := 86 } (some .int))   : ∀ (n_ : Nat) (S : St) (x4 : Int) (x5 : Int), Rg G oIS (fun v => v.2) (SHM, 0, 0) (SHM, 0, 0) S 144 [some (vr G 0), some (vi x1), some (vi x2), none, some (vi x4), some (vi x5)] [] (lo3 (pX6_strip_144B x1 x2) n_ S x4 x5) := by
  intro n_
  induction n_ with
  | zero => intro S x4 x5; exact r_none
  | succ n_ ih => intro S x4 x5; exact tX6_strip_144B g   ih
theorem tX6_strip_121 {G : Gx} {k66 : Int → Int → Option (Int × St)} {S : St} {x1 : Int} {x2 : Int} {x4 : Int} {s0 : Int} (g : Ok G cX6_strip RX6 6 { frames := 3, cells := 0, slots := 0, locals := 86 } (some .int)) (hk66 : ∀ (x3' : Int) (x4' : Int), Rg G oIS (fun v => v.2) (SHM, 0, 0) (SHM, 0, 0) S 66 [some (vr G 0), some (vi x1), some (vi x2), some (vi (x3')), some (vi (x4')), none] [] (k66 x3' x4'))  : Rg G oIS (fun v => v.2) (SHM, 0, 0) (SHM, 0, 0) S 121 [some (vr G 0), some (vi x1), some (vi x2), none, some (vi x4), none] [vi s0] (pX6_strip_121 k66 S x1 x2 x4 s0) := by
  unfold pX6_strip_121
  refine r_istore_n g 3 dX6_strip_121 rfl (by decide) rfl ?_
  refine r_iinc g dX6_strip_122 (by decide) rfl ?_
  intro x4_18_
  change Rg _ _ _ _ _ _ _ [some (vr G 0), some (vi x1), some (vi x2), some (vi s0), some (vi x4_18_), none] _ _
  refine r_goto g 66 dX6_strip_125 (by decide) ?_
  exact hk66 _ _
theorem tX6_strip_120 {G : Gx} {k66 : Int → Int → Option (Int × St)} {S : St} {x1 : Int} {x2 : Int} {x4 : Int} (g : Ok G cX6_strip RX6 6 { frames := 3, cells := 0, slots := 0, locals := 86 } (some .int)) (hk66 : ∀ (x3' : Int) (x4' : Int), Rg G oIS (fun v => v.2) (SHM, 0, 0) (SHM, 0, 0) S 66 [some (vr G 0), some (vi x1), some (vi x2), some (vi (x3')), some (vi (x4')), none] [] (k66 x3' x4'))  : Rg G oIS (fun v => v.2) (SHM, 0, 0) (SHM, 0, 0) S 120 [some (vr G 0), some (vi x1), some (vi x2), none, some (vi x4), none] [] (pX6_strip_120 k66 S x1 x2 x4) := by
  unfold pX6_strip_120
  refine r_iconst g dX6_strip_120 ?_
  exact tX6_strip_121 g hk66
theorem tX6_strip_66B {G : Gx} {S : St} {x1 : Int} {x2 : Int} (g : Ok G cX6_strip RX6 6 { frames := 3, cells := 0, slots := 0, locals := 86 } (some .int))   {k66 : Int → Int → Option (Int × St)} (hk66 : ∀ (x3' : Int) (x4' : Int), Rg G oIS (fun v => v.2) (SHM, 0, 0) (SHM, 0, 0) S 66 [some (vr G 0), some (vi x1), some (vi x2), some (vi (x3')), some (vi (x4')), none] [] (k66 x3' x4')) {x3 : Int} {x4 : Int} : Rg G oIS (fun v => v.2) (SHM, 0, 0) (SHM, 0, 0) S 66 [some (vr G 0), some (vi x1), some (vi x2), some (vi x3), some (vi x4), none] [] (pX6_strip_66B S x1 x2 k66 x3 x4) := by
  unfold pX6_strip_66B
  refine r_iload g dX6_strip_66 rfl ?_
  refine r_aload_n g dX6_strip_68 rfl ?_
  refine r_getC (c0 := 2) g KX6 shm_0 5 rfl (by decide) w_875 dX6_strip_69 ?_
  refine r_iload_n g dX6_strip_72 rfl ?_
  refine r_iald g shm_2 (by decide) dX6_strip_73 ?_
  intro z9_
  refine r_icmp_ge g 128 dX6_strip_74 (by decide) ?_ ?_
  · refine r_iload_n g dX6_strip_128 rfl ?_
    refine r_if_ne g 138 dX6_strip_129 (by decide) ?_ ?_
    · refine r_iconst g dX6_strip_138 ?_
      refine r_istore g dX6_strip_139 (by decide) rfl ?_
      refine r_iconst g dX6_strip_141 ?_
      refine r_istore g dX6_strip_142 (by decide) rfl ?_
      refine r_msk [true, true, true, false, true, true] rfl ?_
      exact tX6_strip_144 g _ _ _ _
    · refine r_aload_n g dX6_strip_132 rfl ?_
      refine r_iconst g dX6_strip_133 ?_
      refine r_callV_WI (q := 0) (as := fun b => [vi 3]) g (kX6_meets S 3) mX6_meets shm_0 rfl w_1055 w_1057 w_28 (by decide) (fun _ => rfl) rfl (Nat.le_of_ble_eq_true rfl) dX6_strip_134 ?_
      intro z16_ S17_
      exact r_iret g dX6_strip_137 rfl rfl
  · refine r_iload_n g dX6_strip_77 rfl ?_
    refine r_if_eq g 120 dX6_strip_78 (by decide) ?_ ?_
    · refine r_msk [true, true, true, false, true, false] rfl ?_
      exact tX6_strip_120 g hk66
    · refine r_aload_n g dX6_strip_81 rfl ?_
      refine r_iload_n g dX6_strip_82 rfl ?_
      refine r_iload g dX6_strip_83 rfl ?_
      refine r_callV_PI (q := 0) (as := fun b => [vi x1, vi x4]) g (kX6_rowAt S x1 x4) mX6_rowAt shm_0 rfl w_1063 w_1065 w_29 (by decide) (fun _ => rfl) rfl (Nat.le_of_ble_eq_true rfl) dX6_strip_85 ?_
      intro z19_
      refine r_iconst g dX6_strip_88 ?_
      refine r_bipush g dX6_strip_89 (by decide) ?_
      refine r_callS_PI g (kX6_in S z19_ 0 20) mX6_in w_1033 w_1034 (by decide) (fun _ => rfl) rfl (Nat.le_of_ble_eq_true rfl) dX6_strip_91 ?_
      intro z20_
      refine r_if_eq g 120 dX6_strip_94 (by decide) ?_ ?_
      · refine r_msk [true, true, true, false, true, false] rfl ?_
        exact tX6_strip_120 g hk66
      · refine r_aload_n g dX6_strip_97 rfl ?_
        refine r_iload_n g dX6_strip_98 rfl ?_
        refine r_iload g dX6_strip_99 rfl ?_
        refine r_iconst g dX6_strip_101 ?_
        refine r_iadd g dX6_strip_102 ?_
        refine r_callV_PI (q := 0) (as := fun b => [vi x1, vi (x4 + 1)]) g (kX6_rowAt S x1 (x4 + 1)) mX6_rowAt shm_0 rfl w_1063 w_1065 w_29 (by decide) (fun _ => rfl) rfl (Nat.le_of_ble_eq_true rfl) dX6_strip_103 ?_
        intro z21_
        refine r_iconst g dX6_strip_106 ?_
        refine r_sipush g dX6_strip_107 (by decide) ?_
        refine r_callS_PI g (kX6_in S z21_ 0 9999) mX6_in w_1033 w_1034 (by decide) (fun _ => rfl) rfl (Nat.le_of_ble_eq_true rfl) dX6_strip_110 ?_
        intro z22_
        refine r_if_eq g 120 dX6_strip_113 (by decide) ?_ ?_
        · refine r_msk [true, true, true, false, true, false] rfl ?_
          exact tX6_strip_120 g hk66
        · refine r_iconst g dX6_strip_116 ?_
          refine r_goto g 121 dX6_strip_117 (by decide) ?_
          refine r_msk [true, true, true, false, true, false] rfl ?_
          exact tX6_strip_121 g hk66
theorem tX6_strip_66 {G : Gx} {S : St} {x1 : Int} {x2 : Int} (g : Ok G cX6_strip RX6 6 { frames := 3, cells := 0, slots := 0, locals := 86 } (some .int))   : ∀ (n_ : Nat) (x3 : Int) (x4 : Int), Rg G oIS (fun v => v.2) (SHM, 0, 0) (SHM, 0, 0) S 66 [some (vr G 0), some (vi x1), some (vi x2), some (vi x3), some (vi x4), none] [] (lo2 (pX6_strip_66B S x1 x2) n_ x3 x4) := by
  intro n_
  induction n_ with
  | zero => intro x3 x4; exact r_none
  | succ n_ ih => intro x3 x4; exact tX6_strip_66B g   ih
theorem kX6_strip (S : St) (x1 : Int) (x2 : Int)  : Con yX6_strip cX6_strip 6 (some .int) { frames := 3, cells := 0, slots := 0, locals := 86 } false SHM (SHM, 0, 0) (fun b => [.ref (b + 0), vi x1, vi x2]) S (fun _ => oIS) (fun v => v.2) (pX6_strip S x1 x2) := by
  refine Con_of (fun b => [some (.ref (b + 0)), some (vi x1), some (vi x2), none, none, none]) (by decide) (fun _ => rfl) (fun _ => Nat.le_of_ble_eq_true rfl) ?_
  intro G g _ _ _
  change Ok G cX6_strip RX6 6 { frames := 3, cells := 0, slots := 0, locals := 86 } (some .int) at g
  show Rg G oIS (fun v => v.2) (SHM, 0, 0) (SHM, 0, 0) S 0 [some (vr G 0), some (vi x1), some (vi x2), none, none, none] [] (pX6_strip S x1 x2)
  unfold pX6_strip
  refine r_iload_n g dX6_strip_0 rfl ?_
  refine r_callS_PI g (kX6_isRow S x1) mX6_isRow w_1052 w_1053 (by decide) (fun _ => rfl) rfl (Nat.le_of_ble_eq_true rfl) dX6_strip_1 ?_
  intro z1_
  refine r_if_eq g 17 dX6_strip_4 (by decide) ?_ ?_
  · refine r_iconst g dX6_strip_17 ?_
    exact r_iret g dX6_strip_18 rfl rfl
  · refine r_iload_n g dX6_strip_7 rfl ?_
    refine r_iconst g dX6_strip_8 ?_
    refine r_bipush g dX6_strip_9 (by decide) ?_
    refine r_callS_PI g (kX6_in S x2 0 99) mX6_in w_1033 w_1034 (by decide) (fun _ => rfl) rfl (Nat.le_of_ble_eq_true rfl) dX6_strip_11 ?_
    intro z2_
    refine r_if_ne g 19 dX6_strip_14 (by decide) ?_ ?_
    · refine r_aload_n g dX6_strip_19 rfl ?_
      refine r_getC (c0 := 2) g KX6 shm_0 5 rfl (by decide) w_875 dX6_strip_20 ?_
      refine r_iload_n g dX6_strip_23 rfl ?_
      refine r_iald g shm_2 (by decide) dX6_strip_24 ?_
      intro z3_
      refine r_if_ge g 34 dX6_strip_25 (by decide) ?_ ?_
      · refine r_aload_n g dX6_strip_34 rfl ?_
        refine r_getC (c0 := 2) g KX6 shm_0 5 rfl (by decide) w_875 dX6_strip_35 ?_
        refine r_iload_n g dX6_strip_38 rfl ?_
        refine r_iald g shm_2 (by decide) dX6_strip_39 ?_
        intro z4_
        refine r_if_eq g 55 dX6_strip_40 (by decide) ?_ ?_
        · refine r_msk [true, false, false, false, false, false] rfl ?_
          exact tX6_strip_55 g
        · refine r_aload_n g dX6_strip_43 rfl ?_
          refine r_getC (c0 := 2) g KX6 shm_0 5 rfl (by decide) w_875 dX6_strip_44 ?_
          refine r_iload_n g dX6_strip_47 rfl ?_
          refine r_iald g shm_2 (by decide) dX6_strip_48 ?_
          intro z7_
          refine r_iconst g dX6_strip_49 ?_
          refine r_irem g dX6_strip_50 ?_
          intro z8_
          refine r_iconst g dX6_strip_51 ?_
          refine r_icmp_ne g 61 dX6_strip_52 (by decide) ?_ ?_
          · refine r_iconst g dX6_strip_61 ?_
            refine r_istore_n g 3 dX6_strip_62 rfl (by decide) rfl ?_
            refine r_iconst g dX6_strip_63 ?_
            refine r_istore g dX6_strip_64 (by decide) rfl ?_
            exact tX6_strip_66 g _ _ _
          · refine r_msk [true, false, false, false, false, false] rfl ?_
            exact tX6_strip_55 g
      · refine r_aload_n g dX6_strip_28 rfl ?_
        refine r_iconst g dX6_strip_29 ?_
        refine r_callV_WI (q := 0) (as := fun b => [vi 1]) g (kX6_meets S 1) mX6_meets shm_0 rfl w_1055 w_1057 w_28 (by decide) (fun _ => rfl) rfl (Nat.le_of_ble_eq_true rfl) dX6_strip_30 ?_
        intro z23_ S24_
        exact r_iret g dX6_strip_33 rfl rfl
    · refine r_iconst g dX6_strip_17 ?_
      exact r_iret g dX6_strip_18 rfl rfl
theorem tX6_bits_4B {G : Gx} {S : St} {x0 : Int} (g : Ok G cX6_bits RX6 3 { frames := 0, cells := 0, slots := 0, locals := 0 } (some .int))   {k4 : Int → Int → Option (Int)} (hk4 : ∀ (x1' : Int) (x2' : Int), Rg G oI (fun _ => S) (SHM, 0, 0) (SHM, 0, 0) S 4 [some (vi x0), some (vi (x1')), some (vi (x2'))] [] (k4 x1' x2')) {x1 : Int} {x2 : Int} : Rg G oI (fun _ => S) (SHM, 0, 0) (SHM, 0, 0) S 4 [some (vi x0), some (vi x1), some (vi x2)] [] (pX6_bits_4B x0 k4 x1 x2) := by
  unfold pX6_bits_4B
  refine r_iload_n g dX6_bits_4 rfl ?_
  refine r_bipush g dX6_bits_5 (by decide) ?_
  refine r_icmp_ge g 24 dX6_bits_7 (by decide) ?_ ?_
  · refine r_iload_n g dX6_bits_24 rfl ?_
    exact r_iret g dX6_bits_25 rfl rfl
  · refine r_iload_n g dX6_bits_10 rfl ?_
    refine r_iload_n g dX6_bits_11 rfl ?_
    refine r_iload_n g dX6_bits_12 rfl ?_
    refine r_ishr g dX6_bits_13 ?_
    intro z1_
    refine r_iconst g dX6_bits_14 ?_
    refine r_iand g dX6_bits_15 ?_
    intro z2_
    refine r_iadd g dX6_bits_16 ?_
    refine r_topi ?_
    intro x1_3_
    refine r_istore_n g 1 dX6_bits_17 rfl (by decide) rfl ?_
    refine r_iinc g dX6_bits_18 (by decide) rfl ?_
    intro x2_4_
    change Rg _ _ _ _ _ _ _ [some (vi x0), some (vi x1_3_), some (vi x2_4_)] _ _
    refine r_goto g 4 dX6_bits_21 (by decide) ?_
    exact hk4 _ _
theorem tX6_bits_4 {G : Gx} {S : St} {x0 : Int} (g : Ok G cX6_bits RX6 3 { frames := 0, cells := 0, slots := 0, locals := 0 } (some .int))   : ∀ (n_ : Nat) (x1 : Int) (x2 : Int), Rg G oI (fun _ => S) (SHM, 0, 0) (SHM, 0, 0) S 4 [some (vi x0), some (vi x1), some (vi x2)] [] (lo2 (pX6_bits_4B x0) n_ x1 x2) := by
  intro n_
  induction n_ with
  | zero => intro x1 x2; exact r_none
  | succ n_ ih => intro x1 x2; exact tX6_bits_4B g   ih
theorem kX6_bits (S : St) (x0 : Int)  : Con yX6_bits cX6_bits 3 (some .int) { frames := 0, cells := 0, slots := 0, locals := 0 } false SHM (SHM, 0, 0) (fun b => [vi x0]) S (fun _ => oI) (fun _ => S) (pX6_bits x0) := by
  refine Con_of (fun b => [some (vi x0), none, none]) (by decide) (fun _ => rfl) (fun _ => Nat.le_of_ble_eq_true rfl) ?_
  intro G g _ _ _
  change Ok G cX6_bits RX6 3 { frames := 0, cells := 0, slots := 0, locals := 0 } (some .int) at g
  show Rg G oI (fun _ => S) (SHM, 0, 0) (SHM, 0, 0) S 0 [some (vi x0), none, none] [] (pX6_bits x0)
  unfold pX6_bits
  refine r_iconst g dX6_bits_0 ?_
  refine r_istore_n g 1 dX6_bits_1 rfl (by decide) rfl ?_
  refine r_iconst g dX6_bits_2 ?_
  refine r_istore_n g 2 dX6_bits_3 rfl (by decide) rfl ?_
  exact tX6_bits_4 g _ _ _
theorem tX6_areThere_36 {G : Gx} {k4 : Int → Int → Option (Int)} {S : St} {x1 : Int} {x3 : Int} {s0 : Int} (g : Ok G cX6_areThere RX6 4 { frames := 1, cells := 0, slots := 0, locals := 21 } (some .boolean)) (hk4 : ∀ (x2' : Int) (x3' : Int), Rg G oI (fun _ => S) (SHM, 0, 0) (SHM, 0, 0) S 4 [some (vr G 0), some (vi x1), some (vi (x2')), some (vi (x3'))] [] (k4 x2' x3'))  : Rg G oI (fun _ => S) (SHM, 0, 0) (SHM, 0, 0) S 36 [some (vr G 0), some (vi x1), none, some (vi x3)] [vi s0] (pX6_areThere_36 k4 S x1 x3 s0) := by
  unfold pX6_areThere_36
  refine r_istore_n g 2 dX6_areThere_36 rfl (by decide) rfl ?_
  refine r_iinc g dX6_areThere_37 (by decide) rfl ?_
  intro x3_1_
  change Rg _ _ _ _ _ _ _ [some (vr G 0), some (vi x1), some (vi s0), some (vi x3_1_)] _ _
  refine r_goto g 4 dX6_areThere_40 (by decide) ?_
  exact hk4 _ _
theorem tX6_areThere_35 {G : Gx} {k4 : Int → Int → Option (Int)} {S : St} {x1 : Int} {x3 : Int} (g : Ok G cX6_areThere RX6 4 { frames := 1, cells := 0, slots := 0, locals := 21 } (some .boolean)) (hk4 : ∀ (x2' : Int) (x3' : Int), Rg G oI (fun _ => S) (SHM, 0, 0) (SHM, 0, 0) S 4 [some (vr G 0), some (vi x1), some (vi (x2')), some (vi (x3'))] [] (k4 x2' x3'))  : Rg G oI (fun _ => S) (SHM, 0, 0) (SHM, 0, 0) S 35 [some (vr G 0), some (vi x1), none, some (vi x3)] [] (pX6_areThere_35 k4 S x1 x3) := by
  unfold pX6_areThere_35
  refine r_iconst g dX6_areThere_35 ?_
  exact tX6_areThere_36 g hk4
theorem tX6_areThere_31 {G : Gx} {k4 : Int → Int → Option (Int)} {S : St} {x1 : Int} {x3 : Int} (g : Ok G cX6_areThere RX6 4 { frames := 1, cells := 0, slots := 0, locals := 21 } (some .boolean)) (hk4 : ∀ (x2' : Int) (x3' : Int), Rg G oI (fun _ => S) (SHM, 0, 0) (SHM, 0, 0) S 4 [some (vr G 0), some (vi x1), some (vi (x2')), some (vi (x3'))] [] (k4 x2' x3'))  : Rg G oI (fun _ => S) (SHM, 0, 0) (SHM, 0, 0) S 31 [some (vr G 0), some (vi x1), none, some (vi x3)] [] (pX6_areThere_31 k4 S x1 x3) := by
  unfold pX6_areThere_31
  refine r_iconst g dX6_areThere_31 ?_
  refine r_goto g 36 dX6_areThere_32 (by decide) ?_
  exact tX6_areThere_36 g hk4
theorem tX6_areThere_4B {G : Gx} {S : St} {x1 : Int} (g : Ok G cX6_areThere RX6 4 { frames := 1, cells := 0, slots := 0, locals := 21 } (some .boolean))   {k4 : Int → Int → Option (Int)} (hk4 : ∀ (x2' : Int) (x3' : Int), Rg G oI (fun _ => S) (SHM, 0, 0) (SHM, 0, 0) S 4 [some (vr G 0), some (vi x1), some (vi (x2')), some (vi (x3'))] [] (k4 x2' x3')) {x2 : Int} {x3 : Int} : Rg G oI (fun _ => S) (SHM, 0, 0) (SHM, 0, 0) S 4 [some (vr G 0), some (vi x1), some (vi x2), some (vi x3)] [] (pX6_areThere_4B S x1 k4 x2 x3) := by
  unfold pX6_areThere_4B
  refine r_iload_n g dX6_areThere_4 rfl ?_
  refine r_bipush g dX6_areThere_5 (by decide) ?_
  refine r_icmp_ge g 43 dX6_areThere_7 (by decide) ?_ ?_
  · refine r_iload_n g dX6_areThere_43 rfl ?_
    exact r_zret g dX6_areThere_44 rfl rfl
  · refine r_iload_n g dX6_areThere_10 rfl ?_
    refine r_if_eq g 35 dX6_areThere_11 (by decide) ?_ ?_
    · refine r_msk [true, true, false, true] rfl ?_
      exact tX6_areThere_35 g hk4
    · refine r_iload_n g dX6_areThere_14 rfl ?_
      refine r_iload_n g dX6_areThere_15 rfl ?_
      refine r_callS_PI g (kX6_has S x1 x3) mX6_has w_1282 w_1283 (by decide) (fun _ => rfl) rfl (Nat.le_of_ble_eq_true rfl) dX6_areThere_16 ?_
      intro z2_
      refine r_if_eq g 31 dX6_areThere_19 (by decide) ?_ ?_
      · refine r_msk [true, true, false, true] rfl ?_
        exact tX6_areThere_31 g hk4
      · refine r_aload_n g dX6_areThere_22 rfl ?_
        refine r_getC (c0 := 7) g KX6 shm_0 10 rfl (by decide) w_880 dX6_areThere_23 ?_
        refine r_iload_n g dX6_areThere_26 rfl ?_
        refine r_zald g shm_7 (by decide) dX6_areThere_27 ?_
        intro z3_
        refine r_if_eq g 35 dX6_areThere_28 (by decide) ?_ ?_
        · refine r_msk [true, true, false, true] rfl ?_
          exact tX6_areThere_35 g hk4
        · refine r_msk [true, true, false, true] rfl ?_
          exact tX6_areThere_31 g hk4
theorem tX6_areThere_4 {G : Gx} {S : St} {x1 : Int} (g : Ok G cX6_areThere RX6 4 { frames := 1, cells := 0, slots := 0, locals := 21 } (some .boolean))   : ∀ (n_ : Nat) (x2 : Int) (x3 : Int), Rg G oI (fun _ => S) (SHM, 0, 0) (SHM, 0, 0) S 4 [some (vr G 0), some (vi x1), some (vi x2), some (vi x3)] [] (lo2 (pX6_areThere_4B S x1) n_ x2 x3) := by
  intro n_
  induction n_ with
  | zero => intro x2 x3; exact r_none
  | succ n_ ih => intro x2 x3; exact tX6_areThere_4B g   ih
theorem kX6_areThere (S : St) (x1 : Int)  : Con yX6_areThere cX6_areThere 4 (some .boolean) { frames := 1, cells := 0, slots := 0, locals := 21 } false SHM (SHM, 0, 0) (fun b => [.ref (b + 0), vi x1]) S (fun _ => oI) (fun _ => S) (pX6_areThere S x1) := by
  refine Con_of (fun b => [some (.ref (b + 0)), some (vi x1), none, none]) (by decide) (fun _ => rfl) (fun _ => Nat.le_of_ble_eq_true rfl) ?_
  intro G g _ _ _
  change Ok G cX6_areThere RX6 4 { frames := 1, cells := 0, slots := 0, locals := 21 } (some .boolean) at g
  show Rg G oI (fun _ => S) (SHM, 0, 0) (SHM, 0, 0) S 0 [some (vr G 0), some (vi x1), none, none] [] (pX6_areThere S x1)
  unfold pX6_areThere
  refine r_iconst g dX6_areThere_0 ?_
  refine r_istore_n g 2 dX6_areThere_1 rfl (by decide) rfl ?_
  refine r_iconst g dX6_areThere_2 ?_
  refine r_istore_n g 3 dX6_areThere_3 rfl (by decide) rfl ?_
  exact tX6_areThere_4 g _ _ _
theorem tX6_layFar_111 {G : Gx} {k14 : St → Int → Int → Int → Int → Int → Option (St)} {S : St} {x1 : Int} {x2 : Int} {x3 : Int} {x5 : Int} {x7 : Int} {x9 : Int} {x11 : Int} (g : Ok G cX6_layFar RX6 12 { frames := 2, cells := 0, slots := 0, locals := 59 } none) (hk14 : ∀ (S' : St) (x3' : Int) (x5' : Int) (x7' : Int) (x9' : Int) (x11' : Int), Rg G oVS id (SHM, 0, 0) (SHM, 0, 0) S' 14 [some (vr G 0), some (vi x1), some (vi x2), some (vl (x3')), none, some (vl (x5')), none, some (vl (x7')), none, some (vl (x9')), none, some (vi (x11'))] [] (k14 S' x3' x5' x7' x9' x11'))  : Rg G oVS id (SHM, 0, 0) (SHM, 0, 0) S 111 [some (vr G 0), some (vi x1), some (vi x2), some (vl x3), none, some (vl x5), none, some (vl x7), none, some (vl x9), none, some (vi x11)] [] (pX6_layFar_111 k14 S x1 x2 x3 x5 x7 x9 x11) := by
  unfold pX6_layFar_111
  refine r_iinc g dX6_layFar_111 (by decide) rfl ?_
  intro x11_4_
  change Rg _ _ _ _ _ _ _ [some (vr G 0), some (vi x1), some (vi x2), some (vl x3), none, some (vl x5), none, some (vl x7), none, some (vl x9), none, some (vi x11_4_)] _ _
  refine r_goto g 14 dX6_layFar_114 (by decide) ?_
  exact hk14 _ _ _ _ _ _
theorem tX6_layFar_99 {G : Gx} {k14 : St → Int → Int → Int → Int → Int → Option (St)} {S : St} {x1 : Int} {x2 : Int} {x3 : Int} {x5 : Int} {x11 : Int} (g : Ok G cX6_layFar RX6 12 { frames := 2, cells := 0, slots := 0, locals := 59 } none) (hk14 : ∀ (S' : St) (x3' : Int) (x5' : Int) (x7' : Int) (x9' : Int) (x11' : Int), Rg G oVS id (SHM, 0, 0) (SHM, 0, 0) S' 14 [some (vr G 0), some (vi x1), some (vi x2), some (vl (x3')), none, some (vl (x5')), none, some (vl (x7')), none, some (vl (x9')), none, some (vi (x11'))] [] (k14 S' x3' x5' x7' x9' x11'))  : Rg G oVS id (SHM, 0, 0) (SHM, 0, 0) S 99 [some (vr G 0), some (vi x1), some (vi x2), some (vl x3), none, some (vl x5), none, none, none, none, none, some (vi x11)] [] (pX6_layFar_99 k14 S x1 x2 x3 x5 x11) := by
  unfold pX6_layFar_99
  refine r_aload_n g dX6_layFar_99 rfl ?_
  refine r_getL g KX6 shm_0 24 rfl (by decide) w_894 dX6_layFar_100 ?_
  refine r_topl ?_
  intro x7_8_
  refine r_lstore g dX6_layFar_103 (by decide) rfl ?_
  refine r_aload_n g dX6_layFar_105 rfl ?_
  refine r_getL g KX6 shm_0 25 rfl (by decide) w_895 dX6_layFar_106 ?_
  refine r_topl ?_
  intro x9_9_
  refine r_lstore g dX6_layFar_109 (by decide) rfl ?_
  exact tX6_layFar_111 g hk14
theorem tX6_layFar_74 {G : Gx} {k14 : St → Int → Int → Int → Int → Int → Option (St)} {S : St} {x1 : Int} {x2 : Int} {x3 : Int} {x5 : Int} {x7 : Int} {x9 : Int} {x11 : Int} (g : Ok G cX6_layFar RX6 12 { frames := 2, cells := 0, slots := 0, locals := 59 } none) (hk14 : ∀ (S' : St) (x3' : Int) (x5' : Int) (x7' : Int) (x9' : Int) (x11' : Int), Rg G oVS id (SHM, 0, 0) (SHM, 0, 0) S' 14 [some (vr G 0), some (vi x1), some (vi x2), some (vl (x3')), none, some (vl (x5')), none, some (vl (x7')), none, some (vl (x9')), none, some (vi (x11'))] [] (k14 S' x3' x5' x7' x9' x11'))  : Rg G oVS id (SHM, 0, 0) (SHM, 0, 0) S 74 [some (vr G 0), some (vi x1), some (vi x2), some (vl x3), none, some (vl x5), none, some (vl x7), none, some (vl x9), none, some (vi x11)] [] (pX6_layFar_74 k14 S x1 x2 x3 x5 x7 x9 x11) := by
  unfold pX6_layFar_74
  refine r_lload g dX6_layFar_74 rfl ?_
  refine r_lconst (x := 0) g dX6_layFar_76 (by decide) ?_
  refine r_lcmp_eq g 99 dX6_layFar_77 dX6_layFar_78 (by decide) ?_ ?_
  · refine r_msk [true, true, true, true, false, true, false, false, false, false, false, true] rfl ?_
    exact tX6_layFar_99 g hk14
  · refine r_aload_n g dX6_layFar_81 rfl ?_
    refine r_getL g KX6 shm_0 24 rfl (by decide) w_894 dX6_layFar_82 ?_
    refine r_lload g dX6_layFar_85 rfl ?_
    refine r_lmul g dX6_layFar_87 ?_
    refine r_lload g dX6_layFar_88 rfl ?_
    refine r_aload_n g dX6_layFar_90 rfl ?_
    refine r_getL g KX6 shm_0 25 rfl (by decide) w_895 dX6_layFar_91 ?_
    refine r_lmul g dX6_layFar_94 ?_
    refine r_lcmp_ge g 111 dX6_layFar_95 dX6_layFar_96 (by decide) ?_ ?_
    · exact tX6_layFar_111 g hk14
    · refine r_msk [true, true, true, true, false, true, false, false, false, false, false, true] rfl ?_
      exact tX6_layFar_99 g hk14
theorem tX6_layFar_63 {G : Gx} {k14 : St → Int → Int → Int → Int → Int → Option (St)} {S : St} {x1 : Int} {x2 : Int} {x7 : Int} {x9 : Int} {x11 : Int} (g : Ok G cX6_layFar RX6 12 { frames := 2, cells := 0, slots := 0, locals := 59 } none) (hk14 : ∀ (S' : St) (x3' : Int) (x5' : Int) (x7' : Int) (x9' : Int) (x11' : Int), Rg G oVS id (SHM, 0, 0) (SHM, 0, 0) S' 14 [some (vr G 0), some (vi x1), some (vi x2), some (vl (x3')), none, some (vl (x5')), none, some (vl (x7')), none, some (vl (x9')), none, some (vi (x11'))] [] (k14 S' x3' x5' x7' x9' x11'))  : Rg G oVS id (SHM, 0, 0) (SHM, 0, 0) S 63 [some (vr G 0), some (vi x1), some (vi x2), none, none, none, none, some (vl x7), none, some (vl x9), none, some (vi x11)] [] (pX6_layFar_63 k14 S x1 x2 x7 x9 x11) := by
  unfold pX6_layFar_63
  refine r_aload_n g dX6_layFar_63 rfl ?_
  refine r_getL g KX6 shm_0 24 rfl (by decide) w_894 dX6_layFar_64 ?_
  refine r_topl ?_
  intro x3_6_
  refine r_lstore_n g 3 dX6_layFar_67 rfl (by decide) rfl ?_
  refine r_aload_n g dX6_layFar_68 rfl ?_
  refine r_getL g KX6 shm_0 25 rfl (by decide) w_895 dX6_layFar_69 ?_
  refine r_topl ?_
  intro x5_7_
  refine r_lstore g dX6_layFar_72 (by decide) rfl ?_
  exact tX6_layFar_74 g hk14
theorem tX6_layFar_14B {G : Gx} {x1 : Int} {x2 : Int} (g : Ok G cX6_layFar RX6 12 { frames := 2, cells := 0, slots := 0, locals := 59 } none)   {k14 : St → Int → Int → Int → Int → Int → Option (St)} (hk14 : ∀ (S' : St) (x3' : Int) (x5' : Int) (x7' : Int) (x9' : Int) (x11' : Int), Rg G oVS id (SHM, 0, 0) (SHM, 0, 0) S' 14 [some (vr G 0), some (vi x1), some (vi x2), some (vl (x3')), none, some (vl (x5')), none, some (vl (x7')), none, some (vl (x9')), none, some (vi (x11'))] [] (k14 S' x3' x5' x7' x9' x11')) {S : St} {x3 : Int} {x5 : Int} {x7 : Int} {x9 : Int} {x11 : Int} : Rg G oVS id (SHM, 0, 0) (SHM, 0, 0) S 14 [some (vr G 0), some (vi x1), some (vi x2), some (vl x3), none, some (vl x5), none, some (vl x7), none, some (vl x9), none, some (vi x11)] [] (pX6_layFar_14B x1 x2 k14 S x3 x5 x7 x9 x11) := by
  unfold pX6_layFar_14B
  refine r_iload g dX6_layFar_14 rfl ?_
  refine r_bipush g dX6_layFar_16 (by decide) ?_
  refine r_icmp_ge g 117 dX6_layFar_18 (by decide) ?_ ?_
  · refine r_aload_n g dX6_layFar_117 rfl ?_
    refine r_lload_n g dX6_layFar_118 rfl ?_
    refine r_lload g dX6_layFar_119 rfl ?_
    refine r_lmul g dX6_layFar_121 ?_
    refine r_lload g dX6_layFar_122 rfl ?_
    refine r_lload g dX6_layFar_124 rfl ?_
    refine r_lmul g dX6_layFar_126 ?_
    refine r_lsub g dX6_layFar_127 ?_
    refine r_putL g KX6 shm_0 47 rfl (by decide) rfl rfl w_917 dX6_layFar_128 ?_
    intro S1_ _
    refine r_aload_n g dX6_layFar_131 rfl ?_
    refine r_lload g dX6_layFar_132 rfl ?_
    refine r_lload g dX6_layFar_134 rfl ?_
    refine r_lmul g dX6_layFar_136 ?_
    refine r_putL g KX6 shm_0 48 rfl (by decide) rfl rfl w_918 dX6_layFar_137 ?_
    intro S2_ _
    exact r_vret g dX6_layFar_140 rfl rfl
  · refine r_iload_n g dX6_layFar_21 rfl ?_
    refine r_iload g dX6_layFar_22 rfl ?_
    refine r_callS_PI g (kX6_has S x1 x11) mX6_has w_1282 w_1283 (by decide) (fun _ => rfl) rfl (Nat.le_of_ble_eq_true rfl) dX6_layFar_24 ?_
    intro z3_
    refine r_if_eq g 111 dX6_layFar_27 (by decide) ?_ ?_
    · exact tX6_layFar_111 g hk14
    · refine r_aload_n g dX6_layFar_30 rfl ?_
      refine r_iload g dX6_layFar_31 rfl ?_
      refine r_iload_n g dX6_layFar_33 rfl ?_
      refine r_i2l g dX6_layFar_34 ?_
      refine r_lconst (x := 1) g dX6_layFar_35 (by decide) ?_
      refine r_callV_WV (q := 0) (as := fun b => [vi x11, vl x2, vl 1]) g (kX6_layPush S x11 x2 1) mX6_layPush shm_0 rfl w_1141 w_1143 w_38 (by decide) (fun _ => rfl) rfl (Nat.le_of_ble_eq_true rfl) dX6_layFar_36 ?_
      intro S5_
      refine r_lload g dX6_layFar_39 rfl ?_
      refine r_lconst (x := 0) g dX6_layFar_41 (by decide) ?_
      refine r_lcmp_eq g 63 dX6_layFar_42 dX6_layFar_43 (by decide) ?_ ?_
      · refine r_msk [true, true, true, false, false, false, false, true, false, true, false, true] rfl ?_
        exact tX6_layFar_63 g hk14
      · refine r_aload_n g dX6_layFar_46 rfl ?_
        refine r_getL g KX6 shm_0 24 rfl (by decide) w_894 dX6_layFar_47 ?_
        refine r_lload g dX6_layFar_50 rfl ?_
        refine r_lmul g dX6_layFar_52 ?_
        refine r_lload_n g dX6_layFar_53 rfl ?_
        refine r_aload_n g dX6_layFar_54 rfl ?_
        refine r_getL g KX6 shm_0 25 rfl (by decide) w_895 dX6_layFar_55 ?_
        refine r_lmul g dX6_layFar_58 ?_
        refine r_lcmp_le g 74 dX6_layFar_59 dX6_layFar_60 (by decide) ?_ ?_
        · exact tX6_layFar_74 g hk14
        · refine r_msk [true, true, true, false, false, false, false, true, false, true, false, true] rfl ?_
          exact tX6_layFar_63 g hk14
theorem tX6_layFar_14 {G : Gx} {x1 : Int} {x2 : Int} (g : Ok G cX6_layFar RX6 12 { frames := 2, cells := 0, slots := 0, locals := 59 } none)   : ∀ (n_ : Nat) (S : St) (x3 : Int) (x5 : Int) (x7 : Int) (x9 : Int) (x11 : Int), Rg G oVS id (SHM, 0, 0) (SHM, 0, 0) S 14 [some (vr G 0), some (vi x1), some (vi x2), some (vl x3), none, some (vl x5), none, some (vl x7), none, some (vl x9), none, some (vi x11)] [] (lo6 (pX6_layFar_14B x1 x2) n_ S x3 x5 x7 x9 x11) := by
  intro n_
  induction n_ with
  | zero => intro S x3 x5 x7 x9 x11; exact r_none
  | succ n_ ih => intro S x3 x5 x7 x9 x11; exact tX6_layFar_14B g   ih
theorem kX6_layFar (S : St) (x1 : Int) (x2 : Int)  : Con yX6_layFar cX6_layFar 12 none { frames := 2, cells := 0, slots := 0, locals := 59 } false SHM (SHM, 0, 0) (fun b => [.ref (b + 0), vi x1, vi x2]) S (fun _ => oVS) id (pX6_layFar S x1 x2) := by
  refine Con_of (fun b => [some (.ref (b + 0)), some (vi x1), some (vi x2), none, none, none, none, none, none, none, none, none]) (by decide) (fun _ => rfl) (fun _ => Nat.le_of_ble_eq_true rfl) ?_
  intro G g _ _ _
  change Ok G cX6_layFar RX6 12 { frames := 2, cells := 0, slots := 0, locals := 59 } none at g
  show Rg G oVS id (SHM, 0, 0) (SHM, 0, 0) S 0 [some (vr G 0), some (vi x1), some (vi x2), none, none, none, none, none, none, none, none, none] [] (pX6_layFar S x1 x2)
  unfold pX6_layFar
  refine r_lconst (x := 0) g dX6_layFar_0 (by decide) ?_
  refine r_lstore_n g 3 dX6_layFar_1 rfl (by decide) rfl ?_
  refine r_lconst (x := 0) g dX6_layFar_2 (by decide) ?_
  refine r_lstore g dX6_layFar_3 (by decide) rfl ?_
  refine r_lconst (x := 0) g dX6_layFar_5 (by decide) ?_
  refine r_lstore g dX6_layFar_6 (by decide) rfl ?_
  refine r_lconst (x := 0) g dX6_layFar_8 (by decide) ?_
  refine r_lstore g dX6_layFar_9 (by decide) rfl ?_
  refine r_iconst g dX6_layFar_11 ?_
  refine r_istore g dX6_layFar_12 (by decide) rfl ?_
  exact tX6_layFar_14 g _ _ _ _ _ _ _
theorem tX6_parting_91 {G : Gx} {k46 : St → Int → Int → Int → Int → Option (Int × St)} {S : St} {x1 : Int} {x2 : Int} {x3 : Int} {x5 : Int} {x7 : Int} (g : Ok G cX6_parting RX6 8 { frames := 3, cells := 0, slots := 0, locals := 90 } (some .int)) (hk46 : ∀ (S' : St) (x2' : Int) (x3' : Int) (x5' : Int) (x7' : Int), Rg G oIS (fun v => v.2) (SHM, 0, 0) (SHM, 0, 0) S' 46 [some (vr G 0), some (vi x1), some (vi (x2')), some (vl (x3')), none, some (vl (x5')), none, some (vi (x7'))] [] (k46 S' x2' x3' x5' x7'))  : Rg G oIS (fun v => v.2) (SHM, 0, 0) (SHM, 0, 0) S 91 [some (vr G 0), some (vi x1), some (vi x2), some (vl x3), none, some (vl x5), none, some (vi x7)] [] (pX6_parting_91 k46 S x1 x2 x3 x5 x7) := by
  unfold pX6_parting_91
  refine r_iinc g dX6_parting_91 (by decide) rfl ?_
  intro x7_8_
  change Rg _ _ _ _ _ _ _ [some (vr G 0), some (vi x1), some (vi x2), some (vl x3), none, some (vl x5), none, some (vi x7_8_)] _ _
  refine r_goto g 46 dX6_parting_94 (by decide) ?_
  exact hk46 _ _ _ _ _
theorem tX6_parting_46B {G : Gx} {x1 : Int} (g : Ok G cX6_parting RX6 8 { frames := 3, cells := 0, slots := 0, locals := 90 } (some .int))   {k46 : St → Int → Int → Int → Int → Option (Int × St)} (hk46 : ∀ (S' : St) (x2' : Int) (x3' : Int) (x5' : Int) (x7' : Int), Rg G oIS (fun v => v.2) (SHM, 0, 0) (SHM, 0, 0) S' 46 [some (vr G 0), some (vi x1), some (vi (x2')), some (vl (x3')), none, some (vl (x5')), none, some (vi (x7'))] [] (k46 S' x2' x3' x5' x7')) {S : St} {x2 : Int} {x3 : Int} {x5 : Int} {x7 : Int} : Rg G oIS (fun v => v.2) (SHM, 0, 0) (SHM, 0, 0) S 46 [some (vr G 0), some (vi x1), some (vi x2), some (vl x3), none, some (vl x5), none, some (vi x7)] [] (pX6_parting_46B x1 k46 S x2 x3 x5 x7) := by
  unfold pX6_parting_46B
  refine r_iload g dX6_parting_46 rfl ?_
  refine r_bipush g dX6_parting_48 (by decide) ?_
  refine r_icmp_gt g 97 dX6_parting_50 (by decide) ?_ ?_
  · refine r_aload_n g dX6_parting_97 rfl ?_
    refine r_lload_n g dX6_parting_98 rfl ?_
    refine r_lload g dX6_parting_99 rfl ?_
    refine r_ldiv g dX6_parting_101 ?_
    intro z4_
    refine r_l2i g dX6_parting_102 ?_
    refine r_iload_n g dX6_parting_103 rfl ?_
    refine r_callV_WI (q := 0) (as := fun b => [vi z4_, vi x2]) g (kX6_tells S z4_ x2) mX6_tells shm_0 rfl w_1067 w_1069 w_30 (by decide) (fun _ => rfl) rfl (Nat.le_of_ble_eq_true rfl) dX6_parting_104 ?_
    intro z5_ S6_
    exact r_iret g dX6_parting_107 rfl rfl
  · refine r_aload_n g dX6_parting_53 rfl ?_
    refine r_iload_n g dX6_parting_54 rfl ?_
    refine r_iload g dX6_parting_55 rfl ?_
    refine r_callV_WV (q := 0) (as := fun b => [vi x1, vi x7]) g (kX6_layFar S x1 x7) mX6_layFar shm_0 rfl w_1359 w_1361 w_64 (by decide) (fun _ => rfl) rfl (Nat.le_of_ble_eq_true rfl) dX6_parting_57 ?_
    intro S7_
    refine r_aload_n g dX6_parting_60 rfl ?_
    refine r_getL g KX6 shm_0 47 rfl (by decide) w_917 dX6_parting_61 ?_
    refine r_lload g dX6_parting_64 rfl ?_
    refine r_lmul g dX6_parting_66 ?_
    refine r_lload_n g dX6_parting_67 rfl ?_
    refine r_aload_n g dX6_parting_68 rfl ?_
    refine r_getL g KX6 shm_0 48 rfl (by decide) w_918 dX6_parting_69 ?_
    refine r_lmul g dX6_parting_72 ?_
    refine r_lcmp_le g 91 dX6_parting_73 dX6_parting_74 (by decide) ?_ ?_
    · exact tX6_parting_91 g hk46
    · refine r_iload g dX6_parting_77 rfl ?_
      refine r_istore_n g 2 dX6_parting_79 rfl (by decide) rfl ?_
      refine r_aload_n g dX6_parting_80 rfl ?_
      refine r_getL g KX6 shm_0 47 rfl (by decide) w_917 dX6_parting_81 ?_
      refine r_topl ?_
      intro x3_9_
      refine r_lstore_n g 3 dX6_parting_84 rfl (by decide) rfl ?_
      refine r_aload_n g dX6_parting_85 rfl ?_
      refine r_getL g KX6 shm_0 48 rfl (by decide) w_918 dX6_parting_86 ?_
      refine r_topl ?_
      intro x5_10_
      refine r_lstore g dX6_parting_89 (by decide) rfl ?_
      exact tX6_parting_91 g hk46
theorem tX6_parting_46 {G : Gx} {x1 : Int} (g : Ok G cX6_parting RX6 8 { frames := 3, cells := 0, slots := 0, locals := 90 } (some .int))   : ∀ (n_ : Nat) (S : St) (x2 : Int) (x3 : Int) (x5 : Int) (x7 : Int), Rg G oIS (fun v => v.2) (SHM, 0, 0) (SHM, 0, 0) S 46 [some (vr G 0), some (vi x1), some (vi x2), some (vl x3), none, some (vl x5), none, some (vi x7)] [] (lo5 (pX6_parting_46B x1) n_ S x2 x3 x5 x7) := by
  intro n_
  induction n_ with
  | zero => intro S x2 x3 x5 x7; exact r_none
  | succ n_ ih => intro S x2 x3 x5 x7; exact tX6_parting_46B g   ih
theorem kX6_parting (S : St) (x1 : Int)  : Con yX6_parting cX6_parting 8 (some .int) { frames := 3, cells := 0, slots := 0, locals := 90 } false SHM (SHM, 0, 0) (fun b => [.ref (b + 0), vi x1]) S (fun _ => oIS) (fun v => v.2) (pX6_parting S x1) := by
  refine Con_of (fun b => [some (.ref (b + 0)), some (vi x1), none, none, none, none, none, none]) (by decide) (fun _ => rfl) (fun _ => Nat.le_of_ble_eq_true rfl) ?_
  intro G g _ _ _
  change Ok G cX6_parting RX6 8 { frames := 3, cells := 0, slots := 0, locals := 90 } (some .int) at g
  show Rg G oIS (fun v => v.2) (SHM, 0, 0) (SHM, 0, 0) S 0 [some (vr G 0), some (vi x1), none, none, none, none, none, none] [] (pX6_parting S x1)
  unfold pX6_parting
  refine r_iload_n g dX6_parting_0 rfl ?_
  refine r_iconst g dX6_parting_1 ?_
  refine r_bipush g dX6_parting_2 (by decide) ?_
  refine r_callS_PI g (kX6_in S x1 1 63) mX6_in w_1033 w_1034 (by decide) (fun _ => rfl) rfl (Nat.le_of_ble_eq_true rfl) dX6_parting_4 ?_
  intro z1_
  refine r_if_eq g 18 dX6_parting_7 (by decide) ?_ ?_
  · refine r_iconst g dX6_parting_18 ?_
    exact r_iret g dX6_parting_19 rfl rfl
  · refine r_iload_n g dX6_parting_10 rfl ?_
    refine r_callS_PI g (kX6_bits S x1) mX6_bits w_1352 w_1353 (by decide) (fun _ => rfl) rfl (Nat.le_of_ble_eq_true rfl) dX6_parting_11 ?_
    intro z2_
    refine r_iconst g dX6_parting_14 ?_
    refine r_icmp_ge g 20 dX6_parting_15 (by decide) ?_ ?_
    · refine r_aload_n g dX6_parting_20 rfl ?_
      refine r_iload_n g dX6_parting_21 rfl ?_
      refine r_callV_PI (q := 0) (as := fun b => [vi x1]) g (kX6_areThere S x1) mX6_areThere shm_0 rfl w_1355 w_1357 w_63 (by decide) (fun _ => rfl) rfl (Nat.le_of_ble_eq_true rfl) dX6_parting_22 ?_
      intro z3_
      refine r_if_ne g 34 dX6_parting_25 (by decide) ?_ ?_
      · refine r_iconst g dX6_parting_34 ?_
        refine r_istore_n g 2 dX6_parting_35 rfl (by decide) rfl ?_
        refine r_ldc2 (x := (-1)) g dX6_parting_36 w_1322 (by decide) ?_
        refine r_lstore_n g 3 dX6_parting_39 rfl (by decide) rfl ?_
        refine r_lconst (x := 1) g dX6_parting_40 (by decide) ?_
        refine r_lstore g dX6_parting_41 (by decide) rfl ?_
        refine r_iconst g dX6_parting_43 ?_
        refine r_istore g dX6_parting_44 (by decide) rfl ?_
        exact tX6_parting_46 g _ _ _ _ _ _
      · refine r_aload_n g dX6_parting_28 rfl ?_
        refine r_iconst g dX6_parting_29 ?_
        refine r_callV_WI (q := 0) (as := fun b => [vi 1]) g (kX6_meets S 1) mX6_meets shm_0 rfl w_1055 w_1057 w_28 (by decide) (fun _ => rfl) rfl (Nat.le_of_ble_eq_true rfl) dX6_parting_30 ?_
        intro z11_ S12_
        exact r_iret g dX6_parting_33 rfl rfl
    · refine r_iconst g dX6_parting_18 ?_
      exact r_iret g dX6_parting_19 rfl rfl
theorem tX6_chosen_18B {G : Gx} {S : St} {x0 : Int} {x1 : Int} (g : Ok G cX6_chosen RX6 5 { frames := 0, cells := 0, slots := 0, locals := 0 } (some .long))   {k18 : Int → Int → Option (Int)} (hk18 : ∀ (x2' : Int) (x4' : Int), Rg G oL (fun _ => S) (SHM, 0, 0) (SHM, 0, 0) S 18 [some (vi x0), some (vi x1), some (vl (x2')), none, some (vi (x4'))] [] (k18 x2' x4')) {x2 : Int} {x4 : Int} : Rg G oL (fun _ => S) (SHM, 0, 0) (SHM, 0, 0) S 18 [some (vi x0), some (vi x1), some (vl x2), none, some (vi x4)] [] (pX6_chosen_18B x0 x1 k18 x2 x4) := by
  unfold pX6_chosen_18B
  refine r_iload g dX6_chosen_18 rfl ?_
  refine r_iload_n g dX6_chosen_20 rfl ?_
  refine r_icmp_gt g 50 dX6_chosen_21 (by decide) ?_ ?_
  · refine r_lload_n g dX6_chosen_50 rfl ?_
    exact r_lret g dX6_chosen_51 rfl rfl
  · refine r_lload_n g dX6_chosen_24 rfl ?_
    refine r_lconst (x := 0) g dX6_chosen_25 (by decide) ?_
    refine r_lcmp_le g 50 dX6_chosen_26 dX6_chosen_27 (by decide) ?_ ?_
    · refine r_lload_n g dX6_chosen_50 rfl ?_
      exact r_lret g dX6_chosen_51 rfl rfl
    · refine r_lload_n g dX6_chosen_30 rfl ?_
      refine r_iload_n g dX6_chosen_31 rfl ?_
      refine r_iload g dX6_chosen_32 rfl ?_
      refine r_isub g dX6_chosen_34 ?_
      refine r_iconst g dX6_chosen_35 ?_
      refine r_iadd g dX6_chosen_36 ?_
      refine r_i2l g dX6_chosen_37 ?_
      refine r_lmul g dX6_chosen_38 ?_
      refine r_iload g dX6_chosen_39 rfl ?_
      refine r_i2l g dX6_chosen_41 ?_
      refine r_ldiv g dX6_chosen_42 ?_
      intro z1_
      refine r_lstore_n g 2 dX6_chosen_43 rfl (by decide) rfl ?_
      refine r_iinc g dX6_chosen_44 (by decide) rfl ?_
      intro x4_2_
      change Rg _ _ _ _ _ _ _ [some (vi x0), some (vi x1), some (vl z1_), none, some (vi x4_2_)] _ _
      refine r_goto g 18 dX6_chosen_47 (by decide) ?_
      exact hk18 _ _
theorem tX6_chosen_18 {G : Gx} {S : St} {x0 : Int} {x1 : Int} (g : Ok G cX6_chosen RX6 5 { frames := 0, cells := 0, slots := 0, locals := 0 } (some .long))   : ∀ (n_ : Nat) (x2 : Int) (x4 : Int), Rg G oL (fun _ => S) (SHM, 0, 0) (SHM, 0, 0) S 18 [some (vi x0), some (vi x1), some (vl x2), none, some (vi x4)] [] (lo2 (pX6_chosen_18B x0 x1) n_ x2 x4) := by
  intro n_
  induction n_ with
  | zero => intro x2 x4; exact r_none
  | succ n_ ih => intro x2 x4; exact tX6_chosen_18B g   ih
theorem tX6_chosen_14 {G : Gx}  {S : St} {x0 : Int} {x1 : Int} {s0 : Int} (g : Ok G cX6_chosen RX6 5 { frames := 0, cells := 0, slots := 0, locals := 0 } (some .long))   : Rg G oL (fun _ => S) (SHM, 0, 0) (SHM, 0, 0) S 14 [some (vi x0), some (vi x1), none, none, none] [vl s0] (pX6_chosen_14 x0 x1 s0) := by
  unfold pX6_chosen_14
  refine r_lstore_n g 2 dX6_chosen_14 rfl (by decide) rfl ?_
  refine r_iconst g dX6_chosen_15 ?_
  refine r_istore g dX6_chosen_16 (by decide) rfl ?_
  exact tX6_chosen_18 g _ _ _
theorem tX6_chosen_9 {G : Gx}  {S : St} {x0 : Int} {x1 : Int} (g : Ok G cX6_chosen RX6 5 { frames := 0, cells := 0, slots := 0, locals := 0 } (some .long))   : Rg G oL (fun _ => S) (SHM, 0, 0) (SHM, 0, 0) S 9 [some (vi x0), some (vi x1), none, none, none] [] (pX6_chosen_9 x0 x1) := by
  unfold pX6_chosen_9
  refine r_lconst (x := 0) g dX6_chosen_9 (by decide) ?_
  refine r_goto g 14 dX6_chosen_10 (by decide) ?_
  exact tX6_chosen_14 g
theorem kX6_chosen (S : St) (x0 : Int) (x1 : Int)  : Con yX6_chosen cX6_chosen 5 (some .long) { frames := 0, cells := 0, slots := 0, locals := 0 } false SHM (SHM, 0, 0) (fun b => [vi x0, vi x1]) S (fun _ => oL) (fun _ => S) (pX6_chosen x0 x1) := by
  refine Con_of (fun b => [some (vi x0), some (vi x1), none, none, none]) (by decide) (fun _ => rfl) (fun _ => Nat.le_of_ble_eq_true rfl) ?_
  intro G g _ _ _
  change Ok G cX6_chosen RX6 5 { frames := 0, cells := 0, slots := 0, locals := 0 } (some .long) at g
  show Rg G oL (fun _ => S) (SHM, 0, 0) (SHM, 0, 0) S 0 [some (vi x0), some (vi x1), none, none, none] [] (pX6_chosen x0 x1)
  unfold pX6_chosen
  refine r_iload_n g dX6_chosen_0 rfl ?_
  refine r_if_lt g 9 dX6_chosen_1 (by decide) ?_ ?_
  · exact tX6_chosen_9 g
  · refine r_iload_n g dX6_chosen_4 rfl ?_
    refine r_iload_n g dX6_chosen_5 rfl ?_
    refine r_icmp_le g 13 dX6_chosen_6 (by decide) ?_ ?_
    · refine r_lconst (x := 1) g dX6_chosen_13 (by decide) ?_
      exact tX6_chosen_14 g
    · exact tX6_chosen_9 g
theorem tX6_batch_52B {G : Gx} {S : St} {x1 : Int} {x2 : Int} {x3 : Int} {x4 : Int} (g : Ok G cX6_batch RX6 8 { frames := 2, cells := 0, slots := 0, locals := 56 } (some .int))   {k52 : Int → Int → Option (Int × St)} (hk52 : ∀ (x5' : Int) (x7' : Int), Rg G oIS (fun v => v.2) (SHM, 0, 0) (SHM, 0, 0) S 52 [some (vr G 0), some (vi x1), some (vi x2), some (vi x3), some (vi x4), some (vl (x5')), none, some (vi (x7'))] [] (k52 x5' x7')) {x5 : Int} {x7 : Int} : Rg G oIS (fun v => v.2) (SHM, 0, 0) (SHM, 0, 0) S 52 [some (vr G 0), some (vi x1), some (vi x2), some (vi x3), some (vi x4), some (vl x5), none, some (vi x7)] [] (pX6_batch_52B S x1 x2 x3 x4 k52 x5 x7) := by
  unfold pX6_batch_52B
  refine r_iload g dX6_batch_52 rfl ?_
  refine r_iload g dX6_batch_54 rfl ?_
  refine r_icmp_gt g 87 dX6_batch_56 (by decide) ?_ ?_
  · refine r_aload_n g dX6_batch_87 rfl ?_
    refine r_lload g dX6_batch_88 rfl ?_
    refine r_iload_n g dX6_batch_90 rfl ?_
    refine r_iload_n g dX6_batch_91 rfl ?_
    refine r_callS_PL g (kX6_chosen S x1 x3) mX6_chosen w_1367 w_1368 (by decide) (fun _ => rfl) rfl (Nat.le_of_ble_eq_true rfl) dX6_batch_92 ?_
    intro z5_
    refine r_iconst g dX6_batch_95 ?_
    refine r_callV_WI (q := 0) (as := fun b => [vl x5, vl z5_, vi 1]) g (kX6_fraction S x5 z5_ 1) mX6_fraction shm_0 rfl w_1160 w_1162 w_42 (by decide) (fun _ => rfl) rfl (Nat.le_of_ble_eq_true rfl) dX6_batch_96 ?_
    intro z6_ S7_
    exact r_iret g dX6_batch_99 rfl rfl
  · refine r_lload g dX6_batch_59 rfl ?_
    refine r_iload_n g dX6_batch_61 rfl ?_
    refine r_iload g dX6_batch_62 rfl ?_
    refine r_callS_PL g (kX6_chosen S x2 x7) mX6_chosen w_1367 w_1368 (by decide) (fun _ => rfl) rfl (Nat.le_of_ble_eq_true rfl) dX6_batch_64 ?_
    intro z8_
    refine r_iload_n g dX6_batch_67 rfl ?_
    refine r_iload_n g dX6_batch_68 rfl ?_
    refine r_isub g dX6_batch_69 ?_
    refine r_iload_n g dX6_batch_70 rfl ?_
    refine r_iload g dX6_batch_71 rfl ?_
    refine r_isub g dX6_batch_73 ?_
    refine r_callS_PL g (kX6_chosen S (x1 - x2) (x3 - x7)) mX6_chosen w_1367 w_1368 (by decide) (fun _ => rfl) rfl (Nat.le_of_ble_eq_true rfl) dX6_batch_74 ?_
    intro z9_
    refine r_lmul g dX6_batch_77 ?_
    refine r_ladd g dX6_batch_78 ?_
    refine r_topl ?_
    intro x5_10_
    refine r_lstore g dX6_batch_79 (by decide) rfl ?_
    refine r_iinc g dX6_batch_81 (by decide) rfl ?_
    intro x7_11_
    change Rg _ _ _ _ _ _ _ [some (vr G 0), some (vi x1), some (vi x2), some (vi x3), some (vi x4), some (vl x5_10_), none, some (vi x7_11_)] _ _
    refine r_goto g 52 dX6_batch_84 (by decide) ?_
    exact hk52 _ _
theorem tX6_batch_52 {G : Gx} {S : St} {x1 : Int} {x2 : Int} {x3 : Int} {x4 : Int} (g : Ok G cX6_batch RX6 8 { frames := 2, cells := 0, slots := 0, locals := 56 } (some .int))   : ∀ (n_ : Nat) (x5 : Int) (x7 : Int), Rg G oIS (fun v => v.2) (SHM, 0, 0) (SHM, 0, 0) S 52 [some (vr G 0), some (vi x1), some (vi x2), some (vi x3), some (vi x4), some (vl x5), none, some (vi x7)] [] (lo2 (pX6_batch_52B S x1 x2 x3 x4) n_ x5 x7) := by
  intro n_
  induction n_ with
  | zero => intro x5 x7; exact r_none
  | succ n_ ih => intro x5 x7; exact tX6_batch_52B g   ih
theorem kX6_batch (S : St) (x1 : Int) (x2 : Int) (x3 : Int) (x4 : Int)  : Con yX6_batch cX6_batch 8 (some .int) { frames := 2, cells := 0, slots := 0, locals := 56 } false SHM (SHM, 0, 0) (fun b => [.ref (b + 0), vi x1, vi x2, vi x3, vi x4]) S (fun _ => oIS) (fun v => v.2) (pX6_batch S x1 x2 x3 x4) := by
  refine Con_of (fun b => [some (.ref (b + 0)), some (vi x1), some (vi x2), some (vi x3), some (vi x4), none, none, none]) (by decide) (fun _ => rfl) (fun _ => Nat.le_of_ble_eq_true rfl) ?_
  intro G g _ _ _
  change Ok G cX6_batch RX6 8 { frames := 2, cells := 0, slots := 0, locals := 56 } (some .int) at g
  show Rg G oIS (fun v => v.2) (SHM, 0, 0) (SHM, 0, 0) S 0 [some (vr G 0), some (vi x1), some (vi x2), some (vi x3), some (vi x4), none, none, none] [] (pX6_batch S x1 x2 x3 x4)
  unfold pX6_batch
  refine r_iload_n g dX6_batch_0 rfl ?_
  refine r_iconst g dX6_batch_1 ?_
  refine r_bipush g dX6_batch_2 (by decide) ?_
  refine r_callS_PI g (kX6_in S x1 1 40) mX6_in w_1033 w_1034 (by decide) (fun _ => rfl) rfl (Nat.le_of_ble_eq_true rfl) dX6_batch_4 ?_
  intro z1_
  refine r_if_eq g 44 dX6_batch_7 (by decide) ?_ ?_
  · refine r_iconst g dX6_batch_44 ?_
    exact r_iret g dX6_batch_45 rfl rfl
  · refine r_iload_n g dX6_batch_10 rfl ?_
    refine r_iconst g dX6_batch_11 ?_
    refine r_iload_n g dX6_batch_12 rfl ?_
    refine r_callS_PI g (kX6_in S x2 0 x1) mX6_in w_1033 w_1034 (by decide) (fun _ => rfl) rfl (Nat.le_of_ble_eq_true rfl) dX6_batch_13 ?_
    intro z2_
    refine r_if_eq g 44 dX6_batch_16 (by decide) ?_ ?_
    · refine r_iconst g dX6_batch_44 ?_
      exact r_iret g dX6_batch_45 rfl rfl
    · refine r_iload_n g dX6_batch_19 rfl ?_
      refine r_iconst g dX6_batch_20 ?_
      refine r_bipush g dX6_batch_21 (by decide) ?_
      refine r_callS_PI g (kX6_in S x3 1 10) mX6_in w_1033 w_1034 (by decide) (fun _ => rfl) rfl (Nat.le_of_ble_eq_true rfl) dX6_batch_23 ?_
      intro z3_
      refine r_if_eq g 44 dX6_batch_26 (by decide) ?_ ?_
      · refine r_iconst g dX6_batch_44 ?_
        exact r_iret g dX6_batch_45 rfl rfl
      · refine r_iload_n g dX6_batch_29 rfl ?_
        refine r_iload_n g dX6_batch_30 rfl ?_
        refine r_icmp_gt g 44 dX6_batch_31 (by decide) ?_ ?_
        · refine r_iconst g dX6_batch_44 ?_
          exact r_iret g dX6_batch_45 rfl rfl
        · refine r_iload g dX6_batch_34 rfl ?_
          refine r_iconst g dX6_batch_36 ?_
          refine r_iload_n g dX6_batch_37 rfl ?_
          refine r_callS_PI g (kX6_in S x4 0 x3) mX6_in w_1033 w_1034 (by decide) (fun _ => rfl) rfl (Nat.le_of_ble_eq_true rfl) dX6_batch_38 ?_
          intro z4_
          refine r_if_ne g 46 dX6_batch_41 (by decide) ?_ ?_
          · refine r_lconst (x := 0) g dX6_batch_46 (by decide) ?_
            refine r_lstore g dX6_batch_47 (by decide) rfl ?_
            refine r_iconst g dX6_batch_49 ?_
            refine r_istore g dX6_batch_50 (by decide) rfl ?_
            exact tX6_batch_52 g _ _ _
          · refine r_iconst g dX6_batch_44 ?_
            exact r_iret g dX6_batch_45 rfl rfl
theorem tX6_isShutWithout_191 {G : Gx}  {S : St} {x2 : Int} {x3 : Int} {s0 : Int} (g : Ok G cX6_isShutWithout RX6 7 { frames := 4, cells := 0, slots := 0, locals := 112 } (some .boolean))   : Rg G oIS (fun v => v.2) (SHM, 0, 0) (SHM, 0, 0) S 191 [some (vr G 0), none, some (vi x2), some (vi x3), none, none, none] [vi s0] (pX6_isShutWithout_191 S x2 x3 s0) := by
  unfold pX6_isShutWithout_191
  refine r_istore g dX6_isShutWithout_191 (by decide) rfl ?_
  refine r_aload_n g dX6_isShutWithout_193 rfl ?_
  refine r_callV_WV (q := 0) (as := fun b => []) g (kX6_putBack S) mX6_putBack shm_0 rfl w_1327 w_1329 w_61 (by decide) (fun _ => rfl) rfl (Nat.le_of_ble_eq_true rfl) dX6_isShutWithout_194 ?_
  intro S8_
  refine r_aload_n g dX6_isShutWithout_197 rfl ?_
  refine r_iload_n g dX6_isShutWithout_198 rfl ?_
  refine r_putI g KX6 shm_0 35 rfl (by decide) rfl rfl w_905 dX6_isShutWithout_199 ?_
  intro S9_ _
  refine r_aload_n g dX6_isShutWithout_202 rfl ?_
  refine r_iload_n g dX6_isShutWithout_203 rfl ?_
  refine r_putI g KX6 shm_0 36 rfl (by decide) rfl rfl w_906 dX6_isShutWithout_204 ?_
  intro S10_ _
  refine r_iload g dX6_isShutWithout_207 rfl ?_
  exact r_zret g dX6_isShutWithout_209 rfl rfl
theorem tX6_isShutWithout_176 {G : Gx}  {S : St} {x2 : Int} {x3 : Int} {s0 : Int} (g : Ok G cX6_isShutWithout RX6 7 { frames := 4, cells := 0, slots := 0, locals := 112 } (some .boolean))   : Rg G oIS (fun v => v.2) (SHM, 0, 0) (SHM, 0, 0) S 176 [some (vr G 0), none, some (vi x2), some (vi x3), none, none, none] [vi s0, vr G 0] (pX6_isShutWithout_176 S x2 x3 s0) := by
  unfold pX6_isShutWithout_176
  refine r_putI g KX6 shm_0 36 rfl (by decide) rfl rfl w_906 dX6_isShutWithout_176 ?_
  intro S5_ _
  refine r_aload_n g dX6_isShutWithout_179 rfl ?_
  refine r_callV_WI (q := 0) (as := fun b => []) g (kX6_openNow S5_) mX6_openNow shm_0 rfl w_1267 w_1269 w_57 (by decide) (fun _ => rfl) rfl (Nat.le_of_ble_eq_true rfl) dX6_isShutWithout_180 ?_
  intro z6_ S7_
  refine r_if_ne g 190 dX6_isShutWithout_183 (by decide) ?_ ?_
  · refine r_iconst g dX6_isShutWithout_190 ?_
    exact tX6_isShutWithout_191 g
  · refine r_iconst g dX6_isShutWithout_186 ?_
    refine r_goto g 191 dX6_isShutWithout_187 (by decide) ?_
    exact tX6_isShutWithout_191 g
theorem tX6_isShutWithout_154 {G : Gx}  {S : St} {x1 : Int} {x2 : Int} {x3 : Int} {s0 : Int} (g : Ok G cX6_isShutWithout RX6 7 { frames := 4, cells := 0, slots := 0, locals := 112 } (some .boolean))   : Rg G oIS (fun v => v.2) (SHM, 0, 0) (SHM, 0, 0) S 154 [some (vr G 0), some (vi x1), some (vi x2), some (vi x3), none, none, none] [vi s0, vr G 0] (pX6_isShutWithout_154 S x1 x2 x3 s0) := by
  unfold pX6_isShutWithout_154
  refine r_putI g KX6 shm_0 35 rfl (by decide) rfl rfl w_905 dX6_isShutWithout_154 ?_
  intro S4_ _
  refine r_aload_n g dX6_isShutWithout_157 rfl ?_
  refine r_iload_n g dX6_isShutWithout_158 rfl ?_
  refine r_iconst g dX6_isShutWithout_159 ?_
  refine r_icmp_ne g 172 dX6_isShutWithout_160 (by decide) ?_ ?_
  · refine r_aload_n g dX6_isShutWithout_172 rfl ?_
    refine r_getI g KX6 shm_0 36 rfl (by decide) w_906 dX6_isShutWithout_173 ?_
    refine r_msk [true, false, true, true, false, false, false] rfl ?_
    exact tX6_isShutWithout_176 g
  · refine r_aload_n g dX6_isShutWithout_163 rfl ?_
    refine r_getI g KX6 shm_0 36 rfl (by decide) w_906 dX6_isShutWithout_164 ?_
    refine r_iconst g dX6_isShutWithout_167 ?_
    refine r_idiv g dX6_isShutWithout_168 ?_
    intro z11_
    refine r_goto g 176 dX6_isShutWithout_169 (by decide) ?_
    refine r_msk [true, false, true, true, false, false, false] rfl ?_
    exact tX6_isShutWithout_176 g
theorem tX6_isShutWithout_132 {G : Gx} {k17 : St → Int → Option (Int × St)} {S : St} {x1 : Int} {x2 : Int} {x3 : Int} {x4 : Int} {s0 : Int} {s1 : Int} (g : Ok G cX6_isShutWithout RX6 7 { frames := 4, cells := 0, slots := 0, locals := 112 } (some .boolean)) (hk17 : ∀ (S' : St) (x4' : Int), Rg G oIS (fun v => v.2) (SHM, 0, 0) (SHM, 0, 0) S' 17 [some (vr G 0), some (vi x1), some (vi x2), some (vi x3), some (vi (x4')), none, none] [] (k17 S' x4'))  : Rg G oIS (fun v => v.2) (SHM, 0, 0) (SHM, 0, 0) S 132 [some (vr G 0), some (vi x1), some (vi x2), some (vi x3), some (vi x4), none, none] [vi s0, vi s1, vr G 21] (pX6_isShutWithout_132 k17 S x1 x2 x3 x4 s0 s1) := by
  unfold pX6_isShutWithout_132
  refine r_iast g shm_21 (by decide) dX6_isShutWithout_132 ?_
  intro S16_
  refine r_iinc g dX6_isShutWithout_133 (by decide) rfl ?_
  intro x4_17_
  change Rg _ _ _ _ _ _ _ [some (vr G 0), some (vi x1), some (vi x2), some (vi x3), some (vi x4_17_), none, none] _ _
  refine r_goto g 17 dX6_isShutWithout_136 (by decide) ?_
  exact hk17 _ _
theorem tX6_isShutWithout_125 {G : Gx} {k17 : St → Int → Option (Int × St)} {S : St} {x1 : Int} {x2 : Int} {x3 : Int} {x4 : Int} {s0 : Int} (g : Ok G cX6_isShutWithout RX6 7 { frames := 4, cells := 0, slots := 0, locals := 112 } (some .boolean)) (hk17 : ∀ (S' : St) (x4' : Int), Rg G oIS (fun v => v.2) (SHM, 0, 0) (SHM, 0, 0) S' 17 [some (vr G 0), some (vi x1), some (vi x2), some (vi x3), some (vi (x4')), none, none] [] (k17 S' x4'))  : Rg G oIS (fun v => v.2) (SHM, 0, 0) (SHM, 0, 0) S 125 [some (vr G 0), some (vi x1), some (vi x2), some (vi x3), some (vi x4), none, none] [vi s0, vr G 21] (pX6_isShutWithout_125 k17 S x1 x2 x3 x4 s0) := by
  unfold pX6_isShutWithout_125
  refine r_aload_n g dX6_isShutWithout_125 rfl ?_
  refine r_getC (c0 := 21) g KX6 shm_0 29 rfl (by decide) w_899 dX6_isShutWithout_126 ?_
  refine r_iload g dX6_isShutWithout_129 rfl ?_
  refine r_iald g shm_21 (by decide) dX6_isShutWithout_131 ?_
  intro z15_
  exact tX6_isShutWithout_132 g hk17
theorem tX6_isShutWithout_72 {G : Gx} {k17 : St → Int → Option (Int × St)} {S : St} {x1 : Int} {x2 : Int} {x3 : Int} {x4 : Int} {x5 : Int} {s0 : Int} (g : Ok G cX6_isShutWithout RX6 7 { frames := 4, cells := 0, slots := 0, locals := 112 } (some .boolean)) (hk17 : ∀ (S' : St) (x4' : Int), Rg G oIS (fun v => v.2) (SHM, 0, 0) (SHM, 0, 0) S' 17 [some (vr G 0), some (vi x1), some (vi x2), some (vi x3), some (vi (x4')), none, none] [] (k17 S' x4'))  : Rg G oIS (fun v => v.2) (SHM, 0, 0) (SHM, 0, 0) S 72 [some (vr G 0), some (vi x1), some (vi x2), some (vi x3), some (vi x4), some (vi x5), none] [vi s0] (pX6_isShutWithout_72 k17 S x1 x2 x3 x4 x5 s0) := by
  unfold pX6_isShutWithout_72
  refine r_istore g dX6_isShutWithout_72 (by decide) rfl ?_
  refine r_aload_n g dX6_isShutWithout_74 rfl ?_
  refine r_getC (c0 := 21) g KX6 shm_0 29 rfl (by decide) w_899 dX6_isShutWithout_75 ?_
  refine r_iload g dX6_isShutWithout_78 rfl ?_
  refine r_iload g dX6_isShutWithout_80 rfl ?_
  refine r_if_eq g 90 dX6_isShutWithout_82 (by decide) ?_ ?_
  · refine r_iload_n g dX6_isShutWithout_90 rfl ?_
    refine r_iconst g dX6_isShutWithout_91 ?_
    refine r_icmp_ne g 125 dX6_isShutWithout_92 (by decide) ?_ ?_
    · refine r_msk [true, true, true, true, true, false, false] rfl ?_
      exact tX6_isShutWithout_125 g hk17
    · refine r_aload_n g dX6_isShutWithout_95 rfl ?_
      refine r_iload g dX6_isShutWithout_96 rfl ?_
      refine r_callV_PI (q := 0) (as := fun b => [vi x4]) g (kX6_isRing S x4) mX6_isRing shm_0 rfl w_1191 w_1193 w_45 (by decide) (fun _ => rfl) rfl (Nat.le_of_ble_eq_true rfl) dX6_isShutWithout_98 ?_
      intro z18_
      refine r_if_eq g 125 dX6_isShutWithout_101 (by decide) ?_ ?_
      · refine r_msk [true, true, true, true, true, false, false] rfl ?_
        exact tX6_isShutWithout_125 g hk17
      · refine r_aload_n g dX6_isShutWithout_104 rfl ?_
        refine r_getC (c0 := 21) g KX6 shm_0 29 rfl (by decide) w_899 dX6_isShutWithout_105 ?_
        refine r_iload g dX6_isShutWithout_108 rfl ?_
        refine r_iald g shm_21 (by decide) dX6_isShutWithout_110 ?_
        intro z19_
        refine r_aload_n g dX6_isShutWithout_111 rfl ?_
        refine r_getC (c0 := 20) g KX6 shm_0 28 rfl (by decide) w_898 dX6_isShutWithout_112 ?_
        refine r_iload g dX6_isShutWithout_115 rfl ?_
        refine r_iald g shm_20 (by decide) dX6_isShutWithout_117 ?_
        intro z20_
        refine r_iadd g dX6_isShutWithout_118 ?_
        refine r_iload g dX6_isShutWithout_119 rfl ?_
        refine r_isub g dX6_isShutWithout_121 ?_
        refine r_goto g 132 dX6_isShutWithout_122 (by decide) ?_
        refine r_msk [true, true, true, true, true, false, false] rfl ?_
        exact tX6_isShutWithout_132 g hk17
  · refine r_iload g dX6_isShutWithout_85 rfl ?_
    refine r_goto g 132 dX6_isShutWithout_87 (by decide) ?_
    refine r_msk [true, true, true, true, true, false, false] rfl ?_
    exact tX6_isShutWithout_132 g hk17
theorem tX6_isShutWithout_71 {G : Gx} {k17 : St → Int → Option (Int × St)} {S : St} {x1 : Int} {x2 : Int} {x3 : Int} {x4 : Int} {x5 : Int} (g : Ok G cX6_isShutWithout RX6 7 { frames := 4, cells := 0, slots := 0, locals := 112 } (some .boolean)) (hk17 : ∀ (S' : St) (x4' : Int), Rg G oIS (fun v => v.2) (SHM, 0, 0) (SHM, 0, 0) S' 17 [some (vr G 0), some (vi x1), some (vi x2), some (vi x3), some (vi (x4')), none, none] [] (k17 S' x4'))  : Rg G oIS (fun v => v.2) (SHM, 0, 0) (SHM, 0, 0) S 71 [some (vr G 0), some (vi x1), some (vi x2), some (vi x3), some (vi x4), some (vi x5), none] [] (pX6_isShutWithout_71 k17 S x1 x2 x3 x4 x5) := by
  unfold pX6_isShutWithout_71
  refine r_iconst g dX6_isShutWithout_71 ?_
  exact tX6_isShutWithout_72 g hk17
theorem tX6_isShutWithout_17B {G : Gx} {x1 : Int} {x2 : Int} {x3 : Int} (g : Ok G cX6_isShutWithout RX6 7 { frames := 4, cells := 0, slots := 0, locals := 112 } (some .boolean))   {k17 : St → Int → Option (Int × St)} (hk17 : ∀ (S' : St) (x4' : Int), Rg G oIS (fun v => v.2) (SHM, 0, 0) (SHM, 0, 0) S' 17 [some (vr G 0), some (vi x1), some (vi x2), some (vi x3), some (vi (x4')), none, none] [] (k17 S' x4')) {S : St} {x4 : Int} : Rg G oIS (fun v => v.2) (SHM, 0, 0) (SHM, 0, 0) S 17 [some (vr G 0), some (vi x1), some (vi x2), some (vi x3), some (vi x4), none, none] [] (pX6_isShutWithout_17B x1 x2 x3 k17 S x4) := by
  unfold pX6_isShutWithout_17B
  refine r_iload g dX6_isShutWithout_17 rfl ?_
  refine r_iconst g dX6_isShutWithout_19 ?_
  refine r_icmp_ge g 139 dX6_isShutWithout_20 (by decide) ?_ ?_
  · refine r_aload_n g dX6_isShutWithout_139 rfl ?_
    refine r_iload_n g dX6_isShutWithout_140 rfl ?_
    refine r_iconst g dX6_isShutWithout_141 ?_
    refine r_icmp_ne g 150 dX6_isShutWithout_142 (by decide) ?_ ?_
    · refine r_aload_n g dX6_isShutWithout_150 rfl ?_
      refine r_getI g KX6 shm_0 35 rfl (by decide) w_905 dX6_isShutWithout_151 ?_
      refine r_msk [true, true, true, true, false, false, false] rfl ?_
      exact tX6_isShutWithout_154 g
    · refine r_bipush g dX6_isShutWithout_145 (by decide) ?_
      refine r_goto g 154 dX6_isShutWithout_147 (by decide) ?_
      refine r_msk [true, true, true, true, false, false, false] rfl ?_
      exact tX6_isShutWithout_154 g
  · refine r_aload_n g dX6_isShutWithout_23 rfl ?_
    refine r_getC (c0 := 20) g KX6 shm_0 28 rfl (by decide) w_898 dX6_isShutWithout_24 ?_
    refine r_iload g dX6_isShutWithout_27 rfl ?_
    refine r_iald g shm_20 (by decide) dX6_isShutWithout_29 ?_
    intro z12_
    refine r_aload_n g dX6_isShutWithout_30 rfl ?_
    refine r_getC (c0 := 23) g KX6 shm_0 31 rfl (by decide) w_901 dX6_isShutWithout_31 ?_
    refine r_iload g dX6_isShutWithout_34 rfl ?_
    refine r_iald g shm_23 (by decide) dX6_isShutWithout_36 ?_
    intro z13_
    refine r_callS_PI g (kX6_stretched S z12_ z13_) mX6_stretched w_1195 w_1196 (by decide) (fun _ => rfl) rfl (Nat.le_of_ble_eq_true rfl) dX6_isShutWithout_37 ?_
    intro z14_
    refine r_istore g dX6_isShutWithout_40 (by decide) rfl ?_
    refine r_iload_n g dX6_isShutWithout_42 rfl ?_
    refine r_if_ne g 71 dX6_isShutWithout_43 (by decide) ?_ ?_
    · exact tX6_isShutWithout_71 g hk17
    · refine r_aload_n g dX6_isShutWithout_46 rfl ?_
      refine r_iload g dX6_isShutWithout_47 rfl ?_
      refine r_callV_PI (q := 0) (as := fun b => [vi x4]) g (kX6_isRubber S x4) mX6_isRubber shm_0 rfl w_1210 w_1212 w_47 (by decide) (fun _ => rfl) rfl (Nat.le_of_ble_eq_true rfl) dX6_isShutWithout_49 ?_
      intro z21_
      refine r_if_eq g 71 dX6_isShutWithout_52 (by decide) ?_ ?_
      · exact tX6_isShutWithout_71 g hk17
      · refine r_iload g dX6_isShutWithout_55 rfl ?_
        refine r_aload_n g dX6_isShutWithout_57 rfl ?_
        refine r_getC (c0 := 21) g KX6 shm_0 29 rfl (by decide) w_899 dX6_isShutWithout_58 ?_
        refine r_iload g dX6_isShutWithout_61 rfl ?_
        refine r_iald g shm_21 (by decide) dX6_isShutWithout_63 ?_
        intro z22_
        refine r_icmp_le g 71 dX6_isShutWithout_64 (by decide) ?_ ?_
        · exact tX6_isShutWithout_71 g hk17
        · refine r_iconst g dX6_isShutWithout_67 ?_
          refine r_goto g 72 dX6_isShutWithout_68 (by decide) ?_
          exact tX6_isShutWithout_72 g hk17
theorem tX6_isShutWithout_17 {G : Gx} {x1 : Int} {x2 : Int} {x3 : Int} (g : Ok G cX6_isShutWithout RX6 7 { frames := 4, cells := 0, slots := 0, locals := 112 } (some .boolean))   : ∀ (n_ : Nat) (S : St) (x4 : Int), Rg G oIS (fun v => v.2) (SHM, 0, 0) (SHM, 0, 0) S 17 [some (vr G 0), some (vi x1), some (vi x2), some (vi x3), some (vi x4), none, none] [] (lo2 (pX6_isShutWithout_17B x1 x2 x3) n_ S x4) := by
  intro n_
  induction n_ with
  | zero => intro S x4; exact r_none
  | succ n_ ih => intro S x4; exact tX6_isShutWithout_17B g   ih
theorem kX6_isShutWithout (S : St) (x1 : Int)  : Con yX6_isShutWithout cX6_isShutWithout 7 (some .boolean) { frames := 4, cells := 0, slots := 0, locals := 112 } false SHM (SHM, 0, 0) (fun b => [.ref (b + 0), vi x1]) S (fun _ => oIS) (fun v => v.2) (pX6_isShutWithout S x1) := by
  refine Con_of (fun b => [some (.ref (b + 0)), some (vi x1), none, none, none, none, none]) (by decide) (fun _ => rfl) (fun _ => Nat.le_of_ble_eq_true rfl) ?_
  intro G g _ _ _
  change Ok G cX6_isShutWithout RX6 7 { frames := 4, cells := 0, slots := 0, locals := 112 } (some .boolean) at g
  show Rg G oIS (fun v => v.2) (SHM, 0, 0) (SHM, 0, 0) S 0 [some (vr G 0), some (vi x1), none, none, none, none, none] [] (pX6_isShutWithout S x1)
  unfold pX6_isShutWithout
  refine r_aload_n g dX6_isShutWithout_0 rfl ?_
  refine r_callV_WV (q := 0) (as := fun b => []) g (kX6_keepAll S) mX6_keepAll shm_0 rfl w_1318 w_1320 w_59 (by decide) (fun _ => rfl) rfl (Nat.le_of_ble_eq_true rfl) dX6_isShutWithout_1 ?_
  intro S1_
  refine r_aload_n g dX6_isShutWithout_4 rfl ?_
  refine r_getI g KX6 shm_0 35 rfl (by decide) w_905 dX6_isShutWithout_5 ?_
  refine r_topi ?_
  intro x2_2_
  refine r_istore_n g 2 dX6_isShutWithout_8 rfl (by decide) rfl ?_
  refine r_aload_n g dX6_isShutWithout_9 rfl ?_
  refine r_getI g KX6 shm_0 36 rfl (by decide) w_906 dX6_isShutWithout_10 ?_
  refine r_topi ?_
  intro x3_3_
  refine r_istore_n g 3 dX6_isShutWithout_13 rfl (by decide) rfl ?_
  refine r_iconst g dX6_isShutWithout_14 ?_
  refine r_istore g dX6_isShutWithout_15 (by decide) rfl ?_
  exact tX6_isShutWithout_17 g _ _ _
theorem tX6_led_35 {G : Gx} {k14 : St → Int → Int → Option (Int × St)} {S : St} {x2 : Int} {s0 : Int} {s1 : Int} (g : Ok G cX6_led RX6 3 { frames := 5, cells := 0, slots := 0, locals := 138 } (some .int)) (hk14 : ∀ (S' : St) (x1' : Int) (x2' : Int), Rg G oIS (fun v => v.2) (SHM, 0, 0) (SHM, 0, 0) S' 14 [some (vr G 0), some (vi (x1')), some (vi (x2'))] [] (k14 S' x1' x2'))  : Rg G oIS (fun v => v.2) (SHM, 0, 0) (SHM, 0, 0) S 35 [some (vr G 0), none, some (vi x2)] [vi s0, vi s1] (pX6_led_35 k14 S x2 s0 s1) := by
  unfold pX6_led_35
  refine r_ior g dX6_led_35 ?_
  intro z5_
  refine r_istore_n g 1 dX6_led_36 rfl (by decide) rfl ?_
  refine r_iinc g dX6_led_37 (by decide) rfl ?_
  intro x2_6_
  change Rg _ _ _ _ _ _ _ [some (vr G 0), some (vi z5_), some (vi x2_6_)] _ _
  refine r_goto g 14 dX6_led_40 (by decide) ?_
  exact hk14 _ _ _
theorem tX6_led_14B {G : Gx}  (g : Ok G cX6_led RX6 3 { frames := 5, cells := 0, slots := 0, locals := 138 } (some .int))   {k14 : St → Int → Int → Option (Int × St)} (hk14 : ∀ (S' : St) (x1' : Int) (x2' : Int), Rg G oIS (fun v => v.2) (SHM, 0, 0) (SHM, 0, 0) S' 14 [some (vr G 0), some (vi (x1')), some (vi (x2'))] [] (k14 S' x1' x2')) {S : St} {x1 : Int} {x2 : Int} : Rg G oIS (fun v => v.2) (SHM, 0, 0) (SHM, 0, 0) S 14 [some (vr G 0), some (vi x1), some (vi x2)] [] (pX6_led_14B k14 S x1 x2) := by
  unfold pX6_led_14B
  refine r_iload_n g dX6_led_14 rfl ?_
  refine r_iconst g dX6_led_15 ?_
  refine r_icmp_ge g 43 dX6_led_16 (by decide) ?_ ?_
  · refine r_iload_n g dX6_led_43 rfl ?_
    exact r_iret g dX6_led_44 rfl rfl
  · refine r_iload_n g dX6_led_19 rfl ?_
    refine r_aload_n g dX6_led_20 rfl ?_
    refine r_iload_n g dX6_led_21 rfl ?_
    refine r_callV_WI (q := 0) (as := fun b => [vi x2]) g (kX6_isShutWithout S x2) mX6_isShutWithout shm_0 rfl w_1374 w_1376 w_65 (by decide) (fun _ => rfl) rfl (Nat.le_of_ble_eq_true rfl) dX6_led_22 ?_
    intro z3_ S4_
    refine r_if_eq g 34 dX6_led_25 (by decide) ?_ ?_
    · refine r_iconst g dX6_led_34 ?_
      refine r_msk [true, false, true] rfl ?_
      exact tX6_led_35 g hk14
    · refine r_iconst g dX6_led_28 ?_
      refine r_iload_n g dX6_led_29 rfl ?_
      refine r_ishl g dX6_led_30 ?_
      intro z7_
      refine r_goto g 35 dX6_led_31 (by decide) ?_
      refine r_msk [true, false, true] rfl ?_
      exact tX6_led_35 g hk14
theorem tX6_led_14 {G : Gx}  (g : Ok G cX6_led RX6 3 { frames := 5, cells := 0, slots := 0, locals := 138 } (some .int))   : ∀ (n_ : Nat) (S : St) (x1 : Int) (x2 : Int), Rg G oIS (fun v => v.2) (SHM, 0, 0) (SHM, 0, 0) S 14 [some (vr G 0), some (vi x1), some (vi x2)] [] (lo3 (pX6_led_14B) n_ S x1 x2) := by
  intro n_
  induction n_ with
  | zero => intro S x1 x2; exact r_none
  | succ n_ ih => intro S x1 x2; exact tX6_led_14B g   ih
theorem kX6_led (S : St)  : Con yX6_led cX6_led 3 (some .int) { frames := 5, cells := 0, slots := 0, locals := 138 } false SHM (SHM, 0, 0) (fun b => [.ref (b + 0)]) S (fun _ => oIS) (fun v => v.2) (pX6_led S) := by
  refine Con_of (fun b => [some (.ref (b + 0)), none, none]) (by decide) (fun _ => rfl) (fun _ => Nat.le_of_ble_eq_true rfl) ?_
  intro G g _ _ _
  change Ok G cX6_led RX6 3 { frames := 5, cells := 0, slots := 0, locals := 138 } (some .int) at g
  show Rg G oIS (fun v => v.2) (SHM, 0, 0) (SHM, 0, 0) S 0 [some (vr G 0), none, none] [] (pX6_led S)
  unfold pX6_led
  refine r_aload_n g dX6_led_0 rfl ?_
  refine r_callV_WI (q := 0) (as := fun b => []) g (kX6_openNow S) mX6_openNow shm_0 rfl w_1267 w_1269 w_57 (by decide) (fun _ => rfl) rfl (Nat.le_of_ble_eq_true rfl) dX6_led_1 ?_
  intro z1_ S2_
  refine r_if_ne g 10 dX6_led_4 (by decide) ?_ ?_
  · refine r_iconst g dX6_led_10 ?_
    refine r_istore_n g 1 dX6_led_11 rfl (by decide) rfl ?_
    refine r_iconst g dX6_led_12 ?_
    refine r_istore_n g 2 dX6_led_13 rfl (by decide) rfl ?_
    exact tX6_led_14 g _ _ _ _
  · refine r_bipush g dX6_led_7 (by decide) ?_
    exact r_iret g dX6_led_9 rfl rfl
theorem tX6_waysOf_26 {G : Gx} {k4 : Int → Int → Option (Int)} {S : St} {x1 : Int} {x3 : Int} {s0 : Int} {s1 : Int} (g : Ok G cX6_waysOf RX6 4 { frames := 1, cells := 0, slots := 0, locals := 22 } (some .int)) (hk4 : ∀ (x2' : Int) (x3' : Int), Rg G oI (fun _ => S) (SHM, 0, 0) (SHM, 0, 0) S 4 [some (vr G 0), some (vi x1), some (vi (x2')), some (vi (x3'))] [] (k4 x2' x3'))  : Rg G oI (fun _ => S) (SHM, 0, 0) (SHM, 0, 0) S 26 [some (vr G 0), some (vi x1), none, some (vi x3)] [vi s0, vi s1] (pX6_waysOf_26 k4 S x1 x3 s0 s1) := by
  unfold pX6_waysOf_26
  refine r_imul g dX6_waysOf_26 ?_
  refine r_topi ?_
  intro x2_2_
  refine r_istore_n g 2 dX6_waysOf_27 rfl (by decide) rfl ?_
  refine r_iinc g dX6_waysOf_28 (by decide) rfl ?_
  intro x3_3_
  change Rg _ _ _ _ _ _ _ [some (vr G 0), some (vi x1), some (vi x2_2_), some (vi x3_3_)] _ _
  refine r_goto g 4 dX6_waysOf_31 (by decide) ?_
  exact hk4 _ _
theorem tX6_waysOf_4B {G : Gx} {S : St} {x1 : Int} (g : Ok G cX6_waysOf RX6 4 { frames := 1, cells := 0, slots := 0, locals := 22 } (some .int))   {k4 : Int → Int → Option (Int)} (hk4 : ∀ (x2' : Int) (x3' : Int), Rg G oI (fun _ => S) (SHM, 0, 0) (SHM, 0, 0) S 4 [some (vr G 0), some (vi x1), some (vi (x2')), some (vi (x3'))] [] (k4 x2' x3')) {x2 : Int} {x3 : Int} : Rg G oI (fun _ => S) (SHM, 0, 0) (SHM, 0, 0) S 4 [some (vr G 0), some (vi x1), some (vi x2), some (vi x3)] [] (pX6_waysOf_4B S x1 k4 x2 x3) := by
  unfold pX6_waysOf_4B
  refine r_iload_n g dX6_waysOf_4 rfl ?_
  refine r_iconst g dX6_waysOf_5 ?_
  refine r_icmp_ge g 34 dX6_waysOf_6 (by decide) ?_ ?_
  · refine r_iload_n g dX6_waysOf_34 rfl ?_
    exact r_iret g dX6_waysOf_35 rfl rfl
  · refine r_iload_n g dX6_waysOf_9 rfl ?_
    refine r_aload_n g dX6_waysOf_10 rfl ?_
    refine r_iload_n g dX6_waysOf_11 rfl ?_
    refine r_callV_PI (q := 0) (as := fun b => [vi x3]) g (kX6_isRubber S x3) mX6_isRubber shm_0 rfl w_1210 w_1212 w_47 (by decide) (fun _ => rfl) rfl (Nat.le_of_ble_eq_true rfl) dX6_waysOf_12 ?_
    intro z1_
    refine r_if_eq g 25 dX6_waysOf_15 (by decide) ?_ ?_
    · refine r_iconst g dX6_waysOf_25 ?_
      refine r_msk [true, true, false, true] rfl ?_
      exact tX6_waysOf_26 g hk4
    · refine r_iload_n g dX6_waysOf_18 rfl ?_
      refine r_callS_PI g (kX6_bits S x1) mX6_bits w_1352 w_1353 (by decide) (fun _ => rfl) rfl (Nat.le_of_ble_eq_true rfl) dX6_waysOf_19 ?_
      intro z4_
      refine r_goto g 26 dX6_waysOf_22 (by decide) ?_
      refine r_msk [true, true, false, true] rfl ?_
      exact tX6_waysOf_26 g hk4
theorem tX6_waysOf_4 {G : Gx} {S : St} {x1 : Int} (g : Ok G cX6_waysOf RX6 4 { frames := 1, cells := 0, slots := 0, locals := 22 } (some .int))   : ∀ (n_ : Nat) (x2 : Int) (x3 : Int), Rg G oI (fun _ => S) (SHM, 0, 0) (SHM, 0, 0) S 4 [some (vr G 0), some (vi x1), some (vi x2), some (vi x3)] [] (lo2 (pX6_waysOf_4B S x1) n_ x2 x3) := by
  intro n_
  induction n_ with
  | zero => intro x2 x3; exact r_none
  | succ n_ ih => intro x2 x3; exact tX6_waysOf_4B g   ih
theorem kX6_waysOf (S : St) (x1 : Int)  : Con yX6_waysOf cX6_waysOf 4 (some .int) { frames := 1, cells := 0, slots := 0, locals := 22 } false SHM (SHM, 0, 0) (fun b => [.ref (b + 0), vi x1]) S (fun _ => oI) (fun _ => S) (pX6_waysOf S x1) := by
  refine Con_of (fun b => [some (.ref (b + 0)), some (vi x1), none, none]) (by decide) (fun _ => rfl) (fun _ => Nat.le_of_ble_eq_true rfl) ?_
  intro G g _ _ _
  change Ok G cX6_waysOf RX6 4 { frames := 1, cells := 0, slots := 0, locals := 22 } (some .int) at g
  show Rg G oI (fun _ => S) (SHM, 0, 0) (SHM, 0, 0) S 0 [some (vr G 0), some (vi x1), none, none] [] (pX6_waysOf S x1)
  unfold pX6_waysOf
  refine r_iconst g dX6_waysOf_0 ?_
  refine r_istore_n g 2 dX6_waysOf_1 rfl (by decide) rfl ?_
  refine r_iconst g dX6_waysOf_2 ?_
  refine r_istore_n g 3 dX6_waysOf_3 rfl (by decide) rfl ?_
  exact tX6_waysOf_4 g _ _ _
theorem tX6_needChoice_47 {G : Gx}  {S : St}  (g : Ok G cX6_needChoice RX6 6 { frames := 2, cells := 0, slots := 0, locals := 45 } (some .int))   : Rg G oIS (fun v => v.2) (SHM, 0, 0) (SHM, 0, 0) S 47 [some (vr G 0), none, none, none, none, none] [] (pX6_needChoice_47 S) := by
  unfold pX6_needChoice_47
  refine r_aload_n g dX6_needChoice_47 rfl ?_
  refine r_iconst g dX6_needChoice_48 ?_
  refine r_callV_WI (q := 0) (as := fun b => [vi 1]) g (kX6_meets S 1) mX6_meets shm_0 rfl w_1055 w_1057 w_28 (by decide) (fun _ => rfl) rfl (Nat.le_of_ble_eq_true rfl) dX6_needChoice_49 ?_
  intro z5_ S6_
  exact r_iret g dX6_needChoice_52 rfl rfl
theorem tX6_needChoice_110 {G : Gx} {k76 : Int → Int → Option (Int × St)} {S : St} {x1 : Int} {x2 : Int} {x3 : Int} {x5 : Int} {s0 : Int} (g : Ok G cX6_needChoice RX6 6 { frames := 2, cells := 0, slots := 0, locals := 45 } (some .int)) (hk76 : ∀ (x4' : Int) (x5' : Int), Rg G oIS (fun v => v.2) (SHM, 0, 0) (SHM, 0, 0) S 76 [some (vr G 0), some (vi x1), some (vi x2), some (vi x3), some (vi (x4')), some (vi (x5'))] [] (k76 x4' x5'))  : Rg G oIS (fun v => v.2) (SHM, 0, 0) (SHM, 0, 0) S 110 [some (vr G 0), some (vi x1), some (vi x2), some (vi x3), none, some (vi x5)] [vi s0] (pX6_needChoice_110 k76 S x1 x2 x3 x5 s0) := by
  unfold pX6_needChoice_110
  refine r_istore g dX6_needChoice_110 (by decide) rfl ?_
  refine r_iinc g dX6_needChoice_112 (by decide) rfl ?_
  intro x5_12_
  change Rg _ _ _ _ _ _ _ [some (vr G 0), some (vi x1), some (vi x2), some (vi x3), some (vi s0), some (vi x5_12_)] _ _
  refine r_goto g 76 dX6_needChoice_115 (by decide) ?_
  exact hk76 _ _
theorem tX6_needChoice_109 {G : Gx} {k76 : Int → Int → Option (Int × St)} {S : St} {x1 : Int} {x2 : Int} {x3 : Int} {x5 : Int} (g : Ok G cX6_needChoice RX6 6 { frames := 2, cells := 0, slots := 0, locals := 45 } (some .int)) (hk76 : ∀ (x4' : Int) (x5' : Int), Rg G oIS (fun v => v.2) (SHM, 0, 0) (SHM, 0, 0) S 76 [some (vr G 0), some (vi x1), some (vi x2), some (vi x3), some (vi (x4')), some (vi (x5'))] [] (k76 x4' x5'))  : Rg G oIS (fun v => v.2) (SHM, 0, 0) (SHM, 0, 0) S 109 [some (vr G 0), some (vi x1), some (vi x2), some (vi x3), none, some (vi x5)] [] (pX6_needChoice_109 k76 S x1 x2 x3 x5) := by
  unfold pX6_needChoice_109
  refine r_iconst g dX6_needChoice_109 ?_
  exact tX6_needChoice_110 g hk76
theorem tX6_needChoice_76B {G : Gx} {S : St} {x1 : Int} {x2 : Int} {x3 : Int} (g : Ok G cX6_needChoice RX6 6 { frames := 2, cells := 0, slots := 0, locals := 45 } (some .int))   {k76 : Int → Int → Option (Int × St)} (hk76 : ∀ (x4' : Int) (x5' : Int), Rg G oIS (fun v => v.2) (SHM, 0, 0) (SHM, 0, 0) S 76 [some (vr G 0), some (vi x1), some (vi x2), some (vi x3), some (vi (x4')), some (vi (x5'))] [] (k76 x4' x5')) {x4 : Int} {x5 : Int} : Rg G oIS (fun v => v.2) (SHM, 0, 0) (SHM, 0, 0) S 76 [some (vr G 0), some (vi x1), some (vi x2), some (vi x3), some (vi x4), some (vi x5)] [] (pX6_needChoice_76B S x1 x2 x3 k76 x4 x5) := by
  unfold pX6_needChoice_76B
  refine r_iload g dX6_needChoice_76 rfl ?_
  refine r_bipush g dX6_needChoice_78 (by decide) ?_
  refine r_icmp_ge g 118 dX6_needChoice_80 (by decide) ?_ ?_
  · refine r_iload g dX6_needChoice_118 rfl ?_
    refine r_if_ne g 131 dX6_needChoice_120 (by decide) ?_ ?_
    · refine r_aload_n g dX6_needChoice_131 rfl ?_
      refine r_iload_n g dX6_needChoice_132 rfl ?_
      refine r_callV_PI (q := 0) (as := fun b => [vi x1]) g (kX6_waysOf S x1) mX6_waysOf shm_0 rfl w_1386 w_1388 w_67 (by decide) (fun _ => rfl) rfl (Nat.le_of_ble_eq_true rfl) dX6_needChoice_133 ?_
      intro z9_
      refine r_iload_n g dX6_needChoice_136 rfl ?_
      refine r_icmp_le g 145 dX6_needChoice_137 (by decide) ?_ ?_
      · refine r_iconst g dX6_needChoice_145 ?_
        exact r_iret g dX6_needChoice_146 rfl rfl
      · refine r_bipush g dX6_needChoice_140 (by decide) ?_
        refine r_goto g 146 dX6_needChoice_142 (by decide) ?_
        exact r_iret g dX6_needChoice_146 rfl rfl
    · refine r_aload_n g dX6_needChoice_123 rfl ?_
      refine r_iconst g dX6_needChoice_124 ?_
      refine r_callV_WI (q := 0) (as := fun b => [vi 3]) g (kX6_meets S 3) mX6_meets shm_0 rfl w_1055 w_1057 w_28 (by decide) (fun _ => rfl) rfl (Nat.le_of_ble_eq_true rfl) dX6_needChoice_125 ?_
      intro z10_ S11_
      refine r_goto g 146 dX6_needChoice_128 (by decide) ?_
      exact r_iret g dX6_needChoice_146 rfl rfl
  · refine r_iload g dX6_needChoice_83 rfl ?_
    refine r_if_eq g 109 dX6_needChoice_85 (by decide) ?_ ?_
    · refine r_msk [true, true, true, true, false, true] rfl ?_
      exact tX6_needChoice_109 g hk76
    · refine r_aload_n g dX6_needChoice_88 rfl ?_
      refine r_iload_n g dX6_needChoice_89 rfl ?_
      refine r_iload g dX6_needChoice_90 rfl ?_
      refine r_callV_PI (q := 0) (as := fun b => [vi x2, vi x5]) g (kX6_rowAt S x2 x5) mX6_rowAt shm_0 rfl w_1063 w_1065 w_29 (by decide) (fun _ => rfl) rfl (Nat.le_of_ble_eq_true rfl) dX6_needChoice_92 ?_
      intro z13_
      refine r_iconst g dX6_needChoice_95 ?_
      refine r_sipush g dX6_needChoice_96 (by decide) ?_
      refine r_callS_PI g (kX6_in S z13_ 0 999) mX6_in w_1033 w_1034 (by decide) (fun _ => rfl) rfl (Nat.le_of_ble_eq_true rfl) dX6_needChoice_99 ?_
      intro z14_
      refine r_if_eq g 109 dX6_needChoice_102 (by decide) ?_ ?_
      · refine r_msk [true, true, true, true, false, true] rfl ?_
        exact tX6_needChoice_109 g hk76
      · refine r_iconst g dX6_needChoice_105 ?_
        refine r_goto g 110 dX6_needChoice_106 (by decide) ?_
        refine r_msk [true, true, true, true, false, true] rfl ?_
        exact tX6_needChoice_110 g hk76
theorem tX6_needChoice_76 {G : Gx} {S : St} {x1 : Int} {x2 : Int} {x3 : Int} (g : Ok G cX6_needChoice RX6 6 { frames := 2, cells := 0, slots := 0, locals := 45 } (some .int))   : ∀ (n_ : Nat) (x4 : Int) (x5 : Int), Rg G oIS (fun v => v.2) (SHM, 0, 0) (SHM, 0, 0) S 76 [some (vr G 0), some (vi x1), some (vi x2), some (vi x3), some (vi x4), some (vi x5)] [] (lo2 (pX6_needChoice_76B S x1 x2 x3) n_ x4 x5) := by
  intro n_
  induction n_ with
  | zero => intro x4 x5; exact r_none
  | succ n_ ih => intro x4 x5; exact tX6_needChoice_76B g   ih
theorem kX6_needChoice (S : St) (x1 : Int) (x2 : Int) (x3 : Int)  : Con yX6_needChoice cX6_needChoice 6 (some .int) { frames := 2, cells := 0, slots := 0, locals := 45 } false SHM (SHM, 0, 0) (fun b => [.ref (b + 0), vi x1, vi x2, vi x3]) S (fun _ => oIS) (fun v => v.2) (pX6_needChoice S x1 x2 x3) := by
  refine Con_of (fun b => [some (.ref (b + 0)), some (vi x1), some (vi x2), some (vi x3), none, none]) (by decide) (fun _ => rfl) (fun _ => Nat.le_of_ble_eq_true rfl) ?_
  intro G g _ _ _
  change Ok G cX6_needChoice RX6 6 { frames := 2, cells := 0, slots := 0, locals := 45 } (some .int) at g
  show Rg G oIS (fun v => v.2) (SHM, 0, 0) (SHM, 0, 0) S 0 [some (vr G 0), some (vi x1), some (vi x2), some (vi x3), none, none] [] (pX6_needChoice S x1 x2 x3)
  unfold pX6_needChoice
  refine r_iload_n g dX6_needChoice_0 rfl ?_
  refine r_iconst g dX6_needChoice_1 ?_
  refine r_bipush g dX6_needChoice_2 (by decide) ?_
  refine r_callS_PI g (kX6_in S x1 1 63) mX6_in w_1033 w_1034 (by decide) (fun _ => rfl) rfl (Nat.le_of_ble_eq_true rfl) dX6_needChoice_4 ?_
  intro z1_
  refine r_if_eq g 28 dX6_needChoice_7 (by decide) ?_ ?_
  · refine r_iconst g dX6_needChoice_28 ?_
    exact r_iret g dX6_needChoice_29 rfl rfl
  · refine r_iload_n g dX6_needChoice_10 rfl ?_
    refine r_callS_PI g (kX6_isRow S x2) mX6_isRow w_1052 w_1053 (by decide) (fun _ => rfl) rfl (Nat.le_of_ble_eq_true rfl) dX6_needChoice_11 ?_
    intro z2_
    refine r_if_eq g 28 dX6_needChoice_14 (by decide) ?_ ?_
    · refine r_iconst g dX6_needChoice_28 ?_
      exact r_iret g dX6_needChoice_29 rfl rfl
    · refine r_iload_n g dX6_needChoice_17 rfl ?_
      refine r_iconst g dX6_needChoice_18 ?_
      refine r_sipush g dX6_needChoice_19 (by decide) ?_
      refine r_callS_PI g (kX6_in S x3 0 1296) mX6_in w_1033 w_1034 (by decide) (fun _ => rfl) rfl (Nat.le_of_ble_eq_true rfl) dX6_needChoice_22 ?_
      intro z3_
      refine r_if_ne g 30 dX6_needChoice_25 (by decide) ?_ ?_
      · refine r_aload_n g dX6_needChoice_30 rfl ?_
        refine r_iload_n g dX6_needChoice_31 rfl ?_
        refine r_callV_PI (q := 0) (as := fun b => [vi x1]) g (kX6_areThere S x1) mX6_areThere shm_0 rfl w_1355 w_1357 w_63 (by decide) (fun _ => rfl) rfl (Nat.le_of_ble_eq_true rfl) dX6_needChoice_32 ?_
        intro z4_
        refine r_if_eq g 47 dX6_needChoice_35 (by decide) ?_ ?_
        · refine r_msk [true, false, false, false, false, false] rfl ?_
          exact tX6_needChoice_47 g
        · refine r_aload_n g dX6_needChoice_38 rfl ?_
          refine r_getC (c0 := 2) g KX6 shm_0 5 rfl (by decide) w_875 dX6_needChoice_39 ?_
          refine r_iload_n g dX6_needChoice_42 rfl ?_
          refine r_iald g shm_2 (by decide) dX6_needChoice_43 ?_
          intro z7_
          refine r_if_ge g 53 dX6_needChoice_44 (by decide) ?_ ?_
          · refine r_aload_n g dX6_needChoice_53 rfl ?_
            refine r_getC (c0 := 2) g KX6 shm_0 5 rfl (by decide) w_875 dX6_needChoice_54 ?_
            refine r_iload_n g dX6_needChoice_57 rfl ?_
            refine r_iald g shm_2 (by decide) dX6_needChoice_58 ?_
            intro z8_
            refine r_bipush g dX6_needChoice_59 (by decide) ?_
            refine r_icmp_eq g 70 dX6_needChoice_61 (by decide) ?_ ?_
            · refine r_iconst g dX6_needChoice_70 ?_
              refine r_istore g dX6_needChoice_71 (by decide) rfl ?_
              refine r_iconst g dX6_needChoice_73 ?_
              refine r_istore g dX6_needChoice_74 (by decide) rfl ?_
              exact tX6_needChoice_76 g _ _ _
            · refine r_aload_n g dX6_needChoice_64 rfl ?_
              refine r_iconst g dX6_needChoice_65 ?_
              refine r_callV_WI (q := 0) (as := fun b => [vi 5]) g (kX6_meets S 5) mX6_meets shm_0 rfl w_1055 w_1057 w_28 (by decide) (fun _ => rfl) rfl (Nat.le_of_ble_eq_true rfl) dX6_needChoice_66 ?_
              intro z15_ S16_
              exact r_iret g dX6_needChoice_69 rfl rfl
          · refine r_msk [true, false, false, false, false, false] rfl ?_
            exact tX6_needChoice_47 g
      · refine r_iconst g dX6_needChoice_28 ?_
        exact r_iret g dX6_needChoice_29 rfl rfl
theorem tX6_stuffAt_30 {G : Gx} {k4 : Int → Int → Option (Int)} {S : St} {x0 : Int} {x3 : Int} {s0 : Int} {s1 : Int} (g : Ok G cX6_stuffAt RX6 4 { frames := 1, cells := 0, slots := 0, locals := 21 } (some .int)) (hk4 : ∀ (x2' : Int) (x3' : Int), Rg G oI (fun _ => S) (SHM, 0, 0) (SHM, 0, 0) S 4 [some (vi x0), none, some (vi (x2')), some (vi (x3'))] [] (k4 x2' x3'))  : Rg G oI (fun _ => S) (SHM, 0, 0) (SHM, 0, 0) S 30 [some (vi x0), none, none, some (vi x3)] [vi s0, vi s1] (pX6_stuffAt_30 k4 x0 x3 s0 s1) := by
  unfold pX6_stuffAt_30
  refine r_isub g dX6_stuffAt_30 ?_
  refine r_topi ?_
  intro x2_3_
  refine r_istore_n g 2 dX6_stuffAt_31 rfl (by decide) rfl ?_
  refine r_iinc g dX6_stuffAt_32 (by decide) rfl ?_
  intro x3_4_
  change Rg _ _ _ _ _ _ _ [some (vi x0), none, some (vi x2_3_), some (vi x3_4_)] _ _
  refine r_goto g 4 dX6_stuffAt_35 (by decide) ?_
  exact hk4 _ _
theorem tX6_stuffAt_16 {G : Gx} {k4 : Int → Int → Option (Int)} {S : St} {x0 : Int} {x2 : Int} {x3 : Int} (g : Ok G cX6_stuffAt RX6 4 { frames := 1, cells := 0, slots := 0, locals := 21 } (some .int)) (hk4 : ∀ (x2' : Int) (x3' : Int), Rg G oI (fun _ => S) (SHM, 0, 0) (SHM, 0, 0) S 4 [some (vi x0), none, some (vi (x2')), some (vi (x3'))] [] (k4 x2' x3'))  : Rg G oI (fun _ => S) (SHM, 0, 0) (SHM, 0, 0) S 16 [some (vi x0), none, some (vi x2), some (vi x3)] [] (pX6_stuffAt_16 k4 x0 x2 x3) := by
  unfold pX6_stuffAt_16
  refine r_iload_n g dX6_stuffAt_16 rfl ?_
  refine r_iload_n g dX6_stuffAt_17 rfl ?_
  refine r_iload_n g dX6_stuffAt_18 rfl ?_
  refine r_callS_PI g (kX6_has S x0 x3) mX6_has w_1282 w_1283 (by decide) (fun _ => rfl) rfl (Nat.le_of_ble_eq_true rfl) dX6_stuffAt_19 ?_
  intro z2_
  refine r_if_eq g 29 dX6_stuffAt_22 (by decide) ?_ ?_
  · refine r_iconst g dX6_stuffAt_29 ?_
    refine r_msk [true, false, false, true] rfl ?_
    exact tX6_stuffAt_30 g hk4
  · refine r_iconst g dX6_stuffAt_25 ?_
    refine r_goto g 30 dX6_stuffAt_26 (by decide) ?_
    refine r_msk [true, false, false, true] rfl ?_
    exact tX6_stuffAt_30 g hk4
theorem tX6_stuffAt_4B {G : Gx} {S : St} {x0 : Int} (g : Ok G cX6_stuffAt RX6 4 { frames := 1, cells := 0, slots := 0, locals := 21 } (some .int))   {k4 : Int → Int → Option (Int)} (hk4 : ∀ (x2' : Int) (x3' : Int), Rg G oI (fun _ => S) (SHM, 0, 0) (SHM, 0, 0) S 4 [some (vi x0), none, some (vi (x2')), some (vi (x3'))] [] (k4 x2' x3')) {x2 : Int} {x3 : Int} : Rg G oI (fun _ => S) (SHM, 0, 0) (SHM, 0, 0) S 4 [some (vi x0), none, some (vi x2), some (vi x3)] [] (pX6_stuffAt_4B x0 k4 x2 x3) := by
  unfold pX6_stuffAt_4B
  refine r_iload_n g dX6_stuffAt_4 rfl ?_
  refine r_iload_n g dX6_stuffAt_5 rfl ?_
  refine r_callS_PI g (kX6_has S x0 x3) mX6_has w_1282 w_1283 (by decide) (fun _ => rfl) rfl (Nat.le_of_ble_eq_true rfl) dX6_stuffAt_6 ?_
  intro z1_
  refine r_if_eq g 16 dX6_stuffAt_9 (by decide) ?_ ?_
  · exact tX6_stuffAt_16 g hk4
  · refine r_iload_n g dX6_stuffAt_12 rfl ?_
    refine r_if_le g 38 dX6_stuffAt_13 (by decide) ?_ ?_
    · refine r_iload_n g dX6_stuffAt_38 rfl ?_
      exact r_iret g dX6_stuffAt_39 rfl rfl
    · exact tX6_stuffAt_16 g hk4
theorem tX6_stuffAt_4 {G : Gx} {S : St} {x0 : Int} (g : Ok G cX6_stuffAt RX6 4 { frames := 1, cells := 0, slots := 0, locals := 21 } (some .int))   : ∀ (n_ : Nat) (x2 : Int) (x3 : Int), Rg G oI (fun _ => S) (SHM, 0, 0) (SHM, 0, 0) S 4 [some (vi x0), none, some (vi x2), some (vi x3)] [] (lo2 (pX6_stuffAt_4B x0) n_ x2 x3) := by
  intro n_
  induction n_ with
  | zero => intro x2 x3; exact r_none
  | succ n_ ih => intro x2 x3; exact tX6_stuffAt_4B g   ih
theorem kX6_stuffAt (S : St) (x0 : Int) (x1 : Int)  : Con yX6_stuffAt cX6_stuffAt 4 (some .int) { frames := 1, cells := 0, slots := 0, locals := 21 } false SHM (SHM, 0, 0) (fun b => [vi x0, vi x1]) S (fun _ => oI) (fun _ => S) (pX6_stuffAt x0 x1) := by
  refine Con_of (fun b => [some (vi x0), some (vi x1), none, none]) (by decide) (fun _ => rfl) (fun _ => Nat.le_of_ble_eq_true rfl) ?_
  intro G g _ _ _
  change Ok G cX6_stuffAt RX6 4 { frames := 1, cells := 0, slots := 0, locals := 21 } (some .int) at g
  show Rg G oI (fun _ => S) (SHM, 0, 0) (SHM, 0, 0) S 0 [some (vi x0), some (vi x1), none, none] [] (pX6_stuffAt x0 x1)
  unfold pX6_stuffAt
  refine r_iload_n g dX6_stuffAt_0 rfl ?_
  refine r_istore_n g 2 dX6_stuffAt_1 rfl (by decide) rfl ?_
  refine r_iconst g dX6_stuffAt_2 ?_
  refine r_istore_n g 3 dX6_stuffAt_3 rfl (by decide) rfl ?_
  refine r_msk [true, false, true, true] rfl ?_
  exact tX6_stuffAt_4 g _ _ _
theorem tX6_layChoice_75 {G : Gx} {k9 : St → Int → Int → Int → Option (Int × St)} {S : St} {x2 : Int} {x3 : Int} {x4 : Int} {x5 : Int} {x6 : Int} (g : Ok G cX6_layChoice RX6 7 { frames := 2, cells := 0, slots := 0, locals := 44 } (some .int)) (hk9 : ∀ (S' : St) (x4' : Int) (x5' : Int) (x6' : Int), Rg G oIS (fun v => v.2) (SHM, 0, 0) (SHM, 0, 0) S' 9 [some (vr G 0), none, some (vi x2), some (vi x3), some (vi (x4')), some (vi (x5')), some (vi (x6'))] [] (k9 S' x4' x5' x6'))  : Rg G oIS (fun v => v.2) (SHM, 0, 0) (SHM, 0, 0) S 75 [some (vr G 0), none, some (vi x2), some (vi x3), some (vi x4), some (vi x5), some (vi x6)] [] (pX6_layChoice_75 k9 S x2 x3 x4 x5 x6) := by
  unfold pX6_layChoice_75
  refine r_iinc g dX6_layChoice_75 (by decide) rfl ?_
  intro x6_2_
  change Rg _ _ _ _ _ _ _ [some (vr G 0), none, some (vi x2), some (vi x3), some (vi x4), some (vi x5), some (vi x6_2_)] _ _
  refine r_goto g 9 dX6_layChoice_78 (by decide) ?_
  exact hk9 _ _ _ _
theorem tX6_layChoice_9B {G : Gx} {x2 : Int} {x3 : Int} (g : Ok G cX6_layChoice RX6 7 { frames := 2, cells := 0, slots := 0, locals := 44 } (some .int))   {k9 : St → Int → Int → Int → Option (Int × St)} (hk9 : ∀ (S' : St) (x4' : Int) (x5' : Int) (x6' : Int), Rg G oIS (fun v => v.2) (SHM, 0, 0) (SHM, 0, 0) S' 9 [some (vr G 0), none, some (vi x2), some (vi x3), some (vi (x4')), some (vi (x5')), some (vi (x6'))] [] (k9 S' x4' x5' x6')) {S : St} {x4 : Int} {x5 : Int} {x6 : Int} : Rg G oIS (fun v => v.2) (SHM, 0, 0) (SHM, 0, 0) S 9 [some (vr G 0), none, some (vi x2), some (vi x3), some (vi x4), some (vi x5), some (vi x6)] [] (pX6_layChoice_9B x2 x3 k9 S x4 x5 x6) := by
  unfold pX6_layChoice_9B
  refine r_iload g dX6_layChoice_9 rfl ?_
  refine r_if_lt g 81 dX6_layChoice_11 (by decide) ?_ ?_
  · refine r_iload g dX6_layChoice_81 rfl ?_
    exact r_iret g dX6_layChoice_83 rfl rfl
  · refine r_aload_n g dX6_layChoice_14 rfl ?_
    refine r_iload g dX6_layChoice_15 rfl ?_
    refine r_callV_PI (q := 0) (as := fun b => [vi x6]) g (kX6_isRubber S x6) mX6_isRubber shm_0 rfl w_1210 w_1212 w_47 (by decide) (fun _ => rfl) rfl (Nat.le_of_ble_eq_true rfl) dX6_layChoice_17 ?_
    intro z1_
    refine r_if_eq g 75 dX6_layChoice_20 (by decide) ?_ ?_
    · exact tX6_layChoice_75 g hk9
    · refine r_aload_n g dX6_layChoice_23 rfl ?_
      refine r_getC (c0 := 19) g KX6 shm_0 27 rfl (by decide) w_897 dX6_layChoice_24 ?_
      refine r_iload g dX6_layChoice_27 rfl ?_
      refine r_iload_n g dX6_layChoice_29 rfl ?_
      refine r_iload g dX6_layChoice_30 rfl ?_
      refine r_iload_n g dX6_layChoice_32 rfl ?_
      refine r_callS_PI g (kX6_bits S x2) mX6_bits w_1352 w_1353 (by decide) (fun _ => rfl) rfl (Nat.le_of_ble_eq_true rfl) dX6_layChoice_33 ?_
      intro z3_
      refine r_irem g dX6_layChoice_36 ?_
      intro z4_
      refine r_callS_PI g (kX6_stuffAt S x2 z4_) mX6_stuffAt w_1394 w_1395 (by decide) (fun _ => rfl) rfl (Nat.le_of_ble_eq_true rfl) dX6_layChoice_37 ?_
      intro z5_
      refine r_iast g shm_19 (by decide) dX6_layChoice_40 ?_
      intro S6_
      refine r_iload g dX6_layChoice_41 rfl ?_
      refine r_iload_n g dX6_layChoice_43 rfl ?_
      refine r_callS_PI g (kX6_bits S6_ x2) mX6_bits w_1352 w_1353 (by decide) (fun _ => rfl) rfl (Nat.le_of_ble_eq_true rfl) dX6_layChoice_44 ?_
      intro z7_
      refine r_idiv g dX6_layChoice_47 ?_
      intro z8_
      refine r_istore g dX6_layChoice_48 (by decide) rfl ?_
      refine r_iload g dX6_layChoice_50 rfl ?_
      refine r_aload_n g dX6_layChoice_52 rfl ?_
      refine r_iload_n g dX6_layChoice_53 rfl ?_
      refine r_aload_n g dX6_layChoice_54 rfl ?_
      refine r_getC (c0 := 19) g KX6 shm_0 27 rfl (by decide) w_897 dX6_layChoice_55 ?_
      refine r_iload g dX6_layChoice_58 rfl ?_
      refine r_iald g shm_19 (by decide) dX6_layChoice_60 ?_
      intro z9_
      refine r_callV_PI (q := 0) (as := fun b => [vi x3, vi z9_]) g (kX6_rowAt S6_ x3 z9_) mX6_rowAt shm_0 rfl w_1063 w_1065 w_29 (by decide) (fun _ => rfl) rfl (Nat.le_of_ble_eq_true rfl) dX6_layChoice_61 ?_
      intro z10_
      refine r_aload_n g dX6_layChoice_64 rfl ?_
      refine r_getC (c0 := 22) g KX6 shm_0 30 rfl (by decide) w_900 dX6_layChoice_65 ?_
      refine r_iload g dX6_layChoice_68 rfl ?_
      refine r_iald g shm_22 (by decide) dX6_layChoice_70 ?_
      intro z11_
      refine r_imul g dX6_layChoice_71 ?_
      refine r_iadd g dX6_layChoice_72 ?_
      refine r_topi ?_
      intro x5_12_
      refine r_istore g dX6_layChoice_73 (by decide) rfl ?_
      exact tX6_layChoice_75 g hk9
theorem tX6_layChoice_9 {G : Gx} {x2 : Int} {x3 : Int} (g : Ok G cX6_layChoice RX6 7 { frames := 2, cells := 0, slots := 0, locals := 44 } (some .int))   : ∀ (n_ : Nat) (S : St) (x4 : Int) (x5 : Int) (x6 : Int), Rg G oIS (fun v => v.2) (SHM, 0, 0) (SHM, 0, 0) S 9 [some (vr G 0), none, some (vi x2), some (vi x3), some (vi x4), some (vi x5), some (vi x6)] [] (lo4 (pX6_layChoice_9B x2 x3) n_ S x4 x5 x6) := by
  intro n_
  induction n_ with
  | zero => intro S x4 x5 x6; exact r_none
  | succ n_ ih => intro S x4 x5 x6; exact tX6_layChoice_9B g   ih
theorem kX6_layChoice (S : St) (x1 : Int) (x2 : Int) (x3 : Int)  : Con yX6_layChoice cX6_layChoice 7 (some .int) { frames := 2, cells := 0, slots := 0, locals := 44 } false SHM (SHM, 0, 0) (fun b => [.ref (b + 0), vi x1, vi x2, vi x3]) S (fun _ => oIS) (fun v => v.2) (pX6_layChoice S x1 x2 x3) := by
  refine Con_of (fun b => [some (.ref (b + 0)), some (vi x1), some (vi x2), some (vi x3), none, none, none]) (by decide) (fun _ => rfl) (fun _ => Nat.le_of_ble_eq_true rfl) ?_
  intro G g _ _ _
  change Ok G cX6_layChoice RX6 7 { frames := 2, cells := 0, slots := 0, locals := 44 } (some .int) at g
  show Rg G oIS (fun v => v.2) (SHM, 0, 0) (SHM, 0, 0) S 0 [some (vr G 0), some (vi x1), some (vi x2), some (vi x3), none, none, none] [] (pX6_layChoice S x1 x2 x3)
  unfold pX6_layChoice
  refine r_iload_n g dX6_layChoice_0 rfl ?_
  refine r_istore g dX6_layChoice_1 (by decide) rfl ?_
  refine r_iconst g dX6_layChoice_3 ?_
  refine r_istore g dX6_layChoice_4 (by decide) rfl ?_
  refine r_iconst g dX6_layChoice_6 ?_
  refine r_istore g dX6_layChoice_7 (by decide) rfl ?_
  refine r_msk [true, false, true, true, true, true, true] rfl ?_
  exact tX6_layChoice_9 g _ _ _ _ _
