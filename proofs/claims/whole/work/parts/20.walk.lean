theorem tX6_choose_161B {G : Gx} {x5 : Int} {x6 : Int} (g : Ok G cX6_choose RX6 11 { frames := 4, cells := 0, slots := 0, locals := 112 } (some .int))   {k161 : St → Int → Option (Int × St)} (hk161 : ∀ (S' : St) (x8' : Int), Rg G oIS (fun v => v.2) (SHM, 0, 0) (SHM, 0, 0) S' 161 [some (vr G 0), none, none, none, none, some (vi x5), some (vi x6), none, some (vi (x8')), none, none] [] (k161 S' x8')) {S : St} {x8 : Int} : Rg G oIS (fun v => v.2) (SHM, 0, 0) (SHM, 0, 0) S 161 [some (vr G 0), none, none, none, none, some (vi x5), some (vi x6), none, some (vi x8), none, none] [] (pX6_choose_161B x5 x6 k161 S x8) := by
  unfold pX6_choose_161B
  refine r_iload g dX6_choose_161 rfl ?_
  refine r_iconst g dX6_choose_163 ?_
  refine r_icmp_ge g 187 dX6_choose_164 (by decide) ?_ ?_
  · refine r_iload g dX6_choose_187 rfl ?_
    refine r_bipush g dX6_choose_189 (by decide) ?_
    refine r_icmp_ne g 199 dX6_choose_191 (by decide) ?_ ?_
    · refine r_aload_n g dX6_choose_199 rfl ?_
      refine r_iload g dX6_choose_200 rfl ?_
      refine r_iload g dX6_choose_202 rfl ?_
      refine r_callV_WI (q := 0) (as := fun b => [vi x6, vi x5]) g (kX6_tells S x6 x5) mX6_tells shm_0 rfl w_1067 w_1069 w_30 (by decide) (fun _ => rfl) rfl (Nat.le_of_ble_eq_true rfl) dX6_choose_204 ?_
      intro z4_ S5_
      exact r_iret g dX6_choose_207 rfl rfl
    · refine r_bipush g dX6_choose_194 (by decide) ?_
      refine r_goto g 207 dX6_choose_196 (by decide) ?_
      exact r_iret g dX6_choose_207 rfl rfl
  · refine r_aload_n g dX6_choose_167 rfl ?_
    refine r_getC (c0 := 19) g KX6 shm_0 27 rfl (by decide) w_897 dX6_choose_168 ?_
    refine r_iload g dX6_choose_171 rfl ?_
    refine r_aload_n g dX6_choose_173 rfl ?_
    refine r_getC (c0 := 27) g KX6 shm_0 49 rfl (by decide) w_919 dX6_choose_174 ?_
    refine r_iload g dX6_choose_177 rfl ?_
    refine r_iald g shm_27 (by decide) dX6_choose_179 ?_
    intro z6_
    refine r_iast g shm_19 (by decide) dX6_choose_180 ?_
    intro S7_
    refine r_iinc g dX6_choose_181 (by decide) rfl ?_
    intro x8_8_
    change Rg _ _ _ _ _ _ _ [some (vr G 0), none, none, none, none, some (vi x5), some (vi x6), none, some (vi x8_8_), none, none] _ _
    refine r_goto g 161 dX6_choose_184 (by decide) ?_
    exact hk161 _ _
theorem tX6_choose_161 {G : Gx} {x5 : Int} {x6 : Int} (g : Ok G cX6_choose RX6 11 { frames := 4, cells := 0, slots := 0, locals := 112 } (some .int))   : ∀ (n_ : Nat) (S : St) (x8 : Int), Rg G oIS (fun v => v.2) (SHM, 0, 0) (SHM, 0, 0) S 161 [some (vr G 0), none, none, none, none, some (vi x5), some (vi x6), none, some (vi x8), none, none] [] (lo2 (pX6_choose_161B x5 x6) n_ S x8) := by
  intro n_
  induction n_ with
  | zero => intro S x8; exact r_none
  | succ n_ ih => intro S x8; exact tX6_choose_161B g   ih
theorem tX6_choose_152 {G : Gx} {k63 : St → Int → Int → Int → Option (Int × St)} {S : St} {x1 : Int} {x2 : Int} {x5 : Int} {x6 : Int} {x7 : Int} {x8 : Int} (g : Ok G cX6_choose RX6 11 { frames := 4, cells := 0, slots := 0, locals := 112 } (some .int)) (hk63 : ∀ (S' : St) (x5' : Int) (x6' : Int) (x8' : Int), Rg G oIS (fun v => v.2) (SHM, 0, 0) (SHM, 0, 0) S' 63 [some (vr G 0), some (vi x1), some (vi x2), none, none, some (vi (x5')), some (vi (x6')), some (vi x7), some (vi (x8')), none, none] [] (k63 S' x5' x6' x8'))  : Rg G oIS (fun v => v.2) (SHM, 0, 0) (SHM, 0, 0) S 152 [some (vr G 0), some (vi x1), some (vi x2), none, none, some (vi x5), some (vi x6), some (vi x7), some (vi x8), none, none] [] (pX6_choose_152 k63 S x1 x2 x5 x6 x7 x8) := by
  unfold pX6_choose_152
  refine r_iinc g dX6_choose_152 (by decide) rfl ?_
  intro x8_13_
  change Rg _ _ _ _ _ _ _ [some (vr G 0), some (vi x1), some (vi x2), none, none, some (vi x5), some (vi x6), some (vi x7), some (vi x8_13_), none, none] _ _
  refine r_goto g 63 dX6_choose_155 (by decide) ?_
  exact hk63 _ _ _ _
theorem tX6_choose_143 {G : Gx} {k63 : St → Int → Int → Int → Option (Int × St)} {k111 : Int → Int → Option (Int × St)} {S : St} {x1 : Int} {x2 : Int} {x5 : Int} {x7 : Int} {x8 : Int} {x10 : Int} {s0 : Int} {s1 : Int} (g : Ok G cX6_choose RX6 11 { frames := 4, cells := 0, slots := 0, locals := 112 } (some .int)) (hk63 : ∀ (S' : St) (x5' : Int) (x6' : Int) (x8' : Int), Rg G oIS (fun v => v.2) (SHM, 0, 0) (SHM, 0, 0) S' 63 [some (vr G 0), some (vi x1), some (vi x2), none, none, some (vi (x5')), some (vi (x6')), some (vi x7), some (vi (x8')), none, none] [] (k63 S' x5' x6' x8')) (hk111 : ∀ (x6' : Int) (x10' : Int), Rg G oIS (fun v => v.2) (SHM, 0, 0) (SHM, 0, 0) S 111 [some (vr G 0), some (vi x1), some (vi x2), none, none, some (vi x5), some (vi (x6')), some (vi x7), some (vi x8), none, some (vi (x10'))] [] (k111 x6' x10'))  : Rg G oIS (fun v => v.2) (SHM, 0, 0) (SHM, 0, 0) S 143 [some (vr G 0), some (vi x1), some (vi x2), none, none, some (vi x5), none, some (vi x7), some (vi x8), none, some (vi x10)] [vi s0, vi s1] (pX6_choose_143 k63 k111 S x1 x2 x5 x7 x8 x10 s0 s1) := by
  unfold pX6_choose_143
  refine r_iadd g dX6_choose_143 ?_
  refine r_topi ?_
  intro x6_15_
  refine r_istore g dX6_choose_144 (by decide) rfl ?_
  refine r_iinc g dX6_choose_146 (by decide) rfl ?_
  intro x10_16_
  change Rg _ _ _ _ _ _ _ [some (vr G 0), some (vi x1), some (vi x2), none, none, some (vi x5), some (vi x6_15_), some (vi x7), some (vi x8), none, some (vi x10_16_)] _ _
  refine r_goto g 111 dX6_choose_149 (by decide) ?_
  exact hk111 _ _
theorem tX6_choose_111B {G : Gx} {k63 : St → Int → Int → Int → Option (Int × St)} {S : St} {x1 : Int} {x2 : Int} {x5 : Int} {x7 : Int} {x8 : Int} (g : Ok G cX6_choose RX6 11 { frames := 4, cells := 0, slots := 0, locals := 112 } (some .int)) (hk63 : ∀ (S' : St) (x5' : Int) (x6' : Int) (x8' : Int), Rg G oIS (fun v => v.2) (SHM, 0, 0) (SHM, 0, 0) S' 63 [some (vr G 0), some (vi x1), some (vi x2), none, none, some (vi (x5')), some (vi (x6')), some (vi x7), some (vi (x8')), none, none] [] (k63 S' x5' x6' x8'))  {k111 : Int → Int → Option (Int × St)} (hk111 : ∀ (x6' : Int) (x10' : Int), Rg G oIS (fun v => v.2) (SHM, 0, 0) (SHM, 0, 0) S 111 [some (vr G 0), some (vi x1), some (vi x2), none, none, some (vi x5), some (vi (x6')), some (vi x7), some (vi x8), none, some (vi (x10'))] [] (k111 x6' x10')) {x6 : Int} {x10 : Int} : Rg G oIS (fun v => v.2) (SHM, 0, 0) (SHM, 0, 0) S 111 [some (vr G 0), some (vi x1), some (vi x2), none, none, some (vi x5), some (vi x6), some (vi x7), some (vi x8), none, some (vi x10)] [] (pX6_choose_111B k63 S x1 x2 x5 x7 x8 k111 x6 x10) := by
  unfold pX6_choose_111B
  refine r_iload g dX6_choose_111 rfl ?_
  refine r_if_lt g 152 dX6_choose_113 (by decide) ?_ ?_
  · refine r_msk [true, true, true, false, false, true, true, true, true, false, false] rfl ?_
    exact tX6_choose_152 g hk63
  · refine r_bipush g dX6_choose_116 (by decide) ?_
    refine r_iload g dX6_choose_118 rfl ?_
    refine r_imul g dX6_choose_120 ?_
    refine r_aload_n g dX6_choose_121 rfl ?_
    refine r_iload g dX6_choose_122 rfl ?_
    refine r_callV_PI (q := 0) (as := fun b => [vi x10]) g (kX6_isRubber S x10) mX6_isRubber shm_0 rfl w_1210 w_1212 w_47 (by decide) (fun _ => rfl) rfl (Nat.le_of_ble_eq_true rfl) dX6_choose_124 ?_
    intro z14_
    refine r_if_eq g 142 dX6_choose_127 (by decide) ?_ ?_
    · refine r_iconst g dX6_choose_142 ?_
      refine r_msk [true, true, true, false, false, true, false, true, true, false, true] rfl ?_
      exact tX6_choose_143 g hk63 hk111
    · refine r_aload_n g dX6_choose_130 rfl ?_
      refine r_getC (c0 := 19) g KX6 shm_0 27 rfl (by decide) w_897 dX6_choose_131 ?_
      refine r_iload g dX6_choose_134 rfl ?_
      refine r_iald g shm_19 (by decide) dX6_choose_136 ?_
      intro z17_
      refine r_iconst g dX6_choose_137 ?_
      refine r_iadd g dX6_choose_138 ?_
      refine r_goto g 143 dX6_choose_139 (by decide) ?_
      refine r_msk [true, true, true, false, false, true, false, true, true, false, true] rfl ?_
      exact tX6_choose_143 g hk63 hk111
theorem tX6_choose_111 {G : Gx} {k63 : St → Int → Int → Int → Option (Int × St)} {S : St} {x1 : Int} {x2 : Int} {x5 : Int} {x7 : Int} {x8 : Int} (g : Ok G cX6_choose RX6 11 { frames := 4, cells := 0, slots := 0, locals := 112 } (some .int)) (hk63 : ∀ (S' : St) (x5' : Int) (x6' : Int) (x8' : Int), Rg G oIS (fun v => v.2) (SHM, 0, 0) (SHM, 0, 0) S' 63 [some (vr G 0), some (vi x1), some (vi x2), none, none, some (vi (x5')), some (vi (x6')), some (vi x7), some (vi (x8')), none, none] [] (k63 S' x5' x6' x8'))  : ∀ (n_ : Nat) (x6 : Int) (x10 : Int), Rg G oIS (fun v => v.2) (SHM, 0, 0) (SHM, 0, 0) S 111 [some (vr G 0), some (vi x1), some (vi x2), none, none, some (vi x5), some (vi x6), some (vi x7), some (vi x8), none, some (vi x10)] [] (lo2 (pX6_choose_111B k63 S x1 x2 x5 x7 x8) n_ x6 x10) := by
  intro n_
  induction n_ with
  | zero => intro x6 x10; exact r_none
  | succ n_ ih => intro x6 x10; exact tX6_choose_111B g hk63  ih
theorem tX6_choose_94 {G : Gx} {k63 : St → Int → Int → Int → Option (Int × St)} {S : St} {x1 : Int} {x2 : Int} {x5 : Int} {x6 : Int} {x7 : Int} {x8 : Int} {x9 : Int} (g : Ok G cX6_choose RX6 11 { frames := 4, cells := 0, slots := 0, locals := 112 } (some .int)) (hk63 : ∀ (S' : St) (x5' : Int) (x6' : Int) (x8' : Int), Rg G oIS (fun v => v.2) (SHM, 0, 0) (SHM, 0, 0) S' 63 [some (vr G 0), some (vi x1), some (vi x2), none, none, some (vi (x5')), some (vi (x6')), some (vi x7), some (vi (x8')), none, none] [] (k63 S' x5' x6' x8'))  : Rg G oIS (fun v => v.2) (SHM, 0, 0) (SHM, 0, 0) S 94 [some (vr G 0), some (vi x1), some (vi x2), none, none, some (vi x5), some (vi x6), some (vi x7), some (vi x8), some (vi x9), none] [] (pX6_choose_94 k63 S x1 x2 x5 x6 x7 x8 x9) := by
  unfold pX6_choose_94
  refine r_aload_n g dX6_choose_94 rfl ?_
  refine r_callV_WI (q := 0) (as := fun b => []) g (kX6_openNow S) mX6_openNow shm_0 rfl w_1267 w_1269 w_57 (by decide) (fun _ => rfl) rfl (Nat.le_of_ble_eq_true rfl) dX6_choose_95 ?_
  intro z11_ S12_
  refine r_if_ne g 152 dX6_choose_98 (by decide) ?_ ?_
  · refine r_msk [true, true, true, false, false, true, true, true, true, false, false] rfl ?_
    exact tX6_choose_152 g hk63
  · refine r_iload g dX6_choose_101 rfl ?_
    refine r_istore g dX6_choose_103 (by decide) rfl ?_
    refine r_iconst g dX6_choose_105 ?_
    refine r_istore g dX6_choose_106 (by decide) rfl ?_
    refine r_iconst g dX6_choose_108 ?_
    refine r_istore g dX6_choose_109 (by decide) rfl ?_
    refine r_msk [true, true, true, false, false, true, true, true, true, false, true] rfl ?_
    exact tX6_choose_111 g hk63 _ _ _
theorem tX6_choose_63B {G : Gx} {x1 : Int} {x2 : Int} {x7 : Int} (g : Ok G cX6_choose RX6 11 { frames := 4, cells := 0, slots := 0, locals := 112 } (some .int))   {k63 : St → Int → Int → Int → Option (Int × St)} (hk63 : ∀ (S' : St) (x5' : Int) (x6' : Int) (x8' : Int), Rg G oIS (fun v => v.2) (SHM, 0, 0) (SHM, 0, 0) S' 63 [some (vr G 0), some (vi x1), some (vi x2), none, none, some (vi (x5')), some (vi (x6')), some (vi x7), some (vi (x8')), none, none] [] (k63 S' x5' x6' x8')) {S : St} {x5 : Int} {x6 : Int} {x8 : Int} : Rg G oIS (fun v => v.2) (SHM, 0, 0) (SHM, 0, 0) S 63 [some (vr G 0), some (vi x1), some (vi x2), none, none, some (vi x5), some (vi x6), some (vi x7), some (vi x8), none, none] [] (pX6_choose_63B x1 x2 x7 k63 S x5 x6 x8) := by
  unfold pX6_choose_63B
  refine r_iload g dX6_choose_63 rfl ?_
  refine r_iload g dX6_choose_65 rfl ?_
  refine r_icmp_ge g 158 dX6_choose_67 (by decide) ?_ ?_
  · refine r_iconst g dX6_choose_158 ?_
    refine r_istore g dX6_choose_159 (by decide) rfl ?_
    refine r_msk [true, false, false, false, false, true, true, false, true, false, false] rfl ?_
    exact tX6_choose_161 g _ _ _
  · refine r_aload_n g dX6_choose_70 rfl ?_
    refine r_iload g dX6_choose_71 rfl ?_
    refine r_iload_n g dX6_choose_73 rfl ?_
    refine r_iload_n g dX6_choose_74 rfl ?_
    refine r_callV_WI (q := 0) (as := fun b => [vi x8, vi x1, vi x2]) g (kX6_layChoice S x8 x1 x2) mX6_layChoice shm_0 rfl w_1390 w_1392 w_68 (by decide) (fun _ => rfl) rfl (Nat.le_of_ble_eq_true rfl) dX6_choose_75 ?_
    intro z9_ S10_
    refine r_istore g dX6_choose_78 (by decide) rfl ?_
    refine r_iload g dX6_choose_80 rfl ?_
    refine r_bipush g dX6_choose_82 (by decide) ?_
    refine r_icmp_eq g 94 dX6_choose_84 (by decide) ?_ ?_
    · exact tX6_choose_94 g hk63
    · refine r_iload g dX6_choose_87 rfl ?_
      refine r_iload g dX6_choose_89 rfl ?_
      refine r_icmp_ge g 152 dX6_choose_91 (by decide) ?_ ?_
      · refine r_msk [true, true, true, false, false, true, true, true, true, false, false] rfl ?_
        exact tX6_choose_152 g hk63
      · exact tX6_choose_94 g hk63
theorem tX6_choose_63 {G : Gx} {x1 : Int} {x2 : Int} {x7 : Int} (g : Ok G cX6_choose RX6 11 { frames := 4, cells := 0, slots := 0, locals := 112 } (some .int))   : ∀ (n_ : Nat) (S : St) (x5 : Int) (x6 : Int) (x8 : Int), Rg G oIS (fun v => v.2) (SHM, 0, 0) (SHM, 0, 0) S 63 [some (vr G 0), some (vi x1), some (vi x2), none, none, some (vi x5), some (vi x6), some (vi x7), some (vi x8), none, none] [] (lo4 (pX6_choose_63B x1 x2 x7) n_ S x5 x6 x8) := by
  intro n_
  induction n_ with
  | zero => intro S x5 x6 x8; exact r_none
  | succ n_ ih => intro S x5 x6 x8; exact tX6_choose_63B g   ih
theorem tX6_choose_20B {G : Gx} {x1 : Int} {x2 : Int} (g : Ok G cX6_choose RX6 11 { frames := 4, cells := 0, slots := 0, locals := 112 } (some .int))   {k20 : St → Int → Option (Int × St)} (hk20 : ∀ (S' : St) (x5' : Int), Rg G oIS (fun v => v.2) (SHM, 0, 0) (SHM, 0, 0) S' 20 [some (vr G 0), some (vi x1), some (vi x2), none, none, some (vi (x5')), none, none, none, none, none] [] (k20 S' x5')) {S : St} {x5 : Int} : Rg G oIS (fun v => v.2) (SHM, 0, 0) (SHM, 0, 0) S 20 [some (vr G 0), some (vi x1), some (vi x2), none, none, some (vi x5), none, none, none, none, none] [] (pX6_choose_20B x1 x2 k20 S x5) := by
  unfold pX6_choose_20B
  refine r_iload g dX6_choose_20 rfl ?_
  refine r_iconst g dX6_choose_22 ?_
  refine r_icmp_ge g 46 dX6_choose_23 (by decide) ?_ ?_
  · refine r_bipush g dX6_choose_46 (by decide) ?_
    refine r_istore g dX6_choose_48 (by decide) rfl ?_
    refine r_iconst g dX6_choose_50 ?_
    refine r_istore g dX6_choose_51 (by decide) rfl ?_
    refine r_aload_n g dX6_choose_53 rfl ?_
    refine r_iload_n g dX6_choose_54 rfl ?_
    refine r_callV_PI (q := 0) (as := fun b => [vi x1]) g (kX6_waysOf S x1) mX6_waysOf shm_0 rfl w_1386 w_1388 w_67 (by decide) (fun _ => rfl) rfl (Nat.le_of_ble_eq_true rfl) dX6_choose_55 ?_
    intro z3_
    refine r_istore g dX6_choose_58 (by decide) rfl ?_
    refine r_iconst g dX6_choose_60 ?_
    refine r_istore g dX6_choose_61 (by decide) rfl ?_
    exact tX6_choose_63 g _ _ _ _ _
  · refine r_aload_n g dX6_choose_26 rfl ?_
    refine r_getC (c0 := 27) g KX6 shm_0 49 rfl (by decide) w_919 dX6_choose_27 ?_
    refine r_iload g dX6_choose_30 rfl ?_
    refine r_aload_n g dX6_choose_32 rfl ?_
    refine r_getC (c0 := 19) g KX6 shm_0 27 rfl (by decide) w_897 dX6_choose_33 ?_
    refine r_iload g dX6_choose_36 rfl ?_
    refine r_iald g shm_19 (by decide) dX6_choose_38 ?_
    intro z18_
    refine r_iast g shm_27 (by decide) dX6_choose_39 ?_
    intro S19_
    refine r_iinc g dX6_choose_40 (by decide) rfl ?_
    intro x5_20_
    change Rg _ _ _ _ _ _ _ [some (vr G 0), some (vi x1), some (vi x2), none, none, some (vi x5_20_), none, none, none, none, none] _ _
    refine r_goto g 20 dX6_choose_43 (by decide) ?_
    exact hk20 _ _
theorem tX6_choose_20 {G : Gx} {x1 : Int} {x2 : Int} (g : Ok G cX6_choose RX6 11 { frames := 4, cells := 0, slots := 0, locals := 112 } (some .int))   : ∀ (n_ : Nat) (S : St) (x5 : Int), Rg G oIS (fun v => v.2) (SHM, 0, 0) (SHM, 0, 0) S 20 [some (vr G 0), some (vi x1), some (vi x2), none, none, some (vi x5), none, none, none, none, none] [] (lo2 (pX6_choose_20B x1 x2) n_ S x5) := by
  intro n_
  induction n_ with
  | zero => intro S x5; exact r_none
  | succ n_ ih => intro S x5; exact tX6_choose_20B g   ih
theorem kX6_choose (S : St) (x1 : Int) (x2 : Int) (x3 : Int)  : Con yX6_choose cX6_choose 11 (some .int) { frames := 4, cells := 0, slots := 0, locals := 112 } false SHM (SHM, 0, 0) (fun b => [.ref (b + 0), vi x1, vi x2, vi x3]) S (fun _ => oIS) (fun v => v.2) (pX6_choose S x1 x2 x3) := by
  refine Con_of (fun b => [some (.ref (b + 0)), some (vi x1), some (vi x2), some (vi x3), none, none, none, none, none, none, none]) (by decide) (fun _ => rfl) (fun _ => Nat.le_of_ble_eq_true rfl) ?_
  intro G g _ _ _
  change Ok G cX6_choose RX6 11 { frames := 4, cells := 0, slots := 0, locals := 112 } (some .int) at g
  show Rg G oIS (fun v => v.2) (SHM, 0, 0) (SHM, 0, 0) S 0 [some (vr G 0), some (vi x1), some (vi x2), some (vi x3), none, none, none, none, none, none, none] [] (pX6_choose S x1 x2 x3)
  unfold pX6_choose
  refine r_aload_n g dX6_choose_0 rfl ?_
  refine r_iload_n g dX6_choose_1 rfl ?_
  refine r_iload_n g dX6_choose_2 rfl ?_
  refine r_iload_n g dX6_choose_3 rfl ?_
  refine r_callV_WI (q := 0) (as := fun b => [vi x1, vi x2, vi x3]) g (kX6_needChoice S x1 x2 x3) mX6_needChoice shm_0 rfl w_1382 w_1384 w_66 (by decide) (fun _ => rfl) rfl (Nat.le_of_ble_eq_true rfl) dX6_choose_4 ?_
  intro z1_ S2_
  refine r_istore g dX6_choose_7 (by decide) rfl ?_
  refine r_iload g dX6_choose_9 rfl ?_
  refine r_if_ge g 17 dX6_choose_11 (by decide) ?_ ?_
  · refine r_iconst g dX6_choose_17 ?_
    refine r_istore g dX6_choose_18 (by decide) rfl ?_
    refine r_msk [true, true, true, false, false, true, false, false, false, false, false] rfl ?_
    exact tX6_choose_20 g _ _ _
  · refine r_iload g dX6_choose_14 rfl ?_
    exact r_iret g dX6_choose_16 rfl rfl
theorem tX6_isLeakAt_72 {G : Gx} {k6 : Int → Int → Option (Int)} {S : St} {x1 : Int} {x2 : Int} {x3 : Int} {x4 : Int} {x6 : Int} {s0 : Int} (g : Ok G cX6_isLeakAt RX6 9 { frames := 1, cells := 0, slots := 0, locals := 22 } (some .boolean)) (hk6 : ∀ (x5' : Int) (x6' : Int), Rg G oI (fun _ => S) (SHM, 0, 0) (SHM, 0, 0) S 6 [some (vr G 0), some (vi x1), some (vi x2), some (vi x3), some (vi x4), some (vi (x5')), some (vi (x6')), none, none] [] (k6 x5' x6'))  : Rg G oI (fun _ => S) (SHM, 0, 0) (SHM, 0, 0) S 72 [some (vr G 0), some (vi x1), some (vi x2), some (vi x3), some (vi x4), none, some (vi x6), none, none] [vi s0] (pX6_isLeakAt_72 k6 S x1 x2 x3 x4 x6 s0) := by
  unfold pX6_isLeakAt_72
  refine r_istore g dX6_isLeakAt_72 (by decide) rfl ?_
  refine r_iinc g dX6_isLeakAt_74 (by decide) rfl ?_
  intro x6_4_
  change Rg _ _ _ _ _ _ _ [some (vr G 0), some (vi x1), some (vi x2), some (vi x3), some (vi x4), some (vi s0), some (vi x6_4_), none, none] _ _
  refine r_goto g 6 dX6_isLeakAt_77 (by decide) ?_
  exact hk6 _ _
theorem tX6_isLeakAt_71 {G : Gx} {k6 : Int → Int → Option (Int)} {S : St} {x1 : Int} {x2 : Int} {x3 : Int} {x4 : Int} {x6 : Int} (g : Ok G cX6_isLeakAt RX6 9 { frames := 1, cells := 0, slots := 0, locals := 22 } (some .boolean)) (hk6 : ∀ (x5' : Int) (x6' : Int), Rg G oI (fun _ => S) (SHM, 0, 0) (SHM, 0, 0) S 6 [some (vr G 0), some (vi x1), some (vi x2), some (vi x3), some (vi x4), some (vi (x5')), some (vi (x6')), none, none] [] (k6 x5' x6'))  : Rg G oI (fun _ => S) (SHM, 0, 0) (SHM, 0, 0) S 71 [some (vr G 0), some (vi x1), some (vi x2), some (vi x3), some (vi x4), none, some (vi x6), none, none] [] (pX6_isLeakAt_71 k6 S x1 x2 x3 x4 x6) := by
  unfold pX6_isLeakAt_71
  refine r_iconst g dX6_isLeakAt_71 ?_
  exact tX6_isLeakAt_72 g hk6
theorem tX6_isLeakAt_29 {G : Gx} {k6 : Int → Int → Option (Int)} {S : St} {x1 : Int} {x2 : Int} {x3 : Int} {x4 : Int} {x5 : Int} {x6 : Int} {s0 : Int} (g : Ok G cX6_isLeakAt RX6 9 { frames := 1, cells := 0, slots := 0, locals := 22 } (some .boolean)) (hk6 : ∀ (x5' : Int) (x6' : Int), Rg G oI (fun _ => S) (SHM, 0, 0) (SHM, 0, 0) S 6 [some (vr G 0), some (vi x1), some (vi x2), some (vi x3), some (vi x4), some (vi (x5')), some (vi (x6')), none, none] [] (k6 x5' x6'))  : Rg G oI (fun _ => S) (SHM, 0, 0) (SHM, 0, 0) S 29 [some (vr G 0), some (vi x1), some (vi x2), some (vi x3), some (vi x4), some (vi x5), some (vi x6), none, none] [vi s0] (pX6_isLeakAt_29 k6 S x1 x2 x3 x4 x5 x6 s0) := by
  unfold pX6_isLeakAt_29
  refine r_istore g dX6_isLeakAt_29 (by decide) rfl ?_
  refine r_iload_n g dX6_isLeakAt_31 rfl ?_
  refine r_iload g dX6_isLeakAt_32 rfl ?_
  refine r_iconst g dX6_isLeakAt_34 ?_
  refine r_iadd g dX6_isLeakAt_35 ?_
  refine r_idiv g dX6_isLeakAt_36 ?_
  intro z1_
  refine r_aload_n g dX6_isLeakAt_37 rfl ?_
  refine r_iload_n g dX6_isLeakAt_38 rfl ?_
  refine r_iload g dX6_isLeakAt_39 rfl ?_
  refine r_callV_PI (q := 0) (as := fun b => [vi x3, vi x6]) g (kX6_rowAt S x3 x6) mX6_rowAt shm_0 rfl w_1063 w_1065 w_29 (by decide) (fun _ => rfl) rfl (Nat.le_of_ble_eq_true rfl) dX6_isLeakAt_41 ?_
  intro z2_
  refine r_isub g dX6_isLeakAt_44 ?_
  refine r_topi ?_
  intro x8_3_
  refine r_istore g dX6_isLeakAt_45 (by decide) rfl ?_
  refine r_iload g dX6_isLeakAt_47 rfl ?_
  refine r_if_eq g 71 dX6_isLeakAt_49 (by decide) ?_ ?_
  · refine r_msk [true, true, true, true, true, false, true, false, false] rfl ?_
    exact tX6_isLeakAt_71 g hk6
  · refine r_iload g dX6_isLeakAt_52 rfl ?_
    refine r_iload g dX6_isLeakAt_54 rfl ?_
    refine r_icmp_gt g 71 dX6_isLeakAt_56 (by decide) ?_ ?_
    · refine r_msk [true, true, true, true, true, false, true, false, false] rfl ?_
      exact tX6_isLeakAt_71 g hk6
    · refine r_iload g dX6_isLeakAt_59 rfl ?_
      refine r_iload g dX6_isLeakAt_61 rfl ?_
      refine r_ineg g dX6_isLeakAt_63 ?_
      refine r_icmp_lt g 71 dX6_isLeakAt_64 (by decide) ?_ ?_
      · refine r_msk [true, true, true, true, true, false, true, false, false] rfl ?_
        exact tX6_isLeakAt_71 g hk6
      · refine r_iconst g dX6_isLeakAt_67 ?_
        refine r_goto g 72 dX6_isLeakAt_68 (by decide) ?_
        refine r_msk [true, true, true, true, true, false, true, false, false] rfl ?_
        exact tX6_isLeakAt_72 g hk6
theorem tX6_isLeakAt_6B {G : Gx} {S : St} {x1 : Int} {x2 : Int} {x3 : Int} {x4 : Int} (g : Ok G cX6_isLeakAt RX6 9 { frames := 1, cells := 0, slots := 0, locals := 22 } (some .boolean))   {k6 : Int → Int → Option (Int)} (hk6 : ∀ (x5' : Int) (x6' : Int), Rg G oI (fun _ => S) (SHM, 0, 0) (SHM, 0, 0) S 6 [some (vr G 0), some (vi x1), some (vi x2), some (vi x3), some (vi x4), some (vi (x5')), some (vi (x6')), none, none] [] (k6 x5' x6')) {x5 : Int} {x6 : Int} : Rg G oI (fun _ => S) (SHM, 0, 0) (SHM, 0, 0) S 6 [some (vr G 0), some (vi x1), some (vi x2), some (vi x3), some (vi x4), some (vi x5), some (vi x6), none, none] [] (pX6_isLeakAt_6B S x1 x2 x3 x4 k6 x5 x6) := by
  unfold pX6_isLeakAt_6B
  refine r_iload g dX6_isLeakAt_6 rfl ?_
  refine r_iconst g dX6_isLeakAt_8 ?_
  refine r_icmp_ge g 80 dX6_isLeakAt_9 (by decide) ?_ ?_
  · refine r_iload g dX6_isLeakAt_80 rfl ?_
    exact r_zret g dX6_isLeakAt_82 rfl rfl
  · refine r_iload g dX6_isLeakAt_12 rfl ?_
    refine r_iload_n g dX6_isLeakAt_14 rfl ?_
    refine r_icmp_ge g 25 dX6_isLeakAt_15 (by decide) ?_ ?_
    · refine r_iload g dX6_isLeakAt_25 rfl ?_
      refine r_iload_n g dX6_isLeakAt_27 rfl ?_
      refine r_isub g dX6_isLeakAt_28 ?_
      exact tX6_isLeakAt_29 g hk6
    · refine r_iload_n g dX6_isLeakAt_18 rfl ?_
      refine r_iload g dX6_isLeakAt_19 rfl ?_
      refine r_isub g dX6_isLeakAt_21 ?_
      refine r_goto g 29 dX6_isLeakAt_22 (by decide) ?_
      exact tX6_isLeakAt_29 g hk6
theorem tX6_isLeakAt_6 {G : Gx} {S : St} {x1 : Int} {x2 : Int} {x3 : Int} {x4 : Int} (g : Ok G cX6_isLeakAt RX6 9 { frames := 1, cells := 0, slots := 0, locals := 22 } (some .boolean))   : ∀ (n_ : Nat) (x5 : Int) (x6 : Int), Rg G oI (fun _ => S) (SHM, 0, 0) (SHM, 0, 0) S 6 [some (vr G 0), some (vi x1), some (vi x2), some (vi x3), some (vi x4), some (vi x5), some (vi x6), none, none] [] (lo2 (pX6_isLeakAt_6B S x1 x2 x3 x4) n_ x5 x6) := by
  intro n_
  induction n_ with
  | zero => intro x5 x6; exact r_none
  | succ n_ ih => intro x5 x6; exact tX6_isLeakAt_6B g   ih
theorem kX6_isLeakAt (S : St) (x1 : Int) (x2 : Int) (x3 : Int) (x4 : Int)  : Con yX6_isLeakAt cX6_isLeakAt 9 (some .boolean) { frames := 1, cells := 0, slots := 0, locals := 22 } false SHM (SHM, 0, 0) (fun b => [.ref (b + 0), vi x1, vi x2, vi x3, vi x4]) S (fun _ => oI) (fun _ => S) (pX6_isLeakAt S x1 x2 x3 x4) := by
  refine Con_of (fun b => [some (.ref (b + 0)), some (vi x1), some (vi x2), some (vi x3), some (vi x4), none, none, none, none]) (by decide) (fun _ => rfl) (fun _ => Nat.le_of_ble_eq_true rfl) ?_
  intro G g _ _ _
  change Ok G cX6_isLeakAt RX6 9 { frames := 1, cells := 0, slots := 0, locals := 22 } (some .boolean) at g
  show Rg G oI (fun _ => S) (SHM, 0, 0) (SHM, 0, 0) S 0 [some (vr G 0), some (vi x1), some (vi x2), some (vi x3), some (vi x4), none, none, none, none] [] (pX6_isLeakAt S x1 x2 x3 x4)
  unfold pX6_isLeakAt
  refine r_iconst g dX6_isLeakAt_0 ?_
  refine r_istore g dX6_isLeakAt_1 (by decide) rfl ?_
  refine r_iconst g dX6_isLeakAt_3 ?_
  refine r_istore g dX6_isLeakAt_4 (by decide) rfl ?_
  exact tX6_isLeakAt_6 g _ _ _
theorem tX6_sniff_150 {G : Gx} {k110 : Int → Int → Option (Int × St)} {k119 : Int → Int → Option (Int × St)} {S : St} {x1 : Int} {x2 : Int} {x5 : Int} {x6 : Int} {s0 : Int} {s1 : Int} (g : Ok G cX6_sniff RX6 7 { frames := 2, cells := 0, slots := 0, locals := 50 } (some .int)) (hk110 : ∀ (x4' : Int) (x5' : Int), Rg G oIS (fun v => v.2) (SHM, 0, 0) (SHM, 0, 0) S 110 [some (vr G 0), some (vi x1), some (vi x2), none, some (vi (x4')), some (vi (x5')), none] [] (k110 x4' x5')) (hk119 : ∀ (x4' : Int) (x6' : Int), Rg G oIS (fun v => v.2) (SHM, 0, 0) (SHM, 0, 0) S 119 [some (vr G 0), some (vi x1), some (vi x2), none, some (vi (x4')), some (vi x5), some (vi (x6'))] [] (k119 x4' x6'))  : Rg G oIS (fun v => v.2) (SHM, 0, 0) (SHM, 0, 0) S 150 [some (vr G 0), some (vi x1), some (vi x2), none, none, some (vi x5), some (vi x6)] [vi s0, vi s1] (pX6_sniff_150 k110 k119 S x1 x2 x5 x6 s0 s1) := by
  unfold pX6_sniff_150
  refine r_ior g dX6_sniff_150 ?_
  intro z7_
  refine r_istore g dX6_sniff_151 (by decide) rfl ?_
  refine r_iinc g dX6_sniff_153 (by decide) rfl ?_
  intro x6_8_
  change Rg _ _ _ _ _ _ _ [some (vr G 0), some (vi x1), some (vi x2), none, some (vi z7_), some (vi x5), some (vi x6_8_)] _ _
  refine r_goto g 119 dX6_sniff_156 (by decide) ?_
  exact hk119 _ _
theorem tX6_sniff_119B {G : Gx} {k110 : Int → Int → Option (Int × St)} {S : St} {x1 : Int} {x2 : Int} {x5 : Int} (g : Ok G cX6_sniff RX6 7 { frames := 2, cells := 0, slots := 0, locals := 50 } (some .int)) (hk110 : ∀ (x4' : Int) (x5' : Int), Rg G oIS (fun v => v.2) (SHM, 0, 0) (SHM, 0, 0) S 110 [some (vr G 0), some (vi x1), some (vi x2), none, some (vi (x4')), some (vi (x5')), none] [] (k110 x4' x5'))  {k119 : Int → Int → Option (Int × St)} (hk119 : ∀ (x4' : Int) (x6' : Int), Rg G oIS (fun v => v.2) (SHM, 0, 0) (SHM, 0, 0) S 119 [some (vr G 0), some (vi x1), some (vi x2), none, some (vi (x4')), some (vi x5), some (vi (x6'))] [] (k119 x4' x6')) {x4 : Int} {x6 : Int} : Rg G oIS (fun v => v.2) (SHM, 0, 0) (SHM, 0, 0) S 119 [some (vr G 0), some (vi x1), some (vi x2), none, some (vi x4), some (vi x5), some (vi x6)] [] (pX6_sniff_119B k110 S x1 x2 x5 k119 x4 x6) := by
  unfold pX6_sniff_119B
  refine r_iload g dX6_sniff_119 rfl ?_
  refine r_sipush g dX6_sniff_121 (by decide) ?_
  refine r_icmp_gt g 159 dX6_sniff_124 (by decide) ?_ ?_
  · refine r_iinc g dX6_sniff_159 (by decide) rfl ?_
    intro x5_5_
    change Rg _ _ _ _ _ _ _ [some (vr G 0), some (vi x1), some (vi x2), none, some (vi x4), some (vi x5_5_), some (vi x6)] _ _
    refine r_goto g 110 dX6_sniff_162 (by decide) ?_
    refine r_msk [true, true, true, false, true, true, false] rfl ?_
    exact hk110 _ _
  · refine r_iload g dX6_sniff_127 rfl ?_
    refine r_aload_n g dX6_sniff_129 rfl ?_
    refine r_iload g dX6_sniff_130 rfl ?_
    refine r_iload g dX6_sniff_132 rfl ?_
    refine r_iload_n g dX6_sniff_134 rfl ?_
    refine r_iload_n g dX6_sniff_135 rfl ?_
    refine r_callV_PI (q := 0) (as := fun b => [vi x5, vi x6, vi x1, vi x2]) g (kX6_isLeakAt S x5 x6 x1 x2) mX6_isLeakAt shm_0 rfl w_1401 w_1403 w_69 (by decide) (fun _ => rfl) rfl (Nat.le_of_ble_eq_true rfl) dX6_sniff_136 ?_
    intro z6_
    refine r_if_eq g 149 dX6_sniff_139 (by decide) ?_ ?_
    · refine r_iconst g dX6_sniff_149 ?_
      refine r_msk [true, true, true, false, false, true, true] rfl ?_
      exact tX6_sniff_150 g hk110 hk119
    · refine r_iconst g dX6_sniff_142 ?_
      refine r_iload g dX6_sniff_143 rfl ?_
      refine r_ishl g dX6_sniff_145 ?_
      intro z9_
      refine r_goto g 150 dX6_sniff_146 (by decide) ?_
      refine r_msk [true, true, true, false, false, true, true] rfl ?_
      exact tX6_sniff_150 g hk110 hk119
theorem tX6_sniff_119 {G : Gx} {k110 : Int → Int → Option (Int × St)} {S : St} {x1 : Int} {x2 : Int} {x5 : Int} (g : Ok G cX6_sniff RX6 7 { frames := 2, cells := 0, slots := 0, locals := 50 } (some .int)) (hk110 : ∀ (x4' : Int) (x5' : Int), Rg G oIS (fun v => v.2) (SHM, 0, 0) (SHM, 0, 0) S 110 [some (vr G 0), some (vi x1), some (vi x2), none, some (vi (x4')), some (vi (x5')), none] [] (k110 x4' x5'))  : ∀ (n_ : Nat) (x4 : Int) (x6 : Int), Rg G oIS (fun v => v.2) (SHM, 0, 0) (SHM, 0, 0) S 119 [some (vr G 0), some (vi x1), some (vi x2), none, some (vi x4), some (vi x5), some (vi x6)] [] (lo2 (pX6_sniff_119B k110 S x1 x2 x5) n_ x4 x6) := by
  intro n_
  induction n_ with
  | zero => intro x4 x6; exact r_none
  | succ n_ ih => intro x4 x6; exact tX6_sniff_119B g hk110  ih
theorem tX6_sniff_110B {G : Gx} {S : St} {x1 : Int} {x2 : Int} (g : Ok G cX6_sniff RX6 7 { frames := 2, cells := 0, slots := 0, locals := 50 } (some .int))   {k110 : Int → Int → Option (Int × St)} (hk110 : ∀ (x4' : Int) (x5' : Int), Rg G oIS (fun v => v.2) (SHM, 0, 0) (SHM, 0, 0) S 110 [some (vr G 0), some (vi x1), some (vi x2), none, some (vi (x4')), some (vi (x5')), none] [] (k110 x4' x5')) {x4 : Int} {x5 : Int} : Rg G oIS (fun v => v.2) (SHM, 0, 0) (SHM, 0, 0) S 110 [some (vr G 0), some (vi x1), some (vi x2), none, some (vi x4), some (vi x5), none] [] (pX6_sniff_110B S x1 x2 k110 x4 x5) := by
  unfold pX6_sniff_110B
  refine r_iload g dX6_sniff_110 rfl ?_
  refine r_iconst g dX6_sniff_112 ?_
  refine r_icmp_ge g 165 dX6_sniff_113 (by decide) ?_ ?_
  · refine r_iload g dX6_sniff_165 rfl ?_
    exact r_iret g dX6_sniff_167 rfl rfl
  · refine r_iconst g dX6_sniff_116 ?_
    refine r_istore g dX6_sniff_117 (by decide) rfl ?_
    exact tX6_sniff_119 g hk110 _ _ _
theorem tX6_sniff_110 {G : Gx} {S : St} {x1 : Int} {x2 : Int} (g : Ok G cX6_sniff RX6 7 { frames := 2, cells := 0, slots := 0, locals := 50 } (some .int))   : ∀ (n_ : Nat) (x4 : Int) (x5 : Int), Rg G oIS (fun v => v.2) (SHM, 0, 0) (SHM, 0, 0) S 110 [some (vr G 0), some (vi x1), some (vi x2), none, some (vi x4), some (vi x5), none] [] (lo2 (pX6_sniff_110B S x1 x2) n_ x4 x5) := by
  intro n_
  induction n_ with
  | zero => intro x4 x5; exact r_none
  | succ n_ ih => intro x4 x5; exact tX6_sniff_110B g   ih
theorem tX6_sniff_87 {G : Gx} {k55 : Int → Int → Option (Int × St)} {S : St} {x1 : Int} {x2 : Int} {x4 : Int} {s0 : Int} (g : Ok G cX6_sniff RX6 7 { frames := 2, cells := 0, slots := 0, locals := 50 } (some .int)) (hk55 : ∀ (x3' : Int) (x4' : Int), Rg G oIS (fun v => v.2) (SHM, 0, 0) (SHM, 0, 0) S 55 [some (vr G 0), some (vi x1), some (vi x2), some (vi (x3')), some (vi (x4')), none, none] [] (k55 x3' x4'))  : Rg G oIS (fun v => v.2) (SHM, 0, 0) (SHM, 0, 0) S 87 [some (vr G 0), some (vi x1), some (vi x2), none, some (vi x4), none, none] [vi s0] (pX6_sniff_87 k55 S x1 x2 x4 s0) := by
  unfold pX6_sniff_87
  refine r_istore_n g 3 dX6_sniff_87 rfl (by decide) rfl ?_
  refine r_iinc g dX6_sniff_88 (by decide) rfl ?_
  intro x4_12_
  change Rg _ _ _ _ _ _ _ [some (vr G 0), some (vi x1), some (vi x2), some (vi s0), some (vi x4_12_), none, none] _ _
  refine r_goto g 55 dX6_sniff_91 (by decide) ?_
  exact hk55 _ _
theorem tX6_sniff_86 {G : Gx} {k55 : Int → Int → Option (Int × St)} {S : St} {x1 : Int} {x2 : Int} {x4 : Int} (g : Ok G cX6_sniff RX6 7 { frames := 2, cells := 0, slots := 0, locals := 50 } (some .int)) (hk55 : ∀ (x3' : Int) (x4' : Int), Rg G oIS (fun v => v.2) (SHM, 0, 0) (SHM, 0, 0) S 55 [some (vr G 0), some (vi x1), some (vi x2), some (vi (x3')), some (vi (x4')), none, none] [] (k55 x3' x4'))  : Rg G oIS (fun v => v.2) (SHM, 0, 0) (SHM, 0, 0) S 86 [some (vr G 0), some (vi x1), some (vi x2), none, some (vi x4), none, none] [] (pX6_sniff_86 k55 S x1 x2 x4) := by
  unfold pX6_sniff_86
  refine r_iconst g dX6_sniff_86 ?_
  exact tX6_sniff_87 g hk55
theorem tX6_sniff_55B {G : Gx} {S : St} {x1 : Int} {x2 : Int} (g : Ok G cX6_sniff RX6 7 { frames := 2, cells := 0, slots := 0, locals := 50 } (some .int))   {k55 : Int → Int → Option (Int × St)} (hk55 : ∀ (x3' : Int) (x4' : Int), Rg G oIS (fun v => v.2) (SHM, 0, 0) (SHM, 0, 0) S 55 [some (vr G 0), some (vi x1), some (vi x2), some (vi (x3')), some (vi (x4')), none, none] [] (k55 x3' x4')) {x3 : Int} {x4 : Int} : Rg G oIS (fun v => v.2) (SHM, 0, 0) (SHM, 0, 0) S 55 [some (vr G 0), some (vi x1), some (vi x2), some (vi x3), some (vi x4), none, none] [] (pX6_sniff_55B S x1 x2 k55 x3 x4) := by
  unfold pX6_sniff_55B
  refine r_iload g dX6_sniff_55 rfl ?_
  refine r_iconst g dX6_sniff_57 ?_
  refine r_icmp_ge g 94 dX6_sniff_58 (by decide) ?_ ?_
  · refine r_iload_n g dX6_sniff_94 rfl ?_
    refine r_if_ne g 104 dX6_sniff_95 (by decide) ?_ ?_
    · refine r_iconst g dX6_sniff_104 ?_
      refine r_istore g dX6_sniff_105 (by decide) rfl ?_
      refine r_iconst g dX6_sniff_107 ?_
      refine r_istore g dX6_sniff_108 (by decide) rfl ?_
      refine r_msk [true, true, true, false, true, true, false] rfl ?_
      exact tX6_sniff_110 g _ _ _
    · refine r_aload_n g dX6_sniff_98 rfl ?_
      refine r_iconst g dX6_sniff_99 ?_
      refine r_callV_WI (q := 0) (as := fun b => [vi 3]) g (kX6_meets S 3) mX6_meets shm_0 rfl w_1055 w_1057 w_28 (by decide) (fun _ => rfl) rfl (Nat.le_of_ble_eq_true rfl) dX6_sniff_100 ?_
      intro z10_ S11_
      exact r_iret g dX6_sniff_103 rfl rfl
  · refine r_iload_n g dX6_sniff_61 rfl ?_
    refine r_if_eq g 86 dX6_sniff_62 (by decide) ?_ ?_
    · refine r_msk [true, true, true, false, true, false, false] rfl ?_
      exact tX6_sniff_86 g hk55
    · refine r_aload_n g dX6_sniff_65 rfl ?_
      refine r_iload_n g dX6_sniff_66 rfl ?_
      refine r_iload g dX6_sniff_67 rfl ?_
      refine r_callV_PI (q := 0) (as := fun b => [vi x1, vi x4]) g (kX6_rowAt S x1 x4) mX6_rowAt shm_0 rfl w_1063 w_1065 w_29 (by decide) (fun _ => rfl) rfl (Nat.le_of_ble_eq_true rfl) dX6_sniff_69 ?_
      intro z13_
      refine r_iconst g dX6_sniff_72 ?_
      refine r_sipush g dX6_sniff_73 (by decide) ?_
      refine r_callS_PI g (kX6_in S z13_ 0 9999) mX6_in w_1033 w_1034 (by decide) (fun _ => rfl) rfl (Nat.le_of_ble_eq_true rfl) dX6_sniff_76 ?_
      intro z14_
      refine r_if_eq g 86 dX6_sniff_79 (by decide) ?_ ?_
      · refine r_msk [true, true, true, false, true, false, false] rfl ?_
        exact tX6_sniff_86 g hk55
      · refine r_iconst g dX6_sniff_82 ?_
        refine r_goto g 87 dX6_sniff_83 (by decide) ?_
        refine r_msk [true, true, true, false, true, false, false] rfl ?_
        exact tX6_sniff_87 g hk55
theorem tX6_sniff_55 {G : Gx} {S : St} {x1 : Int} {x2 : Int} (g : Ok G cX6_sniff RX6 7 { frames := 2, cells := 0, slots := 0, locals := 50 } (some .int))   : ∀ (n_ : Nat) (x3 : Int) (x4 : Int), Rg G oIS (fun v => v.2) (SHM, 0, 0) (SHM, 0, 0) S 55 [some (vr G 0), some (vi x1), some (vi x2), some (vi x3), some (vi x4), none, none] [] (lo2 (pX6_sniff_55B S x1 x2) n_ x3 x4) := by
  intro n_
  induction n_ with
  | zero => intro x3 x4; exact r_none
  | succ n_ ih => intro x3 x4; exact tX6_sniff_55B g   ih
theorem kX6_sniff (S : St) (x1 : Int) (x2 : Int)  : Con yX6_sniff cX6_sniff 7 (some .int) { frames := 2, cells := 0, slots := 0, locals := 50 } false SHM (SHM, 0, 0) (fun b => [.ref (b + 0), vi x1, vi x2]) S (fun _ => oIS) (fun v => v.2) (pX6_sniff S x1 x2) := by
  refine Con_of (fun b => [some (.ref (b + 0)), some (vi x1), some (vi x2), none, none, none, none]) (by decide) (fun _ => rfl) (fun _ => Nat.le_of_ble_eq_true rfl) ?_
  intro G g _ _ _
  change Ok G cX6_sniff RX6 7 { frames := 2, cells := 0, slots := 0, locals := 50 } (some .int) at g
  show Rg G oIS (fun v => v.2) (SHM, 0, 0) (SHM, 0, 0) S 0 [some (vr G 0), some (vi x1), some (vi x2), none, none, none, none] [] (pX6_sniff S x1 x2)
  unfold pX6_sniff
  refine r_iload_n g dX6_sniff_0 rfl ?_
  refine r_callS_PI g (kX6_isRow S x1) mX6_isRow w_1052 w_1053 (by decide) (fun _ => rfl) rfl (Nat.le_of_ble_eq_true rfl) dX6_sniff_1 ?_
  intro z1_
  refine r_if_eq g 17 dX6_sniff_4 (by decide) ?_ ?_
  · refine r_iconst g dX6_sniff_17 ?_
    exact r_iret g dX6_sniff_18 rfl rfl
  · refine r_iload_n g dX6_sniff_7 rfl ?_
    refine r_iconst g dX6_sniff_8 ?_
    refine r_bipush g dX6_sniff_9 (by decide) ?_
    refine r_callS_PI g (kX6_in S x2 0 99) mX6_in w_1033 w_1034 (by decide) (fun _ => rfl) rfl (Nat.le_of_ble_eq_true rfl) dX6_sniff_11 ?_
    intro z2_
    refine r_if_ne g 19 dX6_sniff_14 (by decide) ?_ ?_
    · refine r_aload_n g dX6_sniff_19 rfl ?_
      refine r_getC (c0 := 2) g KX6 shm_0 5 rfl (by decide) w_875 dX6_sniff_20 ?_
      refine r_iload_n g dX6_sniff_23 rfl ?_
      refine r_iald g shm_2 (by decide) dX6_sniff_24 ?_
      intro z3_
      refine r_if_ge g 34 dX6_sniff_25 (by decide) ?_ ?_
      · refine r_aload_n g dX6_sniff_34 rfl ?_
        refine r_getC (c0 := 2) g KX6 shm_0 5 rfl (by decide) w_875 dX6_sniff_35 ?_
        refine r_iload_n g dX6_sniff_38 rfl ?_
        refine r_iald g shm_2 (by decide) dX6_sniff_39 ?_
        intro z4_
        refine r_iconst g dX6_sniff_40 ?_
        refine r_icmp_eq g 50 dX6_sniff_41 (by decide) ?_ ?_
        · refine r_iconst g dX6_sniff_50 ?_
          refine r_istore_n g 3 dX6_sniff_51 rfl (by decide) rfl ?_
          refine r_iconst g dX6_sniff_52 ?_
          refine r_istore g dX6_sniff_53 (by decide) rfl ?_
          exact tX6_sniff_55 g _ _ _
        · refine r_aload_n g dX6_sniff_44 rfl ?_
          refine r_iconst g dX6_sniff_45 ?_
          refine r_callV_WI (q := 0) (as := fun b => [vi 5]) g (kX6_meets S 5) mX6_meets shm_0 rfl w_1055 w_1057 w_28 (by decide) (fun _ => rfl) rfl (Nat.le_of_ble_eq_true rfl) dX6_sniff_46 ?_
          intro z15_ S16_
          exact r_iret g dX6_sniff_49 rfl rfl
      · refine r_aload_n g dX6_sniff_28 rfl ?_
        refine r_iconst g dX6_sniff_29 ?_
        refine r_callV_WI (q := 0) (as := fun b => [vi 1]) g (kX6_meets S 1) mX6_meets shm_0 rfl w_1055 w_1057 w_28 (by decide) (fun _ => rfl) rfl (Nat.le_of_ble_eq_true rfl) dX6_sniff_30 ?_
        intro z17_ S18_
        exact r_iret g dX6_sniff_33 rfl rfl
    · refine r_iconst g dX6_sniff_17 ?_
      exact r_iret g dX6_sniff_18 rfl rfl
theorem tX6_count_171 {G : Gx} {k146 : Int → Int → Option (Int)} {S : St} {x1 : Int} {x3 : Int} {s0 : Int} {s1 : Int} (g : Ok G cX6_count RX6 4 { frames := 1, cells := 0, slots := 0, locals := 22 } (some .int)) (hk146 : ∀ (x2' : Int) (x3' : Int), Rg G oI (fun _ => S) (SHM, 0, 0) (SHM, 0, 0) S 146 [some (vr G 0), some (vi x1), some (vi (x2')), some (vi (x3'))] [] (k146 x2' x3'))  : Rg G oI (fun _ => S) (SHM, 0, 0) (SHM, 0, 0) S 171 [some (vr G 0), some (vi x1), none, some (vi x3)] [vi s0, vi s1] (pX6_count_171 k146 S x1 x3 s0 s1) := by
  unfold pX6_count_171
  refine r_iadd g dX6_count_171 ?_
  refine r_topi ?_
  intro x2_2_
  refine r_istore_n g 2 dX6_count_172 rfl (by decide) rfl ?_
  refine r_iinc g dX6_count_173 (by decide) rfl ?_
  intro x3_3_
  change Rg _ _ _ _ _ _ _ [some (vr G 0), some (vi x1), some (vi x2_2_), some (vi x3_3_)] _ _
  refine r_goto g 146 dX6_count_176 (by decide) ?_
  exact hk146 _ _
theorem tX6_count_170 {G : Gx} {k146 : Int → Int → Option (Int)} {S : St} {x1 : Int} {x3 : Int} {s0 : Int} (g : Ok G cX6_count RX6 4 { frames := 1, cells := 0, slots := 0, locals := 22 } (some .int)) (hk146 : ∀ (x2' : Int) (x3' : Int), Rg G oI (fun _ => S) (SHM, 0, 0) (SHM, 0, 0) S 146 [some (vr G 0), some (vi x1), some (vi (x2')), some (vi (x3'))] [] (k146 x2' x3'))  : Rg G oI (fun _ => S) (SHM, 0, 0) (SHM, 0, 0) S 170 [some (vr G 0), some (vi x1), none, some (vi x3)] [vi s0] (pX6_count_170 k146 S x1 x3 s0) := by
  unfold pX6_count_170
  refine r_iconst g dX6_count_170 ?_
  exact tX6_count_171 g hk146
theorem tX6_count_146B {G : Gx} {S : St} {x1 : Int} (g : Ok G cX6_count RX6 4 { frames := 1, cells := 0, slots := 0, locals := 22 } (some .int))   {k146 : Int → Int → Option (Int)} (hk146 : ∀ (x2' : Int) (x3' : Int), Rg G oI (fun _ => S) (SHM, 0, 0) (SHM, 0, 0) S 146 [some (vr G 0), some (vi x1), some (vi (x2')), some (vi (x3'))] [] (k146 x2' x3')) {x2 : Int} {x3 : Int} : Rg G oI (fun _ => S) (SHM, 0, 0) (SHM, 0, 0) S 146 [some (vr G 0), some (vi x1), some (vi x2), some (vi x3)] [] (pX6_count_146B S x1 k146 x2 x3) := by
  unfold pX6_count_146B
  refine r_iload_n g dX6_count_146 rfl ?_
  refine r_iconst g dX6_count_147 ?_
  refine r_icmp_ge g 179 dX6_count_148 (by decide) ?_ ?_
  · refine r_iload_n g dX6_count_179 rfl ?_
    exact r_iret g dX6_count_180 rfl rfl
  · refine r_iload_n g dX6_count_151 rfl ?_
    refine r_iload_n g dX6_count_152 rfl ?_
    refine r_iconst g dX6_count_153 ?_
    refine r_icmp_ne g 170 dX6_count_154 (by decide) ?_ ?_
    · refine r_msk [true, true, false, true] rfl ?_
      exact tX6_count_170 g hk146
    · refine r_aload_n g dX6_count_157 rfl ?_
      refine r_getC (c0 := 5) g KX6 shm_0 8 rfl (by decide) w_878 dX6_count_158 ?_
      refine r_iload_n g dX6_count_161 rfl ?_
      refine r_iald g shm_5 (by decide) dX6_count_162 ?_
      intro z4_
      refine r_if_lt g 170 dX6_count_163 (by decide) ?_ ?_
      · refine r_msk [true, true, false, true] rfl ?_
        exact tX6_count_170 g hk146
      · refine r_iconst g dX6_count_166 ?_
        refine r_goto g 171 dX6_count_167 (by decide) ?_
        refine r_msk [true, true, false, true] rfl ?_
        exact tX6_count_171 g hk146
theorem tX6_count_146 {G : Gx} {S : St} {x1 : Int} (g : Ok G cX6_count RX6 4 { frames := 1, cells := 0, slots := 0, locals := 22 } (some .int))   : ∀ (n_ : Nat) (x2 : Int) (x3 : Int), Rg G oI (fun _ => S) (SHM, 0, 0) (SHM, 0, 0) S 146 [some (vr G 0), some (vi x1), some (vi x2), some (vi x3)] [] (lo2 (pX6_count_146B S x1) n_ x2 x3) := by
  intro n_
  induction n_ with
  | zero => intro x2 x3; exact r_none
  | succ n_ ih => intro x2 x3; exact tX6_count_146B g   ih
theorem tX6_count_136 {G : Gx} {k110 : Int → Int → Option (Int)} {S : St} {x1 : Int} {x3 : Int} {s0 : Int} {s1 : Int} (g : Ok G cX6_count RX6 4 { frames := 1, cells := 0, slots := 0, locals := 22 } (some .int)) (hk110 : ∀ (x2' : Int) (x3' : Int), Rg G oI (fun _ => S) (SHM, 0, 0) (SHM, 0, 0) S 110 [some (vr G 0), some (vi x1), some (vi (x2')), some (vi (x3'))] [] (k110 x2' x3'))  : Rg G oI (fun _ => S) (SHM, 0, 0) (SHM, 0, 0) S 136 [some (vr G 0), some (vi x1), none, some (vi x3)] [vi s0, vi s1] (pX6_count_136 k110 S x1 x3 s0 s1) := by
  unfold pX6_count_136
  refine r_iadd g dX6_count_136 ?_
  refine r_topi ?_
  intro x2_5_
  refine r_istore_n g 2 dX6_count_137 rfl (by decide) rfl ?_
  refine r_iinc g dX6_count_138 (by decide) rfl ?_
  intro x3_6_
  change Rg _ _ _ _ _ _ _ [some (vr G 0), some (vi x1), some (vi x2_5_), some (vi x3_6_)] _ _
  refine r_goto g 110 dX6_count_141 (by decide) ?_
  exact hk110 _ _
theorem tX6_count_135 {G : Gx} {k110 : Int → Int → Option (Int)} {S : St} {x1 : Int} {x3 : Int} {s0 : Int} (g : Ok G cX6_count RX6 4 { frames := 1, cells := 0, slots := 0, locals := 22 } (some .int)) (hk110 : ∀ (x2' : Int) (x3' : Int), Rg G oI (fun _ => S) (SHM, 0, 0) (SHM, 0, 0) S 110 [some (vr G 0), some (vi x1), some (vi (x2')), some (vi (x3'))] [] (k110 x2' x3'))  : Rg G oI (fun _ => S) (SHM, 0, 0) (SHM, 0, 0) S 135 [some (vr G 0), some (vi x1), none, some (vi x3)] [vi s0] (pX6_count_135 k110 S x1 x3 s0) := by
  unfold pX6_count_135
  refine r_iconst g dX6_count_135 ?_
  exact tX6_count_136 g hk110
theorem tX6_count_110B {G : Gx} {S : St} {x1 : Int} (g : Ok G cX6_count RX6 4 { frames := 1, cells := 0, slots := 0, locals := 22 } (some .int))   {k110 : Int → Int → Option (Int)} (hk110 : ∀ (x2' : Int) (x3' : Int), Rg G oI (fun _ => S) (SHM, 0, 0) (SHM, 0, 0) S 110 [some (vr G 0), some (vi x1), some (vi (x2')), some (vi (x3'))] [] (k110 x2' x3')) {x2 : Int} {x3 : Int} : Rg G oI (fun _ => S) (SHM, 0, 0) (SHM, 0, 0) S 110 [some (vr G 0), some (vi x1), some (vi x2), some (vi x3)] [] (pX6_count_110B S x1 k110 x2 x3) := by
  unfold pX6_count_110B
  refine r_iload_n g dX6_count_110 rfl ?_
  refine r_bipush g dX6_count_111 (by decide) ?_
  refine r_icmp_ge g 144 dX6_count_113 (by decide) ?_ ?_
  · refine r_iconst g dX6_count_144 ?_
    refine r_istore_n g 3 dX6_count_145 rfl (by decide) rfl ?_
    exact tX6_count_146 g _ _ _
  · refine r_iload_n g dX6_count_116 rfl ?_
    refine r_iload_n g dX6_count_117 rfl ?_
    refine r_iconst g dX6_count_118 ?_
    refine r_icmp_ne g 135 dX6_count_119 (by decide) ?_ ?_
    · refine r_msk [true, true, false, true] rfl ?_
      exact tX6_count_135 g hk110
    · refine r_aload_n g dX6_count_122 rfl ?_
      refine r_getC (c0 := 2) g KX6 shm_0 5 rfl (by decide) w_875 dX6_count_123 ?_
      refine r_iload_n g dX6_count_126 rfl ?_
      refine r_iald g shm_2 (by decide) dX6_count_127 ?_
      intro z7_
      refine r_if_lt g 135 dX6_count_128 (by decide) ?_ ?_
      · refine r_msk [true, true, false, true] rfl ?_
        exact tX6_count_135 g hk110
      · refine r_iconst g dX6_count_131 ?_
        refine r_goto g 136 dX6_count_132 (by decide) ?_
        refine r_msk [true, true, false, true] rfl ?_
        exact tX6_count_136 g hk110
theorem tX6_count_110 {G : Gx} {S : St} {x1 : Int} (g : Ok G cX6_count RX6 4 { frames := 1, cells := 0, slots := 0, locals := 22 } (some .int))   : ∀ (n_ : Nat) (x2 : Int) (x3 : Int), Rg G oI (fun _ => S) (SHM, 0, 0) (SHM, 0, 0) S 110 [some (vr G 0), some (vi x1), some (vi x2), some (vi x3)] [] (lo2 (pX6_count_110B S x1) n_ x2 x3) := by
  intro n_
  induction n_ with
  | zero => intro x2 x3; exact r_none
  | succ n_ ih => intro x2 x3; exact tX6_count_110B g   ih
theorem tX6_count_100 {G : Gx} {k74 : Int → Int → Option (Int)} {S : St} {x1 : Int} {x3 : Int} {s0 : Int} {s1 : Int} (g : Ok G cX6_count RX6 4 { frames := 1, cells := 0, slots := 0, locals := 22 } (some .int)) (hk74 : ∀ (x2' : Int) (x3' : Int), Rg G oI (fun _ => S) (SHM, 0, 0) (SHM, 0, 0) S 74 [some (vr G 0), some (vi x1), some (vi (x2')), some (vi (x3'))] [] (k74 x2' x3'))  : Rg G oI (fun _ => S) (SHM, 0, 0) (SHM, 0, 0) S 100 [some (vr G 0), some (vi x1), none, some (vi x3)] [vi s0, vi s1] (pX6_count_100 k74 S x1 x3 s0 s1) := by
  unfold pX6_count_100
  refine r_iadd g dX6_count_100 ?_
  refine r_topi ?_
  intro x2_8_
  refine r_istore_n g 2 dX6_count_101 rfl (by decide) rfl ?_
  refine r_iinc g dX6_count_102 (by decide) rfl ?_
  intro x3_9_
  change Rg _ _ _ _ _ _ _ [some (vr G 0), some (vi x1), some (vi x2_8_), some (vi x3_9_)] _ _
  refine r_goto g 74 dX6_count_105 (by decide) ?_
  exact hk74 _ _
theorem tX6_count_99 {G : Gx} {k74 : Int → Int → Option (Int)} {S : St} {x1 : Int} {x3 : Int} {s0 : Int} (g : Ok G cX6_count RX6 4 { frames := 1, cells := 0, slots := 0, locals := 22 } (some .int)) (hk74 : ∀ (x2' : Int) (x3' : Int), Rg G oI (fun _ => S) (SHM, 0, 0) (SHM, 0, 0) S 74 [some (vr G 0), some (vi x1), some (vi (x2')), some (vi (x3'))] [] (k74 x2' x3'))  : Rg G oI (fun _ => S) (SHM, 0, 0) (SHM, 0, 0) S 99 [some (vr G 0), some (vi x1), none, some (vi x3)] [vi s0] (pX6_count_99 k74 S x1 x3 s0) := by
  unfold pX6_count_99
  refine r_iconst g dX6_count_99 ?_
  exact tX6_count_100 g hk74
theorem tX6_count_74B {G : Gx} {S : St} {x1 : Int} (g : Ok G cX6_count RX6 4 { frames := 1, cells := 0, slots := 0, locals := 22 } (some .int))   {k74 : Int → Int → Option (Int)} (hk74 : ∀ (x2' : Int) (x3' : Int), Rg G oI (fun _ => S) (SHM, 0, 0) (SHM, 0, 0) S 74 [some (vr G 0), some (vi x1), some (vi (x2')), some (vi (x3'))] [] (k74 x2' x3')) {x2 : Int} {x3 : Int} : Rg G oI (fun _ => S) (SHM, 0, 0) (SHM, 0, 0) S 74 [some (vr G 0), some (vi x1), some (vi x2), some (vi x3)] [] (pX6_count_74B S x1 k74 x2 x3) := by
  unfold pX6_count_74B
  refine r_iload_n g dX6_count_74 rfl ?_
  refine r_bipush g dX6_count_75 (by decide) ?_
  refine r_icmp_ge g 108 dX6_count_77 (by decide) ?_ ?_
  · refine r_iconst g dX6_count_108 ?_
    refine r_istore_n g 3 dX6_count_109 rfl (by decide) rfl ?_
    exact tX6_count_110 g _ _ _
  · refine r_iload_n g dX6_count_80 rfl ?_
    refine r_iload_n g dX6_count_81 rfl ?_
    refine r_iconst g dX6_count_82 ?_
    refine r_icmp_ne g 99 dX6_count_83 (by decide) ?_ ?_
    · refine r_msk [true, true, false, true] rfl ?_
      exact tX6_count_99 g hk74
    · refine r_aload_n g dX6_count_86 rfl ?_
      refine r_getC (c0 := 7) g KX6 shm_0 10 rfl (by decide) w_880 dX6_count_87 ?_
      refine r_iload_n g dX6_count_90 rfl ?_
      refine r_zald g shm_7 (by decide) dX6_count_91 ?_
      intro z10_
      refine r_if_eq g 99 dX6_count_92 (by decide) ?_ ?_
      · refine r_msk [true, true, false, true] rfl ?_
        exact tX6_count_99 g hk74
      · refine r_iconst g dX6_count_95 ?_
        refine r_goto g 100 dX6_count_96 (by decide) ?_
        refine r_msk [true, true, false, true] rfl ?_
        exact tX6_count_100 g hk74
theorem tX6_count_74 {G : Gx} {S : St} {x1 : Int} (g : Ok G cX6_count RX6 4 { frames := 1, cells := 0, slots := 0, locals := 22 } (some .int))   : ∀ (n_ : Nat) (x2 : Int) (x3 : Int), Rg G oI (fun _ => S) (SHM, 0, 0) (SHM, 0, 0) S 74 [some (vr G 0), some (vi x1), some (vi x2), some (vi x3)] [] (lo2 (pX6_count_74B S x1) n_ x2 x3) := by
  intro n_
  induction n_ with
  | zero => intro x2 x3; exact r_none
  | succ n_ ih => intro x2 x3; exact tX6_count_74B g   ih
theorem tX6_count_64 {G : Gx} {k15 : Int → Int → Option (Int)} {S : St} {x1 : Int} {x3 : Int} {s0 : Int} {s1 : Int} (g : Ok G cX6_count RX6 4 { frames := 1, cells := 0, slots := 0, locals := 22 } (some .int)) (hk15 : ∀ (x2' : Int) (x3' : Int), Rg G oI (fun _ => S) (SHM, 0, 0) (SHM, 0, 0) S 15 [some (vr G 0), some (vi x1), some (vi (x2')), some (vi (x3'))] [] (k15 x2' x3'))  : Rg G oI (fun _ => S) (SHM, 0, 0) (SHM, 0, 0) S 64 [some (vr G 0), some (vi x1), none, some (vi x3)] [vi s0, vi s1] (pX6_count_64 k15 S x1 x3 s0 s1) := by
  unfold pX6_count_64
  refine r_iadd g dX6_count_64 ?_
  refine r_topi ?_
  intro x2_11_
  refine r_istore_n g 2 dX6_count_65 rfl (by decide) rfl ?_
  refine r_iinc g dX6_count_66 (by decide) rfl ?_
  intro x3_12_
  change Rg _ _ _ _ _ _ _ [some (vr G 0), some (vi x1), some (vi x2_11_), some (vi x3_12_)] _ _
  refine r_goto g 15 dX6_count_69 (by decide) ?_
  exact hk15 _ _
theorem tX6_count_63 {G : Gx} {k15 : Int → Int → Option (Int)} {S : St} {x1 : Int} {x3 : Int} {s0 : Int} (g : Ok G cX6_count RX6 4 { frames := 1, cells := 0, slots := 0, locals := 22 } (some .int)) (hk15 : ∀ (x2' : Int) (x3' : Int), Rg G oI (fun _ => S) (SHM, 0, 0) (SHM, 0, 0) S 15 [some (vr G 0), some (vi x1), some (vi (x2')), some (vi (x3'))] [] (k15 x2' x3'))  : Rg G oI (fun _ => S) (SHM, 0, 0) (SHM, 0, 0) S 63 [some (vr G 0), some (vi x1), none, some (vi x3)] [vi s0] (pX6_count_63 k15 S x1 x3 s0) := by
  unfold pX6_count_63
  refine r_iconst g dX6_count_63 ?_
  exact tX6_count_64 g hk15
theorem tX6_count_59 {G : Gx} {k15 : Int → Int → Option (Int)} {S : St} {x1 : Int} {x3 : Int} {s0 : Int} (g : Ok G cX6_count RX6 4 { frames := 1, cells := 0, slots := 0, locals := 22 } (some .int)) (hk15 : ∀ (x2' : Int) (x3' : Int), Rg G oI (fun _ => S) (SHM, 0, 0) (SHM, 0, 0) S 15 [some (vr G 0), some (vi x1), some (vi (x2')), some (vi (x3'))] [] (k15 x2' x3'))  : Rg G oI (fun _ => S) (SHM, 0, 0) (SHM, 0, 0) S 59 [some (vr G 0), some (vi x1), none, some (vi x3)] [vi s0] (pX6_count_59 k15 S x1 x3 s0) := by
  unfold pX6_count_59
  refine r_iconst g dX6_count_59 ?_
  refine r_goto g 64 dX6_count_60 (by decide) ?_
  exact tX6_count_64 g hk15
theorem tX6_count_46 {G : Gx} {k15 : Int → Int → Option (Int)} {S : St} {x1 : Int} {x3 : Int} {s0 : Int} (g : Ok G cX6_count RX6 4 { frames := 1, cells := 0, slots := 0, locals := 22 } (some .int)) (hk15 : ∀ (x2' : Int) (x3' : Int), Rg G oI (fun _ => S) (SHM, 0, 0) (SHM, 0, 0) S 15 [some (vr G 0), some (vi x1), some (vi (x2')), some (vi (x3'))] [] (k15 x2' x3'))  : Rg G oI (fun _ => S) (SHM, 0, 0) (SHM, 0, 0) S 46 [some (vr G 0), some (vi x1), none, some (vi x3)] [vi s0] (pX6_count_46 k15 S x1 x3 s0) := by
  unfold pX6_count_46
  refine r_iload_n g dX6_count_46 rfl ?_
  refine r_iconst g dX6_count_47 ?_
  refine r_icmp_ne g 63 dX6_count_48 (by decide) ?_ ?_
  · exact tX6_count_63 g hk15
  · refine r_aload_n g dX6_count_51 rfl ?_
    refine r_iload_n g dX6_count_52 rfl ?_
    refine r_callV_PI (q := 0) (as := fun b => [vi x3]) g (kX6_isRing S x3) mX6_isRing shm_0 rfl w_1191 w_1193 w_45 (by decide) (fun _ => rfl) rfl (Nat.le_of_ble_eq_true rfl) dX6_count_53 ?_
    intro z13_
    refine r_if_eq g 63 dX6_count_56 (by decide) ?_ ?_
    · exact tX6_count_63 g hk15
    · exact tX6_count_59 g hk15
theorem tX6_count_33 {G : Gx} {k15 : Int → Int → Option (Int)} {S : St} {x1 : Int} {x3 : Int} {s0 : Int} (g : Ok G cX6_count RX6 4 { frames := 1, cells := 0, slots := 0, locals := 22 } (some .int)) (hk15 : ∀ (x2' : Int) (x3' : Int), Rg G oI (fun _ => S) (SHM, 0, 0) (SHM, 0, 0) S 15 [some (vr G 0), some (vi x1), some (vi (x2')), some (vi (x3'))] [] (k15 x2' x3'))  : Rg G oI (fun _ => S) (SHM, 0, 0) (SHM, 0, 0) S 33 [some (vr G 0), some (vi x1), none, some (vi x3)] [vi s0] (pX6_count_33 k15 S x1 x3 s0) := by
  unfold pX6_count_33
  refine r_iload_n g dX6_count_33 rfl ?_
  refine r_iconst g dX6_count_34 ?_
  refine r_icmp_ne g 46 dX6_count_35 (by decide) ?_ ?_
  · exact tX6_count_46 g hk15
  · refine r_aload_n g dX6_count_38 rfl ?_
    refine r_iload_n g dX6_count_39 rfl ?_
    refine r_callV_PI (q := 0) (as := fun b => [vi x3]) g (kX6_isRubber S x3) mX6_isRubber shm_0 rfl w_1210 w_1212 w_47 (by decide) (fun _ => rfl) rfl (Nat.le_of_ble_eq_true rfl) dX6_count_40 ?_
    intro z14_
    refine r_if_ne g 59 dX6_count_43 (by decide) ?_ ?_
    · exact tX6_count_59 g hk15
    · exact tX6_count_46 g hk15
theorem tX6_count_15B {G : Gx} {S : St} {x1 : Int} (g : Ok G cX6_count RX6 4 { frames := 1, cells := 0, slots := 0, locals := 22 } (some .int))   {k15 : Int → Int → Option (Int)} (hk15 : ∀ (x2' : Int) (x3' : Int), Rg G oI (fun _ => S) (SHM, 0, 0) (SHM, 0, 0) S 15 [some (vr G 0), some (vi x1), some (vi (x2')), some (vi (x3'))] [] (k15 x2' x3')) {x2 : Int} {x3 : Int} : Rg G oI (fun _ => S) (SHM, 0, 0) (SHM, 0, 0) S 15 [some (vr G 0), some (vi x1), some (vi x2), some (vi x3)] [] (pX6_count_15B S x1 k15 x2 x3) := by
  unfold pX6_count_15B
  refine r_iload_n g dX6_count_15 rfl ?_
  refine r_iconst g dX6_count_16 ?_
  refine r_icmp_ge g 72 dX6_count_17 (by decide) ?_ ?_
  · refine r_iconst g dX6_count_72 ?_
    refine r_istore_n g 3 dX6_count_73 rfl (by decide) rfl ?_
    exact tX6_count_74 g _ _ _
  · refine r_iload_n g dX6_count_20 rfl ?_
    refine r_iload_n g dX6_count_21 rfl ?_
    refine r_if_ne g 33 dX6_count_22 (by decide) ?_ ?_
    · refine r_msk [true, true, false, true] rfl ?_
      exact tX6_count_33 g hk15
    · refine r_aload_n g dX6_count_25 rfl ?_
      refine r_iload_n g dX6_count_26 rfl ?_
      refine r_callV_PI (q := 0) (as := fun b => [vi x3]) g (kX6_isSeal S x3) mX6_isSeal shm_0 rfl w_1179 w_1181 w_44 (by decide) (fun _ => rfl) rfl (Nat.le_of_ble_eq_true rfl) dX6_count_27 ?_
      intro z15_
      refine r_if_ne g 59 dX6_count_30 (by decide) ?_ ?_
      · refine r_msk [true, true, false, true] rfl ?_
        exact tX6_count_59 g hk15
      · refine r_msk [true, true, false, true] rfl ?_
        exact tX6_count_33 g hk15
theorem tX6_count_15 {G : Gx} {S : St} {x1 : Int} (g : Ok G cX6_count RX6 4 { frames := 1, cells := 0, slots := 0, locals := 22 } (some .int))   : ∀ (n_ : Nat) (x2 : Int) (x3 : Int), Rg G oI (fun _ => S) (SHM, 0, 0) (SHM, 0, 0) S 15 [some (vr G 0), some (vi x1), some (vi x2), some (vi x3)] [] (lo2 (pX6_count_15B S x1) n_ x2 x3) := by
  intro n_
  induction n_ with
  | zero => intro x2 x3; exact r_none
  | succ n_ ih => intro x2 x3; exact tX6_count_15B g   ih
theorem kX6_count (S : St) (x1 : Int)  : Con yX6_count cX6_count 4 (some .int) { frames := 1, cells := 0, slots := 0, locals := 22 } false SHM (SHM, 0, 0) (fun b => [.ref (b + 0), vi x1]) S (fun _ => oI) (fun _ => S) (pX6_count S x1) := by
  refine Con_of (fun b => [some (.ref (b + 0)), some (vi x1), none, none]) (by decide) (fun _ => rfl) (fun _ => Nat.le_of_ble_eq_true rfl) ?_
  intro G g _ _ _
  change Ok G cX6_count RX6 4 { frames := 1, cells := 0, slots := 0, locals := 22 } (some .int) at g
  show Rg G oI (fun _ => S) (SHM, 0, 0) (SHM, 0, 0) S 0 [some (vr G 0), some (vi x1), none, none] [] (pX6_count S x1)
  unfold pX6_count
  refine r_iload_n g dX6_count_0 rfl ?_
  refine r_iconst g dX6_count_1 ?_
  refine r_iconst g dX6_count_2 ?_
  refine r_callS_PI g (kX6_in S x1 0 5) mX6_in w_1033 w_1034 (by decide) (fun _ => rfl) rfl (Nat.le_of_ble_eq_true rfl) dX6_count_3 ?_
  intro z1_
  refine r_if_ne g 11 dX6_count_6 (by decide) ?_ ?_
  · refine r_iconst g dX6_count_11 ?_
    refine r_istore_n g 2 dX6_count_12 rfl (by decide) rfl ?_
    refine r_iconst g dX6_count_13 ?_
    refine r_istore_n g 3 dX6_count_14 rfl (by decide) rfl ?_
    exact tX6_count_15 g _ _ _
  · refine r_iconst g dX6_count_9 ?_
    exact r_iret g dX6_count_10 rfl rfl
theorem kX6_mix (S : St) (x1 : Int)  : Con yX6_mix cX6_mix 3 none { frames := 0, cells := 0, slots := 0, locals := 0 } false SHM (SHM, 0, 0) (fun b => [.ref (b + 0), vl x1]) S (fun _ => oVS) id (pX6_mix S x1) := by
  refine Con_of (fun b => [some (.ref (b + 0)), some (vl x1), none]) (by decide) (fun _ => rfl) (fun _ => Nat.le_of_ble_eq_true rfl) ?_
  intro G g _ _ _
  change Ok G cX6_mix RX6 3 { frames := 0, cells := 0, slots := 0, locals := 0 } none at g
  show Rg G oVS id (SHM, 0, 0) (SHM, 0, 0) S 0 [some (vr G 0), some (vl x1), none] [] (pX6_mix S x1)
  unfold pX6_mix
  refine r_aload_n g dX6_mix_0 rfl ?_
  refine r_ldc2 (x := 31) g dX6_mix_1 w_1419 (by decide) ?_
  refine r_aload_n g dX6_mix_4 rfl ?_
  refine r_getL g KX6 shm_0 50 rfl (by decide) w_920 dX6_mix_5 ?_
  refine r_lmul g dX6_mix_8 ?_
  refine r_lload_n g dX6_mix_9 rfl ?_
  refine r_ladd g dX6_mix_10 ?_
  refine r_putL g KX6 shm_0 50 rfl (by decide) rfl rfl w_920 dX6_mix_11 ?_
  intro S1_ _
  exact r_vret g dX6_mix_14 rfl rfl
theorem tX6_mixPlaces_215 {G : Gx} {k118 : St → Int → Option (St)} {S : St} {x1 : Int} (g : Ok G cX6_mixPlaces RX6 3 { frames := 1, cells := 0, slots := 0, locals := 22 } none) (hk118 : ∀ (S' : St) (x1' : Int), Rg G oVS id (SHM, 0, 0) (SHM, 0, 0) S' 118 [some (vr G 0), some (vi (x1')), none] [] (k118 S' x1'))  : Rg G oVS id (SHM, 0, 0) (SHM, 0, 0) S 215 [some (vr G 0), some (vi x1), none] [] (pX6_mixPlaces_215 k118 S x1) := by
  unfold pX6_mixPlaces_215
  refine r_iinc g dX6_mixPlaces_215 (by decide) rfl ?_
  intro x1_3_
  change Rg _ _ _ _ _ _ _ [some (vr G 0), some (vi x1_3_), none] _ _
  refine r_goto g 118 dX6_mixPlaces_218 (by decide) ?_
  exact hk118 _ _
theorem tX6_mixPlaces_159B {G : Gx} {k118 : St → Int → Option (St)} {x1 : Int} (g : Ok G cX6_mixPlaces RX6 3 { frames := 1, cells := 0, slots := 0, locals := 22 } none) (hk118 : ∀ (S' : St) (x1' : Int), Rg G oVS id (SHM, 0, 0) (SHM, 0, 0) S' 118 [some (vr G 0), some (vi (x1')), none] [] (k118 S' x1'))  {k159 : St → Int → Option (St)} (hk159 : ∀ (S' : St) (x2' : Int), Rg G oVS id (SHM, 0, 0) (SHM, 0, 0) S' 159 [some (vr G 0), some (vi x1), some (vi (x2'))] [] (k159 S' x2')) {S : St} {x2 : Int} : Rg G oVS id (SHM, 0, 0) (SHM, 0, 0) S 159 [some (vr G 0), some (vi x1), some (vi x2)] [] (pX6_mixPlaces_159B k118 x1 k159 S x2) := by
  unfold pX6_mixPlaces_159B
  refine r_iload_n g dX6_mixPlaces_159 rfl ?_
  refine r_aload_n g dX6_mixPlaces_160 rfl ?_
  refine r_getC (c0 := 8) g KX6 shm_0 11 rfl (by decide) w_881 dX6_mixPlaces_161 ?_
  refine r_iload_n g dX6_mixPlaces_164 rfl ?_
  refine r_iald g shm_8 (by decide) dX6_mixPlaces_165 ?_
  intro z4_
  refine r_icmp_gt g 205 dX6_mixPlaces_166 (by decide) ?_ ?_
  · refine r_goto g 215 dX6_mixPlaces_205 (by decide) ?_
    refine r_msk [true, true, false] rfl ?_
    exact tX6_mixPlaces_215 g hk118
  · refine r_aload_n g dX6_mixPlaces_169 rfl ?_
    refine r_aload_n g dX6_mixPlaces_170 rfl ?_
    refine r_getC (c0 := 9) g KX6 shm_0 12 rfl (by decide) w_882 dX6_mixPlaces_171 ?_
    refine r_iconst g dX6_mixPlaces_174 ?_
    refine r_iload_n g dX6_mixPlaces_175 rfl ?_
    refine r_imul g dX6_mixPlaces_176 ?_
    refine r_iload_n g dX6_mixPlaces_177 rfl ?_
    refine r_iadd g dX6_mixPlaces_178 ?_
    refine r_iald g shm_9 (by decide) dX6_mixPlaces_179 ?_
    intro z5_
    refine r_i2l g dX6_mixPlaces_180 ?_
    refine r_callV_WV (q := 0) (as := fun b => [vl z5_]) g (kX6_mix S z5_) mX6_mix shm_0 rfl w_1415 w_1417 w_70 (by decide) (fun _ => rfl) rfl (Nat.le_of_ble_eq_true rfl) dX6_mixPlaces_181 ?_
    intro S6_
    refine r_aload_n g dX6_mixPlaces_184 rfl ?_
    refine r_aload_n g dX6_mixPlaces_185 rfl ?_
    refine r_getC (c0 := 10) g KX6 shm_0 13 rfl (by decide) w_883 dX6_mixPlaces_186 ?_
    refine r_iconst g dX6_mixPlaces_189 ?_
    refine r_iload_n g dX6_mixPlaces_190 rfl ?_
    refine r_imul g dX6_mixPlaces_191 ?_
    refine r_iload_n g dX6_mixPlaces_192 rfl ?_
    refine r_iadd g dX6_mixPlaces_193 ?_
    refine r_iald g shm_10 (by decide) dX6_mixPlaces_194 ?_
    intro z7_
    refine r_i2l g dX6_mixPlaces_195 ?_
    refine r_callV_WV (q := 0) (as := fun b => [vl z7_]) g (kX6_mix S6_ z7_) mX6_mix shm_0 rfl w_1415 w_1417 w_70 (by decide) (fun _ => rfl) rfl (Nat.le_of_ble_eq_true rfl) dX6_mixPlaces_196 ?_
    intro S8_
    refine r_iinc g dX6_mixPlaces_199 (by decide) rfl ?_
    intro x2_9_
    change Rg _ _ _ _ _ _ _ [some (vr G 0), some (vi x1), some (vi x2_9_)] _ _
    refine r_goto g 159 dX6_mixPlaces_202 (by decide) ?_
    exact hk159 _ _
theorem tX6_mixPlaces_159 {G : Gx} {k118 : St → Int → Option (St)} {x1 : Int} (g : Ok G cX6_mixPlaces RX6 3 { frames := 1, cells := 0, slots := 0, locals := 22 } none) (hk118 : ∀ (S' : St) (x1' : Int), Rg G oVS id (SHM, 0, 0) (SHM, 0, 0) S' 118 [some (vr G 0), some (vi (x1')), none] [] (k118 S' x1'))  : ∀ (n_ : Nat) (S : St) (x2 : Int), Rg G oVS id (SHM, 0, 0) (SHM, 0, 0) S 159 [some (vr G 0), some (vi x1), some (vi x2)] [] (lo2 (pX6_mixPlaces_159B k118 x1) n_ S x2) := by
  intro n_
  induction n_ with
  | zero => intro S x2; exact r_none
  | succ n_ ih => intro S x2; exact tX6_mixPlaces_159B g hk118  ih
theorem tX6_mixPlaces_135B {G : Gx} {k118 : St → Int → Option (St)} {x1 : Int} (g : Ok G cX6_mixPlaces RX6 3 { frames := 1, cells := 0, slots := 0, locals := 22 } none) (hk118 : ∀ (S' : St) (x1' : Int), Rg G oVS id (SHM, 0, 0) (SHM, 0, 0) S' 118 [some (vr G 0), some (vi (x1')), none] [] (k118 S' x1'))  {k135 : St → Int → Option (St)} (hk135 : ∀ (S' : St) (x2' : Int), Rg G oVS id (SHM, 0, 0) (SHM, 0, 0) S' 135 [some (vr G 0), some (vi x1), some (vi (x2'))] [] (k135 S' x2')) {S : St} {x2 : Int} : Rg G oVS id (SHM, 0, 0) (SHM, 0, 0) S 135 [some (vr G 0), some (vi x1), some (vi x2)] [] (pX6_mixPlaces_135B k118 x1 k135 S x2) := by
  unfold pX6_mixPlaces_135B
  refine r_iload_n g dX6_mixPlaces_135 rfl ?_
  refine r_iconst g dX6_mixPlaces_136 ?_
  refine r_icmp_ge g 157 dX6_mixPlaces_137 (by decide) ?_ ?_
  · refine r_iconst g dX6_mixPlaces_157 ?_
    refine r_istore_n g 2 dX6_mixPlaces_158 rfl (by decide) rfl ?_
    exact tX6_mixPlaces_159 g hk118 _ _ _
  · refine r_aload_n g dX6_mixPlaces_140 rfl ?_
    refine r_aload_n g dX6_mixPlaces_141 rfl ?_
    refine r_iload_n g dX6_mixPlaces_142 rfl ?_
    refine r_iload_n g dX6_mixPlaces_143 rfl ?_
    refine r_callV_PI (q := 0) (as := fun b => [vi x1, vi x2]) g (kX6_stuffTells S x1 x2) mX6_stuffTells shm_0 rfl w_1133 w_1135 w_37 (by decide) (fun _ => rfl) rfl (Nat.le_of_ble_eq_true rfl) dX6_mixPlaces_144 ?_
    intro z10_
    refine r_i2l g dX6_mixPlaces_147 ?_
    refine r_callV_WV (q := 0) (as := fun b => [vl z10_]) g (kX6_mix S z10_) mX6_mix shm_0 rfl w_1415 w_1417 w_70 (by decide) (fun _ => rfl) rfl (Nat.le_of_ble_eq_true rfl) dX6_mixPlaces_148 ?_
    intro S11_
    refine r_iinc g dX6_mixPlaces_151 (by decide) rfl ?_
    intro x2_12_
    change Rg _ _ _ _ _ _ _ [some (vr G 0), some (vi x1), some (vi x2_12_)] _ _
    refine r_goto g 135 dX6_mixPlaces_154 (by decide) ?_
    exact hk135 _ _
theorem tX6_mixPlaces_135 {G : Gx} {k118 : St → Int → Option (St)} {x1 : Int} (g : Ok G cX6_mixPlaces RX6 3 { frames := 1, cells := 0, slots := 0, locals := 22 } none) (hk118 : ∀ (S' : St) (x1' : Int), Rg G oVS id (SHM, 0, 0) (SHM, 0, 0) S' 118 [some (vr G 0), some (vi (x1')), none] [] (k118 S' x1'))  : ∀ (n_ : Nat) (S : St) (x2 : Int), Rg G oVS id (SHM, 0, 0) (SHM, 0, 0) S 135 [some (vr G 0), some (vi x1), some (vi x2)] [] (lo2 (pX6_mixPlaces_135B k118 x1) n_ S x2) := by
  intro n_
  induction n_ with
  | zero => intro S x2; exact r_none
  | succ n_ ih => intro S x2; exact tX6_mixPlaces_135B g hk118  ih
theorem tX6_mixPlaces_118B {G : Gx}  (g : Ok G cX6_mixPlaces RX6 3 { frames := 1, cells := 0, slots := 0, locals := 22 } none)   {k118 : St → Int → Option (St)} (hk118 : ∀ (S' : St) (x1' : Int), Rg G oVS id (SHM, 0, 0) (SHM, 0, 0) S' 118 [some (vr G 0), some (vi (x1')), none] [] (k118 S' x1')) {S : St} {x1 : Int} : Rg G oVS id (SHM, 0, 0) (SHM, 0, 0) S 118 [some (vr G 0), some (vi x1), none] [] (pX6_mixPlaces_118B k118 S x1) := by
  unfold pX6_mixPlaces_118B
  refine r_iload_n g dX6_mixPlaces_118 rfl ?_
  refine r_bipush g dX6_mixPlaces_119 (by decide) ?_
  refine r_icmp_ge g 221 dX6_mixPlaces_121 (by decide) ?_ ?_
  · exact r_vret g dX6_mixPlaces_221 rfl rfl
  · refine r_aload_n g dX6_mixPlaces_124 rfl ?_
    refine r_getC (c0 := 7) g KX6 shm_0 10 rfl (by decide) w_880 dX6_mixPlaces_125 ?_
    refine r_iload_n g dX6_mixPlaces_128 rfl ?_
    refine r_zald g shm_7 (by decide) dX6_mixPlaces_129 ?_
    intro z1_
    refine r_if_eq g 208 dX6_mixPlaces_130 (by decide) ?_ ?_
    · refine r_aload_n g dX6_mixPlaces_208 rfl ?_
      refine r_ldc2 (x := (-1)) g dX6_mixPlaces_209 w_1322 (by decide) ?_
      refine r_callV_WV (q := 0) (as := fun b => [vl ((-1))]) g (kX6_mix S ((-1))) mX6_mix shm_0 rfl w_1415 w_1417 w_70 (by decide) (fun _ => rfl) rfl (Nat.le_of_ble_eq_true rfl) dX6_mixPlaces_212 ?_
      intro S2_
      exact tX6_mixPlaces_215 g hk118
    · refine r_iconst g dX6_mixPlaces_133 ?_
      refine r_istore_n g 2 dX6_mixPlaces_134 rfl (by decide) rfl ?_
      exact tX6_mixPlaces_135 g hk118 _ _ _
theorem tX6_mixPlaces_118 {G : Gx}  (g : Ok G cX6_mixPlaces RX6 3 { frames := 1, cells := 0, slots := 0, locals := 22 } none)   : ∀ (n_ : Nat) (S : St) (x1 : Int), Rg G oVS id (SHM, 0, 0) (SHM, 0, 0) S 118 [some (vr G 0), some (vi x1), none] [] (lo2 (pX6_mixPlaces_118B) n_ S x1) := by
  intro n_
  induction n_ with
  | zero => intro S x1; exact r_none
  | succ n_ ih => intro S x1; exact tX6_mixPlaces_118B g   ih
theorem tX6_mixPlaces_110 {G : Gx} {k2 : St → Int → Option (St)} {S : St} {x1 : Int} (g : Ok G cX6_mixPlaces RX6 3 { frames := 1, cells := 0, slots := 0, locals := 22 } none) (hk2 : ∀ (S' : St) (x1' : Int), Rg G oVS id (SHM, 0, 0) (SHM, 0, 0) S' 2 [some (vr G 0), some (vi (x1')), none] [] (k2 S' x1'))  : Rg G oVS id (SHM, 0, 0) (SHM, 0, 0) S 110 [some (vr G 0), some (vi x1), none] [] (pX6_mixPlaces_110 k2 S x1) := by
  unfold pX6_mixPlaces_110
  refine r_iinc g dX6_mixPlaces_110 (by decide) rfl ?_
  intro x1_17_
  change Rg _ _ _ _ _ _ _ [some (vr G 0), some (vi x1_17_), none] _ _
  refine r_goto g 2 dX6_mixPlaces_113 (by decide) ?_
  exact hk2 _ _
theorem tX6_mixPlaces_97 {G : Gx} {k2 : St → Int → Option (St)} {S : St} {x1 : Int} {s0 : Int} (g : Ok G cX6_mixPlaces RX6 3 { frames := 1, cells := 0, slots := 0, locals := 22 } none) (hk2 : ∀ (S' : St) (x1' : Int), Rg G oVS id (SHM, 0, 0) (SHM, 0, 0) S' 2 [some (vr G 0), some (vi (x1')), none] [] (k2 S' x1'))  : Rg G oVS id (SHM, 0, 0) (SHM, 0, 0) S 97 [some (vr G 0), some (vi x1), none] [vl s0, vr G 0] (pX6_mixPlaces_97 k2 S x1 s0) := by
  unfold pX6_mixPlaces_97
  refine r_callV_WV (q := 0) (as := fun b => [vl s0]) g (kX6_mix S s0) mX6_mix shm_0 rfl w_1415 w_1417 w_70 (by decide) (fun _ => rfl) rfl (Nat.le_of_ble_eq_true rfl) dX6_mixPlaces_97 ?_
  intro S21_
  refine r_goto g 110 dX6_mixPlaces_100 (by decide) ?_
  exact tX6_mixPlaces_110 g hk2
theorem tX6_mixPlaces_72 {G : Gx} {k2 : St → Int → Option (St)} {S : St} {x1 : Int} {s0 : Int} (g : Ok G cX6_mixPlaces RX6 3 { frames := 1, cells := 0, slots := 0, locals := 22 } none) (hk2 : ∀ (S' : St) (x1' : Int), Rg G oVS id (SHM, 0, 0) (SHM, 0, 0) S' 2 [some (vr G 0), some (vi (x1')), none] [] (k2 S' x1'))  : Rg G oVS id (SHM, 0, 0) (SHM, 0, 0) S 72 [some (vr G 0), some (vi x1), none] [vl s0, vr G 0] (pX6_mixPlaces_72 k2 S x1 s0) := by
  unfold pX6_mixPlaces_72
  refine r_callV_WV (q := 0) (as := fun b => [vl s0]) g (kX6_mix S s0) mX6_mix shm_0 rfl w_1415 w_1417 w_70 (by decide) (fun _ => rfl) rfl (Nat.le_of_ble_eq_true rfl) dX6_mixPlaces_72 ?_
  intro S19_
  refine r_aload_n g dX6_mixPlaces_75 rfl ?_
  refine r_aload_n g dX6_mixPlaces_76 rfl ?_
  refine r_iload_n g dX6_mixPlaces_77 rfl ?_
  refine r_callV_PI (q := 0) (as := fun b => [vi x1]) g (kX6_isRing S19_ x1) mX6_isRing shm_0 rfl w_1191 w_1193 w_45 (by decide) (fun _ => rfl) rfl (Nat.le_of_ble_eq_true rfl) dX6_mixPlaces_78 ?_
  intro z20_
  refine r_if_eq g 94 dX6_mixPlaces_81 (by decide) ?_ ?_
  · refine r_ldc2 (x := (-1)) g dX6_mixPlaces_94 w_1322 (by decide) ?_
    exact tX6_mixPlaces_97 g hk2
  · refine r_aload_n g dX6_mixPlaces_84 rfl ?_
    refine r_getC (c0 := 23) g KX6 shm_0 31 rfl (by decide) w_901 dX6_mixPlaces_85 ?_
    refine r_iload_n g dX6_mixPlaces_88 rfl ?_
    refine r_iald g shm_23 (by decide) dX6_mixPlaces_89 ?_
    intro z22_
    refine r_i2l g dX6_mixPlaces_90 ?_
    refine r_goto g 97 dX6_mixPlaces_91 (by decide) ?_
    exact tX6_mixPlaces_97 g hk2
theorem tX6_mixPlaces_28B {G : Gx} {k2 : St → Int → Option (St)} {x1 : Int} (g : Ok G cX6_mixPlaces RX6 3 { frames := 1, cells := 0, slots := 0, locals := 22 } none) (hk2 : ∀ (S' : St) (x1' : Int), Rg G oVS id (SHM, 0, 0) (SHM, 0, 0) S' 2 [some (vr G 0), some (vi (x1')), none] [] (k2 S' x1'))  {k28 : St → Int → Option (St)} (hk28 : ∀ (S' : St) (x2' : Int), Rg G oVS id (SHM, 0, 0) (SHM, 0, 0) S' 28 [some (vr G 0), some (vi x1), some (vi (x2'))] [] (k28 S' x2')) {S : St} {x2 : Int} : Rg G oVS id (SHM, 0, 0) (SHM, 0, 0) S 28 [some (vr G 0), some (vi x1), some (vi x2)] [] (pX6_mixPlaces_28B k2 x1 k28 S x2) := by
  unfold pX6_mixPlaces_28B
  refine r_iload_n g dX6_mixPlaces_28 rfl ?_
  refine r_iconst g dX6_mixPlaces_29 ?_
  refine r_icmp_ge g 50 dX6_mixPlaces_30 (by decide) ?_ ?_
  · refine r_aload_n g dX6_mixPlaces_50 rfl ?_
    refine r_aload_n g dX6_mixPlaces_51 rfl ?_
    refine r_iload_n g dX6_mixPlaces_52 rfl ?_
    refine r_callV_PI (q := 0) (as := fun b => [vi x1]) g (kX6_isRubber S x1) mX6_isRubber shm_0 rfl w_1210 w_1212 w_47 (by decide) (fun _ => rfl) rfl (Nat.le_of_ble_eq_true rfl) dX6_mixPlaces_53 ?_
    intro z18_
    refine r_if_eq g 69 dX6_mixPlaces_56 (by decide) ?_ ?_
    · refine r_ldc2 (x := (-1)) g dX6_mixPlaces_69 w_1322 (by decide) ?_
      refine r_msk [true, true, false] rfl ?_
      exact tX6_mixPlaces_72 g hk2
    · refine r_aload_n g dX6_mixPlaces_59 rfl ?_
      refine r_getC (c0 := 19) g KX6 shm_0 27 rfl (by decide) w_897 dX6_mixPlaces_60 ?_
      refine r_iload_n g dX6_mixPlaces_63 rfl ?_
      refine r_iald g shm_19 (by decide) dX6_mixPlaces_64 ?_
      intro z23_
      refine r_i2l g dX6_mixPlaces_65 ?_
      refine r_goto g 72 dX6_mixPlaces_66 (by decide) ?_
      refine r_msk [true, true, false] rfl ?_
      exact tX6_mixPlaces_72 g hk2
  · refine r_aload_n g dX6_mixPlaces_33 rfl ?_
    refine r_aload_n g dX6_mixPlaces_34 rfl ?_
    refine r_iload_n g dX6_mixPlaces_35 rfl ?_
    refine r_iload_n g dX6_mixPlaces_36 rfl ?_
    refine r_callV_PI (q := 0) (as := fun b => [vi x1, vi x2]) g (kX6_sealTells S x1 x2) mX6_sealTells shm_0 rfl w_1202 w_1204 w_46 (by decide) (fun _ => rfl) rfl (Nat.le_of_ble_eq_true rfl) dX6_mixPlaces_37 ?_
    intro z24_
    refine r_i2l g dX6_mixPlaces_40 ?_
    refine r_callV_WV (q := 0) (as := fun b => [vl z24_]) g (kX6_mix S z24_) mX6_mix shm_0 rfl w_1415 w_1417 w_70 (by decide) (fun _ => rfl) rfl (Nat.le_of_ble_eq_true rfl) dX6_mixPlaces_41 ?_
    intro S25_
    refine r_iinc g dX6_mixPlaces_44 (by decide) rfl ?_
    intro x2_26_
    change Rg _ _ _ _ _ _ _ [some (vr G 0), some (vi x1), some (vi x2_26_)] _ _
    refine r_goto g 28 dX6_mixPlaces_47 (by decide) ?_
    exact hk28 _ _
theorem tX6_mixPlaces_28 {G : Gx} {k2 : St → Int → Option (St)} {x1 : Int} (g : Ok G cX6_mixPlaces RX6 3 { frames := 1, cells := 0, slots := 0, locals := 22 } none) (hk2 : ∀ (S' : St) (x1' : Int), Rg G oVS id (SHM, 0, 0) (SHM, 0, 0) S' 2 [some (vr G 0), some (vi (x1')), none] [] (k2 S' x1'))  : ∀ (n_ : Nat) (S : St) (x2 : Int), Rg G oVS id (SHM, 0, 0) (SHM, 0, 0) S 28 [some (vr G 0), some (vi x1), some (vi x2)] [] (lo2 (pX6_mixPlaces_28B k2 x1) n_ S x2) := by
  intro n_
  induction n_ with
  | zero => intro S x2; exact r_none
  | succ n_ ih => intro S x2; exact tX6_mixPlaces_28B g hk2  ih
theorem tX6_mixPlaces_2B {G : Gx}  (g : Ok G cX6_mixPlaces RX6 3 { frames := 1, cells := 0, slots := 0, locals := 22 } none)   {k2 : St → Int → Option (St)} (hk2 : ∀ (S' : St) (x1' : Int), Rg G oVS id (SHM, 0, 0) (SHM, 0, 0) S' 2 [some (vr G 0), some (vi (x1')), none] [] (k2 S' x1')) {S : St} {x1 : Int} : Rg G oVS id (SHM, 0, 0) (SHM, 0, 0) S 2 [some (vr G 0), some (vi x1), none] [] (pX6_mixPlaces_2B k2 S x1) := by
  unfold pX6_mixPlaces_2B
  refine r_iload_n g dX6_mixPlaces_2 rfl ?_
  refine r_iconst g dX6_mixPlaces_3 ?_
  refine r_icmp_ge g 116 dX6_mixPlaces_4 (by decide) ?_ ?_
  · refine r_iconst g dX6_mixPlaces_116 ?_
    refine r_istore_n g 1 dX6_mixPlaces_117 rfl (by decide) rfl ?_
    exact tX6_mixPlaces_118 g _ _ _
  · refine r_aload_n g dX6_mixPlaces_7 rfl ?_
    refine r_aload_n g dX6_mixPlaces_8 rfl ?_
    refine r_getC (c0 := 25) g KX6 shm_0 33 rfl (by decide) w_903 dX6_mixPlaces_9 ?_
    refine r_iload_n g dX6_mixPlaces_12 rfl ?_
    refine r_iald g shm_25 (by decide) dX6_mixPlaces_13 ?_
    intro z13_
    refine r_i2l g dX6_mixPlaces_14 ?_
    refine r_callV_WV (q := 0) (as := fun b => [vl z13_]) g (kX6_mix S z13_) mX6_mix shm_0 rfl w_1415 w_1417 w_70 (by decide) (fun _ => rfl) rfl (Nat.le_of_ble_eq_true rfl) dX6_mixPlaces_15 ?_
    intro S14_
    refine r_aload_n g dX6_mixPlaces_18 rfl ?_
    refine r_iload_n g dX6_mixPlaces_19 rfl ?_
    refine r_callV_PI (q := 0) (as := fun b => [vi x1]) g (kX6_isSeal S14_ x1) mX6_isSeal shm_0 rfl w_1179 w_1181 w_44 (by decide) (fun _ => rfl) rfl (Nat.le_of_ble_eq_true rfl) dX6_mixPlaces_20 ?_
    intro z15_
    refine r_if_eq g 103 dX6_mixPlaces_23 (by decide) ?_ ?_
    · refine r_aload_n g dX6_mixPlaces_103 rfl ?_
      refine r_ldc2 (x := (-1)) g dX6_mixPlaces_104 w_1322 (by decide) ?_
      refine r_callV_WV (q := 0) (as := fun b => [vl ((-1))]) g (kX6_mix S14_ ((-1))) mX6_mix shm_0 rfl w_1415 w_1417 w_70 (by decide) (fun _ => rfl) rfl (Nat.le_of_ble_eq_true rfl) dX6_mixPlaces_107 ?_
      intro S16_
      exact tX6_mixPlaces_110 g hk2
    · refine r_iconst g dX6_mixPlaces_26 ?_
      refine r_istore_n g 2 dX6_mixPlaces_27 rfl (by decide) rfl ?_
      exact tX6_mixPlaces_28 g hk2 _ _ _
theorem tX6_mixPlaces_2 {G : Gx}  (g : Ok G cX6_mixPlaces RX6 3 { frames := 1, cells := 0, slots := 0, locals := 22 } none)   : ∀ (n_ : Nat) (S : St) (x1 : Int), Rg G oVS id (SHM, 0, 0) (SHM, 0, 0) S 2 [some (vr G 0), some (vi x1), none] [] (lo2 (pX6_mixPlaces_2B) n_ S x1) := by
  intro n_
  induction n_ with
  | zero => intro S x1; exact r_none
  | succ n_ ih => intro S x1; exact tX6_mixPlaces_2B g   ih
theorem kX6_mixPlaces (S : St)  : Con yX6_mixPlaces cX6_mixPlaces 3 none { frames := 1, cells := 0, slots := 0, locals := 22 } false SHM (SHM, 0, 0) (fun b => [.ref (b + 0)]) S (fun _ => oVS) id (pX6_mixPlaces S) := by
  refine Con_of (fun b => [some (.ref (b + 0)), none, none]) (by decide) (fun _ => rfl) (fun _ => Nat.le_of_ble_eq_true rfl) ?_
  intro G g _ _ _
  change Ok G cX6_mixPlaces RX6 3 { frames := 1, cells := 0, slots := 0, locals := 22 } none at g
  show Rg G oVS id (SHM, 0, 0) (SHM, 0, 0) S 0 [some (vr G 0), none, none] [] (pX6_mixPlaces S)
  unfold pX6_mixPlaces
  refine r_iconst g dX6_mixPlaces_0 ?_
  refine r_istore_n g 1 dX6_mixPlaces_1 rfl (by decide) rfl ?_
  exact tX6_mixPlaces_2 g _ _ _
theorem tX6_digest_145B {G : Gx} {k127 : St → Int → Option (Int × St)} {x1 : Int} (g : Ok G cX6_digest RX6 3 { frames := 2, cells := 0, slots := 0, locals := 45 } (some .long)) (hk127 : ∀ (S' : St) (x1' : Int), Rg G oLS (fun v => v.2) (SHM, 0, 0) (SHM, 0, 0) S' 127 [some (vr G 0), some (vi (x1')), none] [] (k127 S' x1'))  {k145 : St → Int → Option (Int × St)} (hk145 : ∀ (S' : St) (x2' : Int), Rg G oLS (fun v => v.2) (SHM, 0, 0) (SHM, 0, 0) S' 145 [some (vr G 0), some (vi x1), some (vi (x2'))] [] (k145 S' x2')) {S : St} {x2 : Int} : Rg G oLS (fun v => v.2) (SHM, 0, 0) (SHM, 0, 0) S 145 [some (vr G 0), some (vi x1), some (vi x2)] [] (pX6_digest_145B k127 x1 k145 S x2) := by
  unfold pX6_digest_145B
  refine r_iload_n g dX6_digest_145 rfl ?_
  refine r_aload_n g dX6_digest_146 rfl ?_
  refine r_getC (c0 := 5) g KX6 shm_0 8 rfl (by decide) w_878 dX6_digest_147 ?_
  refine r_iload_n g dX6_digest_150 rfl ?_
  refine r_iald g shm_5 (by decide) dX6_digest_151 ?_
  intro z9_
  refine r_icmp_ge g 172 dX6_digest_152 (by decide) ?_ ?_
  · refine r_iinc g dX6_digest_172 (by decide) rfl ?_
    intro x1_10_
    change Rg _ _ _ _ _ _ _ [some (vr G 0), some (vi x1_10_), some (vi x2)] _ _
    refine r_goto g 127 dX6_digest_175 (by decide) ?_
    refine r_msk [true, true, false] rfl ?_
    exact hk127 _ _
  · refine r_aload_n g dX6_digest_155 rfl ?_
    refine r_aload_n g dX6_digest_156 rfl ?_
    refine r_iload_n g dX6_digest_157 rfl ?_
    refine r_iload_n g dX6_digest_158 rfl ?_
    refine r_callV_PI (q := 0) (as := fun b => [vi x1, vi x2]) g (kX6_byteAt S x1 x2) mX6_byteAt shm_0 rfl w_1102 w_1104 w_32 (by decide) (fun _ => rfl) rfl (Nat.le_of_ble_eq_true rfl) dX6_digest_159 ?_
    intro z11_
    refine r_i2l g dX6_digest_162 ?_
    refine r_callV_WV (q := 0) (as := fun b => [vl z11_]) g (kX6_mix S z11_) mX6_mix shm_0 rfl w_1415 w_1417 w_70 (by decide) (fun _ => rfl) rfl (Nat.le_of_ble_eq_true rfl) dX6_digest_163 ?_
    intro S12_
    refine r_iinc g dX6_digest_166 (by decide) rfl ?_
    intro x2_13_
    change Rg _ _ _ _ _ _ _ [some (vr G 0), some (vi x1), some (vi x2_13_)] _ _
    refine r_goto g 145 dX6_digest_169 (by decide) ?_
    exact hk145 _ _
theorem tX6_digest_145 {G : Gx} {k127 : St → Int → Option (Int × St)} {x1 : Int} (g : Ok G cX6_digest RX6 3 { frames := 2, cells := 0, slots := 0, locals := 45 } (some .long)) (hk127 : ∀ (S' : St) (x1' : Int), Rg G oLS (fun v => v.2) (SHM, 0, 0) (SHM, 0, 0) S' 127 [some (vr G 0), some (vi (x1')), none] [] (k127 S' x1'))  : ∀ (n_ : Nat) (S : St) (x2 : Int), Rg G oLS (fun v => v.2) (SHM, 0, 0) (SHM, 0, 0) S 145 [some (vr G 0), some (vi x1), some (vi x2)] [] (lo2 (pX6_digest_145B k127 x1) n_ S x2) := by
  intro n_
  induction n_ with
  | zero => intro S x2; exact r_none
  | succ n_ ih => intro S x2; exact tX6_digest_145B g hk127  ih
theorem tX6_digest_127B {G : Gx}  (g : Ok G cX6_digest RX6 3 { frames := 2, cells := 0, slots := 0, locals := 45 } (some .long))   {k127 : St → Int → Option (Int × St)} (hk127 : ∀ (S' : St) (x1' : Int), Rg G oLS (fun v => v.2) (SHM, 0, 0) (SHM, 0, 0) S' 127 [some (vr G 0), some (vi (x1')), none] [] (k127 S' x1')) {S : St} {x1 : Int} : Rg G oLS (fun v => v.2) (SHM, 0, 0) (SHM, 0, 0) S 127 [some (vr G 0), some (vi x1), none] [] (pX6_digest_127B k127 S x1) := by
  unfold pX6_digest_127B
  refine r_iload_n g dX6_digest_127 rfl ?_
  refine r_iconst g dX6_digest_128 ?_
  refine r_icmp_ge g 178 dX6_digest_129 (by decide) ?_ ?_
  · refine r_aload_n g dX6_digest_178 rfl ?_
    refine r_getL g KX6 shm_0 50 rfl (by decide) w_920 dX6_digest_179 ?_
    exact r_lret g dX6_digest_182 rfl rfl
  · refine r_aload_n g dX6_digest_132 rfl ?_
    refine r_aload_n g dX6_digest_133 rfl ?_
    refine r_getC (c0 := 5) g KX6 shm_0 8 rfl (by decide) w_878 dX6_digest_134 ?_
    refine r_iload_n g dX6_digest_137 rfl ?_
    refine r_iald g shm_5 (by decide) dX6_digest_138 ?_
    intro z7_
    refine r_i2l g dX6_digest_139 ?_
    refine r_callV_WV (q := 0) (as := fun b => [vl z7_]) g (kX6_mix S z7_) mX6_mix shm_0 rfl w_1415 w_1417 w_70 (by decide) (fun _ => rfl) rfl (Nat.le_of_ble_eq_true rfl) dX6_digest_140 ?_
    intro S8_
    refine r_iconst g dX6_digest_143 ?_
    refine r_istore_n g 2 dX6_digest_144 rfl (by decide) rfl ?_
    exact tX6_digest_145 g hk127 _ _ _
theorem tX6_digest_127 {G : Gx}  (g : Ok G cX6_digest RX6 3 { frames := 2, cells := 0, slots := 0, locals := 45 } (some .long))   : ∀ (n_ : Nat) (S : St) (x1 : Int), Rg G oLS (fun v => v.2) (SHM, 0, 0) (SHM, 0, 0) S 127 [some (vr G 0), some (vi x1), none] [] (lo2 (pX6_digest_127B) n_ S x1) := by
  intro n_
  induction n_ with
  | zero => intro S x1; exact r_none
  | succ n_ ih => intro S x1; exact tX6_digest_127B g   ih
theorem tX6_digest_92B {G : Gx} {k73 : St → Int → Option (Int × St)} {x1 : Int} (g : Ok G cX6_digest RX6 3 { frames := 2, cells := 0, slots := 0, locals := 45 } (some .long)) (hk73 : ∀ (S' : St) (x1' : Int), Rg G oLS (fun v => v.2) (SHM, 0, 0) (SHM, 0, 0) S' 73 [some (vr G 0), some (vi (x1')), none] [] (k73 S' x1'))  {k92 : St → Int → Option (Int × St)} (hk92 : ∀ (S' : St) (x2' : Int), Rg G oLS (fun v => v.2) (SHM, 0, 0) (SHM, 0, 0) S' 92 [some (vr G 0), some (vi x1), some (vi (x2'))] [] (k92 S' x2')) {S : St} {x2 : Int} : Rg G oLS (fun v => v.2) (SHM, 0, 0) (SHM, 0, 0) S 92 [some (vr G 0), some (vi x1), some (vi x2)] [] (pX6_digest_92B k73 x1 k92 S x2) := by
  unfold pX6_digest_92B
  refine r_iload_n g dX6_digest_92 rfl ?_
  refine r_aload_n g dX6_digest_93 rfl ?_
  refine r_getC (c0 := 2) g KX6 shm_0 5 rfl (by decide) w_875 dX6_digest_94 ?_
  refine r_iload_n g dX6_digest_97 rfl ?_
  refine r_iald g shm_2 (by decide) dX6_digest_98 ?_
  intro z16_
  refine r_icmp_ge g 119 dX6_digest_99 (by decide) ?_ ?_
  · refine r_iinc g dX6_digest_119 (by decide) rfl ?_
    intro x1_17_
    change Rg _ _ _ _ _ _ _ [some (vr G 0), some (vi x1_17_), some (vi x2)] _ _
    refine r_goto g 73 dX6_digest_122 (by decide) ?_
    refine r_msk [true, true, false] rfl ?_
    exact hk73 _ _
  · refine r_aload_n g dX6_digest_102 rfl ?_
    refine r_aload_n g dX6_digest_103 rfl ?_
    refine r_iload_n g dX6_digest_104 rfl ?_
    refine r_iload_n g dX6_digest_105 rfl ?_
    refine r_callV_PI (q := 0) (as := fun b => [vi x1, vi x2]) g (kX6_rowAt S x1 x2) mX6_rowAt shm_0 rfl w_1063 w_1065 w_29 (by decide) (fun _ => rfl) rfl (Nat.le_of_ble_eq_true rfl) dX6_digest_106 ?_
    intro z18_
    refine r_i2l g dX6_digest_109 ?_
    refine r_callV_WV (q := 0) (as := fun b => [vl z18_]) g (kX6_mix S z18_) mX6_mix shm_0 rfl w_1415 w_1417 w_70 (by decide) (fun _ => rfl) rfl (Nat.le_of_ble_eq_true rfl) dX6_digest_110 ?_
    intro S19_
    refine r_iinc g dX6_digest_113 (by decide) rfl ?_
    intro x2_20_
    change Rg _ _ _ _ _ _ _ [some (vr G 0), some (vi x1), some (vi x2_20_)] _ _
    refine r_goto g 92 dX6_digest_116 (by decide) ?_
    exact hk92 _ _
theorem tX6_digest_92 {G : Gx} {k73 : St → Int → Option (Int × St)} {x1 : Int} (g : Ok G cX6_digest RX6 3 { frames := 2, cells := 0, slots := 0, locals := 45 } (some .long)) (hk73 : ∀ (S' : St) (x1' : Int), Rg G oLS (fun v => v.2) (SHM, 0, 0) (SHM, 0, 0) S' 73 [some (vr G 0), some (vi (x1')), none] [] (k73 S' x1'))  : ∀ (n_ : Nat) (S : St) (x2 : Int), Rg G oLS (fun v => v.2) (SHM, 0, 0) (SHM, 0, 0) S 92 [some (vr G 0), some (vi x1), some (vi x2)] [] (lo2 (pX6_digest_92B k73 x1) n_ S x2) := by
  intro n_
  induction n_ with
  | zero => intro S x2; exact r_none
  | succ n_ ih => intro S x2; exact tX6_digest_92B g hk73  ih
theorem tX6_digest_73B {G : Gx}  (g : Ok G cX6_digest RX6 3 { frames := 2, cells := 0, slots := 0, locals := 45 } (some .long))   {k73 : St → Int → Option (Int × St)} (hk73 : ∀ (S' : St) (x1' : Int), Rg G oLS (fun v => v.2) (SHM, 0, 0) (SHM, 0, 0) S' 73 [some (vr G 0), some (vi (x1')), none] [] (k73 S' x1')) {S : St} {x1 : Int} : Rg G oLS (fun v => v.2) (SHM, 0, 0) (SHM, 0, 0) S 73 [some (vr G 0), some (vi x1), none] [] (pX6_digest_73B k73 S x1) := by
  unfold pX6_digest_73B
  refine r_iload_n g dX6_digest_73 rfl ?_
  refine r_bipush g dX6_digest_74 (by decide) ?_
  refine r_icmp_ge g 125 dX6_digest_76 (by decide) ?_ ?_
  · refine r_iconst g dX6_digest_125 ?_
    refine r_istore_n g 1 dX6_digest_126 rfl (by decide) rfl ?_
    exact tX6_digest_127 g _ _ _
  · refine r_aload_n g dX6_digest_79 rfl ?_
    refine r_aload_n g dX6_digest_80 rfl ?_
    refine r_getC (c0 := 2) g KX6 shm_0 5 rfl (by decide) w_875 dX6_digest_81 ?_
    refine r_iload_n g dX6_digest_84 rfl ?_
    refine r_iald g shm_2 (by decide) dX6_digest_85 ?_
    intro z14_
    refine r_i2l g dX6_digest_86 ?_
    refine r_callV_WV (q := 0) (as := fun b => [vl z14_]) g (kX6_mix S z14_) mX6_mix shm_0 rfl w_1415 w_1417 w_70 (by decide) (fun _ => rfl) rfl (Nat.le_of_ble_eq_true rfl) dX6_digest_87 ?_
    intro S15_
    refine r_iconst g dX6_digest_90 ?_
    refine r_istore_n g 2 dX6_digest_91 rfl (by decide) rfl ?_
    exact tX6_digest_92 g hk73 _ _ _
theorem tX6_digest_73 {G : Gx}  (g : Ok G cX6_digest RX6 3 { frames := 2, cells := 0, slots := 0, locals := 45 } (some .long))   : ∀ (n_ : Nat) (S : St) (x1 : Int), Rg G oLS (fun v => v.2) (SHM, 0, 0) (SHM, 0, 0) S 73 [some (vr G 0), some (vi x1), none] [] (lo2 (pX6_digest_73B) n_ S x1) := by
  intro n_
  induction n_ with
  | zero => intro S x1; exact r_none
  | succ n_ ih => intro S x1; exact tX6_digest_73B g   ih
theorem tX6_digest_9B {G : Gx}  (g : Ok G cX6_digest RX6 3 { frames := 2, cells := 0, slots := 0, locals := 45 } (some .long))   {k9 : St → Int → Option (Int × St)} (hk9 : ∀ (S' : St) (x1' : Int), Rg G oLS (fun v => v.2) (SHM, 0, 0) (SHM, 0, 0) S' 9 [some (vr G 0), some (vi (x1')), none] [] (k9 S' x1')) {S : St} {x1 : Int} : Rg G oLS (fun v => v.2) (SHM, 0, 0) (SHM, 0, 0) S 9 [some (vr G 0), some (vi x1), none] [] (pX6_digest_9B k9 S x1) := by
  unfold pX6_digest_9B
  refine r_iload_n g dX6_digest_9 rfl ?_
  refine r_bipush g dX6_digest_10 (by decide) ?_
  refine r_icmp_ge g 31 dX6_digest_12 (by decide) ?_ ?_
  · refine r_aload_n g dX6_digest_31 rfl ?_
    refine r_aload_n g dX6_digest_32 rfl ?_
    refine r_getI g KX6 shm_0 34 rfl (by decide) w_904 dX6_digest_33 ?_
    refine r_i2l g dX6_digest_36 ?_
    refine r_callV_WV (q := 0) (as := fun b => [vl (S 0 34)]) g (kX6_mix S (S 0 34)) mX6_mix shm_0 rfl w_1415 w_1417 w_70 (by decide) (fun _ => rfl) rfl (Nat.le_of_ble_eq_true rfl) dX6_digest_37 ?_
    intro S2_
    refine r_aload_n g dX6_digest_40 rfl ?_
    refine r_aload_n g dX6_digest_41 rfl ?_
    refine r_getI g KX6 shm_0 35 rfl (by decide) w_905 dX6_digest_42 ?_
    refine r_i2l g dX6_digest_45 ?_
    refine r_callV_WV (q := 0) (as := fun b => [vl (S2_ 0 35)]) g (kX6_mix S2_ (S2_ 0 35)) mX6_mix shm_0 rfl w_1415 w_1417 w_70 (by decide) (fun _ => rfl) rfl (Nat.le_of_ble_eq_true rfl) dX6_digest_46 ?_
    intro S3_
    refine r_aload_n g dX6_digest_49 rfl ?_
    refine r_aload_n g dX6_digest_50 rfl ?_
    refine r_getI g KX6 shm_0 36 rfl (by decide) w_906 dX6_digest_51 ?_
    refine r_i2l g dX6_digest_54 ?_
    refine r_callV_WV (q := 0) (as := fun b => [vl (S3_ 0 36)]) g (kX6_mix S3_ (S3_ 0 36)) mX6_mix shm_0 rfl w_1415 w_1417 w_70 (by decide) (fun _ => rfl) rfl (Nat.le_of_ble_eq_true rfl) dX6_digest_55 ?_
    intro S4_
    refine r_aload_n g dX6_digest_58 rfl ?_
    refine r_aload_n g dX6_digest_59 rfl ?_
    refine r_getI g KX6 shm_0 37 rfl (by decide) w_907 dX6_digest_60 ?_
    refine r_i2l g dX6_digest_63 ?_
    refine r_callV_WV (q := 0) (as := fun b => [vl (S4_ 0 37)]) g (kX6_mix S4_ (S4_ 0 37)) mX6_mix shm_0 rfl w_1415 w_1417 w_70 (by decide) (fun _ => rfl) rfl (Nat.le_of_ble_eq_true rfl) dX6_digest_64 ?_
    intro S5_
    refine r_aload_n g dX6_digest_67 rfl ?_
    refine r_callV_WV (q := 0) (as := fun b => []) g (kX6_mixPlaces S5_) mX6_mixPlaces shm_0 rfl w_1420 w_1422 w_71 (by decide) (fun _ => rfl) rfl (Nat.le_of_ble_eq_true rfl) dX6_digest_68 ?_
    intro S6_
    refine r_iconst g dX6_digest_71 ?_
    refine r_istore_n g 1 dX6_digest_72 rfl (by decide) rfl ?_
    exact tX6_digest_73 g _ _ _
  · refine r_aload_n g dX6_digest_15 rfl ?_
    refine r_aload_n g dX6_digest_16 rfl ?_
    refine r_iload_n g dX6_digest_17 rfl ?_
    refine r_callV_PI (q := 0) (as := fun b => [vi x1]) g (kX6_count S x1) mX6_count shm_0 rfl w_1414 w_1406 w_1407 (by decide) (fun _ => rfl) rfl (Nat.le_of_ble_eq_true rfl) dX6_digest_18 ?_
    intro z21_
    refine r_i2l g dX6_digest_21 ?_
    refine r_callV_WV (q := 0) (as := fun b => [vl z21_]) g (kX6_mix S z21_) mX6_mix shm_0 rfl w_1415 w_1417 w_70 (by decide) (fun _ => rfl) rfl (Nat.le_of_ble_eq_true rfl) dX6_digest_22 ?_
    intro S22_
    refine r_iinc g dX6_digest_25 (by decide) rfl ?_
    intro x1_23_
    change Rg _ _ _ _ _ _ _ [some (vr G 0), some (vi x1_23_), none] _ _
    refine r_goto g 9 dX6_digest_28 (by decide) ?_
    exact hk9 _ _
theorem tX6_digest_9 {G : Gx}  (g : Ok G cX6_digest RX6 3 { frames := 2, cells := 0, slots := 0, locals := 45 } (some .long))   : ∀ (n_ : Nat) (S : St) (x1 : Int), Rg G oLS (fun v => v.2) (SHM, 0, 0) (SHM, 0, 0) S 9 [some (vr G 0), some (vi x1), none] [] (lo2 (pX6_digest_9B) n_ S x1) := by
  intro n_
  induction n_ with
  | zero => intro S x1; exact r_none
  | succ n_ ih => intro S x1; exact tX6_digest_9B g   ih
theorem kX6_digest (S : St)  : Con yX6_digest cX6_digest 3 (some .long) { frames := 2, cells := 0, slots := 0, locals := 45 } false SHM (SHM, 0, 0) (fun b => [.ref (b + 0)]) S (fun _ => oLS) (fun v => v.2) (pX6_digest S) := by
  refine Con_of (fun b => [some (.ref (b + 0)), none, none]) (by decide) (fun _ => rfl) (fun _ => Nat.le_of_ble_eq_true rfl) ?_
  intro G g _ _ _
  change Ok G cX6_digest RX6 3 { frames := 2, cells := 0, slots := 0, locals := 45 } (some .long) at g
  show Rg G oLS (fun v => v.2) (SHM, 0, 0) (SHM, 0, 0) S 0 [some (vr G 0), none, none] [] (pX6_digest S)
  unfold pX6_digest
  refine r_aload_n g dX6_digest_0 rfl ?_
  refine r_ldc2 (x := 17) g dX6_digest_1 w_1413 (by decide) ?_
  refine r_putL g KX6 shm_0 50 rfl (by decide) rfl rfl w_920 dX6_digest_4 ?_
  intro S1_ _
  refine r_iconst g dX6_digest_7 ?_
  refine r_istore_n g 1 dX6_digest_8 rfl (by decide) rfl ?_
  exact tX6_digest_9 g _ _ _
