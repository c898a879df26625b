/-! the two worlds as they stand behind their constructors, and the words that the walks use -/
def SHC : List Sh := [.inl (5, [4, 5, 6, 7, 8, 9, 10, 16, 24, 25, 0, 0, 1, 1]), .inr (4, 6, 23, 2), .inr (4, 4, 35, 2), .inr (5, 6, 43, 3), .inr (6, 4, 61, 1), .inr (0, 4, 0, 0), .inr (0, 4, 0, 0), .inl (0, [11, 2, 0]), .inl (3, [12, 13, 0, 0, 0, 0, 0]), .inr (0, 5, 0, 0), .inr (0, 5, 0, 0), .inl (1, [15, 0]), .inr (0, 0, 0, 0), .inl (4, [17, 18, 19, 20, 21, 0, 0, 0, 1, 1, 22, 23]), .inr (3, 4, 0, 0), .inr (3, 4, 0, 0), .inr (0, 4, 0, 0), .inr (0, 4, 0, 0), .inr (5, 4, 0, 0), .inr (1, 4, 0, 0), .inr (0, 4, 0, 0), .inr (0, 6, 0, 0), .inr (0, 6, 0, 0), .inl (1, [27, 0]), .inr (0, 40, 0, 0), .inl (1, [29, 0]), .inr (0, 40, 0, 0), .inl (1, [31, 0]), .inr (0, 40, 0, 0), .inl (1, [33, 0]), .inr (0, 40, 0, 0), .inl (1, [35, 0]), .inr (0, 40, 0, 0), .inl (1, [37, 0]), .inr (0, 40, 0, 0), .inl (1, [39, 0]), .inr (0, 60, 0, 0), .inl (1, [41, 0]), .inr (0, 60, 0, 0), .inl (1, [43, 0]), .inr (0, 60, 0, 0), .inl (1, [45, 0]), .inr (0, 60, 0, 0), .inl (3, [47, 48, 0, 0, 0, 0, 0]), .inr (0, 5, 0, 0), .inr (0, 5, 0, 0), .inl (3, [50, 51, 0, 0, 0, 0, 0]), .inr (0, 5, 0, 0), .inr (0, 5, 0, 0), .inl (3, [53, 54, 0, 0, 0, 0, 0]), .inr (0, 5, 0, 0), .inr (0, 5, 0, 0), .inl (3, [56, 57, 0, 0, 0, 0, 0]), .inr (0, 5, 0, 0), .inr (0, 5, 0, 0), .inl (3, [59, 60, 0, 0, 0, 0, 0]), .inr (0, 5, 0, 0), .inr (0, 5, 0, 0), .inl (3, [62, 63, 0, 0, 0, 0, 0]), .inr (0, 5, 0, 0), .inr (0, 5, 0, 0), .inl (2, [0, 0, 0, 0, 0, 0, 0]), .inl (2, [0, 0, 0, 0, 0, 0, 0]), .inl (2, [0, 0, 0, 0, 0, 0, 0]), .inl (2, [0, 0, 0, 0, 0, 0, 0])]
theorem shc_0 : SHC[0]? = some (.inl (5, [4, 5, 6, 7, 8, 9, 10, 16, 24, 25, 0, 0, 1, 1])) := rfl
theorem shc_1 : SHC[1]? = some (.inr (4, 6, 23, 2)) := rfl
theorem shc_2 : SHC[2]? = some (.inr (4, 4, 35, 2)) := rfl
theorem shc_3 : SHC[3]? = some (.inr (5, 6, 43, 3)) := rfl
theorem shc_4 : SHC[4]? = some (.inr (6, 4, 61, 1)) := rfl
theorem shc_5 : SHC[5]? = some (.inr (0, 4, 0, 0)) := rfl
theorem shc_6 : SHC[6]? = some (.inr (0, 4, 0, 0)) := rfl
theorem shc_7 : SHC[7]? = some (.inl (0, [11, 2, 0])) := rfl
theorem shc_8 : SHC[8]? = some (.inl (3, [12, 13, 0, 0, 0, 0, 0])) := rfl
theorem shc_9 : SHC[9]? = some (.inr (0, 5, 0, 0)) := rfl
theorem shc_10 : SHC[10]? = some (.inr (0, 5, 0, 0)) := rfl
theorem shc_11 : SHC[11]? = some (.inl (1, [15, 0])) := rfl
theorem shc_12 : SHC[12]? = some (.inr (0, 0, 0, 0)) := rfl
theorem shc_13 : SHC[13]? = some (.inl (4, [17, 18, 19, 20, 21, 0, 0, 0, 1, 1, 22, 23])) := rfl
theorem shc_14 : SHC[14]? = some (.inr (3, 4, 0, 0)) := rfl
theorem shc_15 : SHC[15]? = some (.inr (3, 4, 0, 0)) := rfl
theorem shc_16 : SHC[16]? = some (.inr (0, 4, 0, 0)) := rfl
theorem shc_17 : SHC[17]? = some (.inr (0, 4, 0, 0)) := rfl
theorem shc_18 : SHC[18]? = some (.inr (5, 4, 0, 0)) := rfl
theorem shc_19 : SHC[19]? = some (.inr (1, 4, 0, 0)) := rfl
theorem shc_20 : SHC[20]? = some (.inr (0, 4, 0, 0)) := rfl
theorem shc_21 : SHC[21]? = some (.inr (0, 6, 0, 0)) := rfl
theorem shc_22 : SHC[22]? = some (.inr (0, 6, 0, 0)) := rfl
theorem shc_23 : SHC[23]? = some (.inl (1, [27, 0])) := rfl
theorem shc_24 : SHC[24]? = some (.inr (0, 40, 0, 0)) := rfl
theorem shc_25 : SHC[25]? = some (.inl (1, [29, 0])) := rfl
theorem shc_26 : SHC[26]? = some (.inr (0, 40, 0, 0)) := rfl
theorem shc_27 : SHC[27]? = some (.inl (1, [31, 0])) := rfl
theorem shc_28 : SHC[28]? = some (.inr (0, 40, 0, 0)) := rfl
theorem shc_29 : SHC[29]? = some (.inl (1, [33, 0])) := rfl
theorem shc_30 : SHC[30]? = some (.inr (0, 40, 0, 0)) := rfl
theorem shc_31 : SHC[31]? = some (.inl (1, [35, 0])) := rfl
theorem shc_32 : SHC[32]? = some (.inr (0, 40, 0, 0)) := rfl
theorem shc_33 : SHC[33]? = some (.inl (1, [37, 0])) := rfl
theorem shc_34 : SHC[34]? = some (.inr (0, 40, 0, 0)) := rfl
theorem shc_35 : SHC[35]? = some (.inl (1, [39, 0])) := rfl
theorem shc_36 : SHC[36]? = some (.inr (0, 60, 0, 0)) := rfl
theorem shc_37 : SHC[37]? = some (.inl (1, [41, 0])) := rfl
theorem shc_38 : SHC[38]? = some (.inr (0, 60, 0, 0)) := rfl
theorem shc_39 : SHC[39]? = some (.inl (1, [43, 0])) := rfl
theorem shc_40 : SHC[40]? = some (.inr (0, 60, 0, 0)) := rfl
theorem shc_41 : SHC[41]? = some (.inl (1, [45, 0])) := rfl
theorem shc_42 : SHC[42]? = some (.inr (0, 60, 0, 0)) := rfl
theorem shc_43 : SHC[43]? = some (.inl (3, [47, 48, 0, 0, 0, 0, 0])) := rfl
theorem shc_44 : SHC[44]? = some (.inr (0, 5, 0, 0)) := rfl
theorem shc_45 : SHC[45]? = some (.inr (0, 5, 0, 0)) := rfl
theorem shc_46 : SHC[46]? = some (.inl (3, [50, 51, 0, 0, 0, 0, 0])) := rfl
theorem shc_47 : SHC[47]? = some (.inr (0, 5, 0, 0)) := rfl
theorem shc_48 : SHC[48]? = some (.inr (0, 5, 0, 0)) := rfl
theorem shc_49 : SHC[49]? = some (.inl (3, [53, 54, 0, 0, 0, 0, 0])) := rfl
theorem shc_50 : SHC[50]? = some (.inr (0, 5, 0, 0)) := rfl
theorem shc_51 : SHC[51]? = some (.inr (0, 5, 0, 0)) := rfl
theorem shc_52 : SHC[52]? = some (.inl (3, [56, 57, 0, 0, 0, 0, 0])) := rfl
theorem shc_53 : SHC[53]? = some (.inr (0, 5, 0, 0)) := rfl
theorem shc_54 : SHC[54]? = some (.inr (0, 5, 0, 0)) := rfl
theorem shc_55 : SHC[55]? = some (.inl (3, [59, 60, 0, 0, 0, 0, 0])) := rfl
theorem shc_56 : SHC[56]? = some (.inr (0, 5, 0, 0)) := rfl
theorem shc_57 : SHC[57]? = some (.inr (0, 5, 0, 0)) := rfl
theorem shc_58 : SHC[58]? = some (.inl (3, [62, 63, 0, 0, 0, 0, 0])) := rfl
theorem shc_59 : SHC[59]? = some (.inr (0, 5, 0, 0)) := rfl
theorem shc_60 : SHC[60]? = some (.inr (0, 5, 0, 0)) := rfl
theorem shc_61 : SHC[61]? = some (.inl (2, [0, 0, 0, 0, 0, 0, 0])) := rfl
theorem shc_62 : SHC[62]? = some (.inl (2, [0, 0, 0, 0, 0, 0, 0])) := rfl
theorem shc_63 : SHC[63]? = some (.inl (2, [0, 0, 0, 0, 0, 0, 0])) := rfl
theorem shc_64 : SHC[64]? = some (.inl (2, [0, 0, 0, 0, 0, 0, 0])) := rfl
def SHM : List Sh := [.inl (6, [0, 4, 0, 1, 1, 5, 6, 7, 8, 9, 10, 11, 12, 13, 14, 15, 16, 17, 0, 18, 19, 20, 0, 0, 1, 1, 21, 22, 23, 24, 25, 26, 27, 28, 0, 0, 0, 0, 1, 1, 0, 0, 1, 1, 1, 29, 0, 1, 1, 30, 1]), .inr (0, 6, 0, 0), .inr (0, 6, 0, 0), .inr (0, 240, 0, 0), .inr (0, 40, 0, 0), .inr (0, 4, 0, 0), .inr (2, 240, 0, 0), .inr (3, 6, 0, 0), .inr (0, 6, 0, 0), .inr (0, 30, 0, 0), .inr (0, 30, 0, 0), .inr (0, 6, 0, 0), .inr (0, 6, 0, 0), .inr (0, 6, 0, 0), .inr (0, 6, 0, 0), .inr (0, 5, 0, 0), .inr (0, 5, 0, 0), .inr (0, 4, 0, 0), .inr (0, 4, 0, 0), .inr (0, 4, 0, 0), .inr (0, 4, 0, 0), .inr (0, 4, 0, 0), .inr (0, 4, 0, 0), .inr (0, 4, 0, 0), .inr (0, 4, 0, 0), .inr (0, 4, 0, 0), .inr (0, 4, 0, 0), .inr (0, 4, 0, 0)]
theorem shm_0 : SHM[0]? = some (.inl (6, [0, 4, 0, 1, 1, 5, 6, 7, 8, 9, 10, 11, 12, 13, 14, 15, 16, 17, 0, 18, 19, 20, 0, 0, 1, 1, 21, 22, 23, 24, 25, 26, 27, 28, 0, 0, 0, 0, 1, 1, 0, 0, 1, 1, 1, 29, 0, 1, 1, 30, 1])) := rfl
theorem shm_1 : SHM[1]? = some (.inr (0, 6, 0, 0)) := rfl
theorem shm_2 : SHM[2]? = some (.inr (0, 6, 0, 0)) := rfl
theorem shm_3 : SHM[3]? = some (.inr (0, 240, 0, 0)) := rfl
theorem shm_4 : SHM[4]? = some (.inr (0, 40, 0, 0)) := rfl
theorem shm_5 : SHM[5]? = some (.inr (0, 4, 0, 0)) := rfl
theorem shm_6 : SHM[6]? = some (.inr (2, 240, 0, 0)) := rfl
theorem shm_7 : SHM[7]? = some (.inr (3, 6, 0, 0)) := rfl
theorem shm_8 : SHM[8]? = some (.inr (0, 6, 0, 0)) := rfl
theorem shm_9 : SHM[9]? = some (.inr (0, 30, 0, 0)) := rfl
theorem shm_10 : SHM[10]? = some (.inr (0, 30, 0, 0)) := rfl
theorem shm_11 : SHM[11]? = some (.inr (0, 6, 0, 0)) := rfl
theorem shm_12 : SHM[12]? = some (.inr (0, 6, 0, 0)) := rfl
theorem shm_13 : SHM[13]? = some (.inr (0, 6, 0, 0)) := rfl
theorem shm_14 : SHM[14]? = some (.inr (0, 6, 0, 0)) := rfl
theorem shm_15 : SHM[15]? = some (.inr (0, 5, 0, 0)) := rfl
theorem shm_16 : SHM[16]? = some (.inr (0, 5, 0, 0)) := rfl
theorem shm_17 : SHM[17]? = some (.inr (0, 4, 0, 0)) := rfl
theorem shm_18 : SHM[18]? = some (.inr (0, 4, 0, 0)) := rfl
theorem shm_19 : SHM[19]? = some (.inr (0, 4, 0, 0)) := rfl
theorem shm_20 : SHM[20]? = some (.inr (0, 4, 0, 0)) := rfl
theorem shm_21 : SHM[21]? = some (.inr (0, 4, 0, 0)) := rfl
theorem shm_22 : SHM[22]? = some (.inr (0, 4, 0, 0)) := rfl
theorem shm_23 : SHM[23]? = some (.inr (0, 4, 0, 0)) := rfl
theorem shm_24 : SHM[24]? = some (.inr (0, 4, 0, 0)) := rfl
theorem shm_25 : SHM[25]? = some (.inr (0, 4, 0, 0)) := rfl
theorem shm_26 : SHM[26]? = some (.inr (0, 4, 0, 0)) := rfl
theorem shm_27 : SHM[27]? = some (.inr (0, 4, 0, 0)) := rfl
def isRow (q : Nat) : Bool := q == 11 || (decide (23 ≤ q) && decide (q ≤ 41) && q % 2 == 1)
def isStf (q : Nat) : Bool := q == 8 || (decide (43 ≤ q) && decide (q ≤ 58) && (q - 43) % 3 == 0)
def isSeal (q : Nat) : Bool := decide (61 ≤ q) && decide (q ≤ 64)
def rlen (q : Nat) : Nat := if q = 11 then 0 else if q < 35 then 40 else 60
theorem rlen_le (q : Nat) : rlen q ≤ 2147483647 := by unfold rlen; split <;> (try split) <;> omega
theorem isRow_cases {q : Nat} (h : isRow q = true) : q = 11 ∨ q = 23 ∨ q = 25 ∨ q = 27 ∨ q = 29 ∨ q = 31 ∨ q = 33 ∨ q = 35 ∨ q = 37 ∨ q = 39 ∨ q = 41 := by
  simp [isRow] at h
  omega
theorem isStf_cases {q : Nat} (h : isStf q = true) : q = 8 ∨ q = 43 ∨ q = 46 ∨ q = 49 ∨ q = 52 ∨ q = 55 ∨ q = 58 := by
  simp [isStf] at h
  omega
theorem isSeal_cases {q : Nat} (h : isSeal q = true) : q = 61 ∨ q = 62 ∨ q = 63 ∨ q = 64 := by
  simp [isSeal] at h
  omega
theorem shRow {q : Nat} (h : isRow q = true) : SHC[q]? = some (.inl (1, [q + 1 + 3, 0])) := by
  rcases isRow_cases h with rfl | rfl | rfl | rfl | rfl | rfl | rfl | rfl | rfl | rfl | rfl <;> rfl
theorem shRowA {q : Nat} (h : isRow q = true) : SHC[q + 1]? = some (.inr (0, rlen q, 0, 0)) := by
  rcases isRow_cases h with rfl | rfl | rfl | rfl | rfl | rfl | rfl | rfl | rfl | rfl | rfl <;> rfl
theorem shStf {q : Nat} (h : isStf q = true) : SHC[q]? = some (.inl (3, [q + 1 + 3, q + 2 + 3, 0, 0, 0, 0, 0])) := by
  rcases isStf_cases h with rfl | rfl | rfl | rfl | rfl | rfl | rfl <;> rfl
theorem shStfX {q : Nat} (h : isStf q = true) : SHC[q + 1]? = some (.inr (0, 5, 0, 0)) := by
  rcases isStf_cases h with rfl | rfl | rfl | rfl | rfl | rfl | rfl <;> rfl
theorem shStfY {q : Nat} (h : isStf q = true) : SHC[q + 2]? = some (.inr (0, 5, 0, 0)) := by
  rcases isStf_cases h with rfl | rfl | rfl | rfl | rfl | rfl | rfl <;> rfl
theorem shSeal {q : Nat} (h : isSeal q = true) : SHC[q]? = some (.inl (2, [0, 0, 0, 0, 0, 0, 0])) := by
  rcases isSeal_cases h with rfl | rfl | rfl | rfl <;> rfl
theorem gdi (i : Nat) {w : Cond} (h : lw_tbl[i]? = some w) (hg : goodW w = true) : w ∈ lw_gd := List.mem_filter.mpr ⟨List.mem_of_getElem? h, hg⟩
theorem nsi (i : Nat) {a : String} {n : Nat} {x : MethodName} {h : String} (hw : lw_tbl[i]? = some (.methodLinkNest a n x h)) : (a, n, x, h) ∈ lw_nest := List.mem_filterMap.mpr ⟨_, List.mem_of_getElem? hw, rfl⟩
set_option maxRecDepth 20000 in
theorem gwX0 : ∀ w ∈ wsX00, w ∈ lw_gd := by
  have h : (wsX00.all fun w => lw_tbl.contains w && goodW w) = true := by decide +kernel
  intro w hw
  have h2 := List.all_eq_true.mp h w hw
  rw [Bool.and_eq_true] at h2
  exact List.mem_filter.mpr ⟨by simpa using h2.1, h2.2⟩
theorem KX0 : KC 0 RX0 TX0 3 tyX0 := ⟨rfl, gwX0, tyX0_ok, nmX0⟩
set_option maxRecDepth 20000 in
theorem gwX1 : ∀ w ∈ wsX10, w ∈ lw_gd := by
  have h : (wsX10.all fun w => lw_tbl.contains w && goodW w) = true := by decide +kernel
  intro w hw
  have h2 := List.all_eq_true.mp h w hw
  rw [Bool.and_eq_true] at h2
  exact List.mem_filter.mpr ⟨by simpa using h2.1, h2.2⟩
theorem KX1 : KC 1 RX1 TX1 2 tyX1 := ⟨rfl, gwX1, tyX1_ok, nmX1⟩
set_option maxRecDepth 20000 in
theorem gwX2 : ∀ w ∈ wsX20, w ∈ lw_gd := by
  have h : (wsX20.all fun w => lw_tbl.contains w && goodW w) = true := by decide +kernel
  intro w hw
  have h2 := List.all_eq_true.mp h w hw
  rw [Bool.and_eq_true] at h2
  exact List.mem_filter.mpr ⟨by simpa using h2.1, h2.2⟩
theorem KX2 : KC 2 RX2 TX2 7 tyX2 := ⟨rfl, gwX2, tyX2_ok, nmX2⟩
set_option maxRecDepth 20000 in
theorem gwX3 : ∀ w ∈ wsX30, w ∈ lw_gd := by
  have h : (wsX30.all fun w => lw_tbl.contains w && goodW w) = true := by decide +kernel
  intro w hw
  have h2 := List.all_eq_true.mp h w hw
  rw [Bool.and_eq_true] at h2
  exact List.mem_filter.mpr ⟨by simpa using h2.1, h2.2⟩
theorem KX3 : KC 3 RX3 TX3 7 tyX3 := ⟨rfl, gwX3, tyX3_ok, nmX3⟩
set_option maxRecDepth 20000 in
theorem gwX4 : ∀ w ∈ wsX40, w ∈ lw_gd := by
  have h : (wsX40.all fun w => lw_tbl.contains w && goodW w) = true := by decide +kernel
  intro w hw
  have h2 := List.all_eq_true.mp h w hw
  rw [Bool.and_eq_true] at h2
  exact List.mem_filter.mpr ⟨by simpa using h2.1, h2.2⟩
theorem KX4 : KC 4 RX4 TX4 12 tyX4 := ⟨rfl, gwX4, tyX4_ok, nmX4⟩
set_option maxRecDepth 20000 in
theorem gwX5 : ∀ w ∈ wsX50, w ∈ lw_gd := by
  have h : (wsX50.all fun w => lw_tbl.contains w && goodW w) = true := by decide +kernel
  intro w hw
  have h2 := List.all_eq_true.mp h w hw
  rw [Bool.and_eq_true] at h2
  exact List.mem_filter.mpr ⟨by simpa using h2.1, h2.2⟩
theorem KX5 : KC 5 RX5 TX5 14 tyX5 := ⟨rfl, gwX5, tyX5_ok, nmX5⟩
set_option maxRecDepth 20000 in
theorem gwX6 : ∀ w ∈ wsX60, w ∈ lw_gd := by
  have h : (wsX60.all fun w => lw_tbl.contains w && goodW w) = true := by decide +kernel
  intro w hw
  have h2 := List.all_eq_true.mp h w hw
  rw [Bool.and_eq_true] at h2
  exact List.mem_filter.mpr ⟨by simpa using h2.1, h2.2⟩
theorem KX6 : KC 6 RX6 TX6 51 tyX6 := ⟨rfl, gwX6, tyX6_ok, nmX6⟩
