/-! led, the loop -/
theorem shut_ok {C M : St} (hI : Inv C M) {c : Nat} (hc : c < 4) : ∃ (T R T' M' : St) (v : Nat), pX5_layOut C = some T ∧ pX5_remove T (c : Int) = some R ∧ pX4_settle R = some T' ∧ pX4_openPlaces T' = some (v : Int) ∧ pX6_isShutWithout M (c : Int) = some (if v = 0 then 1 else 0, M') ∧ Inv T' M' ∧ v < 16 := by
  obtain ⟨T, e1, h1, t1, t2⟩ := layOut_ok hI
  obtain ⟨R, e2, r1, r2, r3, r4, r5⟩ := remove_ok hI h1 (fun q a => t1 q (Or.inr a)) hc
  obtain ⟨M1, e3, hK, k21, k1, k2⟩ := keepAll_ok (M := M)
  have hset := hI.2.2.2.2.1
  obtain ⟨w1, w2, w3, w4⟩ := hset
  have hdg : -99 ≤ dgc M c ∧ dgc M c ≤ 99 := by unfold dgc; split <;> omega
  have hpr : 0 ≤ prc M c ∧ prc M c ≤ 9999 := by
    unfold prc
    split
    · rw [Int.tdiv_eq_ediv_of_nonneg (by omega)]; omega
    · omega
  -- the model's memory as the causes are removed
  have h5 : ∃ S5 : St, pX6_isShutWithout M (c : Int) = bnd (pX6_openNow S5) (fun z6_ S7_ => cEQ z6_ 0 (pX6_isShutWithout_191 S7_ (M 0 35) (M 0 36) 1) (pX6_isShutWithout_191 S7_ (M 0 35) (M 0 36) 0)) ∧ KM (put (put M 0 35 (dgc M c)) 0 36 (prc M c)) S5 ∧ (∀ p, p < 4 → S5 21 p = nfc M c p) ∧ S5 0 34 = M 0 34 ∧ S5 0 35 = dgc M c ∧ S5 0 36 = prc M c := by
    unfold pX6_isShutWithout
    rw [e3, bind_some']
    simp only [setS]
    rw [k2 35 (by decide), k2 36 (by decide)]
    refine lo2_spec (fun o => ∃ S5 : St, o = bnd (pX6_openNow S5) (fun z6_ S7_ => cEQ z6_ 0 (pX6_isShutWithout_191 S7_ (M 0 35) (M 0 36) 1) (pX6_isShutWithout_191 S7_ (M 0 35) (M 0 36) 0)) ∧ KM (put (put M 0 35 (dgc M c)) 0 36 (prc M c)) S5 ∧ (∀ p, p < 4 → S5 21 p = nfc M c p) ∧ S5 0 34 = M 0 34 ∧ S5 0 35 = dgc M c ∧ S5 0 36 = prc M c) (fun (S : St) (y : Int) => ∃ p : Nat, y = p ∧ p ≤ 4 ∧ (∀ q, q ≠ 21 → S q = M1 q) ∧ (∀ p', p' < p → S 21 p' = nfc M c p') ∧ ∀ p', p ≤ p' → S 21 p' = M 21 p') (fun _ y => (4 - y).toNat) ?_ FU M1 0 ⟨0, rfl, by omega, fun _ _ => rfl, fun p' b => by omega, fun p' _ => by rw [k21]⟩ (by have := FU_big; omega)
    rintro k S y ⟨p, rfl, hp, s1, s2, s3⟩ hf
    by_cases e : p = 4
    · subst e
      have c0 := s1 0 (by decide)
      have s35 : S 0 35 = M 0 35 := by rw [c0, k2 35 (by decide)]
      have s36 : S 0 36 = M 0 36 := by rw [c0, k2 36 (by decide)]
      have hgo : ∀ a b : Int, a = dgc M c → b = prc M c → ∃ S5 : St, pX6_isShutWithout_176 (put S 0 35 a) (M 0 35) (M 0 36) b = bnd (pX6_openNow S5) (fun z6_ S7_ => cEQ z6_ 0 (pX6_isShutWithout_191 S7_ (M 0 35) (M 0 36) 1) (pX6_isShutWithout_191 S7_ (M 0 35) (M 0 36) 0)) ∧ KM (put (put M 0 35 (dgc M c)) 0 36 (prc M c)) S5 ∧ (∀ p, p < 4 → S5 21 p = nfc M c p) ∧ S5 0 34 = M 0 34 ∧ S5 0 35 = dgc M c ∧ S5 0 36 = prc M c := by
        rintro a b rfl rfl
        unfold pX6_isShutWithout_176
        simp only [setS]
        refine ⟨_, rfl, ⟨fun q i1 i2 i3 => ?_, fun p i => ?_, ?_, fun j i => ?_⟩, fun p i => ?_, ?_, ?_, ?_⟩
        · rw [put_ne i1, put_ne i1, put_ne i1, put_ne i1, s1 q i2, k1 q i1 i3]
        · rw [put_ne (by decide), put_ne (by decide), put_ne (by decide), put_ne (by decide), s1 26 (by decide), hK.2.1 p i]
        · rw [put_j (by decide), put_j (by decide), put_j (by decide), put_j (by decide), c0, hK.2.2.1]
        · by_cases j36 : j = 36
          · subst j36; rw [put_at, put_at]
          · by_cases j35 : j = 35
            · subst j35; rw [put_j (by decide), put_at, put_j (by decide), put_at]
            · rw [put_j j36, put_j j35, put_j j36, put_j j35, c0, k2 j (by omega)]
        · rw [put_ne (by decide), put_ne (by decide), s2 p i]
        · rw [put_j (by decide), put_j (by decide), c0, k2 34 (by decide)]
        · rw [put_j (by decide), put_at]
        · rw [put_at]
      unfold pX6_isShutWithout_17B pX6_isShutWithout_154
      rw [cLT_neg (by omega)]
      simp only [setS]
      have p36 : ∀ a : Int, put S 0 35 a 0 36 = M 0 36 := fun a => by rw [put_j (by decide), s36]
      rw [p36, p36, s35]
      unfold dgc prc at hgo ⊢
      rcases (show c = 0 ∨ c = 1 ∨ c = 2 ∨ c = 3 by omega) with rfl | rfl | rfl | rfl
      · rw [cEQ_neg (by omega), cEQ_neg (by omega)]
        exact hgo _ _ rfl rfl
      · rw [cEQ_pos (by omega), cEQ_neg (by omega)]
        exact hgo _ _ rfl rfl
      · rw [cEQ_neg (by omega), cEQ_pos (by omega), dvI_ok (by omega)]
        exact hgo _ _ rfl rfl
      · rw [cEQ_neg (by omega), cEQ_neg (by omega)]
        exact hgo _ _ rfl rfl
    · have hp4 : p < 4 := by omega
      rw [shut_row hI hc hp4 (by rw [s1 18 (by decide), k1 18 (by decide) (by decide)]) (by rw [s1 20 (by decide), k1 20 (by decide) (by decide)]) (by rw [s1 23 (by decide), k1 23 (by decide) (by decide)]) (s3 p (Nat.le_refl p))]
      refine hf _ _ ⟨p + 1, by omega, by omega, fun q i => by rw [put_ne i, s1 q i], fun p' i => ?_, fun p' i => by rw [put_j (by omega), s3 p' (by omega)]⟩ (by omega)
      by_cases ep : p' = p
      · subst ep; rw [put_at]
      · rw [put_j ep, s2 p' (by omega)]
  obtain ⟨S5, f1, f2, f3, f4, f5, f6⟩ := h5
  have hcell : ∀ q, q ≠ 0 → put (put M 0 35 (dgc M c)) 0 36 (prc M c) q = M q := fun q a => by rw [put_ne a, put_ne a]
  have hM5 : ∀ q, q ≠ 0 → q ≠ 21 → q < 26 → S5 q = M q := fun q a b d => by rw [f2.1 q a b (by omega), hcell q a]
  have hTM : TM R S5 := by
    refine h1.re (fun q a => r1 q (by omega) (by omega)) hM5 (fun p hp => ?_) ⟨by rw [r3, f4], by omega, by omega⟩ ⟨by rw [r4, f5], by omega, by omega⟩ ⟨by rw [r5, f6], by omega, by omega⟩
    have htp : tp S5 p = nfc M c p - M 25 p := by unfold tp; rw [f3 p hp, hM5 25 (by decide) (by decide) (by decide)]
    obtain ⟨t1, t2, t3, t4⟩ := tld_b hI hp
    obtain ⟨s1, s2, -, s4, -, s6, -, -⟩ := hI.2.2.2.1 p hp
    refine ⟨by rw [r2 p hp, htp], ?_, ?_⟩ <;> (rw [htp]; unfold nfc; (repeat' split) <;> omega)
  obtain ⟨v, T', S7, o1, o2, o3, o4, o5, o6, -⟩ := open_ok hTM
  obtain ⟨S8, b1, b2, b3, b4⟩ := putBack_ok (f2.fm o6)
  have hI' : Inv T' (put (put S8 0 35 (M 0 35)) 0 36 (M 0 36)) := by
    refine Inv_pb hI (fun q a => by rw [o5.1 q (by omega) (by omega) (by omega), r1 q (by omega) (by omega), t1 q (by omega)]) ⟨fun q a b d => by rw [put_ne a, put_ne a, b2.1 q a b d, hcell q a], fun p hp => by rw [put_ne (by decide), put_ne (by decide), b2.2.1 p hp, hcell 21 (by decide)], fun j a => ?_⟩
    by_cases j36 : j = 36
    · subst j36; rw [put_at]
    · by_cases j35 : j = 35
      · subst j35; rw [put_j (by decide), put_at]
      · rw [put_j j36, put_j j35, b2.2.2 j a, put_j j36, put_j j35]
  have h191 : ∀ s0 : Int, (s0 = 0 ∨ s0 = 1) → pX6_isShutWithout_191 S7 (M 0 35) (M 0 36) s0 = some (s0, put (put S8 0 35 (M 0 35)) 0 36 (M 0 36)) := fun s0 hs => by
    unfold pX6_isShutWithout_191
    rw [b1, bind_some']
    simp only [setS]
    rw [isB_ok hs]
  refine ⟨T, R, T', _, v, e1, e2, o1, o2, ?_, hI', o4⟩
  rw [f1, o3, bnd_some]
  by_cases hv : v = 0
  · subst hv
    rw [cEQ_pos (by omega), h191 1 (Or.inr rfl), if_pos rfl]
  · rw [cEQ_neg (by omega), h191 0 (Or.inl rfl), if_neg hv]
theorem e_led : ca_34 Inv := by
  intro C M hI
  unfold pX5_led pX6_led pX5_settleAsIs
  obtain ⟨T, e1, h1, t1, t2⟩ := layOut_ok hI
  obtain ⟨v, T', M', s1, s2, s3, s4, s5, s6, -⟩ := open_ok h1
  have hI' : Inv T' M' := hI.trial (fun q a => by rw [s5.1 q (by omega) (by omega) (by omega), t1 q (by omega)]) (fun q a _ => s6.1 q a) (fun j a => s6.2 j (by omega))
  rw [e1, bind_some', s1, bind_some', bind_some', s2, bind_some', s3, bnd_some]
  by_cases hv : v = 0
  · subst hv
    rw [cEQ_pos (x := ((0 : Nat) : Int)) (y := 0) (by omega), cEQ_pos (x := ((0 : Nat) : Int)) (y := 0) (by omega)]
    exact ⟨_, _, _, rfl, rfl, hI'⟩
  · rw [cEQ_neg (x := (v : Int)) (y := 0) (by omega), cEQ_neg (x := (v : Int)) (y := 0) (by omega)]
    refine lo3_rel (agWW Inv) (fun (S : St) (x y : Int) (S' : St) (x' y' : Int) => ∃ c n : Nat, y = c ∧ y' = c ∧ c ≤ 4 ∧ x = n ∧ x' = n ∧ n < 16 ∧ Inv S S') (fun _ _ y => (4 - y).toNat) ?_ FU T' 0 0 M' 0 0 ⟨0, 0, rfl, rfl, by omega, rfl, rfl, by omega, hI'⟩ (by have := FU_big; omega)
    rintro k k' S x y S' x' y' ⟨c, n, rfl, rfl, hc, rfl, rfl, hn, hSI⟩ hf
    unfold pX5_led_21B pX5_led_58 pX6_led_14B pX6_led_35
    by_cases e : c = 4
    · subst e
      rw [cLT_pos (x := 3) (y := ((4 : Nat) : Int)) (by omega), cLT_neg (x := ((4 : Nat) : Int)) (y := 4) (by omega)]
      exact ⟨_, _, _, rfl, rfl, hSI⟩
    · have hc4 : c < 4 := by omega
      obtain ⟨T1, R, T2, M2, w, g1, g2, g3, g4, g5, g6, g7⟩ := shut_ok hSI hc4
      rw [cLT_neg (x := 3) (y := (c : Int)) (by omega), cLT_pos (x := (c : Int)) (y := 4) (by omega), g1, bind_some', g2, bind_some', g3, bind_some', g4, bind_some', g5, bnd_some]
      simp only [setS]
      by_cases hw : w = 0
      · subst hw
        have h2p : 2 ^ c < 16 := by
          have := or_lt16 (a := 0) (p := c) (by decide) hc4
          rwa [Nat.zero_or] at this
        rw [cEQ_pos (x := ((0 : Nat) : Int)) (y := 0) (by omega), if_pos rfl, cEQ_neg (by omega), shl_one hc4, shl_one hc4, orI_ok hn h2p, orI_ok hn h2p]
        exact hf _ _ _ _ _ _ ⟨c + 1, n ||| 2 ^ c, by omega, by omega, by omega, rfl, rfl, or_lt16 hn hc4, g6⟩ (by omega)
      · rw [cEQ_neg (x := (w : Int)) (y := 0) (by omega), if_neg hw, cEQ_pos (by omega), orI_zero hn]
        exact hf _ _ _ _ _ _ ⟨c + 1, n, by omega, by omega, by omega, rfl, rfl, hn, g6⟩ (by omega)
