/-! choose: members of a set -/
def memb (v k : Nat) : Nat := ((List.range 6).filter (fun s => v.testBit s)).getD k 0
def cnt (v s : Nat) : Nat := ((List.range s).filter (fun s => v.testBit s)).length
theorem memb_all : ∀ v : Nat, v < 64 → ∀ k : Nat, k < 6 → k < cnt v 6 → pX6_stuffAt (v : Int) (k : Int) = some ((memb v k : Nat) : Int) ∧ v.testBit (memb v k) = true ∧ memb v k < 6 := by decide +kernel
theorem cnt_all : ∀ v : Nat, v < 64 → ∀ s : Nat, s < 6 → (v.testBit s = true → memb v (cnt v s) = s ∧ cnt v (s + 1) = cnt v s + 1) ∧ (¬ v.testBit s = true → cnt v (s + 1) = cnt v s) ∧ cnt v s ≤ s := by decide +kernel
theorem cnt_bc : ∀ v : Nat, v < 64 → bc v = ((cnt v 6 : Nat) : Int) ∧ cnt v 6 ≤ 6 ∧ (v ≠ 0 → 1 ≤ cnt v 6) := by decide +kernel
theorem listM_ok {C : St} {v : Nat} (hv : v < 64) : ∃ C' : St, pX5_listMembers C (v : Int) = some (((cnt v 6 : Nat) : Int), C') ∧ (∀ q, q ≠ 21 → C' q = C q) ∧ ∀ i, i < cnt v 6 → C' 21 i = ((memb v i : Nat) : Int) := by
  unfold pX5_listMembers
  refine lo3_spec (fun o => ∃ C' : St, o = some (((cnt v 6 : Nat) : Int), C') ∧ (∀ q, q ≠ 21 → C' q = C q) ∧ ∀ i, i < cnt v 6 → C' 21 i = ((memb v i : Nat) : Int)) (fun (S : St) (x y : Int) => ∃ s : Nat, y = s ∧ s ≤ 6 ∧ x = (cnt v s : Nat) ∧ (∀ q, q ≠ 21 → S q = C q) ∧ ∀ i, i < cnt v s → S 21 i = ((memb v i : Nat) : Int)) (fun _ _ y => (6 - y).toNat) ?_ FU C 0 0 ⟨0, rfl, by omega, rfl, fun _ _ => rfl, fun i h => by simp [cnt] at h⟩ (by have := FU_big; omega)
  rintro f S x y ⟨s, rfl, hs, rfl, s1, s2⟩ hf
  unfold pX5_listMembers_4B pX5_listMembers_28
  by_cases e : s = 6
  · subst e
    rw [cLT_neg (by omega)]
    exact ⟨S, rfl, s1, s2⟩
  · have hs6 : s < 6 := by omega
    obtain ⟨c1, c2, c3⟩ := cnt_all v hv s hs6
    rw [cLT_pos (by omega), (has_all v hv s hs6).2, bind_some']
    simp only [setS]
    by_cases hb : v.testBit s = true
    · obtain ⟨d1, d2⟩ := c1 hb
      rw [if_pos hb, cEQ_neg (by omega), stI_ok (by omega), Int.toNat_natCast]
      refine hf _ _ _ ⟨s + 1, by omega, by omega, by rw [d2]; omega, fun q a => by rw [put_ne a, s1 q a], fun i h => ?_⟩ (by omega)
      rw [d2] at h
      by_cases ei : i = cnt v s
      · subst ei; rw [put_at, d1]
      · rw [put_j ei, s2 i (by omega)]
    · have d2 := c2 hb
      rw [if_neg hb, cEQ_pos (by omega)]
      exact hf _ _ _ ⟨s + 1, by omega, by omega, by rw [d2], s1, fun i h => s2 i (by rw [d2] at h; exact h)⟩ (by omega)
/-! the ways: what is left, which stuff, at place 3 - k -/
def rst (M : St) (z w : Nat) : Nat → Nat
  | 0 => w
  | k + 1 => if 1 ≤ M 18 (3 - k) then rst M z w k / z else rst M z w k
def csf (M : St) (v z w p : Nat) : Nat := memb v (rst M z w (3 - p) % z)
/-- the figures told, from place 3 down -/
def fig (M : St) (v z w : Nat) : Nat → Int
  | 0 => 0
  | k + 1 => fig M v z w k * 10 + (if 1 ≤ M 18 (3 - k) then (csf M v z w (3 - k) : Int) + 1 else 0)
def pri (M : St) (r v z w p : Nat) : Int := if 1 ≤ M 18 p then M 3 (40 * r + csf M v z w p) * M 22 p else 0
def sdn (f : Nat → Int) : Nat → Int
  | 0 => 0
  | k + 1 => sdn f k + f (3 - k)
theorem rst_le {M : St} {z w : Nat} : ∀ k, rst M z w k ≤ w
  | 0 => Nat.le_refl w
  | k + 1 => by
    simp only [rst]
    split
    · exact Nat.le_trans (Nat.div_le_self _ _) (rst_le k)
    · exact rst_le k
theorem csf_ok {M : St} {v z w p : Nat} (hv : v < 64) (hz : z = cnt v 6) (hz1 : 1 ≤ z) : v.testBit (csf M v z w p) = true ∧ csf M v z w p < 6 ∧ pX6_stuffAt (v : Int) ((rst M z w (3 - p) % z : Nat) : Int) = some ((csf M v z w p : Nat) : Int) := by
  have hm : rst M z w (3 - p) % z < z := Nat.mod_lt _ hz1
  have h6 := (cnt_bc v hv).2.1
  obtain ⟨a1, a2, a3⟩ := memb_all v hv (rst M z w (3 - p) % z) (by omega) (by omega)
  exact ⟨a2, a3, a1⟩
theorem fig_b {M : St} {v z w : Nat} (hv : v < 64) (hz : z = cnt v 6) (hz1 : 1 ≤ z) : ∀ k, k ≤ 4 → 0 ≤ fig M v z w k ∧ fig M v z w k < ((10 ^ k : Nat) : Int)
  | 0, _ => by simp [fig]
  | k + 1, hk => by
    have ih := fig_b (M := M) (w := w) hv hz hz1 k (by omega)
    have h6 := (csf_ok (M := M) (w := w) (p := 3 - k) hv hz hz1).2.1
    have e : (10 ^ (k + 1) : Nat) = 10 ^ k * 10 := Nat.pow_succ 10 k
    simp only [fig]
    rw [e]
    split <;> omega
/-- the class deals out -/
theorem dealOut_ok {T M : St} (h : ∀ p, p < 4 → T 15 p = (if 1 ≤ M 18 p then 1 else 0)) {v z w : Nat} (hv : v < 64) (hz : z = cnt v 6) (hz1 : 1 ≤ z) (hw : w ≤ 1296) (hm : ∀ i, i < z → T 21 i = ((memb v i : Nat) : Int)) : ∃ R : St, pX5_dealOut T (w : Int) (z : Int) = some (fig M v z w 4, R) ∧ (∀ q, q ≠ 18 → R q = T q) ∧ ∀ p, p < 4 → 1 ≤ M 18 p → R 18 p = ((43 + 3 * csf M v z w p : Nat) : Int) + 1 := by
  unfold pX5_dealOut
  have h6 := (cnt_bc v hv).2.1
  refine lo4_spec (fun o => ∃ R : St, o = some (fig M v z w 4, R) ∧ (∀ q, q ≠ 18 → R q = T q) ∧ ∀ p, p < 4 → 1 ≤ M 18 p → R 18 p = ((43 + 3 * csf M v z w p : Nat) : Int) + 1) (fun (S : St) (x3 x4 x5 : Int) => ∃ k : Nat, k ≤ 4 ∧ x5 = 3 - (k : Int) ∧ x3 = fig M v z w k ∧ x4 = (rst M z w k : Nat) ∧ (∀ q, q ≠ 18 → S q = T q) ∧ ∀ p, p < 4 → 3 < p + k → 1 ≤ M 18 p → S 18 p = ((43 + 3 * csf M v z w p : Nat) : Int) + 1) (fun _ _ _ x5 => (x5 + 1).toNat) ?_ FU T 0 (w : Int) 3 ⟨0, by omega, by omega, rfl, rfl, fun _ _ => rfl, fun p a b => by omega⟩ (by have := FU_big; omega)
  rintro f S x3 x4 x5 ⟨k, hk, rfl, rfl, rfl, s1, s2⟩ hf
  unfold pX5_dealOut_8B pX5_dealOut_80
  by_cases e : k = 4
  · subst e
    rw [cLT_pos (by omega)]
    exact ⟨S, rfl, s1, fun p a b => s2 p a (by omega) b⟩
  · have hp : 3 - k < 4 := by omega
    have ei : ((3 : Int) - (k : Int)).toNat = 3 - k := by omega
    have hfb := fig_b (M := M) (w := w) hv hz hz1 k hk
    have hrl := rst_le (M := M) (z := z) (w := w) k
    have h10 : ((10 ^ k : Nat) : Int) ≤ 1000 := by
      rcases (show k = 0 ∨ k = 1 ∨ k = 2 ∨ k = 3 by omega) with rfl | rfl | rfl | rfl <;> decide
    have hfig : fig M v z w (k + 1) = fig M v z w k * 10 + (if 1 ≤ M 18 (3 - k) then (csf M v z w (3 - k) : Int) + 1 else 0) := rfl
    have hrst : rst M z w (k + 1) = if 1 ≤ M 18 (3 - k) then rst M z w k / z else rst M z w k := rfl
    rw [cLT_neg (by omega)]
    simp only [setS]
    rw [ldI_ok (by omega), ei, s1 15 (by decide), h _ hp]
    by_cases hr : 1 ≤ M 18 (3 - k)
    · rw [if_pos hr] at hfig hrst
      obtain ⟨a1, a2, a3⟩ := csf_ok (M := M) (w := w) (p := 3 - k) hv hz hz1
      have hcs : csf M v z w (3 - k) = memb v (rst M z w k % z) := by
        unfold csf; rw [show 3 - (3 - k) = k by omega]
      have hmod : rst M z w k % z < z := Nat.mod_lt _ hz1
      have em : ((rst M z w k : Nat) : Int).tmod (z : Int) = ((rst M z w k % z : Nat) : Int) := by rw [Int.tmod_eq_emod_of_nonneg (by omega)]; rfl
      have ed : ((rst M z w k : Nat) : Int).tdiv (z : Int) = ((rst M z w k / z : Nat) : Int) := by rw [Int.tdiv_eq_ediv_of_nonneg (by omega)]; rfl
      have hmm := hm _ hmod
      rw [← hcs] at hmm
      rw [if_pos hr, cEQ_neg (by omega), cLT_neg (by omega), rmI_ok (by omega), em]
      generalize hmg : rst M z w k % z = mg at hmod hmm ⊢
      rw [ldI_ok (by omega), Int.toNat_natCast, s1 21 (by decide), hmm, dvI_ok (by omega), ed, ldA_ok (by omega), Int.toNat_natCast, stI_ok (by omega), ei]
      refine hf _ _ _ _ ⟨k + 1, by omega, by omega, by rw [hfig], by rw [hrst], fun q a => by rw [put_ne a, s1 q a], fun p a b c => ?_⟩ (by omega)
      by_cases ep : p = 3 - k
      · subst ep; rw [put_at]
      · rw [put_j ep, s2 p a (by omega) c]
    · rw [if_neg hr] at hfig hrst
      rw [if_neg hr, cEQ_pos (by omega)]
      refine hf _ _ _ _ ⟨k + 1, by omega, by omega, by rw [hfig, Int.add_zero], by rw [hrst], s1, fun p a b c => ?_⟩ (by omega)
      by_cases ep : p = 3 - k
      · subst ep; exact absurd c hr
      · exact s2 p a (by omega) c
