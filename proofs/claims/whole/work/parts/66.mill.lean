/-! millionths: long division -/
def mlS (A : Int) : Nat → Int → Int → Int
  | 0, q, _ => q
  | n + 1, q, r => mlS A n (q * 10 + r * 10 / A) (r * 10 % A)
theorem ml_dig {A r : Int} (hA : 0 < A) (r0 : 0 ≤ r) (r1 : r < A) : 0 ≤ r * 10 / A ∧ r * 10 / A ≤ 9 ∧ 0 ≤ r * 10 % A ∧ r * 10 % A < A := by
  refine ⟨Int.ediv_nonneg (by omega) (by omega), ?_, Int.emod_nonneg _ (by omega), Int.emod_lt_of_pos _ hA⟩
  have : r * 10 / A < 10 := Int.ediv_lt_of_lt_mul hA (by omega)
  omega
theorem c_millionths {d : Nat} {M : ZM} {x A : Int} {Q : Int → ZM → Prop} (hA : 0 < A) (hB : A ≤ 900000000000000000) (x0 : 0 ≤ x) (x1 : x ≤ A) (hQ : Q (mlS A 6 (x / A) (x % A)) M) : zcI (d + 1) 26 [zJ x, zJ A] M Q := by
  have q0 : 0 ≤ x / A := Int.ediv_nonneg x0 (by omega)
  have q1 : x / A ≤ 1 := by
    have : x / A < 2 := Int.ediv_lt_of_lt_mul hA (by omega)
    omega
  have r0 := Int.emod_nonneg x (show A ≠ 0 by omega)
  have r1 := Int.emod_lt_of_pos x hA
  have lp : ∀ m i : Nat, i + m = 6 → ∀ q r : Int, 0 ≤ q → q + 1 ≤ 2 * 10 ^ i → 0 ≤ r → r < A → Q (mlS A m q r) M → wX2_millionths d 21 [(2, zJ A), (4, zJ q), (6, zJ r), (8, zI (i : Int))] M Q := by
    intro m
    induction m with
    | zero =>
      intro i hi q r q0 q1 r0 r1 h
      obtain rfl : i = 6 := by omega
      have e : (10 : Int) ^ 6 = 1000000 := by decide
      apply vX2_millionths_21
      exact ⟨fun _ => ⟨⟨by omega, by omega⟩, h⟩, fun z => by omega⟩
    | succ m ih =>
      intro i hi q r q0 q1 r0 r1 h
      have dg := ml_dig hA r0 r1
      have ps : (10 : Int) ^ i * 10 ^ (6 - i) = 1000000 := by
        rw [← Int.pow_add, show i + (6 - i) = 6 by omega]
        decide
      have pm : (10 : Int) ^ i ≤ 1000000 := by
        have := Int.mul_le_mul_of_nonneg_left (pow10_pos (6 - i)) (show (0 : Int) ≤ 10 ^ i by have := pow10_pos i; omega)
        omega
      apply vX2_millionths_21
      rw [Int.tdiv_eq_ediv_of_nonneg (by omega), Int.tmod_eq_emod_of_nonneg (by omega)]
      refine ⟨fun z => by omega, fun _ => ⟨⟨by omega, by omega⟩, ⟨by omega, by omega⟩, by omega, ⟨by omega, by omega⟩, ⟨by omega, by omega⟩, by omega, ⟨by omega, by omega⟩, ih (i + 1) (by omega) _ _ (by omega) ?_ dg.2.2.1 dg.2.2.2 h⟩⟩
      rw [Int.pow_succ]
      omega
  apply vX2_millionths
  rw [Int.tdiv_eq_ediv_of_nonneg x0, Int.tmod_eq_emod_of_nonneg x0]
  refine ⟨fun _ => ⟨by omega, ⟨by omega, by omega⟩, by omega, lp 6 0 (by omega) _ _ q0 ?_ r0 r1 hQ⟩, fun z => ?_⟩
  · show _ ≤ 2 * 1
    omega
  · rw [if_pos hA] at z; omega
