theorem ml_one {A r y a b : Int} (hA : 0 < A) (r0 : 0 ≤ r) (r1 : r < A) (ha : y / A = a) (hb : y % A = b) : (b + r < A → (y + r) / A = a ∧ (y + r) % A = b + r) ∧ (¬ b + r < A → (y + r) / A = a + 1 ∧ (y + r) % A = b + r - A) := by
  have e := (Int.ediv_emod_unique (a := y) (q := a) (r := b) hA).1 ⟨ha, hb⟩
  refine ⟨fun h => (Int.ediv_emod_unique hA).2 ⟨by omega, by omega, by omega⟩, fun h => (Int.ediv_emod_unique hA).2 ⟨?_, by omega, by omega⟩⟩
  rw [Int.mul_add, Int.mul_one]
  omega
theorem m_millionths {d : Nat} {M : ZM} {x A : Int} {Q : Int → ZM → Prop} (hA : 0 < A) (hB : A ≤ 900000000000000000) (x0 : 0 ≤ x) (x1 : x ≤ A) (hQ : Q (mlS A 6 (x / A) (x % A)) M) : zcI (d + 1) 239 [zJ x, zJ A] M Q := by
  have q0 : 0 ≤ x / A := Int.ediv_nonneg x0 (by omega)
  have q1 : x / A ≤ 1 := by
    have : x / A < 2 := Int.ediv_lt_of_lt_mul hA (by omega)
    omega
  have r0 := Int.emod_nonneg x (show A ≠ 0 by omega)
  have r1 := Int.emod_lt_of_pos x hA
  have inn : ∀ {i q r : Int}, 0 ≤ r → r < A → (r64 (q * 10) ∧ r64 (q * 10 + r * 10 / A) ∧ r32 (i + 1) ∧ wX10_millionths d 13 [(2, zJ A), (4, zJ (q * 10 + r * 10 / A)), (6, zJ (r * 10 % A)), (8, zI (i + 1))] M Q) → ∀ m k : Nat, k + m = 10 → ∀ a b : Int, r * k / A = a → r * k % A = b → 0 ≤ a → a ≤ k → wX10_millionths d 29 [(2, zJ A), (4, zJ q), (6, zJ r), (8, zI i), (9, zJ a), (11, zJ b), (13, zI (k : Int))] M Q := by
    intro i q r r0 r1 nx m
    induction m with
    | zero =>
      intro k hk a b ha hb a0 a1
      obtain rfl : k = 10 := by omega
      subst ha hb
      apply vX10_millionths_29
      exact ⟨fun _ => nx, fun z => by omega⟩
    | succ m ih =>
      intro k hk a b ha hb a0 a1
      have st := ml_one hA r0 r1 ha hb
      have b0 := Int.emod_nonneg (r * k) (show A ≠ 0 by omega)
      have b1 := Int.emod_lt_of_pos (r * k) hA
      have e : r * ((k + 1 : Nat) : Int) = r * k + r := by
        rw [show ((k + 1 : Nat) : Int) = (k : Int) + 1 by omega, Int.mul_add, Int.mul_one]
      apply vX10_millionths_29
      refine ⟨fun z => by omega, fun _ => ⟨⟨by omega, by omega⟩, fun z => ⟨⟨by omega, by omega⟩, ?_⟩, fun z => ⟨⟨by omega, by omega⟩, ⟨by omega, by omega⟩, ⟨by omega, by omega⟩, ?_⟩⟩⟩
      · have lt : b + r < A := by
          by_cases h1 : A < b + r
          · rw [if_pos h1] at z; omega
          · by_cases h2 : b + r = A
            · rw [if_neg h1, if_pos h2] at z; omega
            · omega
        exact ih (k + 1) (by omega) a (b + r) (by rw [e]; exact (st.1 lt).1) (by rw [e]; exact (st.1 lt).2) a0 (by omega)
      · have ge : ¬ b + r < A := by
          intro lt
          rw [if_neg (by omega), if_neg (by omega)] at z
          omega
        exact ih (k + 1) (by omega) (a + 1) (b + r - A) (by rw [e]; exact (st.2 ge).1) (by rw [e]; exact (st.2 ge).2) (by omega) (by omega)
  have lp : ∀ m i : Nat, i + m = 6 → ∀ q r : Int, 0 ≤ q → q + 1 ≤ 2 * 10 ^ i → 0 ≤ r → r < A → Q (mlS A m q r) M → wX10_millionths d 13 [(2, zJ A), (4, zJ q), (6, zJ r), (8, zI (i : Int))] M Q := by
    intro m
    induction m with
    | zero =>
      intro i hi q r q0 q1 r0 r1 h
      obtain rfl : i = 6 := by omega
      have e : (10 : Int) ^ 6 = 1000000 := by decide
      apply vX10_millionths_13
      exact ⟨fun _ => ⟨⟨by omega, by omega⟩, h⟩, fun z => by omega⟩
    | succ m ih =>
      intro i hi q r q0 q1 r0 r1 h
      have dg := ml_dig hA r0 r1
      have ps : (10 : Int) ^ i * 10 ^ (6 - i) = 1000000 := by
        rw [← Int.pow_add, show i + (6 - i) = 6 by omega]
        decide
      have pm : (10 : Int) ^ i ≤ 1000000 := by
        have := Int.mul_le_mul_of_nonneg_left (pow10_pos (6 - i)) (show (0 : Int) ≤ 10 ^ i by have := pow10_pos i; omega)
        omega
      apply vX10_millionths_13
      refine ⟨fun z => by omega, fun _ => inn r0 r1 ⟨⟨by omega, by omega⟩, ⟨by omega, by omega⟩, ⟨by omega, by omega⟩, ih (i + 1) (by omega) _ _ (by omega) ?_ dg.2.2.1 dg.2.2.2 h⟩ 10 0 (by omega) 0 0 ?_ ?_ (by omega) (by omega)⟩
      · rw [Int.pow_succ]
        omega
      · rw [show r * ((0 : Nat) : Int) = 0 by omega, Int.zero_ediv]
      · rw [show r * ((0 : Nat) : Int) = 0 by omega, Int.zero_emod]
  apply vX10_millionths
  rw [Int.tdiv_eq_ediv_of_nonneg x0, Int.tmod_eq_emod_of_nonneg x0]
  refine ⟨by omega, ⟨by omega, by omega⟩, by omega, lp 6 0 (by omega) _ _ q0 ?_ r0 r1 hQ⟩
  show _ ≤ 2 * 1
  omega
