/-! how many bits, of sixteen -/
theorem zush_nat {n k : Nat} (hn : n < 2147483648) (hk : k < 32) : zush n k = ((n >>> k : Nat) : Int) := by
  have sh : ∀ k : Nat, k < 32 → ((zi (k : Int)).toUInt32 &&& Int32.toUInt32 31).toNat % 32 = k := by decide +kernel
  have e1 : (zi (n : Int)).toUInt32.toNat = n := by
    show (BitVec.ofInt 32 (n : Int)).toNat = n
    rw [BitVec.ofInt_natCast, BitVec.toNat_ofNat, Nat.mod_eq_of_lt (by omega)]
  have hl : n >>> k ≤ n := by rw [Nat.shiftRight_eq_div_pow]; exact Nat.div_le_self _ _
  unfold zush
  have e2 : ((zi (n : Int)).toUInt32 >>> ((zi (k : Int)).toUInt32 &&& Int32.toUInt32 31)).toNat = n >>> k := by
    rw [UInt32.toNat_shiftRight, e1, sh k hk]
  show (BitVec.toInt ((zi (n : Int)).toUInt32 >>> ((zi (k : Int)).toUInt32 &&& Int32.toUInt32 31)).toBitVec) = _
  have e3 : ((zi (n : Int)).toUInt32 >>> ((zi (k : Int)).toUInt32 &&& Int32.toUInt32 31)).toBitVec.toNat = n >>> k := e2
  rw [BitVec.toInt_eq_toNat_of_lt (by rw [e3]; omega), e3]
def n1 (x : Nat) : Nat := x - (x >>> 1 &&& 1431655765)
def n2 (y : Nat) : Nat := (y &&& 858993459) + (y >>> 2 &&& 858993459)
def n3 (y : Nat) : Nat := y + y >>> 4
def n4 (y : Nat) : Nat := (y &&& 252645135) + (y &&& 252645135) >>> 8
def n5 (y : Nat) : Nat := y + y >>> 16
/-- how many bits, of the first m -/
def nB (x : Nat) : Nat → Nat
  | 0 => 0
  | m + 1 => nB x m + (x >>> m &&& 1)
theorem lane {a b c e : Nat} (hb : b < 256) (he : e < 256) : (256 * a + b) &&& (256 * c + e) = 256 * (a &&& c) + (b &&& e) := by
  have hl : b &&& e ≤ b := Nat.and_le_left
  apply Nat.eq_of_testBit_eq
  intro i
  rw [Nat.testBit_and, show (256 : Nat) = 2 ^ 8 from rfl, Nat.testBit_two_pow_mul_add a (show b < 2 ^ 8 from hb), Nat.testBit_two_pow_mul_add c (show e < 2 ^ 8 from he), Nat.testBit_two_pow_mul_add (a &&& c) (show b &&& e < 2 ^ 8 by omega), Nat.testBit_and, Nat.testBit_and]
  split <;> rfl
theorem lane0 {a c e : Nat} (ha : a < 256) (he : e < 256) : a &&& (256 * c + e) = a &&& e := by
  have := lane (a := 0) (c := c) ha he
  rw [Nat.zero_and] at this
  simpa using this
def m1 (b : Nat) : Nat := b - (b / 2 &&& 85)
def m2 (b : Nat) : Nat := (b &&& 51) + (b / 4 &&& 51)
theorem byte1 : ∀ b : Nat, b < 256 → (128 + b / 2) &&& 85 = b / 2 &&& 85 := by decide +kernel
theorem byte2 : ∀ b : Nat, b < 256 → (64 + b / 4) &&& 51 = b / 4 &&& 51 ∧ (128 + b / 4) &&& 51 = b / 4 &&& 51 ∧ (192 + b / 4) &&& 51 = b / 4 &&& 51 := by decide +kernel
theorem byte3 : ∀ b : Nat, b < 256 → m1 b < 256 ∧ m2 (m1 b) % 16 ≤ 4 ∧ m2 (m1 b) / 16 ≤ 4 ∧ m2 (m1 b) % 16 + m2 (m1 b) / 16 = nB b 8 := by decide +kernel
theorem n1_lane {h l : Nat} (hh : h < 256) (hl : l < 256) : n1 (256 * h + l) = 256 * m1 h + m1 l := by
  unfold n1 m1
  rw [Nat.shiftRight_eq_div_pow, show (256 * h + l) / 2 ^ 1 = 256 * (h / 2) + (128 * (h % 2) + l / 2) by omega, show (1431655765 : Nat) = 256 * 5592405 + 85 from rfl, lane (by omega) (by omega), show (5592405 : Nat) = 256 * 21845 + 85 from rfl, lane0 (by omega) (by omega)]
  have e : (128 * (h % 2) + l / 2) &&& 85 = l / 2 &&& 85 := by
    rcases (by omega : h % 2 = 0 ∨ h % 2 = 1) with q | q
    · rw [q, Nat.mul_zero, Nat.zero_add]
    · rw [q, Nat.mul_one]; exact byte1 l hl
  rw [e]
  have x1 : h / 2 &&& 85 ≤ h / 2 := Nat.and_le_left
  have x2 : l / 2 &&& 85 ≤ l / 2 := Nat.and_le_left
  omega
theorem n2_lane {a b : Nat} (ha : a < 256) (hb : b < 256) : n2 (256 * a + b) = 256 * m2 a + m2 b := by
  unfold n2 m2
  rw [Nat.shiftRight_eq_div_pow, show (256 * a + b) / 2 ^ 2 = 256 * (a / 4) + (64 * (a % 4) + b / 4) by omega, show (858993459 : Nat) = 256 * 3355443 + 51 from rfl, lane (a := a) (b := b) hb (by omega), lane (a := a / 4) (b := 64 * (a % 4) + b / 4) (by omega) (by omega), show (3355443 : Nat) = 256 * 13107 + 51 from rfl, lane0 (a := a) ha (by omega), lane0 (a := a / 4) (by omega) (by omega)]
  have e : (64 * (a % 4) + b / 4) &&& 51 = b / 4 &&& 51 := by
    obtain ⟨b1, b2, b3⟩ := byte2 b hb
    rcases (by omega : a % 4 = 0 ∨ a % 4 = 1 ∨ a % 4 = 2 ∨ a % 4 = 3) with q | q | q | q
    · rw [q, Nat.mul_zero, Nat.zero_add]
    · rw [q]; exact b1
    · rw [q]; exact b2
    · rw [q]; exact b3
  rw [e]
  omega
theorem nB_lane {h l : Nat} (hl : l < 256) : nB (256 * h + l) 16 = nB l 8 + nB h 8 := by
  have lo : ∀ m, m < 8 → (256 * h + l) >>> m &&& 1 = l >>> m &&& 1 := by
    intro m hm
    rw [Nat.and_one_is_mod, Nat.and_one_is_mod, Nat.shiftRight_eq_div_pow, Nat.shiftRight_eq_div_pow]
    rcases (by omega : m = 0 ∨ m = 1 ∨ m = 2 ∨ m = 3 ∨ m = 4 ∨ m = 5 ∨ m = 6 ∨ m = 7) with rfl | rfl | rfl | rfl | rfl | rfl | rfl | rfl <;> omega
  have hi : ∀ m, m < 8 → (256 * h + l) >>> (8 + m) &&& 1 = h >>> m &&& 1 := by
    intro m hm
    rw [Nat.and_one_is_mod, Nat.and_one_is_mod, Nat.shiftRight_eq_div_pow, Nat.shiftRight_eq_div_pow]
    rcases (by omega : m = 0 ∨ m = 1 ∨ m = 2 ∨ m = 3 ∨ m = 4 ∨ m = 5 ∨ m = 6 ∨ m = 7) with rfl | rfl | rfl | rfl | rfl | rfl | rfl | rfl <;> omega
  have s1 : ∀ m, m ≤ 8 → nB (256 * h + l) m = nB l m := by
    intro m
    induction m with
    | zero => intro _; rfl
    | succ m ih =>
      intro hm
      unfold nB
      rw [ih (by omega), lo m (by omega)]
  have s2 : ∀ m, m ≤ 8 → nB (256 * h + l) (8 + m) = nB l 8 + nB h m := by
    intro m
    induction m with
    | zero => intro _; exact s1 8 (by omega)
    | succ m ih =>
      intro hm
      show nB (256 * h + l) (8 + m) + ((256 * h + l) >>> (8 + m) &&& 1) = nB l 8 + (nB h m + (h >>> m &&& 1))
      rw [ih (by omega), hi m (by omega), Nat.add_assoc]
  exact s2 8 (by omega)
theorem chk_all {x : Nat} (hx : x < 65536) : (x >>> 1 &&& 1431655765) ≤ x ∧ n1 x ≤ 65535 ∧ n2 (n1 x) ≤ 65535 ∧ n3 (n2 (n1 x)) ≤ 100000 ∧ n4 (n3 (n2 (n1 x))) ≤ 100000 ∧ n5 (n4 (n3 (n2 (n1 x)))) ≤ 200000 ∧ n5 (n4 (n3 (n2 (n1 x)))) &&& 63 = nB x 16 := by
  obtain ⟨h, l, hh, hl, rfl⟩ : ∃ h l, h < 256 ∧ l < 256 ∧ x = 256 * h + l := ⟨x / 256, x % 256, by omega, by omega, by omega⟩
  obtain ⟨a1, a2, a3, a4⟩ := byte3 h hh
  obtain ⟨b1, b2, b3, b4⟩ := byte3 l hl
  have c0 : (256 * h + l) >>> 1 &&& 1431655765 ≤ 256 * h + l := by
    have : (256 * h + l) >>> 1 &&& 1431655765 ≤ (256 * h + l) >>> 1 := Nat.and_le_left
    rw [Nat.shiftRight_eq_div_pow] at this ⊢
    omega
  rw [n1_lane hh hl, n2_lane a1 b1, nB_lane hl]
  generalize nB l 8 = pl at *
  generalize nB h 8 = ph at *
  have A : m2 (m1 h) = 16 * (m2 (m1 h) / 16) + m2 (m1 h) % 16 := by omega
  have B : m2 (m1 l) = 16 * (m2 (m1 l) / 16) + m2 (m1 l) % 16 := by omega
  generalize m2 (m1 h) / 16 = ua at *
  generalize m2 (m1 h) % 16 = va at *
  generalize m2 (m1 l) / 16 = ub at *
  generalize m2 (m1 l) % 16 = vb at *
  rw [A, B]
  have e3 : n3 (256 * (16 * ua + va) + (16 * ub + vb)) = 256 * (16 * ua + (ua + va)) + (16 * (va + ub) + (vb + ub)) := by
    unfold n3
    rw [Nat.shiftRight_eq_div_pow]
    omega
  have m15 : ∀ y : Nat, y &&& 15 = y % 16 := fun y => Nat.and_two_pow_sub_one_eq_mod y 4
  have e4 : (256 * (16 * ua + (ua + va)) + (16 * (va + ub) + (vb + ub))) &&& 252645135 = 256 * (ua + va) + (vb + ub) := by
    rw [show (252645135 : Nat) = 256 * 986895 + 15 from rfl, lane (by omega) (by omega), show (986895 : Nat) = 256 * 3855 + 15 from rfl, lane0 (by omega) (by omega), m15, m15, Nat.mul_add_mod, Nat.mul_add_mod, Nat.mod_eq_of_lt (show ua + va < 16 by omega), Nat.mod_eq_of_lt (show vb + ub < 16 by omega)]
  have e4' : n4 (256 * (16 * ua + (ua + va)) + (16 * (va + ub) + (vb + ub))) = 256 * (ua + va) + (vb + ub) + (ua + va) := by
    unfold n4
    rw [e4, Nat.shiftRight_eq_div_pow]
    omega
  have e5 : n5 (256 * (ua + va) + (vb + ub) + (ua + va)) = 256 * (ua + va) + (vb + ub) + (ua + va) := by
    unfold n5
    rw [Nat.shiftRight_eq_div_pow]
    omega
  have m63 : ∀ y : Nat, y &&& 63 = y % 64 := fun y => Nat.and_two_pow_sub_one_eq_mod y 6
  rw [e3, e4', e5, m63]
  refine ⟨c0, by omega, by omega, by omega, by omega, by omega, by omega⟩
theorem nB_bN (x : Nat) (m : Nat) : bN (x : Int) m = (nB x m : Nat) := by
  induction m with
  | zero => rfl
  | succ m ih =>
    unfold bN nB bt
    rw [ih, Int.toNat_natCast, Int.toNat_natCast, Nat.testBit, Nat.and_comm 1, Nat.and_one_is_mod]
    have : x >>> m % 2 = 0 ∨ x >>> m % 2 = 1 := by omega
    rcases this with e | e
    · rw [e]; simp
    · rw [e]; simp
theorem c_bitCount16 {d : Nat} {M : ZM} {x : Int} {K : Int → ZM → Prop} (hx : bs 16 x) (hK : K (bC x) M) : zcI (d + 1) 252 [zI x] M K := by
  obtain ⟨n, rfl⟩ : ∃ n : Nat, x = n := ⟨x.toNat, by have := hx.1; omega⟩
  have hn : n < 65536 := by have := hx.2; omega
  obtain ⟨c1, c2, c3, c4, c5, c6, c7⟩ := chk_all hn
  have sl : ∀ a k : Nat, a >>> k ≤ a := fun a k => by rw [Nat.shiftRight_eq_div_pow]; exact Nat.div_le_self _ _
  have z : ∀ (a k m : Nat), a < 200001 → k < 32 → m < 2147483648 → zand (zush a k) m = ((a >>> k &&& m : Nat) : Int) := by
    intro a k m ha hk hm
    have := sl a k
    rw [zush_nat (by omega) hk, zand_nat (by omega) hm]
  have y1 : q1 (n : Int) = (n1 n : Nat) := by
    show (n : Int) - zand (zush (n : Int) ((1 : Nat) : Int)) ((1431655765 : Nat) : Int) = _
    rw [z n 1 1431655765 (by omega) (by omega) (by omega)]
    unfold n1
    omega
  have y2 : q2 (q1 (n : Int)) = (n2 (n1 n) : Nat) := by
    rw [y1]
    show zand ((n1 n : Nat) : Int) ((858993459 : Nat) : Int) + zand (zush ((n1 n : Nat) : Int) ((2 : Nat) : Int)) ((858993459 : Nat) : Int) = _
    rw [z _ 2 858993459 (by omega) (by omega) (by omega), zand_nat (by omega) (by omega)]
    unfold n2
    omega
  have y3 : q3 (q2 (q1 (n : Int))) = (n3 (n2 (n1 n)) : Nat) := by
    rw [y2]
    show ((n2 (n1 n) : Nat) : Int) + zush ((n2 (n1 n) : Nat) : Int) ((4 : Nat) : Int) = _
    rw [zush_nat (by omega) (by omega)]
    unfold n3
    omega
  have y4 : q4 (q3 (q2 (q1 (n : Int)))) = (n4 (n3 (n2 (n1 n))) : Nat) := by
    rw [y3]
    show zand ((n3 (n2 (n1 n)) : Nat) : Int) ((252645135 : Nat) : Int) + zush (zand ((n3 (n2 (n1 n)) : Nat) : Int) ((252645135 : Nat) : Int)) ((8 : Nat) : Int) = _
    have : n3 (n2 (n1 n)) &&& 252645135 ≤ n3 (n2 (n1 n)) := Nat.and_le_left
    rw [zand_nat (by omega) (by omega), zush_nat (by omega) (by omega)]
    unfold n4
    omega
  have y5 : q5 (q4 (q3 (q2 (q1 (n : Int))))) = (n5 (n4 (n3 (n2 (n1 n)))) : Nat) := by
    rw [y4]
    show ((n4 (n3 (n2 (n1 n))) : Nat) : Int) + zush ((n4 (n3 (n2 (n1 n))) : Nat) : Int) ((16 : Nat) : Int) = _
    rw [zush_nat (by omega) (by omega)]
    unfold n5
    omega
  have y6 : zand (q5 (q4 (q3 (q2 (q1 (n : Int)))))) 63 = bC n := by
    rw [y5]
    show zand ((n5 (n4 (n3 (n2 (n1 n)))) : Nat) : Int) ((63 : Nat) : Int) = _
    rw [zand_nat (by omega) (by omega), c7, bC, nB_bN]
  refine vJ6_bitCount_0f7a4 d n M K ⟨?_, ?_, ?_, ?_, ?_, ?_⟩
  · show r32 (q1 n)
    rw [y1]; exact ⟨by omega, by omega⟩
  · show r32 (q2 (q1 n))
    rw [y2]; exact ⟨by omega, by omega⟩
  · show r32 (q3 (q2 (q1 n)))
    rw [y3]; exact ⟨by omega, by omega⟩
  · show r32 (q4 (q3 (q2 (q1 n))))
    rw [y4]; exact ⟨by omega, by omega⟩
  · show r32 (q5 (q4 (q3 (q2 (q1 n)))))
    rw [y5]; exact ⟨by omega, by omega⟩
  · show K (zand (q5 (q4 (q3 (q2 (q1 n))))) 63) M
    rw [y6]
    exact hK
