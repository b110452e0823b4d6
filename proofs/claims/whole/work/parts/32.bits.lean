/-! bits -/
theorem zand_nat {n m : Nat} (hn : n < 2147483648) (hm : m < 2147483648) : zand n m = ((n &&& m : Nat) : Int) := by
  have hl : n &&& m ≤ n := Nat.and_le_left
  show (BitVec.ofInt 32 (n : Int) &&& BitVec.ofInt 32 (m : Int)).toInt = _
  rw [BitVec.ofInt_natCast, BitVec.ofInt_natCast, ← BitVec.ofNat_and]
  have e : (BitVec.ofNat 32 (n &&& m)).toNat = n &&& m := by
    rw [BitVec.toNat_ofNat, Nat.mod_eq_of_lt (by omega)]
  rw [BitVec.toInt_eq_toNat_of_lt (by rw [e]; omega), e]
theorem zor_nat {n m : Nat} (hn : n < 2147483648) (hm : m < 2147483648) : zor n m = ((n ||| m : Nat) : Int) := by
  have hl : n ||| m < 2 ^ 31 := Nat.or_lt_two_pow hn hm
  show (BitVec.ofInt 32 (n : Int) ||| BitVec.ofInt 32 (m : Int)).toInt = _
  rw [BitVec.ofInt_natCast, BitVec.ofInt_natCast, ← BitVec.ofNat_or]
  have e : (BitVec.ofNat 32 (n ||| m)).toNat = n ||| m := by
    rw [BitVec.toNat_ofNat, Nat.mod_eq_of_lt (by omega)]
  rw [BitVec.toInt_eq_toNat_of_lt (by rw [e]; omega), e]
theorem sh31 : ∀ k : Nat, k < 32 → ((zi (k : Int) &&& 31).toBitVec.smod 32).toNat = k := by decide +kernel
theorem zshr_div {x : Int} (hx : r32 x) {k : Nat} (hk : k < 32) : zshr x k = x / 2 ^ k := by
  show (BitVec.sshiftRight' (zi x).toBitVec ((zi (k : Int) &&& 31).toBitVec.smod 32)).toInt = _
  unfold BitVec.sshiftRight'
  rw [BitVec.toInt_sshiftRight, sh31 k hk, Int.shiftRight_eq_div_pow]
  congr 1
  exact zi_toInt hx.1 hx.2
theorem zshl_nat {n k : Nat} (hk : k < 32) (hn : n * 2 ^ k < 2147483648) : zshl n k = ((n * 2 ^ k : Nat) : Int) := by
  have hp : 0 < 2 ^ k := Nat.two_pow_pos k
  have hle : n ≤ n * 2 ^ k := Nat.le_mul_of_pos_right n hp
  show ((zi (n : Int)).toBitVec <<< ((zi (k : Int) &&& 31).toBitVec.smod 32)).toInt = _
  have e : ((zi (n : Int)).toBitVec <<< ((zi (k : Int) &&& 31).toBitVec.smod 32)).toNat = n * 2 ^ k := by
    rw [BitVec.shiftLeft_eq', BitVec.toNat_shiftLeft, sh31 k hk]
    have : (zi (n : Int)).toBitVec.toNat = n := by
      show (BitVec.ofInt 32 (n : Int)).toNat = n
      rw [BitVec.ofInt_natCast, BitVec.toNat_ofNat, Nat.mod_eq_of_lt (by omega)]
    rw [this, Nat.shiftLeft_eq, Nat.mod_eq_of_lt (by omega)]
  rw [BitVec.toInt_eq_toNat_of_lt (by rw [e]; omega), e]
/-- bit k of x -/
def bt (x k : Int) : Bool := x.toNat.testBit k.toNat
theorem bt_read {x k : Int} (h0 : 0 ≤ x) (h1 : x ≤ 2147483647) (k0 : 0 ≤ k) (k1 : k < 31) : zand (zshr x k) 1 = if bt x k = true then 1 else 0 := by
  obtain ⟨n, rfl⟩ : ∃ n : Nat, x = n := ⟨x.toNat, by omega⟩
  obtain ⟨j, rfl⟩ : ∃ j : Nat, k = j := ⟨k.toNat, by omega⟩
  rw [zshr_div ⟨by omega, by omega⟩ (by omega)]
  have e : (n : Int) / 2 ^ j = ((n / 2 ^ j : Nat) : Int) := by
    rw [Int.natCast_ediv, Int.natCast_pow]
    rfl
  have hl : n / 2 ^ j ≤ n := Nat.div_le_self n _
  rw [e, show (1 : Int) = ((1 : Nat) : Int) from rfl, zand_nat (by omega) (by omega)]
  unfold bt
  rw [Int.toNat_natCast, Int.toNat_natCast, Nat.and_one_is_mod]
  rw [Nat.testBit_eq_decide_div_mod_eq]
  by_cases hb : n / 2 ^ j % 2 = 1
  · rw [if_pos (by simp [hb]), hb]
  · rw [if_neg (by simp [hb])]
    omega
theorem bt_or {x y k : Int} (x0 : 0 ≤ x) (x1 : x ≤ 2147483647) (y0 : 0 ≤ y) (y1 : y ≤ 2147483647) : bt (zor x y) k = (bt x k || bt y k) := by
  obtain ⟨n, rfl⟩ : ∃ n : Nat, x = n := ⟨x.toNat, by omega⟩
  obtain ⟨m, rfl⟩ : ∃ m : Nat, y = m := ⟨y.toNat, by omega⟩
  rw [zor_nat (by omega) (by omega)]
  unfold bt
  rw [Int.toNat_natCast, Int.toNat_natCast, Int.toNat_natCast, Nat.testBit_or]
theorem bt_and {x y k : Int} (x0 : 0 ≤ x) (x1 : x ≤ 2147483647) (y0 : 0 ≤ y) (y1 : y ≤ 2147483647) : bt (zand x y) k = (bt x k && bt y k) := by
  obtain ⟨n, rfl⟩ : ∃ n : Nat, x = n := ⟨x.toNat, by omega⟩
  obtain ⟨m, rfl⟩ : ∃ m : Nat, y = m := ⟨y.toNat, by omega⟩
  rw [zand_nat (by omega) (by omega)]
  unfold bt
  rw [Int.toNat_natCast, Int.toNat_natCast, Int.toNat_natCast, Nat.testBit_and]
theorem zshl1 {k : Int} (k0 : 0 ≤ k) (k1 : k < 31) : zshl 1 k = ((2 ^ k.toNat : Nat) : Int) := by
  obtain ⟨j, rfl⟩ : ∃ j : Nat, k = j := ⟨k.toNat, by omega⟩
  have : 2 ^ j < 2 ^ 31 := Nat.pow_lt_pow_right (by decide) (by omega)
  have := zshl_nat (n := 1) (k := j) (by omega) (by omega)
  rw [Nat.one_mul] at this
  exact this
theorem bt_shl {k j : Int} (k0 : 0 ≤ k) (k1 : k < 31) (j0 : 0 ≤ j) : bt (zshl 1 k) j = decide (j = k) := by
  rw [zshl1 k0 k1]
  unfold bt
  rw [Int.toNat_natCast, Nat.testBit_two_pow]
  exact decide_eq_decide.mpr (by omega)
/-- sets of at most m bits -/
def bs (m : Nat) (x : Int) : Prop := 0 ≤ x ∧ x < ((2 ^ m : Nat) : Int)
theorem bs_or {m : Nat} (hm : m ≤ 31) {x y : Int} (hx : bs m x) (hy : bs m y) : bs m (zor x y) := by
  have : 2 ^ m ≤ 2 ^ 31 := Nat.pow_le_pow_right (by decide) hm
  obtain ⟨x0, x1⟩ := hx
  obtain ⟨y0, y1⟩ := hy
  obtain ⟨n, rfl⟩ : ∃ n : Nat, x = n := ⟨x.toNat, by omega⟩
  obtain ⟨k, rfl⟩ : ∃ m : Nat, y = m := ⟨y.toNat, by omega⟩
  rw [zor_nat (by omega) (by omega)]
  have := Nat.or_lt_two_pow (x := n) (y := k) (n := m) (by omega) (by omega)
  unfold bs
  omega
theorem bs_shl {m : Nat} (hm : m ≤ 31) {k : Int} (k0 : 0 ≤ k) (k1 : k < m) : bs m (zshl 1 k) := by
  rw [zshl1 k0 (by omega)]
  have := Nat.pow_lt_pow_right (a := 2) (by decide) (show k.toNat < m by omega)
  exact ⟨Int.natCast_nonneg _, Int.ofNat_lt.mpr this⟩
theorem bs.r {m : Nat} (hm : m ≤ 31) {x : Int} (h : bs m x) : 0 ≤ x ∧ x ≤ 2147483647 := by
  have : 2 ^ m ≤ 2 ^ 31 := Nat.pow_le_pow_right (by decide) hm
  unfold bs at h
  omega
theorem bs_zero (m : Nat) : bs m 0 := by
  have := Nat.two_pow_pos m
  unfold bs
  omega
theorem uB_bs {K : Int → Int} (n : Nat) (h : ∀ p : Int, 0 ≤ p → p < n → K (10 * p) = 0 → 0 ≤ K (10 * p + 1) ∧ K (10 * p + 1) ≤ 5) : bs 6 (uB K n) := by
  induction n with
  | zero => exact bs_zero 6
  | succ n ih =>
    have ih := ih (fun p p0 p1 => h p p0 (by omega))
    unfold uB
    split
    · rename_i hk
      have := h n (by omega) (by omega) hk
      exact bs_or (by decide) ih (bs_shl (by decide) (by omega) (by omega))
    · exact ih
theorem WF.us {K : Int → Int} (h : WF K) : bs 6 (uS K) := uB_bs _ (fun p p0 p1 hk => ((h.2.2.2.2.2.2.2 p p0 (by have := h.1; omega)).2.1 hk).1)
/-- a LOOK is USED -/
theorem uB_bt {K : Int → Int} (n : Nat) (h : ∀ p : Int, 0 ≤ p → p < n → K (10 * p) = 0 → 0 ≤ K (10 * p + 1) ∧ K (10 * p + 1) ≤ 5) {l : Int} (l0 : 0 ≤ l) : bt (uB K n) l = true ↔ ∃ p : Int, 0 ≤ p ∧ p < n ∧ K (10 * p) = 0 ∧ K (10 * p + 1) = l := by
  induction n with
  | zero =>
    constructor
    · intro q
      unfold uB bt at q
      simp at q
    · rintro ⟨p, p0, p1, -⟩
      omega
  | succ n ih =>
    have h' : ∀ p : Int, 0 ≤ p → p < n → K (10 * p) = 0 → 0 ≤ K (10 * p + 1) ∧ K (10 * p + 1) ≤ 5 := fun p p0 p1 => h p p0 (by omega)
    have ih := ih h'
    have ub := (uB_bs n h').r (by decide)
    unfold uB
    by_cases hk : K (10 * n) = 0
    · rw [if_pos hk]
      have hl := h n (by omega) (by omega) hk
      have sb := (bs_shl (m := 6) (by decide) (k := K (10 * n + 1)) (by omega) (by omega)).r (by decide)
      rw [bt_or ub.1 ub.2 sb.1 sb.2, Bool.or_eq_true, ih, bt_shl (by omega) (by omega) l0, decide_eq_true_eq]
      constructor
      · rintro (⟨p, a, b, c, e⟩ | e)
        · exact ⟨p, a, by omega, c, e⟩
        · exact ⟨n, by omega, by omega, hk, e.symm⟩
      · rintro ⟨p, a, b, c, e⟩
        by_cases hp : p < n
        · exact Or.inl ⟨p, a, hp, c, e⟩
        · have : p = n := by omega
          subst this
          exact Or.inr e.symm
    · rw [if_neg hk, ih]
      constructor
      · rintro ⟨p, a, b, c, e⟩
        exact ⟨p, a, by omega, c, e⟩
      · rintro ⟨p, a, b, c, e⟩
        by_cases hp : p < n
        · exact ⟨p, a, hp, c, e⟩
        · have : p = n := by omega
          subst this
          exact absurd c hk
/-- how many bits -/
def bN (x : Int) : Nat → Int
  | 0 => 0
  | n + 1 => bN x n + (if bt x n = true then 1 else 0)
abbrev bC (x : Int) : Int := bN x 16
theorem bN_rg (x : Int) (n : Nat) : 0 ≤ bN x n ∧ bN x n ≤ n := by
  induction n with
  | zero => unfold bN; omega
  | succ n ih => unfold bN; split <;> omega
section Ones
variable {d t : Nat} {M : ZM}
theorem m_isIn {x k : Int} {K : Int → ZM → Prop} (h0 : 0 ≤ x) (h1 : x ≤ 2147483647) (k0 : 0 ≤ k) (k1 : k < 31) (g1 : bt x k = true → K 1 M) (g0 : bt x k = false → K 0 M) : zcI (d + 1) 147 [zI x, zI k] M K := by
  refine vX10_isIn d x k M K ?_
  rw [bt_read h0 h1 k0 k1]
  cases hb : bt x k with
  | true => exact ⟨fun q => absurd (if_pos rfl) q, fun _ => ⟨by omega, g1 hb⟩⟩
  | false => exact ⟨fun _ => ⟨by omega, g0 hb⟩, fun q => by simp at q⟩
theorem m_ones {x : Int} {K : Int → ZM → Prop} (h0 : 0 ≤ x) (h1 : x ≤ 2147483647) (hK : K (bC x) M) : zcI (d + 1) 148 [zI x] M K := by
  have lp : ∀ n p : Nat, p + n = 16 → wX10_ones d 4 [(0, zI x), (1, zI (bN x p)), (2, zI p)] M K := by
    intro n
    induction n with
    | zero =>
      intro p hn
      apply vX10_ones_4
      refine ⟨fun _ => ?_, fun q => by omega⟩
      rw [show p = 16 by omega]
      exact hK
    | succ n ih =>
      intro p hn
      have nx := ih (p + 1) (by omega)
      have rg := bN_rg x p
      apply vX10_ones_4
      rw [bt_read h0 h1 (by omega) (by omega)]
      unfold bN at nx
      refine ⟨fun q => by omega, fun _ => ⟨?_, ⟨by omega, by omega⟩, nx⟩⟩
      unfold r32
      split <;> omega
  exact vX10_ones d x M K (lp _ 0 (Nat.zero_add _))
end Ones
abbrev q1 (x : Int) : Int := x - zand (zush x 1) 1431655765
abbrev q2 (y : Int) : Int := zand y 858993459 + zand (zush y 2) 858993459
abbrev q3 (y : Int) : Int := y + zush y 4
abbrev q4 (y : Int) : Int := zand y 252645135 + zush (zand y 252645135) 8
abbrev q5 (y : Int) : Int := y + zush y 16
def in32 (x : Int) : Bool := decide (-2147483648 ≤ x) && decide (x ≤ 2147483647)
theorem in32_r {x : Int} (h : in32 x = true) : r32 x := by
  unfold in32 at h
  simp only [Bool.and_eq_true, decide_eq_true_eq] at h
  exact h
theorem bc64 : ∀ x : Nat, x < 64 → (in32 (q1 x) = true ∧ in32 (q2 (q1 x)) = true ∧ in32 (q3 (q2 (q1 x))) = true ∧ in32 (q4 (q3 (q2 (q1 x)))) = true ∧ in32 (q5 (q4 (q3 (q2 (q1 x))))) = true) ∧ zand (q5 (q4 (q3 (q2 (q1 x))))) 63 = bC x := by decide +kernel
theorem c_bitCount {d : Nat} {M : ZM} {x : Int} {K : Int → ZM → Prop} (hx : bs 6 x) (hK : K (bC x) M) : zcI (d + 1) 252 [zI x] M K := by
  obtain ⟨n, rfl⟩ : ∃ n : Nat, x = n := ⟨x.toNat, by have := hx.1; omega⟩
  have hn : n < 64 := by have := hx.2; omega
  obtain ⟨⟨h1, h2, h3, h4, h5⟩, h6⟩ := bc64 n hn
  refine vJ6_bitCount_0f7a4 d n M K ⟨in32_r h1, in32_r h2, in32_r h3, in32_r h4, in32_r h5, ?_⟩
  show K (zand (q5 (q4 (q3 (q2 (q1 n))))) 63) M
  rw [h6]
  exact hK
