/-! sets of PLACES by SIGNS -/
def ps (sel : Nat → Bool) (f : Nat → Nat) : Nat → Nat
  | 0 => 0
  | n + 1 => ps sel f n + (if sel n = true then 2 ^ f n else 0)
def SI (f : Nat → Nat) (n : Nat) : Prop := ∀ i j, i < j → j < n → f i < f j
theorem SI.less {f : Nat → Nat} {n m : Nat} (h : SI f n) (hm : m ≤ n) : SI f m := fun i j a b => h i j a (by omega)
theorem ps_lt {sel : Nat → Bool} {f : Nat → Nat} : ∀ {n : Nat}, SI f n → ∀ b, (∀ i, i < n → f i < b) → ps sel f n < 2 ^ b := by
  intro n
  induction n with
  | zero => intro _ b _; exact Nat.two_pow_pos b
  | succ n ih =>
    intro h b hb
    have i1 := ih (h.less (by omega)) (f n) (fun i hi => h i n hi (by omega))
    have i2 : 2 ^ (f n + 1) ≤ 2 ^ b := Nat.pow_le_pow_right (by decide) (hb n (by omega))
    rw [Nat.pow_succ] at i2
    unfold ps
    split <;> omega
theorem ps_bit {sel : Nat → Bool} {f : Nat → Nat} : ∀ {n : Nat}, SI f n → ∀ p, ((ps sel f n).testBit p = true ↔ ∃ i, i < n ∧ f i = p ∧ sel i = true) := by
  intro n
  induction n with
  | zero =>
    intro _ p
    constructor
    · intro h
      have : (0 : Nat).testBit p = true := h
      rw [Nat.zero_testBit] at this
      cases this
    · rintro ⟨i, a, -⟩; omega
  | succ n ih =>
    intro h p
    have ih := ih (h.less (by omega)) p
    have lt := ps_lt (sel := sel) (h.less (show n ≤ n + 1 by omega)) (f n) (fun i hi => h i n hi (by omega))
    unfold ps
    cases hs : sel n with
    | false =>
      rw [if_neg (by decide), Nat.add_zero, ih]
      constructor
      · rintro ⟨i, a, b, c⟩; exact ⟨i, by omega, b, c⟩
      · rintro ⟨i, a, b, c⟩
        refine ⟨i, ?_, b, c⟩
        have : i ≠ n := by rintro rfl; rw [hs] at c; cases c
        omega
    | true =>
      rw [if_pos rfl, Nat.add_comm, show 2 ^ f n + ps sel f n = 2 ^ f n * 1 + ps sel f n by rw [Nat.mul_one], Nat.testBit_two_pow_mul_add 1 lt]
      by_cases hp : p < f n
      · rw [if_pos hp, ih]
        constructor
        · rintro ⟨i, a, b, c⟩; exact ⟨i, by omega, b, c⟩
        · rintro ⟨i, a, b, c⟩
          refine ⟨i, ?_, b, c⟩
          have : i ≠ n := by rintro rfl; omega
          omega
      · rw [if_neg hp]
        constructor
        · intro ht
          by_cases e : p = f n
          · exact ⟨n, by omega, e.symm, hs⟩
          · exfalso
            rw [Nat.testBit_lt_two_pow (show 1 < 2 ^ (p - f n) by
              have : 2 ^ 1 ≤ 2 ^ (p - f n) := Nat.pow_le_pow_right (by decide) (by omega)
              omega)] at ht
            cases ht
        · rintro ⟨i, a, b, c⟩
          by_cases e : i = n
          · rw [← b, e, Nat.sub_self]; rfl
          · have := h i n (by omega) (by omega)
            omega
theorem ps_mono {f : Nat → Nat} {j j' : Nat} : ∀ {n : Nat}, SI f n → j % 2 ^ n ≤ j' % 2 ^ n → ps (fun i => j.testBit i) f n ≤ ps (fun i => j'.testBit i) f n := by
  intro n
  induction n with
  | zero => intro _ _; exact Nat.le_refl _
  | succ n ih =>
    intro h hj
    have lt := ps_lt (sel := fun i => j.testBit i) (h.less (show n ≤ n + 1 by omega)) (f n) (fun i hi => h i n hi (by omega))
    have ih := ih (h.less (by omega))
    rw [Nat.mod_pow_succ, Nat.mod_pow_succ] at hj
    have m1 := Nat.mod_lt j (Nat.two_pow_pos n)
    have m2 := Nat.mod_lt j' (Nat.two_pow_pos n)
    unfold ps
    rw [Nat.testBit_eq_decide_div_mod_eq, Nat.testBit_eq_decide_div_mod_eq]
    rcases (by omega : j / 2 ^ n % 2 = 0 ∨ j / 2 ^ n % 2 = 1) with a | a <;> rcases (by omega : j' / 2 ^ n % 2 = 0 ∨ j' / 2 ^ n % 2 = 1) with b | b <;> rw [a, b] at hj ⊢
    · have := ih (by omega)
      simp
      omega
    · simp
      omega
    · exfalso
      omega
    · have := ih (by omega)
      simp
      omega
theorem bN_add {a k : Nat} (ha : a < 2 ^ k) : ∀ m : Nat, bN ((a + 2 ^ k : Nat) : Int) m = bN (a : Int) m + (if k < m then 1 else 0) := by
  have tb : ∀ i : Nat, bt ((a + 2 ^ k : Nat) : Int) i = (bt (a : Int) i || decide (i = k)) := by
    intro i
    unfold bt
    rw [Int.toNat_natCast, Int.toNat_natCast, Int.toNat_natCast, Nat.add_comm, show 2 ^ k + a = 2 ^ k * 1 + a by rw [Nat.mul_one], Nat.testBit_two_pow_mul_add 1 ha]
    by_cases hi : i < k
    · rw [if_pos hi, show decide (i = k) = false by simp; omega, Bool.or_false]
    · rw [if_neg hi, Nat.testBit_lt_two_pow (Nat.lt_of_lt_of_le ha (Nat.pow_le_pow_right (by decide) (by omega))), Bool.false_or]
      by_cases e : i = k
      · rw [e, Nat.sub_self]; simp
      · rw [Nat.testBit_lt_two_pow (show 1 < 2 ^ (i - k) by
          have : 2 ^ 1 ≤ 2 ^ (i - k) := Nat.pow_le_pow_right (by decide) (by omega)
          omega)]
        simp
        omega
  have ka : bt (a : Int) k = false := by
    unfold bt
    rw [Int.toNat_natCast, Int.toNat_natCast]
    exact Nat.testBit_lt_two_pow ha
  intro m
  induction m with
  | zero => rfl
  | succ m ih =>
    show bN ((a + 2 ^ k : Nat) : Int) m + (if bt ((a + 2 ^ k : Nat) : Int) m = true then 1 else 0) = bN (a : Int) m + (if bt (a : Int) m = true then 1 else 0) + _
    rw [ih, tb m]
    by_cases e : m = k
    · have hb : bt (a : Int) m = false := by rw [e]; exact ka
      have c1 : (if k < m then (1 : Int) else 0) = 0 := if_neg (by omega)
      have c2 : (if k < m + 1 then (1 : Int) else 0) = 1 := if_pos (by omega)
      rw [hb, c1, c2, show decide (m = k) = true by simp [e]]
      simp
    · have c1 : (if k < m + 1 then (1 : Int) else 0) = (if k < m then (1 : Int) else 0) := by
        by_cases h : k < m
        · rw [if_pos h, if_pos (by omega)]
        · rw [if_neg h, if_neg (by omega)]
      rw [c1, show decide (m = k) = false by simp; omega, Bool.or_false, Int.add_right_comm]
theorem ps_cnt {f : Nat → Nat} {j : Nat} : ∀ {n : Nat}, SI f n → (∀ i, i < n → f i < 16) → bC ((ps (fun i => j.testBit i) f n : Nat) : Int) = bN (j : Int) n := by
  intro n
  induction n with
  | zero => intro _ _; exact bN_zero (fun i _ => bt_zero _)
  | succ n ih =>
    intro h hb
    have ih := ih (h.less (by omega)) (fun i hi => hb i (by omega))
    have lt := ps_lt (sel := fun i => j.testBit i) (h.less (show n ≤ n + 1 by omega)) (f n) (fun i hi => h i n hi (by omega))
    have f16 := hb n (by omega)
    have ej : bt (j : Int) n = j.testBit n := by unfold bt; rw [Int.toNat_natCast, Int.toNat_natCast]
    show bC ((ps (fun i => j.testBit i) f n + (if j.testBit n = true then 2 ^ f n else 0) : Nat) : Int) = bN (j : Int) n + (if bt (j : Int) n = true then 1 else 0)
    rw [ej]
    cases hs : j.testBit n with
    | true =>
      rw [if_pos rfl, if_pos rfl, bC, bN_add lt 16, if_pos f16]
      have ih : bN ((ps (fun i => j.testBit i) f n : Nat) : Int) 16 = bN (j : Int) n := ih
      rw [ih]
    | false =>
      rw [if_neg (by decide), if_neg (by decide), Nat.add_zero, Int.add_zero]
      exact ih
theorem bN_low {j : Nat} {n : Nat} (hj : j < 2 ^ n) (hn : n ≤ 16) : bC (j : Int) = bN (j : Int) n := by
  have : ∀ m : Nat, bN (j : Int) (n + m) = bN (j : Int) n := by
    intro m
    induction m with
    | zero => rfl
    | succ m ih =>
      show bN (j : Int) (n + m) + (if bt (j : Int) ((n + m : Nat) : Int) = true then 1 else 0) = _
      have : bt (j : Int) ((n + m : Nat) : Int) = false := by
        unfold bt
        rw [Int.toNat_natCast, Int.toNat_natCast]
        exact Nat.testBit_lt_two_pow (Nat.lt_of_lt_of_le hj (Nat.pow_le_pow_right (by decide) (by omega)))
      rw [ih, this, if_neg (by decide), Int.add_zero]
  have h := this (16 - n)
  rw [show n + (16 - n) = 16 by omega] at h
  exact h
/-- each set of such PLACES is told by SIGNS -/
theorem ps_surj {f : Nat → Nat} {n s : Nat} (h : SI f n) (hs : ∀ p, s.testBit p = true → ∃ i, i < n ∧ f i = p) : ∃ j, j < 2 ^ n ∧ ps (fun i => j.testBit i) f n = s := by
  have hid : SI (fun i => i) n := fun i j a _ => a
  refine ⟨ps (fun i => s.testBit (f i)) (fun i => i) n, ps_lt hid n (fun i hi => hi), ?_⟩
  apply Nat.eq_of_testBit_eq
  intro p
  have b1 := ps_bit (sel := fun i => (ps (fun i => s.testBit (f i)) (fun i => i) n).testBit i) h p
  have b2 : ∀ i, ((ps (fun i => s.testBit (f i)) (fun i => i) n).testBit i = true ↔ ∃ k, k < n ∧ k = i ∧ s.testBit (f k) = true) := fun i => ps_bit (sel := fun i => s.testBit (f i)) hid i
  rw [Bool.eq_iff_iff, b1]
  constructor
  · rintro ⟨i, a, b, c⟩
    obtain ⟨k, k1, k2, k3⟩ := (b2 i).mp c
    rw [← b, ← k2]; exact k3
  · intro hp
    obtain ⟨i, a, b⟩ := hs p hp
    exact ⟨i, a, b, (b2 i).mpr ⟨i, a, rfl, by rw [b]; exact hp⟩⟩
/-! the best set of SIGNS -/
def GB (K : Int → Int) (E : Int → Int → Int) (l least r : Int) : Prop := (r = -1 ∧ ∀ s, SB K l s → vS K E s < least) ∨ (SB K l r ∧ least ≤ vS K E r ∧ ∀ s, SB K l s → least ≤ vS K E s → bC r < bC s ∨ (bC r = bC s ∧ r ≤ s))
theorem GB_one {K : Int → Int} {E : Int → Int → Int} {l least r r' : Int} (h : GB K E l least r) (h' : GB K E l least r') : r = r' := by
  rcases h with ⟨a, b⟩ | ⟨a, b, c⟩ <;> rcases h' with ⟨a', b'⟩ | ⟨a', b', c'⟩
  · rw [a, a']
  · have := b r' a'; omega
  · have := b' r a; omega
  · have x := c r' a' b'
    have y := c' r a b
    omega
def MX (K : Int → Int) (E : Int → Int → Int) (l x : Int) : Prop := (∃ s, SB K l s ∧ x = vS K E s) ∧ ∀ s, SB K l s → vS K E s ≤ x
theorem MX_one {K : Int → Int} {E : Int → Int → Int} {l x x' : Int} (h : MX K E l x) (h' : MX K E l x') : x = x' := by
  obtain ⟨⟨s, a, b⟩, c⟩ := h
  obtain ⟨⟨s', a', b'⟩, c'⟩ := h'
  have := c s' a'
  have := c' s a
  omega
theorem SB_zero (K : Int → Int) (l : Int) : SB K l 0 := ⟨bs_zero 16, fun p _ h => by rw [bt_zero] at h; cases h⟩
theorem SB_iff {K : Int → Int} {l s : Int} (hpl : 0 ≤ K 182 ∧ K 182 ≤ 16) (hs : bs 16 s) : zand s (zxor (fb K l (K 182).toNat) (-1)) = 0 ↔ SB K l s := by
  have fbb := fb_bs (K := K) (l := l) (K 182).toNat (by omega)
  have fr := fbb.r (by decide)
  have sr := hs.r (by decide)
  constructor
  · intro h
    refine ⟨hs, fun p p0 hb => ?_⟩
    have d := bt_diff (k := p) sr.1 sr.2 fr.1
    rw [h, bt_zero, hb, Bool.true_and] at d
    have : bt (fb K l (K 182).toNat) p = true := by
      cases hq : bt (fb K l (K 182).toNat) p with
      | true => rfl
      | false => rw [hq] at d; cases d
    have := (fb_bt p0 (K 182).toNat (by omega)).mp this
    exact ⟨by omega, this.2.1, this.2.2⟩
  · intro h
    refine bs_ext (bs_diff (by decide) hs fr.1) (bs_zero 16) (fun k hk => ?_)
    rw [bt_diff sr.1 sr.2 fr.1, bt_zero]
    cases hb : bt s k with
    | false => rfl
    | true =>
      have := h.2 k (by omega) hb
      rw [(fb_bt (K := K) (l := l) (p := (k : Int)) (by omega) (K 182).toNat (by omega)).mpr ⟨by omega, this.2.1, this.2.2⟩]
      rfl
