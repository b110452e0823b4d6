/-! what RIDES are worth: the number itself -/
/-- road k of place p, or the last one -/
def rdc (K : Int → Int) (p k : Int) : Int := K (10 * p + 3 + (if k < K (10 * p + 2) then k else K (10 * p + 2) - 1))
def mx3 (a b c : Int) : Int := max a (max b c)
/-- worth from place p with n STEPS left, in ten-to-the-n-ths; fr: LOOKS at which the best ROAD is taken -/
def VV (K : Int → Int) (E : Int → Int → Int) (hd : Int → Int) (fr : Int → Bool) : Nat → Int → Int
  | 0, p => if p < K 182 then (if K (10 * p) = 3 then E p (K 179) else K 180) else K 181
  | n + 1, p => if p < K 182 then
      (if K (10 * p) = 3 then E p (K 179 - ((n + 1 : Nat) : Int)) * 10 ^ (n + 1)
      else if K (10 * p) = 2 then 10 * VV K E hd fr n (rdc K p 0) - K (10 * p + 1) * 10 ^ (n + 1)
      else if K (10 * p) = 1 then K (10 * p + 6) * VV K E hd fr n (rdc K p 0) + K (10 * p + 7) * VV K E hd fr n (rdc K p 1) + K (10 * p + 8) * VV K E hd fr n (rdc K p 2)
      else if fr (K (10 * p + 1)) = true then 10 * mx3 (VV K E hd fr n (rdc K p 0)) (VV K E hd fr n (rdc K p 1)) (VV K E hd fr n (rdc K p 2))
      else hd (3 * K (10 * p + 1)) * VV K E hd fr n (rdc K p 0) + hd (3 * K (10 * p + 1) + 1) * VV K E hd fr n (rdc K p 1) + hd (3 * K (10 * p + 1) + 2) * VV K E hd fr n (rdc K p 2))
    else K 181 * 10 ^ (n + 1)
/-- a hand: TENTHS by LOOKS -/
def HD (hd : Int → Int) : Prop := ∀ l, 0 ≤ l → l < 6 → 0 ≤ hd (3 * l) ∧ 0 ≤ hd (3 * l + 1) ∧ 0 ≤ hd (3 * l + 2) ∧ hd (3 * l) + hd (3 * l + 1) + hd (3 * l + 2) = 10
def EB (K : Int → Int) (E : Int → Int → Int) : Prop := ∀ p s, -999 ≤ E p s ∧ E p s ≤ 999
theorem tTell_rg (L : LB) (p s d : Int) : -999 ≤ tTell L p s d ∧ tTell L p s d ≤ 999 := by
  unfold tTell
  split
  · omega
  · split <;> omega
def BD (n : Nat) : Int := (999 + 99 * (n : Int)) * 10 ^ n
theorem BD_0 : BD 0 = 999 := by decide
theorem BD_s (n : Nat) : 10 * BD n + 99 * 10 ^ (n + 1) = BD (n + 1) := by
  unfold BD
  rw [Int.pow_succ]
  generalize (10 : Int) ^ n = x
  have : ((n + 1 : Nat) : Int) = (n : Int) + 1 := by omega
  rw [this]
  have e1 : (999 + 99 * (n : Int)) * x = 999 * x + 99 * ((n : Int) * x) := by rw [Int.add_mul, Int.mul_assoc]
  have e2 : (999 + 99 * ((n : Int) + 1)) * (x * 10) = 10980 * x + 990 * ((n : Int) * x) := by
    rw [show (999 + 99 * ((n : Int) + 1)) = 1098 + 99 * (n : Int) by omega, Int.add_mul, Int.mul_assoc 99, ← Int.mul_assoc (n : Int) x 10]
    omega
  rw [e1, e2]
  omega
theorem pow10_pos (n : Nat) : 1 ≤ (10 : Int) ^ n := by
  have : 0 < (10 : Int) ^ n := Int.pow_pos (by decide)
  omega
theorem wsum {a b c x y z B S : Int} (ha : 0 ≤ a) (hb : 0 ≤ b) (hc : 0 ≤ c) (hs : a + b + c = S) (hx : -B ≤ x ∧ x ≤ B) (hy : -B ≤ y ∧ y ≤ B) (hz : -B ≤ z ∧ z ≤ B) : -(S * B) ≤ a * x + b * y + c * z ∧ a * x + b * y + c * z ≤ S * B := by
  have e : S * B = a * B + b * B + c * B := by rw [← hs, Int.add_mul, Int.add_mul]
  have x1 := Int.mul_le_mul_of_nonneg_left hx.2 ha
  have x2 := Int.mul_le_mul_of_nonneg_left hx.1 ha
  have y1 := Int.mul_le_mul_of_nonneg_left hy.2 hb
  have y2 := Int.mul_le_mul_of_nonneg_left hy.1 hb
  have z1 := Int.mul_le_mul_of_nonneg_left hz.2 hc
  have z2 := Int.mul_le_mul_of_nonneg_left hz.1 hc
  rw [Int.mul_neg] at x2 y2 z2
  rw [e]
  omega
theorem wone {x B T : Int} (hT : 0 ≤ T) (hx : -B ≤ x ∧ x ≤ B) : -(B * T) ≤ x * T ∧ x * T ≤ B * T := by
  have x1 := Int.mul_le_mul_of_nonneg_right hx.2 hT
  have x2 := Int.mul_le_mul_of_nonneg_right hx.1 hT
  rw [Int.neg_mul] at x2
  exact ⟨x2, x1⟩
theorem BD_ge (n : Nat) : 999 * 10 ^ n ≤ BD n := by
  unfold BD
  exact Int.mul_le_mul_of_nonneg_right (by omega) (by have := pow10_pos n; omega)
theorem VV_bd {K : Int → Int} {E : Int → Int → Int} {hd : Int → Int} {fr : Int → Bool} (hW : WF K) (hE : EB K E) (hH : HD hd) : ∀ (n : Nat) (p : Int), 0 ≤ p → -BD n ≤ VV K E hd fr n p ∧ VV K E hd fr n p ≤ BD n := by
  obtain ⟨a1, a2, a3, a4, a5, a6, a7, a8⟩ := hW
  intro n
  induction n with
  | zero =>
    intro p p0
    have := hE p (K 179)
    rw [BD_0]
    unfold VV
    split
    · split <;> omega
    · omega
  | succ n ih =>
    intro p p0
    have hs := BD_s n
    have hg := BD_ge (n + 1)
    have hp := pow10_pos (n + 1)
    unfold VV
    by_cases hpl : p < K 182
    · rw [if_pos hpl]
      have hw := a8 p p0 hpl
      have hr := hw.rc
      obtain ⟨w1, w2, w3, w4, w5, w6⟩ := hw
      by_cases k3 : K (10 * p) = 3
      · rw [if_pos k3]
        have := wone (T := 10 ^ (n + 1)) (by omega) (hE p (K 179 - ((n + 1 : Nat) : Int)))
        omega
      rw [if_neg k3]
      have rdb : ∀ k, 0 ≤ k → 0 ≤ rdc K p k := by
        intro k k0
        unfold rdc
        have h1 : 1 ≤ K (10 * p + 2) := by
          rcases (by omega : K (10 * p) = 0 ∨ K (10 * p) = 1 ∨ K (10 * p) = 2) with q | q | q
          · have := w2 q; omega
          · have := w3 q; omega
          · have := w4 q; omega
        split
        · exact (w6 k k0 (by omega)).1
        · exact (w6 _ (by omega) (by omega)).1
      have i0 := ih _ (rdb 0 (by omega))
      have i1 := ih _ (rdb 1 (by omega))
      have i2 := ih _ (rdb 2 (by omega))
      by_cases k2 : K (10 * p) = 2
      · rw [if_pos k2]
        have := wone (B := 99) (x := K (10 * p + 1)) (T := 10 ^ (n + 1)) (by omega) (by have := w4 k2; omega)
        omega
      rw [if_neg k2]
      by_cases k1 : K (10 * p) = 1
      · rw [if_pos k1]
        obtain ⟨t1, t2, t3, t4, t5⟩ := w3 k1
        have n6 : 0 ≤ K (10 * p + 6) := by have := t2 0 (by omega) (by omega); rw [Int.add_zero] at this; omega
        have n7 : 0 ≤ K (10 * p + 7) := by
          by_cases q : K (10 * p + 2) ≤ 1
          · have := t4 q; omega
          · have := t2 1 (by omega) (by omega); rw [show 10 * p + 6 + 1 = 10 * p + 7 by omega] at this; omega
        have n8 : 0 ≤ K (10 * p + 8) := by
          by_cases q : K (10 * p + 2) ≤ 2
          · have := t5 q; omega
          · have := t2 2 (by omega) (by omega); rw [show 10 * p + 6 + 2 = 10 * p + 8 by omega] at this; omega
        have := wsum n6 n7 n8 t3 i0 i1 i2
        omega
      rw [if_neg k1]
      have hl := (w2 (by omega)).1
      split
      · unfold mx3; omega
      · obtain ⟨q1, q2, q3, q4⟩ := hH (K (10 * p + 1)) hl.1 (by omega)
        have := wsum q1 q2 q3 q4 i0 i1 i2
        omega
    · rw [if_neg hpl]
      have := wone (T := 10 ^ (n + 1)) (by omega) a5
      omega
theorem BD_le (n : Nat) (h : n ≤ 10) : BD n ≤ 19890000000000 := by
  have : ∀ n, n ≤ 10 → BD n ≤ 19890000000000 := by decide +kernel
  exact this n h
theorem ten_le (n : Nat) (h : n ≤ 10) : (10 : Int) ^ n ≤ 10000000000 := by
  have : ∀ n, n ≤ 10 → (10 : Int) ^ n ≤ 10000000000 := by decide +kernel
  exact this n h
