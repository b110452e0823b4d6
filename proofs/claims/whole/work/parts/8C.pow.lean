/-! the POLYNOMIAL: chances forward, worth backward, and that they agree -/
abbrev OPN (K : Int → Int) (lk p : Int) : Prop := K (10 * p) = 0 ∧ K (10 * p + 1) = lk
/-- what goes from p to q, of p to the i-th -/
def cq (K : Int → Int) (lk : Int) (f : Int → Int) (p q i : Int) : Int := if OPN K lk p then 10 * ((if rdc K p 0 = q then f (i - 1) else 0) + (if rdc K p 1 = q then f i - f (i - 1) else 0)) else cn K p q * f i
def FQP (K : Int → Int) (lk : Int) (F : Int → Int → Int) : Nat → Int → Int → Int
  | 0, _, _ => 0
  | n + 1, q, i => FQP K lk F n q i + cq K lk (F n) n q i
def FQ (K : Int → Int) (lk : Int) : Nat → Int → Int → Int
  | 0, q, i => if q = K 178 ∧ i = 0 then 1 else 0
  | s + 1, q, i => FQP K lk (FQ K lk s) (K 182).toNat q i
def PW (K : Int → Int) (E : Int → Int → Int) (lk : Int) : Nat → Int → Int → Int
  | 0, p, j => if j = 0 then (if p < K 182 then (if K (10 * p) = 3 then E p (K 179) else K 180) else K 181) else 0
  | n + 1, p, j => if p < K 182 then
      (if K (10 * p) = 3 then (if j = 0 then E p (K 179 - ((n + 1 : Nat) : Int)) * 10 ^ (n + 1) else 0)
      else if K (10 * p) = 2 then 10 * PW K E lk n (rdc K p 0) j - (if j = 0 then K (10 * p + 1) * 10 ^ (n + 1) else 0)
      else if OPN K lk p then 10 * (PW K E lk n (rdc K p 0) (j - 1) + PW K E lk n (rdc K p 1) j - PW K E lk n (rdc K p 1) (j - 1))
      else wO K p 0 * PW K E lk n (rdc K p 0) j + wO K p 1 * PW K E lk n (rdc K p 1) j + wO K p 2 * PW K E lk n (rdc K p 2) j)
    else if j = 0 then K 181 * 10 ^ (n + 1) else 0
theorem FQP_neg {K : Int → Int} {lk : Int} {F : Int → Int → Int} (h : ∀ q i, i < 0 → F q i = 0) : ∀ (n : Nat) (q i : Int), i < 0 → FQP K lk F n q i = 0 := by
  intro n
  induction n with
  | zero => intro q i _; rfl
  | succ n ih =>
    intro q i hi
    unfold FQP cq
    rw [ih q i hi, h n i hi, h n (i - 1) (by omega)]
    split
    · split <;> split <;> omega
    · omega
theorem FQ_neg {K : Int → Int} {lk : Int} : ∀ (s : Nat) (q i : Int), i < 0 → FQ K lk s q i = 0 := by
  intro s
  induction s with
  | zero => intro q i hi; unfold FQ; rw [if_neg (by omega)]
  | succ s ih => intro q i hi; exact FQP_neg ih _ q i hi
theorem FQP_high {K : Int → Int} {lk : Int} {F : Int → Int → Int} {m : Int} (h : ∀ q i, m < i → F q i = 0) : ∀ (n : Nat) (q i : Int), m + 1 < i → FQP K lk F n q i = 0 := by
  intro n
  induction n with
  | zero => intro q i _; rfl
  | succ n ih =>
    intro q i hi
    unfold FQP cq
    rw [ih q i hi, h n i (by omega), h n (i - 1) (by omega)]
    split
    · split <;> split <;> omega
    · omega
theorem FQ_high {K : Int → Int} {lk : Int} : ∀ (s : Nat) (q i : Int), (s : Int) < i → FQ K lk s q i = 0 := by
  intro s
  induction s with
  | zero => intro q i hi; unfold FQ; rw [if_neg (by omega)]
  | succ s ih => intro q i hi; exact FQP_high (m := (s : Int)) ih _ q i (by omega)
theorem PW_neg {K : Int → Int} {E : Int → Int → Int} {lk : Int} : ∀ (n : Nat) (p j : Int), j < 0 → PW K E lk n p j = 0 := by
  intro n
  induction n with
  | zero => intro p j hj; unfold PW; rw [if_neg (by omega)]
  | succ n ih =>
    intro p j hj
    have i1 : ∀ p, PW K E lk n p j = 0 := fun p => ih p j hj
    have i2 : ∀ p, PW K E lk n p (j - 1) = 0 := fun p => ih p (j - 1) (by omega)
    have hj0 : ¬ j = 0 := by omega
    unfold PW
    simp only [i1, i2, if_neg hj0, Int.mul_zero, Int.add_zero, Int.sub_zero, ite_self]
/-! sums -/
theorem sN_cg {f g : Int → Int} {n : Nat} (h : ∀ q : Int, 0 ≤ q → q < n → f q = g q) : sN f n = sN g n := by
  induction n with
  | zero => rfl
  | succ n ih => unfold sN; rw [ih (fun q a b => h q a (by omega)), h n (by omega) (by omega)]
theorem sN_shift (g : Int → Int) (n : Nat) : sN (fun i => g (i - 1)) (n + 1) = g (-1) + sN g n := by
  induction n with
  | zero =>
    show (0 : Int) + g (((0 : Nat) : Int) - 1) = g (-1) + 0
    rw [show (((0 : Nat) : Int) - 1) = -1 by omega]
    omega
  | succ n ih =>
    show sN (fun i => g (i - 1)) (n + 1) + g (((n + 1 : Nat) : Int) - 1) = g (-1) + (sN g n + g n)
    rw [ih, show (((n + 1 : Nat) : Int) - 1) = n by omega]
    omega
theorem sN_pick {X : Int → Int} {r w : Int} (r0 : 0 ≤ r) {n : Nat} (r1 : r < n) : sN (fun q => (if r = q then w else 0) * X q) n = w * X r := by
  have e : (fun q => (if r = q then w else 0) * X q) = fun q => if r = q then w * X r else 0 := by
    funext q
    by_cases h : r = q
    · rw [if_pos h, if_pos h, h]
    · rw [if_neg h, if_neg h, Int.zero_mul]
  rw [e, sN_ind r0, if_pos r1]
def cv (f g : Int → Int) (k : Nat) : Int := sN (fun i => f i * g (k - i)) (k + 1)
theorem cv_add (f f' g : Int → Int) (k : Nat) : cv (fun i => f i + f' i) g k = cv f g k + cv f' g k := by
  unfold cv
  rw [← sN_add]
  congr 1
  funext i
  rw [Int.add_mul]
theorem cv_mul (c : Int) (f g : Int → Int) (k : Nat) : cv (fun i => c * f i) g k = c * cv f g k := by
  unfold cv
  rw [Int.mul_comm c, ← sN_mul]
  congr 1
  funext i
  rw [Int.mul_assoc, Int.mul_comm]
theorem cv_gadd (f g g' : Int → Int) (k : Nat) : cv f (fun j => g j + g' j) k = cv f g k + cv f g' k := by
  unfold cv
  rw [← sN_add]
  congr 1
  funext i
  rw [Int.mul_add]
theorem cv_gmul (c : Int) (f g : Int → Int) (k : Nat) : cv f (fun j => c * g j) k = c * cv f g k := by
  unfold cv
  rw [Int.mul_comm c, ← sN_mul]
  congr 1
  funext i
  rw [← Int.mul_assoc, Int.mul_comm (f i * g (k - i)) c, ← Int.mul_assoc, Int.mul_comm c (f i)]
theorem cv_zero (g : Int → Int) (k : Nat) : cv (fun _ => 0) g k = 0 := sN_zero _ (fun q _ _ => Int.zero_mul _)
/-- a number alone -/
theorem cv_unit (f : Int → Int) (c : Int) (k : Nat) : cv f (fun j => if j = 0 then c else 0) k = f k * c := by
  unfold cv
  show sN (fun i => f i * (if (k : Int) - i = 0 then c else 0)) k + f k * (if (k : Int) - (k : Int) = 0 then c else 0) = _
  rw [sN_zero k (fun q a b => by rw [if_neg (by omega), Int.mul_zero]), if_pos (by omega)]
  omega
theorem cv_shift {f g : Int → Int} (hf : f (-1) = 0) (hg : g (-1) = 0) (k : Nat) : cv (fun i => f (i - 1)) g k = cv f (fun j => g (j - 1)) k := by
  unfold cv
  have e1 : sN (fun i => f (i - 1) * g (k - i)) (k + 1) = sN (fun i => (fun j => f j * g (k - j - 1)) (i - 1)) (k + 1) := sN_cg (fun q _ _ => by
    dsimp only
    rw [show (k : Int) - (q - 1) - 1 = k - q by omega])
  refine (e1.trans (sN_shift (fun j => f j * g (k - j - 1)) k)).trans ?_
  show f (-1) * g (k - (-1) - 1) + sN (fun j => f j * g (k - j - 1)) k = sN (fun i => f i * g (k - i - 1)) k + f k * g (k - k - 1)
  rw [hf, show (k : Int) - k - 1 = -1 by omega, hg]
  omega
/-- what is got at p at a STEP with n STEPS left -/
def gnd (K : Int → Int) (E : Int → Int → Int) (n : Nat) (p : Int) : Int := if p < K 182 then (if K (10 * p) = 3 then E p (K 179 - n) else if n = 0 then K 180 else if K (10 * p) = 2 then -K (10 * p + 1) else 0) else K 181
theorem PW_0 {K : Int → Int} {E : Int → Int → Int} {lk p : Int} : PW K E lk 0 p = fun j => if j = 0 then gnd K E 0 p else 0 := by
  funext j
  unfold PW gnd
  rw [show K 179 - ((0 : Nat) : Int) = K 179 by omega, if_pos rfl]
/-- one place's part: what is got there, and what goes on -/
theorem dual_one {K : Int → Int} {E : Int → Int → Int} {lk : Int} (hW : WF K) {f : Int → Int} (hf : f (-1) = 0) {n k : Nat} {p : Int} (p0 : 0 ≤ p) (p1 : p < K 182) : cv f (PW K E lk (n + 1) p) k = gnd K E (n + 1) p * f k * 10 ^ (n + 1) + sN (fun q => cv (cq K lk f p q) (PW K E lk n q) k) 16 := by
  have w1 := (hW.2.2.2.2.2.2.2 p p0 p1).1
  by_cases k3 : K (10 * p) = 3
  · have e1 : PW K E lk (n + 1) p = fun j => if j = 0 then E p (K 179 - ((n + 1 : Nat) : Int)) * 10 ^ (n + 1) else 0 := by
      funext j
      unfold PW
      rw [if_pos p1, if_pos k3]
    have e2 : ∀ q, cq K lk f p q = fun _ => 0 := by
      intro q
      funext i
      unfold cq cn
      rw [if_neg (fun z => by have := z.1; omega), if_pos k3, Int.zero_mul]
    have e3 : gnd K E (n + 1) p = E p (K 179 - ((n + 1 : Nat) : Int)) := by unfold gnd; rw [if_pos p1, if_pos k3]
    rw [e1, cv_unit, e3, sN_zero 16 (fun q _ _ => by rw [e2, cv_zero]), Int.add_zero, ← Int.mul_assoc, Int.mul_comm (f k)]
  · have r0 := rdc_nn hW p0 p1 k3 (k := 0) (by omega)
    have r1 := rdc_nn hW p0 p1 k3 (k := 1) (by omega)
    have r2 := rdc_nn hW p0 p1 k3 (k := 2) (by omega)
    by_cases ho : OPN K lk p
    · have e1 : PW K E lk (n + 1) p = fun j => 10 * ((PW K E lk n (rdc K p 0) (j - 1) + PW K E lk n (rdc K p 1) j) + (-1) * PW K E lk n (rdc K p 1) (j - 1)) := by
        funext j
        conv => lhs; unfold PW
        rw [if_pos p1, if_neg k3, if_neg (by have := ho.1; omega), if_pos ho]
        omega
      have e3 : gnd K E (n + 1) p = 0 := by unfold gnd; rw [if_pos p1, if_neg k3, if_neg (by omega), if_neg (by have := ho.1; omega)]
      have e2 : ∀ q, cv (cq K lk f p q) (PW K E lk n q) k = (if rdc K p 0 = q then 10 else 0) * cv (fun i => f (i - 1)) (PW K E lk n q) k + (if rdc K p 1 = q then 10 else 0) * (cv f (PW K E lk n q) k + (-1) * cv (fun i => f (i - 1)) (PW K E lk n q) k) := by
        intro q
        have e : cq K lk f p q = fun i => (if rdc K p 0 = q then 10 else 0) * f (i - 1) + (if rdc K p 1 = q then 10 else 0) * (f i + (-1) * f (i - 1)) := by
          funext i
          unfold cq
          rw [if_pos ho]
          split <;> split <;> omega
        rw [e, cv_add, cv_mul (if rdc K p 0 = q then 10 else 0) (fun i => f (i - 1)), cv_mul (if rdc K p 1 = q then 10 else 0) (fun i => f i + (-1) * f (i - 1)), cv_add f (fun i => (-1) * f (i - 1)), cv_mul (-1) (fun i => f (i - 1))]
      have e4 : sN (fun q => cv (cq K lk f p q) (PW K E lk n q) k) 16 = 10 * cv (fun i => f (i - 1)) (PW K E lk n (rdc K p 0)) k + 10 * (cv f (PW K E lk n (rdc K p 1)) k + (-1) * cv (fun i => f (i - 1)) (PW K E lk n (rdc K p 1)) k) := by
        rw [sN_cg (g := fun q => (fun q => (if rdc K p 0 = q then 10 else 0) * (fun q => cv (fun i => f (i - 1)) (PW K E lk n q) k) q) q + (fun q => (if rdc K p 1 = q then 10 else 0) * (fun q => cv f (PW K E lk n q) k + (-1) * cv (fun i => f (i - 1)) (PW K E lk n q) k) q) q) (fun q _ _ => e2 q), sN_add, sN_pick r0.1 (by omega), sN_pick r1.1 (by omega)]
      have s0 := cv_shift (f := f) (g := PW K E lk n (rdc K p 0)) hf (PW_neg n _ (-1) (by omega)) k
      have s1 := cv_shift (f := f) (g := PW K E lk n (rdc K p 1)) hf (PW_neg n _ (-1) (by omega)) k
      rw [e1, e3, e4, s0, s1, cv_gmul, cv_gadd f (fun j => PW K E lk n (rdc K p 0) (j - 1) + PW K E lk n (rdc K p 1) j), cv_gadd f (fun j => PW K E lk n (rdc K p 0) (j - 1)), cv_gmul (-1) f (fun j => PW K E lk n (rdc K p 1) (j - 1)), Int.zero_mul, Int.zero_mul]
      have e5 : cv f (fun j => PW K E lk n (rdc K p 1) j) k = cv f (PW K E lk n (rdc K p 1)) k := rfl
      rw [e5]
      omega
    · have e1 : PW K E lk (n + 1) p = fun j => ((wO K p 0 * PW K E lk n (rdc K p 0) j + wO K p 1 * PW K E lk n (rdc K p 1) j) + wO K p 2 * PW K E lk n (rdc K p 2) j) + (if j = 0 then gnd K E (n + 1) p * 10 ^ (n + 1) else 0) := by
        funext j
        conv => lhs; unfold PW
        rw [if_pos p1, if_neg k3]
        by_cases k2 : K (10 * p) = 2
        · have g : gnd K E (n + 1) p = -K (10 * p + 1) := by unfold gnd; rw [if_pos p1, if_neg k3, if_neg (by omega), if_pos k2]
          have o0 : wO K p 0 = 10 := by unfold wO; rw [if_pos k2, if_pos rfl]
          have o1 : wO K p 1 = 0 := by unfold wO; rw [if_pos k2, if_neg (by omega)]
          have o2 : wO K p 2 = 0 := by unfold wO; rw [if_pos k2, if_neg (by omega)]
          rw [if_pos k2, g, o0, o1, o2, Int.neg_mul]
          split <;> omega
        · have g : gnd K E (n + 1) p = 0 := by unfold gnd; rw [if_pos p1, if_neg k3, if_neg (by omega), if_neg k2]
          rw [if_neg k2, if_neg ho, g, Int.zero_mul]
          split <;> omega
      have e2 : ∀ q, cv (cq K lk f p q) (PW K E lk n q) k = ((if rdc K p 0 = q then wO K p 0 else 0) * cv f (PW K E lk n q) k + (if rdc K p 1 = q then wO K p 1 else 0) * cv f (PW K E lk n q) k) + (if rdc K p 2 = q then wO K p 2 else 0) * cv f (PW K E lk n q) k := by
        intro q
        have e : cq K lk f p q = fun i => cn K p q * f i := by
          funext i
          unfold cq
          rw [if_neg ho]
        rw [e, cv_mul, ← Int.add_mul, ← Int.add_mul]
        unfold cn
        rw [if_neg k3]
      have e4 : sN (fun q => cv (cq K lk f p q) (PW K E lk n q) k) 16 = wO K p 0 * cv f (PW K E lk n (rdc K p 0)) k + wO K p 1 * cv f (PW K E lk n (rdc K p 1)) k + wO K p 2 * cv f (PW K E lk n (rdc K p 2)) k := by
        rw [sN_cg (g := fun q => (fun q => (fun q => (if rdc K p 0 = q then wO K p 0 else 0) * (fun q => cv f (PW K E lk n q) k) q) q + (fun q => (if rdc K p 1 = q then wO K p 1 else 0) * (fun q => cv f (PW K E lk n q) k) q) q) q + (fun q => (if rdc K p 2 = q then wO K p 2 else 0) * (fun q => cv f (PW K E lk n q) k) q) q) (fun q _ _ => e2 q), sN_add, sN_add, sN_pick r0.1 (by omega), sN_pick r1.1 (by omega), sN_pick r2.1 (by omega)]
      rw [e1, e4, cv_gadd f (fun j => wO K p 0 * PW K E lk n (rdc K p 0) j + wO K p 1 * PW K E lk n (rdc K p 1) j + wO K p 2 * PW K E lk n (rdc K p 2) j), cv_gadd f (fun j => wO K p 0 * PW K E lk n (rdc K p 0) j + wO K p 1 * PW K E lk n (rdc K p 1) j), cv_gadd f (fun j => wO K p 0 * PW K E lk n (rdc K p 0) j), cv_gmul, cv_gmul, cv_gmul, cv_unit]
      have x0 : cv f (fun j => PW K E lk n (rdc K p 0) j) k = cv f (PW K E lk n (rdc K p 0)) k := rfl
      have x1 : cv f (fun j => PW K E lk n (rdc K p 1) j) k = cv f (PW K E lk n (rdc K p 1)) k := rfl
      have x2 : cv f (fun j => PW K E lk n (rdc K p 2) j) k = cv f (PW K E lk n (rdc K p 2)) k := rfl
      rw [x0, x1, x2, ← Int.mul_assoc, Int.mul_comm (f k)]
      omega
theorem sN_fadd {F G : Int → Int → Int} {X : Int → Int → Int} {k m : Nat} : sN (fun q => cv (fun i => F q i + G q i) (X q) k) m = sN (fun q => cv (F q) (X q) k) m + sN (fun q => cv (G q) (X q) k) m := by
  rw [← sN_add]
  congr 1
  funext q
  rw [cv_add]
theorem dual_step {K : Int → Int} {E : Int → Int → Int} {lk : Int} (hW : WF K) {F : Int → Int → Int} (hF : ∀ q, F q (-1) = 0) {n k : Nat} : ∀ m : Nat, m ≤ 16 → sN (fun p => cv (F p) (PW K E lk (n + 1) p) k) m = sN (fun p => gnd K E (n + 1) p * F p k) m * 10 ^ (n + 1) + sN (fun q => cv (FQP K lk F (if (m : Int) < K 182 then m else (K 182).toNat) q) (PW K E lk n q) k) 16 := by
  have hpl := hW.1
  intro m
  induction m with
  | zero =>
    intro _
    have e : (if ((0 : Nat) : Int) < K 182 then 0 else (K 182).toNat) = 0 := by split <;> omega
    have ez : ∀ q, FQP K lk F 0 q = fun _ => 0 := fun q => by funext i; rfl
    rw [e, sN_zero 16 (f := fun q => cv (FQP K lk F 0 q) (PW K E lk n q) k) (fun q _ _ => by rw [ez]; exact cv_zero _ _)]
    show (0 : Int) = 0 * _ + 0
    omega
  | succ m ih =>
    intro hm
    have ih := ih (by omega)
    show sN (fun p => cv (F p) (PW K E lk (n + 1) p) k) m + cv (F m) (PW K E lk (n + 1) m) k = (sN (fun p => gnd K E (n + 1) p * F p k) m + gnd K E (n + 1) m * F m k) * 10 ^ (n + 1) + _
    rw [ih]
    by_cases hp : (m : Int) < K 182
    · have d := dual_one (E := E) (lk := lk) hW (hF m) (n := n) (k := k) (p := m) (by omega) hp
      have e1 : (if (m : Int) < K 182 then m else (K 182).toNat) = m := if_pos hp
      have e2 : (if ((m + 1 : Nat) : Int) < K 182 then m + 1 else (K 182).toNat) = m + 1 := by split <;> omega
      have e3 : sN (fun q => cv (FQP K lk F (m + 1) q) (PW K E lk n q) k) 16 = sN (fun q => cv (FQP K lk F m q) (PW K E lk n q) k) 16 + sN (fun q => cv (cq K lk (F m) m q) (PW K E lk n q) k) 16 := sN_fadd (F := FQP K lk F m) (G := cq K lk (F m) m)
      rw [e1, e2, e3, d, Int.add_mul]
      omega
    · have e1 : (if (m : Int) < K 182 then m else (K 182).toNat) = (K 182).toNat := if_neg hp
      have e2 : (if ((m + 1 : Nat) : Int) < K 182 then m + 1 else (K 182).toNat) = (K 182).toNat := if_neg (by omega)
      have e3 : PW K E lk (n + 1) m = fun j => if j = 0 then K 181 * 10 ^ (n + 1) else 0 := by
        funext j
        unfold PW
        rw [if_neg hp]
      have e4 : gnd K E (n + 1) m = K 181 := by unfold gnd; rw [if_neg hp]
      rw [e1, e2, e3, cv_unit, e4, Int.add_mul, ← Int.mul_assoc, Int.mul_comm (F m k)]
      omega
/-- the sum that the class makes, over n STEPS, in ten-to-the-DAY-ths -/
def GS (K : Int → Int) (E : Int → Int → Int) (lk : Int) (k D : Nat) : Nat → Int
  | 0 => 0
  | s + 1 => GS K E lk k D s + sN (fun p => gnd K E (D - s) p * FQ K lk s p k) 16 * 10 ^ (D - s)
theorem dual_all {K : Int → Int} {E : Int → Int → Int} {lk : Int} (hW : WF K) {k D : Nat} (hD : (D : Int) = K 179) : ∀ s : Nat, s ≤ D → GS K E lk k D s + sN (fun q => cv (FQ K lk s q) (PW K E lk (D - s) q) k) 16 = PW K E lk D (K 178) k := by
  have hpl := hW.1
  have hst := hW.2.1
  intro s
  induction s with
  | zero =>
    intro _
    have e : (fun q => cv (FQ K lk 0 q) (PW K E lk (D - 0) q) k) = fun q => (if K 178 = q then 1 else 0) * (fun q => PW K E lk D q k) q := by
      funext q
      by_cases h : K 178 = q
      · have ef : FQ K lk 0 q = fun i => if i = 0 then 1 else 0 := by
          funext i
          unfold FQ
          by_cases hi : i = 0
          · rw [if_pos ⟨h.symm, hi⟩, if_pos hi]
          · rw [if_neg (fun z => hi z.2), if_neg hi]
        rw [if_pos h, ef]
        unfold cv
        have e2 : (fun i => (if i = 0 then (1 : Int) else 0) * PW K E lk (D - 0) q (k - i)) = fun i => (if 0 = i then 1 else 0) * (fun i => PW K E lk D q (k - i)) i := by
          funext i
          dsimp only
          by_cases hi : i = 0
          · rw [if_pos hi, if_pos hi.symm]; rfl
          · rw [if_neg hi, if_neg (fun z => hi z.symm), Int.zero_mul, Int.zero_mul]
        rw [e2, sN_pick (by omega) (by omega)]
        dsimp only
        rw [Int.sub_zero]
      · have ef : FQ K lk 0 q = fun _ => 0 := by
          funext i
          unfold FQ
          rw [if_neg (fun z => h z.1.symm)]
        rw [if_neg h, ef, cv_zero, Int.zero_mul]
    rw [e, sN_pick hst.1 (by omega)]
    show (0 : Int) + 1 * PW K E lk D (K 178) k = _
    omega
  | succ s ih =>
    intro hs
    have ih := ih (by omega)
    have d := dual_step (E := E) (lk := lk) hW (F := FQ K lk s) (fun q => FQ_neg s q (-1) (by omega)) (n := D - (s + 1)) (k := k) 16 (by omega)
    have e1 : (if ((16 : Nat) : Int) < K 182 then 16 else (K 182).toNat) = (K 182).toNat := if_neg (by omega)
    rw [show D - (s + 1) + 1 = D - s by omega, e1] at d
    rw [d] at ih
    show GS K E lk k D s + sN (fun p => gnd K E (D - s) p * FQ K lk s p k) 16 * 10 ^ (D - s) + _ = _
    rw [← ih]
    have e2 : sN (fun q => cv (FQ K lk (s + 1) q) (PW K E lk (D - (s + 1)) q) k) 16 = sN (fun q => cv (FQP K lk (FQ K lk s) (K 182).toNat q) (PW K E lk (D - (s + 1)) q) k) 16 := rfl
    rw [e2]
    omega
theorem dual {K : Int → Int} {E : Int → Int → Int} {lk : Int} (hW : WF K) {k D : Nat} (hD : (D : Int) = K 179) : GS K E lk k D (D + 1) = PW K E lk D (K 178) k := by
  have h := dual_all (E := E) (lk := lk) hW (k := k) hD D (Nat.le_refl _)
  rw [Nat.sub_self] at h
  have e : sN (fun q => cv (FQ K lk D q) (PW K E lk 0 q) k) 16 = sN (fun p => gnd K E 0 p * FQ K lk D p k) 16 := sN_cg (fun q _ _ => by rw [PW_0, cv_unit, Int.mul_comm])
  rw [e] at h
  show GS K E lk k D D + sN (fun p => gnd K E (D - D) p * FQ K lk D p k) 16 * 10 ^ (D - D) = _
  rw [Nat.sub_self, Int.pow_zero, Int.mul_one]
  exact h
