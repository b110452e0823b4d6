/-! seeking the best of RULES: the number itself -/
abbrev SR (α : Type) : Type := Int × Int × α
def mg {α : Type} (x y : SR α) : SR α := if x.1 < y.1 then y else if x.1 = y.1 then (x.1, x.2.1 + y.2.1, x.2.2) else x
theorem mg_lt {α : Type} {x y : SR α} (h : x.1 < y.1) : mg x y = y := if_pos h
theorem mg_eq {α : Type} {x y : SR α} (h : x.1 = y.1) : mg x y = (x.1, x.2.1 + y.2.1, x.2.2) := by
  unfold mg
  rw [if_neg (by omega), if_pos h]
theorem mg_gt {α : Type} {x y : SR α} (h : y.1 < x.1) : mg x y = x := by
  unfold mg
  rw [if_neg (by omega), if_neg (by omega)]
theorem mg_b {α : Type} (x y : SR α) : (mg x y).1 = max x.1 y.1 := by
  rcases Int.lt_trichotomy x.1 y.1 with h | h | h
  · rw [mg_lt h]; omega
  · rw [mg_eq h]; dsimp only; omega
  · rw [mg_gt h]; omega
theorem mg_assoc {α : Type} (x y z : SR α) : mg (mg x y) z = mg x (mg y z) := by
  rcases Int.lt_trichotomy x.1 y.1 with h | h | h
  · rw [mg_lt h]
    have : x.1 < (mg y z).1 := by rw [mg_b]; omega
    rw [mg_lt this]
  · rcases Int.lt_trichotomy y.1 z.1 with g | g | g
    · rw [mg_lt g, mg_lt (show x.1 < z.1 by omega), mg_lt]
      rw [mg_eq h]; dsimp only; omega
    · rw [mg_eq h, mg_eq g, mg_eq (by dsimp only; omega), mg_eq (by dsimp only; omega)]
      dsimp only
      rw [Int.add_assoc]
    · rw [mg_gt g, mg_eq h, mg_gt (by dsimp only; omega)]
  · rcases Int.lt_trichotomy y.1 z.1 with g | g | g
    · rw [mg_gt h, mg_lt g]
    · rw [mg_gt h, mg_eq g, mg_gt (show z.1 < x.1 by omega), mg_gt (by dsimp only; omega)]
    · rw [mg_gt h, mg_gt g, mg_gt (show z.1 < x.1 by omega), mg_gt h]
def mgf {α : Type} (a : SR α) (g : Nat → SR α) : Nat → SR α
  | 0 => a
  | k + 1 => mg (mgf a g k) (g k)
def bot {α : Type} (f : α) : SR α := (NOTH, 0, f)
theorem bot_1 {α : Type} (f : α) : (bot f).1 = NOTH := rfl
theorem mgf_mg {α : Type} (a b : SR α) (g : Nat → SR α) (k : Nat) : mgf (mg a b) g k = mg a (mgf b g k) := by
  induction k with
  | zero => rfl
  | succ k ih => unfold mgf; rw [ih, mg_assoc]
theorem mg_bot {α : Type} {x : SR α} {f : α} (h : NOTH ≤ x.1) : mg x (bot f) = x := by
  by_cases e : x.1 = NOTH
  · rw [mg_eq e]
    show (x.1, x.2.1 + 0, x.2.2) = x
    rw [Int.add_zero]
  · exact mg_gt (by rw [bot_1]; omega)
theorem bot_mg {α : Type} {x : SR α} {f : α} (h : NOTH < x.1) : mg (bot f) x = x := mg_lt h
theorem mgf_bot {α : Type} {a : SR α} (f : α) (h : NOTH ≤ a.1) (g : Nat → SR α) (k : Nat) : mgf a g k = mg a (mgf (bot f) g k) := by
  have := mgf_mg a (bot f) g k
  rw [mg_bot h] at this
  exact this
theorem mgf_ge {α : Type} (a : SR α) (g : Nat → SR α) (k : Nat) : a.1 ≤ (mgf a g k).1 := by
  induction k with
  | zero => exact Int.le_refl _
  | succ k ih => unfold mgf; rw [mg_b]; omega
theorem mgf_congr {α : Type} {a : SR α} {g g' : Nat → SR α} {k : Nat} (h : ∀ i, i < k → g i = g' i) : mgf a g k = mgf a g' k := by
  induction k with
  | zero => rfl
  | succ k ih => unfold mgf; rw [ih (fun i hi => h i (by omega)), h k (by omega)]
theorem mgf_add {α : Type} (a : SR α) (g : Nat → SR α) (m q : Nat) : mgf a g (m + q) = mgf (mgf a g m) (fun r => g (m + r)) q := by
  induction q with
  | zero => rfl
  | succ q ih =>
    show mg (mgf a g (m + q)) (g (m + q)) = mg (mgf (mgf a g m) (fun r => g (m + r)) q) (g (m + q))
    rw [ih]
theorem mgf_block {α : Type} {a : SR α} (f : α) (h : NOTH ≤ a.1) (g : Nat → SR α) (p q : Nat) : mgf a g (p * q) = mgf a (fun k => mgf (bot f) (fun r => g (k * q + r)) q) p := by
  induction p with
  | zero => rw [Nat.zero_mul]; rfl
  | succ p ih =>
    rw [Nat.succ_mul, mgf_add, ih]
    show _ = mg (mgf a (fun k => mgf (bot f) (fun r => g (k * q + r)) q) p) (mgf (bot f) (fun r => g (p * q + r)) q)
    exact mgf_bot f (Int.le_trans h (mgf_ge _ _ _)) _ _
def cu (c : Nat → Nat) (l k : Nat) : Nat → Nat := fun i => if i = l then k else c i
def SUM {α : Type} (nn : Nat → Nat) (lf : (Nat → Nat) → SR α) (f0 : α) : Nat → (Nat → Nat) → SR α
  | 0, c => lf c
  | n + 1, c => mgf (bot f0) (fun k => SUM nn lf f0 n (cu c (5 - n) k)) (nn (5 - n))
def PN (nn : Nat → Nat) : Nat → Nat
  | 0 => 1
  | n + 1 => nn (5 - n) * PN nn n
theorem PN_pos {nn : Nat → Nat} (h : ∀ l, 1 ≤ nn l) (n : Nat) : 1 ≤ PN nn n := by
  induction n with
  | zero => exact Nat.le_refl _
  | succ n ih => exact Nat.mul_le_mul (h _) ih
theorem PN_mono {nn nn' : Nat → Nat} (h : ∀ l, nn' l ≤ nn l) (n : Nat) : PN nn' n ≤ PN nn n := by
  induction n with
  | zero => exact Nat.le_refl _
  | succ n ih => exact Nat.mul_le_mul (h _) ih
/-- the digits of r -/
def dg (nn : Nat → Nat) (n r : Nat) (c : Nat → Nat) : Nat → Nat := fun l => if 6 - n ≤ l ∧ l < 6 then r / PN nn (5 - l) % nn l else c l
theorem PN_dvd {nn : Nat → Nat} : ∀ n : Nat, n ≤ 6 → ∀ l, 6 - n ≤ l → l < 6 → ∃ X, PN nn n = X * (nn l * PN nn (5 - l)) := by
  intro n
  induction n with
  | zero => intro _ l h1 h2; omega
  | succ n ih =>
    intro hn l h1 h2
    by_cases hl : l = 5 - n
    · refine ⟨1, ?_⟩
      rw [Nat.one_mul, hl, show 5 - (5 - n) = n by omega]
      rfl
    · obtain ⟨X, hX⟩ := ih (by omega) l (by omega) h2
      refine ⟨nn (5 - n) * X, ?_⟩
      show nn (5 - n) * PN nn n = _
      rw [hX, Nat.mul_assoc]
theorem SUM_enum {α : Type} {nn : Nat → Nat} {lf : (Nat → Nat) → SR α} {f0 : α} (hn : ∀ l, 1 ≤ nn l) (hv : ∀ c, NOTH < (lf c).1) : ∀ n : Nat, n ≤ 6 → ∀ c, SUM nn lf f0 n c = mgf (bot f0) (fun r => lf (dg nn n r c)) (PN nn n) := by
  intro n
  induction n with
  | zero =>
    intro _ c
    show lf c = mg (bot f0) (lf (dg nn 0 0 c))
    rw [bot_mg (hv _)]
    congr 1
    funext l
    unfold dg
    rw [if_neg (by omega)]
  | succ n ih =>
    intro h6 c
    show mgf (bot f0) (fun k => SUM nn lf f0 n (cu c (5 - n) k)) (nn (5 - n)) = mgf (bot f0) (fun r => lf (dg nn (n + 1) r c)) (nn (5 - n) * PN nn n)
    rw [mgf_block f0 (Int.le_refl _)]
    refine mgf_congr (fun k hk => ?_)
    rw [ih (by omega)]
    refine mgf_congr (fun r hr => ?_)
    congr 1
    funext l
    have hp := PN_pos hn n
    unfold dg cu
    by_cases h1 : 6 - n ≤ l ∧ l < 6
    · rw [if_pos h1, if_pos ⟨by omega, h1.2⟩]
      obtain ⟨X, hX⟩ := PN_dvd (nn := nn) n (by omega) l h1.1 h1.2
      have hq := PN_pos hn (5 - l)
      have e : k * PN nn n + r = PN nn (5 - l) * (nn l * (k * X)) + r := by
        rw [hX]
        congr 1
        rw [← Nat.mul_assoc, Nat.mul_comm (nn l) (PN nn (5 - l)), Nat.mul_comm (k * X), Nat.mul_assoc]
      rw [e, Nat.mul_add_div (by omega), Nat.mul_add_mod]
    · rw [if_neg h1]
      by_cases h2 : l = 5 - n
      · rw [if_pos h2, if_pos (by omega)]
        have e5 : 5 - l = n := by omega
        rw [e5, Nat.mul_comm k, Nat.mul_add_div (by omega), Nat.div_eq_of_lt hr, Nat.add_zero, h2, Nat.mod_eq_of_lt hk]
      · rw [if_neg h2, if_neg (by omega)]
/-! LOOKS that no RIDE sees -/
def sc {α : Type} (D : Int) (x : SR α) : SR α := (x.1, x.2.1 * D, x.2.2)
theorem mg_sc {α : Type} (D : Int) (x y : SR α) : mg (sc D x) (sc D y) = sc D (mg x y) := by
  rcases Int.lt_trichotomy x.1 y.1 with h | h | h
  · rw [mg_lt h, mg_lt (show (sc D x).1 < (sc D y).1 from h)]
  · rw [mg_eq h, mg_eq (show (sc D x).1 = (sc D y).1 from h)]
    unfold sc
    dsimp only
    rw [Int.add_mul]
  · rw [mg_gt h, mg_gt (show (sc D y).1 < (sc D x).1 from h)]
theorem bot_sc {α : Type} (D : Int) (f : α) : sc D (bot f) = bot f := by
  unfold sc bot
  dsimp only
  rw [Int.zero_mul]
theorem mgf_sc {α : Type} (D : Int) (a : SR α) (g : Nat → SR α) (k : Nat) : mgf (sc D a) (fun i => sc D (g i)) k = sc D (mgf a g k) := by
  induction k with
  | zero => rfl
  | succ k ih => unfold mgf; rw [ih, mg_sc]
def eq2 {α : Type} (x y : SR α) : Prop := x.1 = y.1 ∧ x.2.1 = y.2.1
theorem mg_eq2 {α : Type} {x y x' y' : SR α} (h1 : eq2 x x') (h2 : eq2 y y') : eq2 (mg x y) (mg x' y') := by
  obtain ⟨a1, a2⟩ := h1
  obtain ⟨b1, b2⟩ := h2
  rcases Int.lt_trichotomy x.1 y.1 with h | h | h
  · rw [mg_lt h, mg_lt (show x'.1 < y'.1 by omega)]; exact ⟨b1, b2⟩
  · rw [mg_eq h, mg_eq (show x'.1 = y'.1 by omega)]; exact ⟨a1, by dsimp only; omega⟩
  · rw [mg_gt h, mg_gt (show y'.1 < x'.1 by omega)]; exact ⟨a1, a2⟩
theorem mgf_eq2 {α : Type} {a a' : SR α} {g g' : Nat → SR α} (h : eq2 a a') (hg : ∀ i, eq2 (g i) (g' i)) (k : Nat) : eq2 (mgf a g k) (mgf a' g' k) := by
  induction k with
  | zero => exact h
  | succ k ih => exact mg_eq2 ih (hg k)
theorem SUM_ind {α : Type} {nn : Nat → Nat} {lf : (Nat → Nat) → SR α} {f0 : α} {du : Nat → Bool} (hd : ∀ c c' : Nat → Nat, (∀ l, l < 6 → du l = false → c l = c' l) → eq2 (lf c) (lf c')) : ∀ (n : Nat) (c c' : Nat → Nat), (∀ l, l < 6 → du l = false → c l = c' l) → eq2 (SUM nn lf f0 n c) (SUM nn lf f0 n c') := by
  intro n
  induction n with
  | zero => exact hd
  | succ n ih =>
    intro c c' h
    refine mgf_eq2 ⟨rfl, rfl⟩ (fun k => ih _ _ (fun l l6 hl => ?_)) _
    unfold cu
    split
    · rfl
    · exact h l l6 hl
theorem mgf_const {α : Type} {f : α} {g : Nat → SR α} (hv : NOTH < (g 0).1) (hg : ∀ i, eq2 (g i) (g 0)) (k : Nat) : mgf (bot f) g (k + 1) = ((g 0).1, (g 0).2.1 * ((k + 1 : Nat) : Int), (g 0).2.2) := by
  induction k with
  | zero =>
    show mg (bot f) (g 0) = _
    rw [bot_mg hv, show (((0 + 1 : Nat)) : Int) = 1 from rfl, Int.mul_one]
  | succ k ih =>
    show mg (mgf (bot f) g (k + 1)) (g (k + 1)) = _
    rw [ih, mg_eq (by dsimp only; exact (hg _).1.symm)]
    dsimp only
    rw [(hg (k + 1)).2, show ((k + 1 + 1 : Nat) : Int) = ((k + 1 : Nat) : Int) + 1 by omega, Int.mul_add, Int.mul_one]
def DU (nn : Nat → Nat) (du : Nat → Bool) : Nat → Nat := PN (fun l => if du l = true then nn l else 1)
theorem SUM_dull {α : Type} {nn : Nat → Nat} {lf : (Nat → Nat) → SR α} {f0 : α} {du : Nat → Bool} (hn : ∀ l, 1 ≤ nn l) (hv : ∀ c, NOTH < (lf c).1) (hd : ∀ c c' : Nat → Nat, (∀ l, l < 6 → du l = false → c l = c' l) → eq2 (lf c) (lf c')) : ∀ (n : Nat) (c : Nat → Nat), SUM nn lf f0 n c = sc (DU nn du n) (SUM (fun l => if du l = true then 1 else nn l) lf f0 n c) := by
  intro n
  induction n with
  | zero =>
    intro c
    show lf c = sc ((1 : Nat) : Int) (lf c)
    unfold sc
    rw [show ((1 : Nat) : Int) = 1 from rfl, Int.mul_one]
  | succ n ih =>
    intro c
    have ge : ∀ (m : Nat) (c : Nat → Nat), NOTH < (SUM nn lf f0 m c).1 := by
      intro m
      induction m with
      | zero => exact hv
      | succ m ih =>
        intro c
        obtain ⟨j, hj⟩ : ∃ j, nn (5 - m) = j + 1 := ⟨nn (5 - m) - 1, by have := hn (5 - m); omega⟩
        show NOTH < (mgf (bot f0) (fun k => SUM nn lf f0 m (cu c (5 - m) k)) (nn (5 - m))).1
        rw [hj]
        show NOTH < (mg (mgf (bot f0) (fun k => SUM nn lf f0 m (cu c (5 - m) k)) j) (SUM nn lf f0 m (cu c (5 - m) j))).1
        rw [mg_b]
        have := ih (cu c (5 - m) j)
        omega
    show mgf (bot f0) (fun k => SUM nn lf f0 n (cu c (5 - n) k)) (nn (5 - n)) = sc (((if du (5 - n) = true then nn (5 - n) else 1) * DU nn du n : Nat) : Int) (mgf (bot f0) (fun k => SUM (fun l => if du l = true then 1 else nn l) lf f0 n (cu c (5 - n) k)) (if du (5 - n) = true then 1 else nn (5 - n)))
    by_cases hl : du (5 - n) = true
    · rw [if_pos hl, if_pos hl]
      obtain ⟨j, hj⟩ : ∃ j, nn (5 - n) = j + 1 := ⟨nn (5 - n) - 1, by have := hn (5 - n); omega⟩
      rw [hj, mgf_const (ge _ _) (fun i => SUM_ind hd n _ _ (fun l l6 h => by
        unfold cu
        rw [if_neg (fun z => by rw [z, hl] at h; cases h), if_neg (fun z => by rw [z, hl] at h; cases h)]))]
      show _ = sc _ (mg (bot f0) (SUM (fun l => if du l = true then 1 else nn l) lf f0 n (cu c (5 - n) 0)))
      have i0 := ih (cu c (5 - n) 0)
      have g0 := ge n (cu c (5 - n) 0)
      rw [i0] at g0 ⊢
      rw [bot_mg (show NOTH < (SUM (fun l => if du l = true then 1 else nn l) lf f0 n (cu c (5 - n) 0)).1 from g0)]
      unfold sc
      dsimp only
      rw [Int.mul_assoc, Int.natCast_mul, Int.mul_comm ((DU nn du n : Nat) : Int)]
    · rw [if_neg hl, if_neg hl, Nat.one_mul, ← mgf_sc, bot_sc]
      exact mgf_congr (fun k _ => ih _)
theorem SUM_ge {α : Type} {nn : Nat → Nat} {lf : (Nat → Nat) → SR α} {f0 : α} (hn : ∀ l, 1 ≤ nn l) (hv : ∀ c, NOTH < (lf c).1) : ∀ (n : Nat) (c : Nat → Nat), NOTH < (SUM nn lf f0 n c).1 := by
  intro m
  induction m with
  | zero => exact hv
  | succ m ih =>
    intro c
    obtain ⟨j, hj⟩ : ∃ j, nn (5 - m) = j + 1 := ⟨nn (5 - m) - 1, by have := hn (5 - m); omega⟩
    show NOTH < (mgf (bot f0) (fun k => SUM nn lf f0 m (cu c (5 - m) k)) (nn (5 - m))).1
    rw [hj]
    show NOTH < (mg (mgf (bot f0) (fun k => SUM nn lf f0 m (cu c (5 - m) k)) j) (SUM nn lf f0 m (cu c (5 - m) j))).1
    rw [mg_b]
    have := ih (cu c (5 - m) j)
    omega
theorem mgf_up {α : Type} {f : α} {g : Nat → SR α} {U : Int} (hU : NOTH ≤ U) (k : Nat) (h : ∀ i, i < k → (g i).1 ≤ U) : (mgf (bot f) g k).1 ≤ U := by
  induction k with
  | zero => exact hU
  | succ k ih =>
    show (mg (mgf (bot f) g k) (g k)).1 ≤ U
    rw [mg_b]
    have := ih (fun i hi => h i (by omega))
    have := h k (by omega)
    omega
theorem mgf_cnt {α : Type} {f : α} {g : Nat → SR α} {P : Int} (k : Nat) (h : ∀ i, i < k → 0 ≤ (g i).2.1 ∧ (g i).2.1 ≤ P) : 0 ≤ (mgf (bot f) g k).2.1 ∧ (mgf (bot f) g k).2.1 ≤ k * P := by
  induction k with
  | zero =>
    show 0 ≤ (0 : Int) ∧ (0 : Int) ≤ ((0 : Nat) : Int) * P
    rw [show ((0 : Nat) : Int) = 0 from rfl, Int.zero_mul]
    omega
  | succ k ih =>
    have i1 := ih (fun i hi => h i (by omega))
    have i2 := h k (by omega)
    have e : ((k + 1 : Nat) : Int) * P = k * P + P := by rw [show ((k + 1 : Nat) : Int) = (k : Int) + 1 by omega, Int.add_mul, Int.one_mul]
    have P0 : 0 ≤ (k : Int) * P := by omega
    show 0 ≤ (mg (mgf (bot f) g k) (g k)).2.1 ∧ (mg (mgf (bot f) g k) (g k)).2.1 ≤ _
    rw [e]
    rcases Int.lt_trichotomy (mgf (bot f) g k).1 (g k).1 with q | q | q
    · rw [mg_lt q]; omega
    · rw [mg_eq q]; dsimp only; omega
    · rw [mg_gt q]; omega
theorem SUM_cnt {α : Type} {nn : Nat → Nat} {lf : (Nat → Nat) → SR α} {f0 : α} (h1 : ∀ c, (lf c).2.1 = 1) : ∀ (n : Nat) (c : Nat → Nat), 0 ≤ (SUM nn lf f0 n c).2.1 ∧ (SUM nn lf f0 n c).2.1 ≤ (PN nn n : Int) := by
  intro n
  induction n with
  | zero =>
    intro c
    show 0 ≤ (lf c).2.1 ∧ (lf c).2.1 ≤ ((1 : Nat) : Int)
    rw [h1]
    omega
  | succ n ih =>
    intro c
    show 0 ≤ (mgf (bot f0) (fun k => SUM nn lf f0 n (cu c (5 - n) k)) (nn (5 - n))).2.1 ∧ (mgf (bot f0) (fun k => SUM nn lf f0 n (cu c (5 - n) k)) (nn (5 - n))).2.1 ≤ ((nn (5 - n) * PN nn n : Nat) : Int)
    rw [Int.natCast_mul]
    exact mgf_cnt _ (fun i _ => ih _)
