/-! chances of where he is: the number itself -/
def wO (K : Int → Int) (p k : Int) : Int := if K (10 * p) = 2 then (if k = 0 then 10 else 0) else tnO K p k
/-- how many TENTHS go from p to q -/
def cn (K : Int → Int) (p q : Int) : Int := if K (10 * p) = 3 then 0 else (if rdc K p 0 = q then wO K p 0 else 0) + (if rdc K p 1 = q then wO K p 1 else 0) + (if rdc K p 2 = q then wO K p 2 else 0)
def FP (K : Int → Int) (f : Int → Int) : Nat → Int → Int
  | 0, _ => 0
  | n + 1, q => FP K f n q + cn K n q * f n
/-- weight, in ten-to-the-s-ths, of being at q at STEP s -/
def FW (K : Int → Int) : Nat → Int → Int
  | 0, q => if q = K 178 then 1 else 0
  | s + 1, q => FP K (FW K s) (K 182).toNat q
def sN (f : Int → Int) : Nat → Int
  | 0 => 0
  | n + 1 => sN f n + f n
theorem wO_sum {K : Int → Int} (hW : WF K) {p : Int} (p0 : 0 ≤ p) (p1 : p < K 182) (k3 : K (10 * p) ≠ 3) : 0 ≤ wO K p 0 ∧ 0 ≤ wO K p 1 ∧ 0 ≤ wO K p 2 ∧ wO K p 0 + wO K p 1 + wO K p 2 = 10 := by
  have w1 := (hW.2.2.2.2.2.2.2 p p0 p1).1
  unfold wO
  by_cases k2 : K (10 * p) = 2
  · simp [k2]
  · rw [if_neg k2, if_neg k2, if_neg k2]
    exact tnO_sum hW p0 p1 (by omega)
theorem cn_nn {K : Int → Int} (hW : WF K) {p : Int} (p0 : 0 ≤ p) (p1 : p < K 182) (q : Int) : 0 ≤ cn K p q ∧ cn K p q ≤ 10 := by
  unfold cn
  by_cases k3 : K (10 * p) = 3
  · rw [if_pos k3]; omega
  · rw [if_neg k3]
    have := wO_sum hW p0 p1 k3
    split <;> split <;> split <;> omega
theorem sN_add (f g : Int → Int) (n : Nat) : sN (fun q => f q + g q) n = sN f n + sN g n := by
  induction n with
  | zero => rfl
  | succ n ih => unfold sN; rw [ih]; omega
theorem sN_mul (f : Int → Int) (c : Int) (n : Nat) : sN (fun q => f q * c) n = sN f n * c := by
  induction n with
  | zero => unfold sN; omega
  | succ n ih => unfold sN; rw [ih, Int.add_mul]
theorem sN_ind {r w : Int} (r0 : 0 ≤ r) : ∀ n : Nat, sN (fun q => if r = q then w else 0) n = if r < n then w else 0 := by
  intro n
  induction n with
  | zero => unfold sN; rw [if_neg (by omega)]
  | succ n ih =>
    unfold sN
    rw [ih]
    by_cases h : r = n
    · rw [if_neg (by omega), if_pos h, if_pos (by omega)]; omega
    · rw [if_neg h]
      by_cases h2 : r < n
      · rw [if_pos h2, if_pos (by omega)]; omega
      · rw [if_neg h2, if_neg (by omega)]; omega
theorem sN_nn {f : Int → Int} {n : Nat} (h : ∀ q, 0 ≤ q → q < n → 0 ≤ f q) : 0 ≤ sN f n := by
  induction n with
  | zero => unfold sN; omega
  | succ n ih =>
    unfold sN
    have := ih (fun q a b => h q a (by omega))
    have := h n (by omega) (by omega)
    omega
theorem sN_le {f : Int → Int} {n : Nat} (h : ∀ q, 0 ≤ q → q < n → 0 ≤ f q) {q : Int} (q0 : 0 ≤ q) (q1 : q < n) : f q ≤ sN f n := by
  induction n with
  | zero => omega
  | succ n ih =>
    unfold sN
    have hs := sN_nn (f := f) (n := n) (fun q a b => h q a (by omega))
    by_cases hq : q = n
    · subst hq; omega
    · have := ih (fun q a b => h q a (by omega)) (by omega)
      have := h n (by omega) (by omega)
      omega
theorem sN_mono {f : Int → Int} {m n : Nat} (h : ∀ q, 0 ≤ q → q < n → 0 ≤ f q) (hm : m ≤ n) : sN f m ≤ sN f n := by
  induction n with
  | zero => obtain rfl : m = 0 := by omega
            omega
  | succ n ih =>
    by_cases hmn : m = n + 1
    · subst hmn; omega
    · have := ih (fun q a b => h q a (by omega)) (by omega)
      have := h n (by omega) (by omega)
      show sN f m ≤ sN f n + f n
      omega
theorem cn_sum {K : Int → Int} (hW : WF K) {p : Int} (p0 : 0 ≤ p) (p1 : p < K 182) : sN (cn K p) 16 = if K (10 * p) = 3 then 0 else 10 := by
  by_cases k3 : K (10 * p) = 3
  · have : cn K p = fun q => (fun _ => 0) q * (0 : Int) := by funext q; unfold cn; rw [if_pos k3]; rfl
    rw [this, sN_mul, if_pos k3]; omega
  · have ws := wO_sum hW p0 p1 k3
    have e : cn K p = fun q => (fun q => (if rdc K p 0 = q then wO K p 0 else 0) + (if rdc K p 1 = q then wO K p 1 else 0)) q + (if rdc K p 2 = q then wO K p 2 else 0) := by
      funext q; unfold cn; rw [if_neg k3]
    rw [e, sN_add, sN_add, sN_ind (rdc_rg hW p0 p1 k3 (by omega)).1, sN_ind (rdc_rg hW p0 p1 k3 (by omega)).1, sN_ind (rdc_rg hW p0 p1 k3 (by omega)).1, if_pos (by have := (rdc_rg hW p0 p1 k3 (k := 0) (by omega)).2; omega), if_pos (by have := (rdc_rg hW p0 p1 k3 (k := 1) (by omega)).2; omega), if_pos (by have := (rdc_rg hW p0 p1 k3 (k := 2) (by omega)).2; omega), if_neg k3]
    omega
theorem FP_nn {K : Int → Int} (hW : WF K) {f : Int → Int} (hf : ∀ q, 0 ≤ q → q < K 182 → 0 ≤ f q) : ∀ n : Nat, (n : Int) ≤ K 182 → ∀ q, 0 ≤ FP K f n q := by
  intro n
  induction n with
  | zero => intro _ q; unfold FP; omega
  | succ n ih =>
    intro hn q
    unfold FP
    have := ih (by omega) q
    have := Int.mul_nonneg (cn_nn hW (p := n) (by omega) (by omega) q).1 (hf n (by omega) (by omega))
    omega
theorem FP_sum {K : Int → Int} (hW : WF K) {f : Int → Int} (hf : ∀ q, 0 ≤ q → q < K 182 → 0 ≤ f q) : ∀ n : Nat, (n : Int) ≤ K 182 → sN (FP K f n) 16 ≤ 10 * sN f n := by
  intro n
  induction n with
  | zero =>
    intro _
    have : FP K f 0 = fun q => (fun _ => 0) q * (0 : Int) := by funext q; rfl
    rw [this, sN_mul]
    unfold sN
    omega
  | succ n ih =>
    intro hn
    have ih := ih (by omega)
    have e : FP K f (n + 1) = fun q => FP K f n q + (fun q => cn K n q * f n) q := rfl
    rw [e, sN_add, sN_mul, cn_sum hW (by omega) (by omega)]
    have := hf n (by omega) (by omega)
    show _ ≤ 10 * (sN f n + f n)
    split <;> omega
theorem FW_bd {K : Int → Int} (hW : WF K) : ∀ s : Nat, (∀ q, 0 ≤ FW K s q) ∧ sN (FW K s) 16 ≤ 10 ^ s := by
  intro s
  have hpl := hW.1
  induction s with
  | zero =>
    refine ⟨fun q => by unfold FW; split <;> omega, ?_⟩
    have e : FW K 0 = fun q => if K 178 = q then 1 else 0 := by
      funext q
      unfold FW
      by_cases h : q = K 178
      · rw [if_pos h, if_pos h.symm]
      · rw [if_neg h, if_neg (fun z => h z.symm)]
    rw [e, sN_ind hW.2.1.1]
    split
    · decide
    · decide
  | succ s ih =>
    have nn : ∀ q, 0 ≤ FW K (s + 1) q := fun q => FP_nn hW (fun q _ _ => ih.1 q) _ (by omega) q
    refine ⟨nn, ?_⟩
    have h1 : sN (FW K (s + 1)) 16 ≤ 10 * sN (FW K s) (K 182).toNat := FP_sum hW (fun q _ _ => ih.1 q) _ (by omega)
    have h2 : sN (FW K s) (K 182).toNat ≤ sN (FW K s) 16 := sN_mono (fun q _ _ => ih.1 q) (by omega)
    rw [Int.pow_succ]
    omega
theorem FW_le {K : Int → Int} (hW : WF K) (s : Nat) {q : Int} (q0 : 0 ≤ q) (q1 : q < 16) : 0 ≤ FW K s q ∧ FW K s q ≤ 10 ^ s := by
  obtain ⟨h1, h2⟩ := FW_bd hW s
  have := sN_le (f := FW K s) (n := 16) (fun q _ _ => h1 q) q0 (by omega)
  exact ⟨h1 q, by omega⟩
