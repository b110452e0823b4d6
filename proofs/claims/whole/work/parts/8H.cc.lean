/-! the SECOND SCHOOL: chances of where he is, and of how often he saw it -/
def mE (P q : Int) : Int := if q = P then 1 else 0
def lQ (K : Int → Int) (P q : Int) : Int := if q < K 182 ∧ K (10 * q) = 0 ∧ K (10 * q + 1) = K (10 * P + 1) then 1 else 0
def CC (K : Int → Int) (P : Int) : Nat → Int → Int → Int → Int
  | 0, q, i, j => if q = K 178 ∧ i = mE P q ∧ j = lQ K P q then 1 else 0
  | s + 1, q, i, j => FP K (fun p => CC K P s p (i - mE P q) (j - lQ K P q)) (K 182).toNat q
theorem mE_rg (P q : Int) : mE P q = 0 ∨ mE P q = 1 := by unfold mE; split <;> omega
theorem lQ_rg (K : Int → Int) (P q : Int) : lQ K P q = 0 ∨ lQ K P q = 1 := by unfold lQ; split <;> omega
abbrev FKP (K : Int → Int) (P : Int) : Prop := 0 ≤ P ∧ P < K 182 ∧ K (10 * P) = 0
theorem mE_le {K : Int → Int} {P : Int} (h : FKP K P) (q : Int) : mE P q ≤ lQ K P q := by
  unfold mE
  split
  · next e => subst e; unfold lQ; rw [if_pos ⟨h.2.1, h.2.2, rfl⟩]; omega
  · have := lQ_rg K P q; omega
theorem FP_zero {K f : Int → Int} {q : Int} : ∀ n : Nat, (∀ p : Int, 0 ≤ p → p < n → f p = 0) → FP K f n q = 0 := by
  intro n
  induction n with
  | zero => intro _; rfl
  | succ n ih => intro h; unfold FP; rw [ih (fun p a b => h p a (by omega)), h n (by omega) (by omega), Int.mul_zero]; rfl
theorem FP_add {K f g : Int → Int} {q : Int} : ∀ n : Nat, FP K (fun p => f p + g p) n q = FP K f n q + FP K g n q := by
  intro n
  induction n with
  | zero => rfl
  | succ n ih => unfold FP; rw [ih, Int.mul_add]; omega
theorem FP_mul {K f : Int → Int} {c q : Int} : ∀ n : Nat, FP K (fun p => c * f p) n q = c * FP K f n q := by
  intro n
  induction n with
  | zero => unfold FP; omega
  | succ n ih => unfold FP; rw [ih, Int.mul_add, Int.mul_left_comm]
theorem FP_cg {K f g : Int → Int} {q : Int} : ∀ n : Nat, (∀ p : Int, 0 ≤ p → p < n → f p = g p) → FP K f n q = FP K g n q := by
  intro n
  induction n with
  | zero => intro _; rfl
  | succ n ih => intro h; unfold FP; rw [ih (fun p a b => h p a (by omega)), h n (by omega) (by omega)]
theorem FP_leq {K f g : Int → Int} {q : Int} (hW : WF K) : ∀ n : Nat, (n : Int) ≤ K 182 → (∀ p : Int, 0 ≤ p → p < n → f p ≤ g p) → FP K f n q ≤ FP K g n q := by
  intro n
  induction n with
  | zero => intro _ _; exact Int.le_refl _
  | succ n ih =>
    intro hn h
    unfold FP
    have h1 := ih (by omega) (fun p a b => h p a (by omega))
    have h2 := Int.mul_le_mul_of_nonneg_left (h n (by omega) (by omega)) (cn_nn hW (p := n) (by omega) (by omega) q).1
    omega
theorem FP_sN {K : Int → Int} {F : Int → Int → Int} {m : Nat} {q : Int} : ∀ n : Nat, FP K (fun p => sN (fun i => F p i) m) n q = sN (fun i => FP K (fun p => F p i) n q) m := by
  intro n
  induction n with
  | zero => unfold FP; exact (sN_zero m (fun _ _ _ => rfl)).symm
  | succ n ih =>
    unfold FP
    rw [ih, sN_add]
    congr 1
    have := sN_mul (fun i => F n i) (cn K n q) m
    rw [Int.mul_comm, ← this]
    congr 1
    funext i
    exact Int.mul_comm ..
theorem sN_swap {F : Int → Int → Int} {m : Nat} : ∀ n : Nat, sN (fun i => sN (fun j => F i j) m) n = sN (fun j => sN (fun i => F i j) n) m := by
  intro n
  induction n with
  | zero => exact (sN_zero m (fun _ _ _ => rfl)).symm
  | succ n ih =>
    have e : (fun j : Int => sN (fun i => F i j) (n + 1)) = fun j => sN (fun i => F i j) n + F n j := rfl
    rw [e, sN_add, ← ih]
    rfl
theorem sN_sh1 {h : Int → Int} : ∀ n : Nat, sN (fun i => h (i - 1)) (n + 1) = h (-1) + sN h n := by
  intro n
  induction n with
  | zero => show (0 : Int) + h (((0 : Nat) : Int) - 1) = h (-1) + 0; rw [show ((0 : Nat) : Int) - 1 = -1 by omega]; omega
  | succ n ih =>
    show sN (fun i => h (i - 1)) (n + 1) + h (((n + 1 : Nat) : Int) - 1) = h (-1) + (sN h n + h n)
    rw [ih, show ((n + 1 : Nat) : Int) - 1 = n by omega]
    omega
theorem CC_nn {K : Int → Int} {P : Int} (hW : WF K) : ∀ (s : Nat) (q i j : Int), 0 ≤ CC K P s q i j := by
  have := hW.1
  intro s
  induction s with
  | zero => intro q i j; unfold CC; split <;> omega
  | succ s ih => intro q i j; exact FP_nn hW (fun p _ _ => ih p _ _) _ (by omega) q
theorem CC_sup {K : Int → Int} {P : Int} (h : FKP K P) : ∀ (s : Nat) (q i j : Int), (i < 0 ∨ j < i ∨ (s : Int) + 1 < j) → CC K P s q i j = 0 := by
  intro s
  induction s with
  | zero =>
    intro q i j hh
    have h1 := mE_rg P q
    have h2 := lQ_rg K P q
    have h3 := mE_le h q
    unfold CC
    rw [if_neg (by omega)]
  | succ s ih =>
    intro q i j hh
    have h1 := mE_rg P q
    have h2 := lQ_rg K P q
    have h3 := mE_le h q
    exact FP_zero _ (fun p _ _ => ih p _ _ (by omega))
theorem sN_sh_le {f : Int → Int} (f0 : ∀ i, 0 ≤ f i) (fm : f (-1) = 0) {m : Int} (hm : m = 0 ∨ m = 1) : sN (fun i => f (i - m)) 12 ≤ sN f 12 := by
  rcases hm with rfl | rfl
  · have : (fun i => f (i - 0)) = f := by funext i; rw [Int.sub_zero]
    rw [this]; exact Int.le_refl _
  · have e := sN_sh1 (h := f) 11
    have e' : sN (fun i => f (i - 1)) 12 = f (-1) + sN f 11 := e
    rw [e', fm]
    have : sN f 12 = sN f 11 + f (11 : Nat) := rfl
    have := f0 (11 : Nat)
    omega
def MSS (K : Int → Int) (P : Int) (s : Nat) (q : Int) : Int := sN (fun i => sN (fun j => CC K P s q i j) 12) 12
theorem MSS_le {K : Int → Int} {P : Int} (hW : WF K) (h : FKP K P) : ∀ (s : Nat) (q : Int), MSS K P s q ≤ FW K s q := by
  have hpl := hW.1
  intro s
  induction s with
  | zero =>
    intro q
    have h1 := mE_rg P q
    have h2 := lQ_rg K P q
    unfold MSS CC FW
    by_cases e : q = K 178
    · rw [if_pos e]
      have e1 : (fun i : Int => sN (fun j => if q = K 178 ∧ i = mE P q ∧ j = lQ K P q then (1 : Int) else 0) 12) = fun i => if mE P q = i then 1 else 0 := by
        funext i
        by_cases ei : mE P q = i
        · rw [if_pos ei]
          have e2 : (fun j : Int => if q = K 178 ∧ i = mE P q ∧ j = lQ K P q then (1 : Int) else 0) = fun j => if lQ K P q = j then 1 else 0 := by
            funext j
            by_cases ej : lQ K P q = j
            · rw [if_pos ej, if_pos ⟨e, ei.symm, ej.symm⟩]
            · rw [if_neg ej, if_neg (fun z => ej z.2.2.symm)]
          rw [e2, sN_ind (by omega), if_pos (by omega)]
        · rw [if_neg ei]
          exact sN_zero _ (fun j _ _ => if_neg (fun z => ei z.2.1.symm))
      rw [e1, sN_ind (by omega)]
      split <;> omega
    · rw [if_neg e]
      rw [sN_zero 12 (fun i _ _ => sN_zero 12 (fun j _ _ => if_neg (fun z => e z.1)))]
      exact Int.le_refl _
  | succ s ih =>
    intro q
    have h1 := mE_rg P q
    have h2 := lQ_rg K P q
    have st : ∀ p, sN (fun i => sN (fun j => CC K P s p (i - mE P q) (j - lQ K P q)) 12) 12 ≤ MSS K P s p := by
      intro p
      have a1 : sN (fun i => sN (fun j => CC K P s p (i - mE P q) (j - lQ K P q)) 12) 12 ≤ sN (fun i => sN (fun j => CC K P s p (i - mE P q) j) 12) 12 :=
        sN_leq (fun i _ _ => sN_sh_le (f := fun j => CC K P s p (i - mE P q) j) (fun j => CC_nn hW s p _ j) (CC_sup h s p _ _ (by omega)) h2)
      have a2 := sN_sh_le (f := fun i => sN (fun j => CC K P s p i j) 12) (fun i => sN_nn (fun j _ _ => CC_nn hW s p i j)) (sN_zero 12 (fun j _ _ => CC_sup h s p _ _ (by omega))) h1
      exact Int.le_trans a1 a2
    have e : MSS K P (s + 1) q = FP K (fun p => sN (fun i => sN (fun j => CC K P s p (i - mE P q) (j - lQ K P q)) 12) 12) (K 182).toNat q := by
      rw [FP_sN]
      unfold MSS
      congr 1
      funext i
      rw [FP_sN]
      rfl
    rw [e]
    exact FP_leq hW _ (by omega) (fun p _ _ => Int.le_trans (st p) (ih p))
theorem CC_le {K : Int → Int} {P : Int} (hW : WF K) (h : FKP K P) (s : Nat) {q : Int} (q0 : 0 ≤ q) (q1 : q < 16) {i j : Int} (i0 : 0 ≤ i) (i1 : i < 12) (j0 : 0 ≤ j) (j1 : j < 12) : CC K P s q i j ≤ FW K s q := by
  have h1 := MSS_le hW h s q
  have h2 := sN_le (f := fun i => sN (fun j => CC K P s q i j) 12) (n := 12) (fun i _ _ => sN_nn (fun j _ _ => CC_nn hW s q i j)) i0 (by omega)
  have h3 := sN_le (f := fun j => CC K P s q i j) (n := 12) (fun j _ _ => CC_nn hW s q i j) j0 (by omega)
  have h2 : sN (fun j => CC K P s q i j) 12 ≤ MSS K P s q := h2
  have h3 : CC K P s q i j ≤ sN (fun j => CC K P s q i j) 12 := h3
  omega
/-- weighed -/
def WG2 (K : Int → Int) (P : Int) (g : Int → Int → Int) (s : Nat) (q : Int) : Int := sN (fun i => sN (fun j => g i j * CC K P s q i j) 12) 12
theorem WG2_off {K : Int → Int} {P : Int} (h : FKP K P) {g : Int → Int → Int} {s : Nat} {q : Int} (hq : K 182 ≤ q) : WG2 K P g (s + 1) q = FP K (WG2 K P g s) (K 182).toNat q := by
  have e1 : mE P q = 0 := by unfold mE; rw [if_neg]; have := h.2.1; omega
  have e2 : lQ K P q = 0 := by unfold lQ; rw [if_neg]; omega
  have e : WG2 K P g s = fun p => sN (fun i => sN (fun j => g i j * CC K P s p i j) 12) 12 := rfl
  rw [e, FP_sN]
  unfold WG2
  congr 1
  funext i
  rw [FP_sN]
  congr 1
  funext j
  rw [FP_mul]
  show _ * FP K (fun p => CC K P s p (i - mE P q) (j - lQ K P q)) (K 182).toNat q = _
  rw [e1, e2, Int.sub_zero, Int.sub_zero]
/-- he goes on from q -/
abbrev GO (K : Int → Int) (s : Nat) (q : Int) : Prop := q < K 182 ∧ K (10 * q) ≠ 3 ∧ (s : Int) < K 179
def EX2 (K : Int → Int) (P : Int) (g : Int → Int → Int) (s : Nat) (q : Int) : Int := if GO K s q then 0 else WG2 K P g s q
def TT2 (K : Int → Int) (P : Int) (g : Int → Int → Int) : Nat → Int
  | 0 => 0
  | s + 1 => TT2 K P g s + sN (EX2 K P g s) 16 * 10 ^ (10 - s)
theorem sN_cut {f : Int → Int} {m : Int} (m0 : 0 ≤ m) : ∀ n : Nat, sN (fun q => if q < m then f q else 0) n = sN f (if (n : Int) < m then n else m.toNat) := by
  intro n
  induction n with
  | zero =>
    have : (if ((0 : Nat) : Int) < m then 0 else m.toNat) = 0 := by split <;> omega
    rw [this]
    rfl
  | succ n ih =>
    show sN (fun q => if q < m then f q else 0) n + (if (n : Int) < m then f n else 0) = _
    rw [ih]
    by_cases h : (n : Int) < m
    · rw [if_pos h, if_pos h]
      have : (if ((n + 1 : Nat) : Int) < m then n + 1 else m.toNat) = n + 1 := by split <;> omega
      rw [this]
      rfl
    · rw [if_neg h, if_neg h, if_neg (by omega)]; omega
theorem EX2_split {K : Int → Int} {P : Int} {g : Int → Int → Int} {s : Nat} (hW : WF K) : sN (EX2 K P g s) 16 = sN (EX2 K P g s) (K 182).toNat + sN (lsF K (WG2 K P g s)) 16 := by
  have hpl := hW.1
  have e : EX2 K P g s = fun q => (if q < K 182 then EX2 K P g s q else 0) + lsF K (WG2 K P g s) q := by
    funext q
    unfold lsF
    by_cases h : q < K 182
    · rw [if_pos h, if_pos h]; omega
    · rw [if_neg h, if_neg h]; unfold EX2; rw [if_neg (fun z => h z.1)]; omega
  have e2 := sN_cut (f := EX2 K P g s) (m := K 182) (by omega) 16
  have e3 : (if ((16 : Nat) : Int) < K 182 then 16 else (K 182).toNat) = (K 182).toNat := by rw [if_neg (by omega)]
  rw [e3] at e2
  have e4 : sN (EX2 K P g s) 16 = sN (fun q => (if q < K 182 then EX2 K P g s q else 0) + lsF K (WG2 K P g s) q) 16 := by rw [← e]
  rw [e4, sN_add, e2]
def gA (_ j : Int) : Int := if j = 0 then 0 else 1
def gB (i j : Int) : Int := if j = 0 then 0 else Int.tdiv 27720 j * i
theorem td_le {j : Int} (j1 : 1 ≤ j) (j2 : j ≤ 11) : 2520 ≤ Int.tdiv 27720 j ∧ Int.tdiv 27720 j * j = 27720 := by
  rcases (by omega : j = 1 ∨ j = 2 ∨ j = 3 ∨ j = 4 ∨ j = 5 ∨ j = 6 ∨ j = 7 ∨ j = 8 ∨ j = 9 ∨ j = 10 ∨ j = 11) with rfl | rfl | rfl | rfl | rfl | rfl | rfl | rfl | rfl | rfl | rfl <;> decide
theorem gB_le {i j : Int} (i0 : 0 ≤ i) (ij : i ≤ j) (j2 : j ≤ 11) : 0 ≤ gB i j ∧ gB i j ≤ 27720 * gA i j := by
  unfold gA gB
  by_cases h : j = 0
  · rw [if_pos h, if_pos h]; omega
  · rw [if_neg h, if_neg h]
    have t := td_le (j := j) (by omega) j2
    have := Int.mul_le_mul_of_nonneg_left ij (show 0 ≤ Int.tdiv 27720 j by omega)
    have := Int.mul_nonneg (show 0 ≤ Int.tdiv 27720 j by omega) i0
    omega
theorem gBC_le {K : Int → Int} {P : Int} (hW : WF K) (h : FKP K P) (s : Nat) (q : Int) {i j : Int} (i0 : 0 ≤ i) (j2 : j ≤ 11) : 0 ≤ gB i j * CC K P s q i j ∧ gB i j * CC K P s q i j ≤ 27720 * (gA i j * CC K P s q i j) ∧ 0 ≤ gA i j * CC K P s q i j ∧ gA i j * CC K P s q i j ≤ CC K P s q i j := by
  have c0 := CC_nn (P := P) hW s q i j
  have ga : gA i j = 0 ∨ gA i j = 1 := by unfold gA; split <;> omega
  have ge : 0 ≤ gA i j * CC K P s q i j ∧ gA i j * CC K P s q i j ≤ CC K P s q i j := by rcases ga with e | e <;> rw [e] <;> omega
  by_cases hj : j < i
  · rw [CC_sup h s q i j (by omega), Int.mul_zero, Int.mul_zero]; omega
  · have g := gB_le i0 (by omega) j2
    refine ⟨Int.mul_nonneg g.1 c0, ?_, ge.1, ge.2⟩
    have := Int.mul_le_mul_of_nonneg_right g.2 c0
    rw [Int.mul_assoc] at this
    exact this
theorem WG2_le {K : Int → Int} {P : Int} (hW : WF K) (h : FKP K P) (s : Nat) (q : Int) : 0 ≤ WG2 K P gB s q ∧ WG2 K P gB s q ≤ 27720 * WG2 K P gA s q ∧ 0 ≤ WG2 K P gA s q ∧ WG2 K P gA s q ≤ FW K s q := by
  have nA : 0 ≤ WG2 K P gA s q := sN_nn (f := fun i => sN (fun j => gA i j * CC K P s q i j) 12) (fun i i0 i1 => sN_nn (f := fun j => gA i j * CC K P s q i j) (fun j j0 j1 => (gBC_le hW h s q (by omega) (by omega)).2.2.1))
  have nB : 0 ≤ WG2 K P gB s q := sN_nn (f := fun i => sN (fun j => gB i j * CC K P s q i j) 12) (fun i i0 i1 => sN_nn (f := fun j => gB i j * CC K P s q i j) (fun j j0 j1 => (gBC_le hW h s q (by omega) (by omega)).1))
  refine ⟨nB, ?_, nA, ?_⟩
  · have e : 27720 * WG2 K P gA s q = sN (fun i => sN (fun j => gA i j * CC K P s q i j) 12 * 27720) 12 := by rw [sN_mul, Int.mul_comm]; rfl
    rw [e]
    refine sN_leq (fun i i0 i1 => ?_)
    rw [← sN_mul]
    refine sN_leq (fun j j0 j1 => ?_)
    have := (gBC_le hW h s q i0 (j := j) (by omega)).2.1
    omega
  · refine Int.le_trans ?_ (MSS_le hW h s q)
    exact sN_leq (fun i i0 i1 => sN_leq (fun j j0 j1 => (gBC_le hW h s q i0 (by omega)).2.2.2))
theorem EX2_le {K : Int → Int} {P : Int} (hW : WF K) (h : FKP K P) (s : Nat) (q : Int) : 0 ≤ EX2 K P gB s q ∧ EX2 K P gB s q ≤ 27720 * EX2 K P gA s q ∧ 0 ≤ EX2 K P gA s q ∧ EX2 K P gA s q ≤ FW K s q := by
  have w := WG2_le hW h s q
  have f := (FW_bd hW s).1 q
  unfold EX2
  split <;> omega
theorem EX2_sum {K : Int → Int} {P : Int} (hW : WF K) (h : FKP K P) (s : Nat) {n : Nat} (hn : n ≤ 16) : 0 ≤ sN (EX2 K P gB s) n ∧ sN (EX2 K P gB s) n ≤ 27720 * sN (EX2 K P gA s) n ∧ 0 ≤ sN (EX2 K P gA s) n ∧ sN (EX2 K P gA s) n ≤ 10 ^ s := by
  refine ⟨sN_nn (fun q _ _ => (EX2_le hW h s q).1), ?_, sN_nn (fun q _ _ => (EX2_le hW h s q).2.2.1), ?_⟩
  · rw [Int.mul_comm, ← sN_mul]
    exact sN_leq (fun q _ _ => by have := (EX2_le hW h s q).2.1; rw [Int.mul_comm]; exact this)
  · have h1 := sN_leq (f := EX2 K P gA s) (g := FW K s) (n := n) (fun q _ _ => (EX2_le hW h s q).2.2.2)
    have h2 := sN_mono (f := FW K s) (m := n) (n := 16) (fun q _ _ => (FW_bd hW s).1 q) hn
    have h3 := (FW_bd hW s).2
    omega
theorem p10s {s : Nat} (hs : s ≤ 10) : (10 : Int) ^ s * 10 ^ (10 - s) = 10000000000 := by
  rw [← Int.pow_add, show s + (10 - s) = 10 by omega]; decide
theorem TT2_le {K : Int → Int} {P : Int} (hW : WF K) (h : FKP K P) : ∀ s : Nat, s ≤ 11 → 0 ≤ TT2 K P gB s ∧ TT2 K P gB s ≤ 27720 * TT2 K P gA s ∧ 0 ≤ TT2 K P gA s ∧ TT2 K P gA s ≤ (s : Int) * 10000000000 := by
  intro s
  induction s with
  | zero => intro _; unfold TT2; omega
  | succ s ih =>
    intro hs
    have ih := ih (by omega)
    have e := EX2_sum hW h s (n := 16) (by omega)
    have u := pow10_pos (10 - s)
    have ps := p10s (s := s) (by omega)
    have u0 : (0 : Int) ≤ 10 ^ (10 - s) := by omega
    have m1 := Int.mul_nonneg e.1 u0
    have m2 := Int.mul_le_mul_of_nonneg_right e.2.1 u0
    have m3 := Int.mul_nonneg e.2.2.1 u0
    have m4 := Int.mul_le_mul_of_nonneg_right e.2.2.2 u0
    rw [Int.mul_assoc] at m2
    unfold TT2
    omega
