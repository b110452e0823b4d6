/-! the class's halves of a row -/
def SA2 (K : Int → Int) (P : Int) (s : Nat) (q N : Int) : Int := sN (fun i => CC K P s q i N) 12
def SB2 (K : Int → Int) (P : Int) (s : Nat) (q N : Int) : Int := sN (fun i => i * CC K P s q i N) 12
def SA20 (K : Int → Int) (P : Int) : Nat → Int → Int → Int
  | 0, q, N => if q = K 178 ∧ N = 0 then 1 else 0
  | s + 1, q, N => FP K (fun p => SA2 K P s p N) (K 182).toNat q
def SB20 (K : Int → Int) (P : Int) : Nat → Int → Int → Int
  | 0, _, _ => 0
  | s + 1, q, N => FP K (fun p => SB2 K P s p N) (K 182).toNat q
theorem SA20_0 {K : Int → Int} {P q N : Int} : SA20 K P 0 q N = if q = K 178 ∧ N = 0 then 1 else 0 := rfl
theorem SB20_0 {K : Int → Int} {P q N : Int} : SB20 K P 0 q N = 0 := rfl
theorem SA20_s {K : Int → Int} {P q N : Int} {s : Nat} : SA20 K P (s + 1) q N = FP K (fun p => SA2 K P s p N) (K 182).toNat q := rfl
theorem SB20_s {K : Int → Int} {P q N : Int} {s : Nat} : SB20 K P (s + 1) q N = FP K (fun p => SB2 K P s p N) (K 182).toNat q := rfl
theorem S_cnt {K : Int → Int} {P : Int} (h : FKP K P) (s : Nat) (hs : s ≤ 10) (q N : Int) : SA2 K P s q N = SA20 K P s q (N - lQ K P q) ∧ SB2 K P s q N = SB20 K P s q (N - lQ K P q) + mE P q * SA20 K P s q (N - lQ K P q) := by
  have h1 := mE_rg P q
  cases s with
  | zero =>
    have e1 : ∀ i : Int, CC K P 0 q i N = if mE P q = i then (if q = K 178 ∧ N - lQ K P q = 0 then 1 else 0) else 0 := by
      intro i
      unfold CC
      by_cases ei : mE P q = i
      · rw [if_pos ei]
        by_cases c : q = K 178 ∧ N - lQ K P q = 0
        · rw [if_pos c, if_pos ⟨c.1, ei.symm, by omega⟩]
        · rw [if_neg c, if_neg (fun z => c ⟨z.1, by omega⟩)]
      · rw [if_neg ei, if_neg (fun z => ei z.2.1.symm)]
    have e2 : (fun i => CC K P 0 q i N) = fun i => if mE P q = i then (if q = K 178 ∧ N - lQ K P q = 0 then 1 else 0) else 0 := funext e1
    have e3 : (fun i => i * CC K P 0 q i N) = fun i => if mE P q = i then (if q = K 178 ∧ N - lQ K P q = 0 then mE P q else 0) else 0 := by
      funext i
      rw [e1 i]
      by_cases ei : mE P q = i
      · rw [if_pos ei, if_pos ei, ei]; split <;> omega
      · rw [if_neg ei, if_neg ei]; omega
    unfold SA2 SB2
    rw [SA20_0, SB20_0, e2, e3, sN_ind (by omega), sN_ind (by omega), if_pos (show mE P q < ((12 : Nat) : Int) by omega), if_pos (show mE P q < ((12 : Nat) : Int) by omega)]
    refine ⟨rfl, ?_⟩
    split <;> omega
  | succ s =>
    have z : ∀ p j, CC K P s p (11 : Nat) j = 0 := fun p j => by
      by_cases hj : j < 11
      · exact CC_sup h s p _ _ (by omega)
      · exact CC_sup h s p _ _ (by omega)
    have zm : ∀ p j, CC K P s p (-1) j = 0 := fun p j => CC_sup h s p _ _ (by omega)
    have key : ∀ p : Int, sN (fun i => CC K P s p (i - mE P q) (N - lQ K P q)) 12 = SA2 K P s p (N - lQ K P q) ∧ sN (fun i => i * CC K P s p (i - mE P q) (N - lQ K P q)) 12 = SB2 K P s p (N - lQ K P q) + mE P q * SA2 K P s p (N - lQ K P q) := by
      intro p
      rcases h1 with e | e
      · rw [e]
        have : (fun i => CC K P s p (i - 0) (N - lQ K P q)) = fun i => CC K P s p i (N - lQ K P q) := by funext i; rw [Int.sub_zero]
        have t2 : (fun i => i * CC K P s p (i - 0) (N - lQ K P q)) = fun i => i * CC K P s p i (N - lQ K P q) := by funext i; rw [Int.sub_zero]
        rw [this, t2]
        exact ⟨rfl, by rw [Int.zero_mul, Int.add_zero]; rfl⟩
      · rw [e]
        have a1 : sN (fun i => CC K P s p (i - 1) (N - lQ K P q)) 12 = CC K P s p (-1) (N - lQ K P q) + sN (fun i => CC K P s p i (N - lQ K P q)) 11 := sN_sh1 (h := fun i => CC K P s p i (N - lQ K P q)) 11
        have a2 : SA2 K P s p (N - lQ K P q) = sN (fun i => CC K P s p i (N - lQ K P q)) 11 + CC K P s p (11 : Nat) (N - lQ K P q) := rfl
        have b0 : (fun i => i * CC K P s p (i - 1) (N - lQ K P q)) = fun i => (fun i => (i + 1) * CC K P s p i (N - lQ K P q)) (i - 1) := by funext i; dsimp only; rw [show i - 1 + 1 = i by omega]
        have b1 : sN (fun i => i * CC K P s p (i - 1) (N - lQ K P q)) 12 = (-1 + 1) * CC K P s p (-1) (N - lQ K P q) + sN (fun i => (i + 1) * CC K P s p i (N - lQ K P q)) 11 := by
          rw [b0]
          exact sN_sh1 (h := fun i => (i + 1) * CC K P s p i (N - lQ K P q)) 11
        have b2 : SB2 K P s p (N - lQ K P q) = sN (fun i => i * CC K P s p i (N - lQ K P q)) 11 + ((11 : Nat) : Int) * CC K P s p (11 : Nat) (N - lQ K P q) := rfl
        have b3 : (fun i : Int => (i + 1) * CC K P s p i (N - lQ K P q)) = fun i => (fun i => i * CC K P s p i (N - lQ K P q)) i + (fun i => CC K P s p i (N - lQ K P q)) i := by funext i; dsimp only; rw [Int.add_mul, Int.one_mul]
        rw [b3, sN_add] at b1
        rw [z, Int.mul_zero] at b2
        rw [z] at a2
        rw [zm] at a1 b1
        omega
    rw [SA20_s, SB20_s]
    have e1 : (fun i => CC K P (s + 1) q i N) = fun i => FP K (fun p => CC K P s p (i - mE P q) (N - lQ K P q)) (K 182).toNat q := rfl
    have e2 : (fun i => i * CC K P (s + 1) q i N) = fun i => FP K (fun p => i * CC K P s p (i - mE P q) (N - lQ K P q)) (K 182).toNat q := by
      funext i
      rw [FP_mul]
      rfl
    have f1 : SA2 K P (s + 1) q N = sN (fun i => CC K P (s + 1) q i N) 12 := rfl
    have f2 : SB2 K P (s + 1) q N = sN (fun i => i * CC K P (s + 1) q i N) 12 := rfl
    rw [f1, f2, e1, e2, ← FP_sN, ← FP_sN, ← FP_mul, ← FP_add]
    exact ⟨FP_cg _ (fun p _ _ => (key p).1), FP_cg _ (fun p _ _ => (key p).2)⟩
theorem SA_rg {K : Int → Int} {P : Int} (hW : WF K) (h : FKP K P) (s : Nat) (q : Int) {N : Int} (N0 : 0 ≤ N) (N1 : N < 12) : 0 ≤ SA2 K P s q N ∧ SA2 K P s q N ≤ FW K s q ∧ 0 ≤ SB2 K P s q N ∧ SB2 K P s q N ≤ 11 * FW K s q := by
  have a0 : 0 ≤ SA2 K P s q N := sN_nn (fun i _ _ => CC_nn hW s q i N)
  have a1 : SA2 K P s q N ≤ MSS K P s q := by
    unfold MSS
    refine sN_leq (fun i i0 i1 => ?_)
    exact sN_le (f := fun j => CC K P s q i j) (n := 12) (fun j _ _ => CC_nn hW s q i j) N0 (by omega)
  have a2 := MSS_le hW h s q
  have b0 : 0 ≤ SB2 K P s q N := sN_nn (f := fun i => i * CC K P s q i N) (fun i _ _ => Int.mul_nonneg (by omega) (CC_nn hW s q i N))
  have b1 : SB2 K P s q N ≤ SA2 K P s q N * 11 := by
    unfold SB2 SA2
    rw [← sN_mul]
    refine sN_leq (fun i i0 i1 => ?_)
    have := Int.mul_le_mul_of_nonneg_right (show i ≤ 11 by omega) (CC_nn (P := P) hW s q i N)
    omega
  omega
theorem SA0_rg {K : Int → Int} {P : Int} (hW : WF K) (h : FKP K P) (s : Nat) (q : Int) {N : Int} (N0 : 0 ≤ N) (N1 : N < 12) : 0 ≤ SA20 K P s q N ∧ SA20 K P s q N ≤ FW K s q ∧ 0 ≤ SB20 K P s q N ∧ SB20 K P s q N ≤ 11 * FW K s q := by
  have hpl := hW.1
  cases s with
  | zero =>
    rw [SA20_0, SB20_0]
    unfold FW
    by_cases e : q = K 178
    · rw [if_pos e]; split <;> omega
    · rw [if_neg e, if_neg (fun z => e z.1)]; omega
  | succ s =>
    have r := fun p => SA_rg hW h s p N0 N1
    have f : FW K (s + 1) q = FP K (FW K s) (K 182).toNat q := rfl
    refine ⟨FP_nn hW (fun p _ _ => (r p).1) _ (by omega) q, ?_, FP_nn hW (fun p _ _ => (r p).2.2.1) _ (by omega) q, ?_⟩
    · rw [f]; exact FP_leq hW _ (by omega) (fun p _ _ => (r p).2.1)
    · rw [f, ← FP_mul]; exact FP_leq hW _ (by omega) (fun p _ _ => (r p).2.2.2)
theorem SA0_neg {K : Int → Int} {P : Int} (h : FKP K P) (s : Nat) (q : Int) : SA20 K P s q (-1) = 0 ∧ SB20 K P s q (-1) = 0 := by
  cases s with
  | zero => rw [SA20_0, SB20_0, if_neg (by omega)]; exact ⟨rfl, rfl⟩
  | succ s =>
    have z : ∀ p i, CC K P s p i (-1) = 0 := fun p i => by
      by_cases hi : i < 0
      · exact CC_sup h s p _ _ (by omega)
      · exact CC_sup h s p _ _ (by omega)
    refine ⟨FP_zero _ (fun p _ _ => sN_zero 12 (fun i _ _ => z p i)), FP_zero _ (fun p _ _ => sN_zero 12 (fun i _ _ => ?_))⟩
    rw [z, Int.mul_zero]
theorem W_SA {K : Int → Int} {P : Int} (s : Nat) (q : Int) : WG2 K P gA s q = sN (fun N => if N = 0 then 0 else SA2 K P s q N) 12 ∧ WG2 K P gB s q = sN (fun N => if N = 0 then 0 else SB2 K P s q N * Int.tdiv 27720 N) 12 := by
  have s1 : WG2 K P gA s q = sN (fun j => sN (fun i => gA i j * CC K P s q i j) 12) 12 := sN_swap 12
  have s2 : WG2 K P gB s q = sN (fun j => sN (fun i => gB i j * CC K P s q i j) 12) 12 := sN_swap 12
  rw [s1, s2]
  refine ⟨congrArg (fun f => sN f 12) ?_, congrArg (fun f => sN f 12) ?_⟩
  · funext N
    unfold gA
    by_cases e : N = 0
    · rw [if_pos e, if_pos e]; exact sN_zero 12 (fun i _ _ => Int.zero_mul _)
    · rw [if_neg e, if_neg e]
      unfold SA2
      congr 1
      funext i
      rw [Int.one_mul]
  · funext N
    unfold gB
    by_cases e : N = 0
    · rw [if_pos e]; exact sN_zero 12 (fun i _ _ => by rw [if_pos e, Int.zero_mul])
    · rw [if_neg e]
      unfold SB2
      rw [← sN_mul]
      congr 1
      funext i
      rw [if_neg e, Int.mul_comm (Int.tdiv 27720 N) i, Int.mul_right_comm]
/-- goOn with rows of 24 -/
theorem c_goOnB {d a b s : Nat} {M : ZM} {K : Int → Int} {f : Int → Int → Int} {Q : ZM → Prop} (hx : NX M a b) (hw : M 106 3 = 24) (hL : CL K M) (hT : CT K M) (hF : CF K M) (hH : ∀ j, 0 ≤ j → j < 18 → M 91 j = K (160 + j)) (hs : (s : Int) ≤ K 179) (hn : ∀ q i, 0 ≤ q → q < 16 → 0 ≤ i → i < 24 → M a (q * 24 + i) = f q i * 10 ^ (10 - s)) (hf : ∀ q i, 0 ≤ q → q < 16 → 0 ≤ i → i < 24 → 0 ≤ f q i ∧ f q i ≤ 11 * FW K s q) (hQ : ∀ M', (∀ x, x ≠ 106 → x ≠ b → M' x = M x) → (∀ k, k ≠ 1 → k ≠ 2 → M' 106 k = M 106 k) → NX M' b a → ((s : Int) < K 179 → ∀ q i, 0 ≤ q → q < 16 → 0 ≤ i → i < 24 → M' b (q * 24 + i) = FP K (fun p => f p i) (K 182).toNat q * 10 ^ (10 - (s + 1))) → Q M') : zcV (d + 2) 18 [zA 106, zI (s : Int), zI (-1)] M Q := by
  obtain ⟨hW, c1, c2, c3⟩ := id hL
  obtain ⟨a1, a2, a3, a4, a5, a6, a7, a8⟩ := id hW
  obtain ⟨z1, z2, z3, z4, z5, z6, z7, z8⟩ := hx.zk
  have hab : a ≠ b := by rcases hx.1 with ⟨rfl, rfl⟩ | ⟨rfl, rfl⟩ <;> decide
  have b106 : b ≠ 106 := by rcases hx.1 with ⟨rfl, rfl⟩ | ⟨rfl, rfl⟩ <;> decide
  have bo : ∀ x, x ≤ 105 → x ≠ b := by rcases hx.1 with ⟨rfl, rfl⟩ | ⟨rfl, rfl⟩ <;> intro x h <;> omega
  apply vX2_goOn
  rw [hx.2.2, Int.toNat_natCast]
  refine c_fillL (n := 384) z8 z6 (by decide) ?_
  let Inv := fun (p : Int) (M1 : ZM) => (∀ x, x ≠ b → M1 x = M x) ∧ ((s : Int) < K 179 → ∀ q i, 0 ≤ q → q < 16 → 0 ≤ i → i < 24 → M1 b (q * 24 + i) = FP K (fun p => f p i) (if p < K 182 then p else K 182).toNat q * 10 ^ (10 - (s + 1)))
  have lp : ∀ (n p : Nat) (M1 : ZM), p + n = 16 → Inv p M1 → wX2_goOn (d + 1) 10 [(0, zA 106), (1, zI (s : Int)), (2, zI (-1)), (3, zI p)] M1 Q := by
    intro n
    induction n with
    | zero =>
      intro p M1 hp hI
      obtain ⟨i1, i2⟩ := hI
      have x1 : M1 106 1 = a := by rw [i1 106 (Ne.symm b106)]; exact hx.2.1
      have x2 : M1 106 2 = b := by rw [i1 106 (Ne.symm b106)]; exact hx.2.2
      have o1 : b = 107 ∨ b = 108 := by rcases hx.1 with ⟨rfl, rfl⟩ | ⟨rfl, rfl⟩ <;> decide
      have o2 : a = 107 ∨ a = 108 := by rcases hx.1 with ⟨rfl, rfl⟩ | ⟨rfl, rfl⟩ <;> decide
      apply vX2_goOn_10
      rw [x1, x2, Int.toNat_natCast, Int.toNat_natCast]
      refine ⟨fun _ => ⟨o1, zset ⟨o2, zset (hQ _ (fun x y1 y2 => ?_) (fun k k1 k2 => ?_) ⟨?_, ?_, zup_eq⟩ (fun hd q i q0 q1 i0 i1' => ?_))⟩⟩, fun z => by omega⟩
      · rw [zup_row y1, zup_row y1, i1 x y2]
      · rw [zup_ne (fun z => k2 z.2), zup_ne (fun z => k1 z.2), i1 106 (Ne.symm b106)]
      · rcases hx.1 with h | h
        · exact Or.inr ⟨h.2, h.1⟩
        · exact Or.inl ⟨h.2, h.1⟩
      · rw [zup_ne (by omega), zup_eq]
      · rw [zup_row b106, zup_row b106, i2 hd q i q0 q1 i0 i1', if_neg (by omega)]
    | succ n ih =>
      intro p M1 hp hI
      obtain ⟨i1, i2⟩ := hI
      have L1 : CL K M1 := hL.congr (fun x hx => i1 x (bo x (by omega)))
      have nxt : ¬ ((p : Int) < K 182 ∧ K (10 * p) ≠ 3 ∧ (s : Int) < K 179) → wX2_goOn (d + 1) 10 [(0, zA 106), (1, zI (s : Int)), (2, zI (-1)), (3, zI ((p : Int) + 1))] M1 Q := by
        intro hno
        refine ih (p + 1) M1 (by omega) ⟨i1, fun hd q i q0 q1 i0 i1' => ?_⟩
        rw [i2 hd q i q0 q1 i0 i1']
        by_cases hpl : (p : Int) < K 182
        · have k3 : K (10 * p) = 3 := by omega
          have e1 : (if (p : Int) < K 182 then (p : Int) else K 182).toNat = p := by rw [if_pos hpl]; omega
          have e2 : (if ((p + 1 : Nat) : Int) < K 182 then ((p + 1 : Nat) : Int) else K 182).toNat = p + 1 := by split <;> omega
          rw [e1, e2]
          show _ = (FP K (fun p => f p i) p q + cn K p q * f p i) * _
          unfold cn
          rw [if_pos k3, Int.zero_mul, Int.add_zero]
        · rw [if_neg hpl, if_neg (by omega)]
      apply vX2_goOn_10
      refine ⟨fun z => by omega, fun _ => c_goesOn L1 (by omega) (fun hp1 k3 hd => ⟨fun _ => ?_, fun z => by omega⟩) (fun hno => ⟨fun z => by omega, fun _ => ⟨⟨by omega, by omega⟩, nxt hno⟩⟩)⟩
      have e45 : M1 45 p = K (10 * p) := by rw [i1 45 (bo 45 (by decide))]; exact (c3 p (by omega) hp1).1
      have e90 : K (10 * p) = 0 → M1 90 p = K (10 * p + 1) := fun k => by rw [i1 90 (bo 90 (by decide))]; exact (c3 p (by omega) hp1).2.1 k
      have hs9 : s ≤ 9 := by omega
      have pw : (10 : Int) ^ (10 - s) = 10 * 10 ^ (10 - (s + 1)) := by
        rw [show 10 - s = 10 - (s + 1) + 1 by omega, Int.pow_succ, Int.mul_comm]
      have u0 := pow10_pos (10 - (s + 1))
      have ps := p10s (s := s + 1) (by omega)
      have ps2 : (10 : Int) ^ s * 10 ^ (10 - (s + 1)) = 1000000000 := by
        rw [← Int.pow_add, show s + (10 - (s + 1)) = 9 by omega]; decide
      have e1 : (if (p : Int) < K 182 then (p : Int) else K 182).toNat = p := by rw [if_pos hp1]; omega
      have e2 : (if ((p + 1 : Nat) : Int) < K 182 then ((p + 1 : Nat) : Int) else K 182).toNat = p + 1 := by split <;> omega
      have bnd : ∀ q i, 0 ≤ q → q < 16 → 0 ≤ i → i < 24 → -1000000000000000000 ≤ M1 b (q * 24 + i) ∧ M1 b (q * 24 + i) ≤ 1000000000000000000 := by
        intro q i q0 q1 i0 i1'
        rw [i2 hd q i q0 q1 i0 i1', e1]
        have x1 := FP_nn hW (f := fun p => f p i) (fun r r0 r1 => (hf r i r0 (by omega) i0 i1').1) p (by omega) q
        have x2 := FP_leq (q := q) hW (f := fun p => f p i) (g := fun p => 11 * FW K s p) p (by omega) (fun r r0 r1 => (hf r i r0 (by omega) i0 i1').2)
        rw [FP_mul] at x2
        have x3 := ((FP_le hW (s := s) (p := p) hs9 (by omega)).1 q q0 q1).2
        have y1 := Int.mul_nonneg x1 (show (0 : Int) ≤ 10 ^ (10 - (s + 1)) by omega)
        have y2 := Int.mul_le_mul_of_nonneg_right (show FP K (fun p => f p i) p q ≤ 11 * 10 ^ (s + 1) by omega) (show (0 : Int) ≤ 10 ^ (10 - (s + 1)) by omega)
        rw [Int.mul_assoc, ps] at y2
        omega
      have cbd : ∀ i, 0 ≤ i → i < 24 → 0 ≤ f p i * 10 ^ (10 - (s + 1)) ∧ f p i * 10 ^ (10 - (s + 1)) ≤ 11000000000 := by
        intro i i0 i1'
        have x := hf p i (by omega) (by omega) i0 i1'
        have w := (FW_le hW s (q := p) (by omega) (by omega)).2
        have y1 := Int.mul_nonneg x.1 (show (0 : Int) ≤ 10 ^ (10 - (s + 1)) by omega)
        have y2 := Int.mul_le_mul_of_nonneg_right (show f p i ≤ 11 * 10 ^ s by omega) (show (0 : Int) ≤ 10 ^ (10 - (s + 1)) by omega)
        rw [Int.mul_assoc, ps2] at y2
        omega
      have nx1 : NX M1 a b := ⟨hx.1, by rw [i1 106 (Ne.symm b106)]; exact hx.2.1, by rw [i1 106 (Ne.symm b106)]; exact hx.2.2⟩
      have k82 : wX2_goOn (d + 1) 82 [(0, zA 106), (1, zI (s : Int)), (2, zI (-1)), (3, zI p), (4, zI 0)] M1 Q := by
        apply vX2_goOn_82
        refine ⟨fun _ => ?_, fun z => absurd rfl z⟩
        refine c_passRowW (a := a) (b := b) (K := K) (w := 24) (c := fun i => f p i * 10 ^ (10 - (s + 1))) nx1 (Or.inr rfl) (by rw [i1 106 (Ne.symm b106)]; exact hw) L1 (fun p p0 p1 => by rw [i1 94 (bo 94 (by decide))]; exact hT p p0 p1) (fun p p0 p1 pk => by rw [i1 94 (bo 94 (by decide)), i1 91 (bo 91 (by decide))]; exact hF p p0 p1 pk) (fun j j0 j1 => by rw [i1 91 (bo 91 (by decide))]; exact hH j j0 j1) (by omega) hp1 k3 (fun i i0 i1' => ?_) (fun i i0 i1' => ?_) bnd (fun M2 r2 v2 => ⟨⟨by omega, by omega⟩, ih (p + 1) M2 (by omega) ⟨fun x hx => by rw [r2 x hx, i1 x hx], fun _ q i q0 q1 i0 i1' => ?_⟩⟩)
        · rw [i1 a hab, hn p i (by omega) (by omega) i0 i1', pw, Int.mul_left_comm]
        · have := cbd i i0 i1'
          omega
        · rw [v2 q i q0 q1 i0 i1', i2 hd q i q0 q1 i0 i1', e1, e2]
          show _ = (FP K (fun p => f p i) p q + cn K p q * f p i) * _
          rw [Int.add_mul, Int.mul_assoc]
      rw [e45]
      refine ⟨by omega, fun nf => k82, fun k0 => ⟨by omega, fun z => k82, fun z => ?_⟩⟩
      rw [e90 k0] at z
      have := ((a8 p (by omega) hp1).2.1 k0).1
      omega
  refine lp 16 0 _ (by omega) ⟨fun x hx => zrow_ne hx, fun _ q i q0 q1 i0 i1 => ?_⟩
  rw [zrow_at, if_pos (by omega)]
  have : (if ((0 : Nat) : Int) < K 182 then ((0 : Nat) : Int) else K 182).toNat = 0 := by split <;> omega
  rw [this]
  show (0 : Int) = 0 * _
  omega
/-- countOne -/
theorem c_countOne {d a b : Nat} {M : ZM} {q h : Int} {Q : ZM → Prop} (hx : NX M a b) (q0 : 0 ≤ q) (q1 : q < 16) (hh : h = 0 ∨ h = 1) (hb : ∀ y, 0 ≤ y → y < 384 → 0 ≤ M a y ∧ M a y ≤ 1000000000000000000) (hQ : ∀ M', (∀ x, x ≠ a → M' x = M x) → (∀ y, ¬ (q * 24 ≤ y ∧ y < q * 24 + 24) → M' a y = M a y) → (∀ N, 0 ≤ N → N < 12 → M' a (q * 24 + N) = (if N = 0 then 0 else M a (q * 24 + N - 1)) ∧ M' a (q * 24 + 12 + N) = (if N = 0 then 0 else M a (q * 24 + 12 + N - 1) + h * M a (q * 24 + N - 1))) → Q M') : zcV (d + 1) 25 [zA 106, zI q, zI h] M Q := by
  obtain ⟨z1, z2, z3, z4, z5, z6, z7, z8⟩ := hx.zk
  have a106 : (106 : Nat) ≠ a := by rcases hx.1 with ⟨rfl, rfl⟩ | ⟨rfl, rfl⟩ <;> decide
  let Inv := fun (n : Int) (M1 : ZM) => (∀ x, x ≠ a → M1 x = M x) ∧ (∀ y, ¬ (q * 24 ≤ y ∧ y < q * 24 + 24) → M1 a y = M a y) ∧ ∀ N, 0 ≤ N → N < 12 → M1 a (q * 24 + N) = (if n < N then M a (q * 24 + N - 1) else M a (q * 24 + N)) ∧ M1 a (q * 24 + 12 + N) = (if n < N then M a (q * 24 + 12 + N - 1) + h * M a (q * 24 + N - 1) else M a (q * 24 + 12 + N))
  have lp : ∀ (n : Nat) (M1 : ZM), n ≤ 11 → Inv n M1 → wX2_countOne d 9 [(0, zA 106), (2, zI h), (3, zI (q * 24)), (4, zI (n : Int))] M1 Q := by
    intro n
    induction n with
    | zero =>
      intro M1 hn ⟨i1, i2, i3⟩
      have x1 : M1 106 1 = a := by rw [i1 106 a106]; exact hx.2.1
      apply vX2_countOne_9
      rw [x1, Int.toNat_natCast, z1, z2, z5]
      refine ⟨fun _ => ⟨⟨by omega, by omega⟩, ?_⟩, fun z => by omega⟩
      intro M2 hM2
      have x2 : M2 106 1 = a := by rw [hM2, zup_row a106]; exact x1
      rw [x2, Int.toNat_natCast, z1, z2, z5]
      refine ⟨⟨by omega, by omega⟩, ⟨by omega, by omega⟩, zset (hQ _ (fun x hx' => ?_) (fun y hy => ?_) (fun N N0 N1 => ⟨?_, ?_⟩))⟩
      · rw [zup_row hx', hM2, zup_row hx', i1 x hx']
      · rw [zup_at, if_neg (by omega), hM2, zup_at, if_neg (by omega), i2 y hy]
      · rw [zup_at, if_neg (by omega), hM2, zup_at]
        by_cases e : N = 0
        · rw [if_pos (by omega), if_pos e]
        · rw [if_neg (by omega), if_neg e, (i3 N N0 N1).1, if_pos (by omega)]
      · rw [zup_at]
        by_cases e : N = 0
        · rw [if_pos (by omega), if_pos e]
        · rw [if_neg (by omega), if_neg e, hM2, zup_at, if_neg (by omega), (i3 N N0 N1).2, if_pos (by omega)]
    | succ n ih =>
      intro M1 hn ⟨i1, i2, i3⟩
      have x1 : M1 106 1 = a := by rw [i1 106 a106]; exact hx.2.1
      have v1 : M1 a (q * 24 + ((n + 1 : Nat) : Int) - 1) = M a (q * 24 + n) := by
        have := (i3 n (by omega) (by omega)).1
        rw [if_neg (by omega)] at this
        rw [← this]; congr 1; omega
      have v2 : M1 a (q * 24 + 12 + ((n + 1 : Nat) : Int) - 1) = M a (q * 24 + 12 + n) := by
        have := (i3 n (by omega) (by omega)).2
        rw [if_neg (by omega)] at this
        rw [← this]; congr 1; omega
      have b1 := hb (q * 24 + n) (by omega) (by omega)
      have b2 := hb (q * 24 + 12 + n) (by omega) (by omega)
      apply vX2_countOne_9
      rw [x1, Int.toNat_natCast, z1, z2, z5]
      refine ⟨fun z => by omega, fun _ => ⟨⟨by omega, by omega⟩, ⟨by omega, by omega⟩, ⟨by omega, by omega⟩, ⟨by omega, by omega⟩, ⟨by omega, by omega⟩, ?_⟩⟩
      intro M3 hM3
      have x3 : M3 106 1 = a := by rw [hM3, zup_row a106]; exact x1
      have w1 : M3 a (q * 24 + ((n + 1 : Nat) : Int)) = M a (q * 24 + n) := by rw [hM3, zup_eq, v1]
      have w2 : M3 a (q * 24 + 12 + ((n + 1 : Nat) : Int) - 1) = M a (q * 24 + 12 + n) := by rw [hM3, zup_at, if_neg (by omega), v2]
      rw [x3, Int.toNat_natCast, z1, z2, z5, w2, w1]
      have go : ∀ M4, M4 = zup M3 a (q * 24 + 12 + ((n + 1 : Nat) : Int)) (M a (q * 24 + 12 + n) + h * M a (q * 24 + n)) → r32 (((n + 1 : Nat) : Int) + (-1)) ∧ wX2_countOne d 9 [(0, zA 106), (2, zI h), (3, zI (q * 24)), (4, zI (((n + 1 : Nat) : Int) + (-1)))] M4 Q := by
        intro M4 hM4
        refine ⟨⟨by omega, by omega⟩, ?_⟩
        have := ih M4 (by omega) ⟨fun x hx' => ?_, fun y hy => ?_, fun N N0 N1 => ⟨?_, ?_⟩⟩
        · rw [show ((n + 1 : Nat) : Int) + (-1) = n by omega]; exact this
        · rw [hM4, zup_row hx', hM3, zup_row hx', i1 x hx']
        · rw [hM4, zup_at, if_neg (by omega), hM3, zup_at, if_neg (by omega), i2 y hy]
        · rw [hM4, zup_at, if_neg (by omega), hM3, zup_at]
          by_cases e : N = ((n + 1 : Nat) : Int)
          · rw [if_pos (by omega), if_pos (by omega), v1]; congr 1; omega
          · rw [if_neg (by omega), (i3 N N0 N1).1]
            by_cases l : (n : Int) < N
            · rw [if_pos l, if_pos (by omega)]
            · rw [if_neg l, if_neg (by omega)]
        · rw [hM4, zup_at]
          by_cases e : N = ((n + 1 : Nat) : Int)
          · rw [if_pos (by omega), if_pos (by omega), show q * 24 + 12 + N - 1 = q * 24 + 12 + n by omega, show q * 24 + N - 1 = q * 24 + n by omega]
          · rw [if_neg (by omega), hM3, zup_at, if_neg (by omega), (i3 N N0 N1).2]
            by_cases l : (n : Int) < N
            · rw [if_pos l, if_pos (by omega)]
            · rw [if_neg l, if_neg (by omega)]
      refine ⟨⟨by omega, by omega⟩, ⟨by omega, by omega⟩, ⟨by omega, by omega⟩, ⟨by omega, by omega⟩, ⟨by omega, by omega⟩, ⟨by omega, by omega⟩, fun z => ?_, fun z => ?_⟩
      · rw [z, Int.zero_mul] at go
        exact ⟨⟨by omega, by omega⟩, ⟨by omega, by omega⟩, fun M4 hM4 => by rw [z]; exact go M4 hM4⟩
      · have h1 : h = 1 := by omega
        rw [h1, Int.one_mul] at go
        exact ⟨⟨by omega, by omega⟩, ⟨by omega, by omega⟩, ⟨by omega, by omega⟩, ⟨by omega, by omega⟩, fun M4 hM4 => by rw [h1]; exact go M4 hM4⟩
  apply vX2_countOne
  exact ⟨⟨by omega, by omega⟩, lp 11 M (by omega) ⟨fun _ _ => rfl, fun _ _ => rfl, fun N N0 N1 => ⟨by rw [if_neg (by omega)], by rw [if_neg (by omega)]⟩⟩⟩
