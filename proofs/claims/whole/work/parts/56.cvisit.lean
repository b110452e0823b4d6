/-! goOn, countVisits -/
theorem c_goOn1 {d a b s : Nat} {M : ZM} {K : Int → Int} {Q : ZM → Prop} (hx : NX M a b) (hw : M 106 3 = 1) (hL : CL K M) (hT : CT K M) (hF : CF K M) (hH : ∀ j, 0 ≤ j → j < 18 → M 91 j = K (160 + j)) (hs : (s : Int) ≤ K 179) (hn : ∀ q, 0 ≤ q → q < 16 → M a q = FW K s q * 10 ^ (10 - s)) (hQ : ∀ M', (∀ x, x ≠ 106 → x ≠ b → M' x = M x) → (∀ k, k ≠ 1 → k ≠ 2 → M' 106 k = M 106 k) → NX M' b a → ((s : Int) < K 179 → ∀ q, 0 ≤ q → q < 16 → M' b q = FW K (s + 1) q * 10 ^ (10 - (s + 1))) → Q M') : zcV (d + 2) 18 [zA 106, zI (s : Int), zI (-1)] M Q := by
  obtain ⟨hW, c1, c2, c3⟩ := id hL
  obtain ⟨a1, a2, a3, a4, a5, a6, a7, a8⟩ := id hW
  obtain ⟨z1, z2, z3, z4, z5, z6, z7, z8⟩ := hx.zk
  have hab : a ≠ b := by rcases hx.1 with ⟨rfl, rfl⟩ | ⟨rfl, rfl⟩ <;> decide
  have b106 : b ≠ 106 := by rcases hx.1 with ⟨rfl, rfl⟩ | ⟨rfl, rfl⟩ <;> decide
  have bo : ∀ x, x ≤ 105 → x ≠ b := by rcases hx.1 with ⟨rfl, rfl⟩ | ⟨rfl, rfl⟩ <;> intro x h <;> omega
  have hfb := FW_bd hW s
  apply vX2_goOn
  rw [hx.2.2, Int.toNat_natCast]
  refine c_fillL (n := 384) z8 z6 (by decide) ?_
  let Inv := fun (p : Int) (M1 : ZM) => (∀ x, x ≠ b → M1 x = M x) ∧ ((s : Int) < K 179 → ∀ q, 0 ≤ q → q < 16 → M1 b q = FP K (FW K s) (if p < K 182 then p else K 182).toNat q * 10 ^ (10 - (s + 1)))
  have lp : ∀ (n p : Nat) (M1 : ZM), p + n = 16 → Inv p M1 → wX2_goOn (d + 1) 10 [(0, zA 106), (1, zI (s : Int)), (2, zI (-1)), (3, zI p)] M1 Q := by
    intro n
    induction n with
    | zero =>
      intro p M1 hp hI
      obtain ⟨i1, i2⟩ := hI
      have x1 : M1 106 1 = a := by rw [i1 106 (Ne.symm b106)]; exact hx.2.1
      have x2 : M1 106 2 = b := by rw [i1 106 (Ne.symm b106)]; exact hx.2.2
      have o1 : b = 107 ∨ b = 108 := by rcases hx.1 with ⟨rfl, rfl⟩ | ⟨rfl, rfl⟩ <;> decide
      have o2 : a = 107 ∨ a = 108 := by rcases hx.1 with ⟨rfl, rfl⟩ | ⟨rfl, rfl⟩ <;> decide
      apply vX2_goOn_10
      rw [x1, x2, Int.toNat_natCast, Int.toNat_natCast]
      refine ⟨fun _ => ⟨o1, zset ⟨o2, zset (hQ _ (fun x y1 y2 => ?_) (fun k k1 k2 => ?_) ⟨?_, ?_, zup_eq⟩ (fun hd q q0 q1 => ?_))⟩⟩, fun z => by omega⟩
      · rw [zup_row y1, zup_row y1, i1 x y2]
      · rw [zup_ne (fun z => k2 z.2), zup_ne (fun z => k1 z.2), i1 106 (Ne.symm b106)]
      · rcases hx.1 with h | h
        · exact Or.inr ⟨h.2, h.1⟩
        · exact Or.inl ⟨h.2, h.1⟩
      · rw [zup_ne (by omega), zup_eq]
      · rw [zup_row b106, zup_row b106, i2 hd q q0 q1, if_neg (by omega)]
        rfl
    | succ n ih =>
      intro p M1 hp hI
      obtain ⟨i1, i2⟩ := hI
      have L1 : CL K M1 := hL.congr (fun x hx => i1 x (bo x (by omega)))
      have nxt : ¬ ((p : Int) < K 182 ∧ K (10 * p) ≠ 3 ∧ (s : Int) < K 179) → wX2_goOn (d + 1) 10 [(0, zA 106), (1, zI (s : Int)), (2, zI (-1)), (3, zI ((p : Int) + 1))] M1 Q := by
        intro hno
        refine ih (p + 1) M1 (by omega) ⟨i1, fun hd q q0 q1 => ?_⟩
        rw [i2 hd q q0 q1]
        by_cases hpl : (p : Int) < K 182
        · have k3 : K (10 * p) = 3 := by omega
          have e1 : (if (p : Int) < K 182 then (p : Int) else K 182).toNat = p := by rw [if_pos hpl]; omega
          have e2 : (if ((p + 1 : Nat) : Int) < K 182 then ((p + 1 : Nat) : Int) else K 182).toNat = p + 1 := by split <;> omega
          rw [e1, e2]
          show _ = (FP K (FW K s) p q + cn K p q * FW K s p) * _
          unfold cn
          rw [if_pos k3, Int.zero_mul, Int.add_zero]
        · rw [if_neg hpl, if_neg (by omega)]
      apply vX2_goOn_10
      refine ⟨fun z => by omega, fun _ => c_goesOn L1 (by omega) (fun hp1 k3 hd => ⟨fun _ => ?_, fun z => by omega⟩) (fun hno => ⟨fun z => by omega, fun _ => ⟨⟨by omega, by omega⟩, nxt hno⟩⟩)⟩
      have e45 : M1 45 p = K (10 * p) := by rw [i1 45 (bo 45 (by decide))]; exact (c3 p (by omega) hp1).1
      have e90 : K (10 * p) = 0 → M1 90 p = K (10 * p + 1) := fun k => by rw [i1 90 (bo 90 (by decide))]; exact (c3 p (by omega) hp1).2.1 k
      have k82 : wX2_goOn (d + 1) 82 [(0, zA 106), (1, zI (s : Int)), (2, zI (-1)), (3, zI p), (4, zI 0)] M1 Q := by
        apply vX2_goOn_82
        refine ⟨fun _ => ?_, fun z => absurd rfl z⟩
        have hs9 : s ≤ 9 := by omega
        have pw : (10 : Int) ^ (10 - s) = 10 * 10 ^ (10 - (s + 1)) := by
          rw [show 10 - s = 10 - (s + 1) + 1 by omega, Int.pow_succ, Int.mul_comm]
        have ps : (10 : Int) ^ s * 10 ^ (10 - (s + 1)) = 1000000000 := by
          rw [← Int.pow_add, show s + (10 - (s + 1)) = 9 by omega]
          decide
        have u0 := pow10_pos (10 - (s + 1))
        have fl := FW_le hW s (q := p) (by omega) (by omega)
        have cb := Int.mul_le_mul_of_nonneg_right fl.2 (show 0 ≤ (10 : Int) ^ (10 - (s + 1)) by omega)
        have cb0 := Int.mul_nonneg fl.1 (show 0 ≤ (10 : Int) ^ (10 - (s + 1)) by omega)
        have e1 : (if (p : Int) < K 182 then (p : Int) else K 182).toNat = p := by rw [if_pos hp1]; omega
        have e2 : (if ((p + 1 : Nat) : Int) < K 182 then ((p + 1 : Nat) : Int) else K 182).toNat = p + 1 := by split <;> omega
        refine c_passRow (a := a) (b := b) (K := K) (c := FW K s p * 10 ^ (10 - (s + 1))) ⟨hx.1, by rw [i1 106 (Ne.symm b106)]; exact hx.2.1, by rw [i1 106 (Ne.symm b106)]; exact hx.2.2⟩ (by rw [i1 106 (Ne.symm b106)]; exact hw) L1 (fun p p0 p1 => by rw [i1 94 (bo 94 (by decide))]; exact hT p p0 p1) (fun p p0 p1 pk => by rw [i1 94 (bo 94 (by decide)), i1 91 (bo 91 (by decide))]; exact hF p p0 p1 pk) (fun j j0 j1 => by rw [i1 91 (bo 91 (by decide))]; exact hH j j0 j1) (by omega) hp1 k3 ?_ (by omega) (fun q q0 q1 => ?_) (fun M2 r2 v2 => ⟨⟨by omega, by omega⟩, ih (p + 1) M2 (by omega) ⟨fun x hx => by rw [r2 x hx, i1 x hx], fun _ q q0 q1 => ?_⟩⟩)
        · rw [i1 a hab, hn p (by omega) (by omega), pw, Int.mul_left_comm]
        · rw [i2 hd q q0 q1, e1]
          have nn := FP_nn hW (f := FW K s) (fun q _ _ => hfb.1 q) p (by omega) q
          have sm := FP_sum hW (f := FW K s) (fun q _ _ => hfb.1 q) p (by omega)
          have mo := sN_mono (f := FW K s) (m := p) (n := 16) (fun q _ _ => hfb.1 q) (by omega)
          have le := sN_le (f := FP K (FW K s) p) (n := 16) (fun q _ _ => FP_nn hW (f := FW K s) (fun q _ _ => hfb.1 q) p (by omega) q) q0 (by omega)
          have h1 : FP K (FW K s) p q ≤ 10 * 10 ^ s := by omega
          have h2 := Int.mul_le_mul_of_nonneg_right h1 (show 0 ≤ (10 : Int) ^ (10 - (s + 1)) by omega)
          have h3 := Int.mul_nonneg nn (show 0 ≤ (10 : Int) ^ (10 - (s + 1)) by omega)
          rw [Int.mul_assoc, ps] at h2
          omega
        · rw [v2 q q0 q1, i2 hd q q0 q1, e1, e2]
          show _ = (FP K (FW K s) p q + cn K p q * FW K s p) * _
          rw [Int.add_mul, Int.mul_assoc]
      rw [e45]
      refine ⟨by omega, fun _ => k82, fun k0 => ⟨by omega, fun _ => k82, fun z => ?_⟩⟩
      rw [e90 k0] at z
      have := ((a8 p (by omega) hp1).2.1 k0).1
      omega
  refine lp 16 0 _ (by omega) ⟨fun x hx => zrow_ne hx, fun _ q q0 q1 => ?_⟩
  rw [zrow_at, if_pos (by omega)]
  have : (if ((0 : Nat) : Int) < K 182 then ((0 : Nat) : Int) else K 182).toNat = 0 := by split <;> omega
  rw [this]
  show (0 : Int) = 0 * _
  omega
