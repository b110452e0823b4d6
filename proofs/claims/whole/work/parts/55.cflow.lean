/-! the class's Flow, rows as wide as 1 -/
/-- which row is now, which next -/
def NX (M : ZM) (a b : Nat) : Prop := ((a = 107 ∧ b = 108) ∨ (a = 108 ∧ b = 107)) ∧ M 106 1 = a ∧ M 106 2 = b
theorem NX.zk {M : ZM} {a b : Nat} (h : NX M a b) : zk a = 101 ∧ zn a = 384 ∧ zk b = 101 ∧ zn b = 384 ∧ Nat.ble 29 a = true ∧ Nat.ble 29 b = true ∧ zt a = (101, 384) ∧ zt b = (101, 384) := by
  rcases h.1 with ⟨rfl, rfl⟩ | ⟨rfl, rfl⟩
  · decide
  · decide
theorem NX.of {M : ZM} (h : JF M) : ∃ a b, NX M a b := by
  rcases h with h | h
  · exact ⟨107, 108, Or.inl ⟨rfl, rfl⟩, h.1, h.2⟩
  · exact ⟨108, 107, Or.inr ⟨rfl, rfl⟩, h.1, h.2⟩
theorem NX.jf {M : ZM} {a b : Nat} (h : NX M a b) : JF M := by
  obtain ⟨h1, h2, h3⟩ := h
  unfold JF
  rw [h2, h3]
  rcases h1 with ⟨rfl, rfl⟩ | ⟨rfl, rfl⟩
  · exact Or.inl ⟨rfl, rfl⟩
  · exact Or.inr ⟨rfl, rfl⟩
theorem c_fillL {d a n : Nat} {M : ZM} {x : Int} {Q : ZM → Prop} (ha : zt a = (101, n)) (ho : Nat.ble 29 a = true) (hn : n ≤ 5000) (hQ : Q (zrow M a (fun j => if 0 ≤ j ∧ j < n then x else M a j))) : zcV (d + 1) 258 [zA a, zJ x] M Q := by
  have a1 : zk a = 101 := by unfold zk; rw [ha]
  have a2 : zn a = n := by unfold zn; rw [ha]
  have lp : ∀ m k : Nat, k + m = n → wJ7_fill_d0a16 d 6 [(0, zA a), (1, zJ x), (3, zI k), (4, zI (n : Int))] (zrow M a (fun j => if 0 ≤ j ∧ j < k then x else M a j)) Q := by
    intro m
    induction m with
    | zero =>
      intro k hk
      have : k = n := by omega
      subst this
      apply vJ7_fill_d0a16_6
      exact ⟨fun _ => hQ, fun q => by omega⟩
    | succ m ih =>
      intro k hk
      have nx := ih (k + 1) (by omega)
      apply vJ7_fill_d0a16_6
      rw [a1, a2, ho]
      refine ⟨fun q => by omega, fun _ => ⟨by omega, zset ⟨⟨by omega, by omega⟩, ?_⟩⟩⟩
      rw [zup_zrow]
      have e : kup (fun j => if 0 ≤ j ∧ j < (k : Int) then x else M a j) k x = fun j => if 0 ≤ j ∧ j < ((k + 1 : Nat) : Int) then x else M a j := by
        funext j
        unfold kup
        by_cases hj : j = k
        · rw [if_pos hj, if_pos (by omega)]
        · rw [if_neg hj]
          dsimp only
          by_cases h2 : 0 ≤ j ∧ j < (k : Int)
          · rw [if_pos h2, if_pos (by omega)]
          · rw [if_neg h2, if_neg (by omega)]
      rw [e]
      exact nx
  have z : zrow M a (fun j => if 0 ≤ j ∧ j < ((0 : Nat) : Int) then x else M a j) = M := by
    have : (fun j => if 0 ≤ j ∧ j < ((0 : Nat) : Int) then x else M a j) = M a := by
      funext j
      rw [if_neg (by omega)]
    rw [this, zrow_self]
  have l0 := lp n 0 (by omega)
  rw [z] at l0
  apply vJ7_fill_d0a16
  rw [a1, a2]
  exact l0
theorem c_goesOn {d : Nat} {M : ZM} {K : Int → Int} {p s : Int} {Q : Int → ZM → Prop} (hL : CL K M) (p0 : 0 ≤ p) (h1 : p < K 182 → K (10 * p) ≠ 3 → s < K 179 → Q 1 M) (h0 : ¬ (p < K 182 ∧ K (10 * p) ≠ 3 ∧ s < K 179) → Q 0 M) : zcI (d + 1) 15 [zA 89, zI p, zI s] M Q := by
  obtain ⟨hW, c1, c2, c3⟩ := hL
  have hpl := hW.1
  apply vX1_goesOn
  rw [c1, c2.2.1]
  refine ⟨fun z => ⟨by omega, h0 (by omega)⟩, fun z => ?_⟩
  rw [(c3 p p0 (by omega)).1]
  exact ⟨by omega, fun k => ⟨by omega, h0 (by omega)⟩, fun k => ⟨by omega, fun y => ⟨by omega, h0 (by omega)⟩, fun y => ⟨by omega, h1 (by omega) k (by omega)⟩⟩⟩
/-- TENTHS of a PLACE by where they lead -/
theorem ten_cn {M : ZM} {K : Int → Int} {p : Int} (hL : CL K M) (hT : CT K M) (hF : CF K M) (hH : ∀ j, 0 ≤ j → j < 18 → M 91 j = K (160 + j)) (p0 : 0 ≤ p) (p1 : p < K 182) (k3 : K (10 * p) ≠ 3) (q : Int) : (if K (10 * p + 3 + 0) = q then M 94 (p * 3 + 0) else 0) + (if 1 < K (10 * p + 2) then (if K (10 * p + 3 + 1) = q then M 94 (p * 3 + 1) else 0) else 0) + (if 2 < K (10 * p + 2) then (if K (10 * p + 3 + 2) = q then M 94 (p * 3 + 2) else 0) else 0) = cn K p q := by
  obtain ⟨hW, c1, c2, c3⟩ := hL
  have hwp := hW.2.2.2.2.2.2.2 p p0 p1
  have hr := hwp.rc
  obtain ⟨w1, w2, w3, w4, w5, w6⟩ := hwp
  have rk : ∀ k, 0 ≤ k → k < K (10 * p + 2) → rdc K p k = K (10 * p + 3 + k) := fun k k0 k1 => by unfold rdc; rw [if_pos k1]
  have rl : ∀ k, K (10 * p + 2) ≤ k → rdc K p k = K (10 * p + 3 + (K (10 * p + 2) - 1)) := fun k k1 => by unfold rdc; rw [if_neg (by omega)]
  have ws := wO_sum hW p0 p1 k3
  unfold cn
  rw [if_neg k3]
  rcases (by omega : K (10 * p) = 0 ∨ K (10 * p) = 1 ∨ K (10 * p) = 2) with k | k | k
  · obtain ⟨⟨l0, l1⟩, b0, b1⟩ := w2 k
    obtain ⟨f1, f2, f3⟩ := hF p p0 p1 k
    have e : ∀ j, 0 ≤ j → j ≤ 2 → wO K p j = M 91 (3 * K (10 * p + 1) + j) := fun j j0 j1 => by
      unfold wO tnO
      rw [if_neg (by omega), if_neg (by omega), hH _ (by omega) (by omega)]
      congr 1
      omega
    have e0 := e 0 (by omega) (by omega)
    have e1 := e 1 (by omega) (by omega)
    have e2 := e 2 (by omega) (by omega)
    rw [Int.add_zero] at e0
    have z0 : M 94 (p * 3 + 0) = M 94 (p * 3) := by rw [Int.add_zero]
    rcases (by omega : K (10 * p + 2) = 1 ∨ K (10 * p + 2) = 2 ∨ K (10 * p + 2) = 3) with c | c | c
    · have g := f1 c
      rw [rk 0 (by omega) (by omega), show rdc K p 1 = K (10 * p + 3 + 0) by rw [rl 1 (by omega), c]; rfl, show rdc K p 2 = K (10 * p + 3 + 0) by rw [rl 2 (by omega), c]; rfl]
      omega
    · have g := f2 c
      rw [rk 0 (by omega) (by omega), rk 1 (by omega) (by omega), show rdc K p 2 = K (10 * p + 3 + 1) by rw [rl 2 (by omega), c]; rfl]
      omega
    · have g := f3 c
      rw [rk 0 (by omega) (by omega), rk 1 (by omega) (by omega), rk 2 (by omega) (by omega)]
      omega
  · obtain ⟨t1, t2, t3, t4, t5⟩ := w3 k
    have e : ∀ j, wO K p j = K (10 * p + 6 + j) := fun j => by unfold wO tnO; rw [if_neg (by omega), if_pos k]
    have m0 := (hT p p0 p1).1 k 0 (by omega) (by omega)
    have x7 : K (10 * p + 6 + 1) = K (10 * p + 7) := by congr 1; omega
    have x8 : K (10 * p + 6 + 2) = K (10 * p + 8) := by congr 1; omega
    rw [e, e, e, rk 0 (by omega) (by omega), m0, x7, x8]
    by_cases c2 : K (10 * p + 2) ≤ 1
    · have y7 := t4 c2
      have y8 := t5 (by omega)
      omega
    · have m1 := (hT p p0 p1).1 k 1 (by omega) (by omega)
      rw [m1, rk 1 (by omega) (by omega), x7]
      by_cases c3 : K (10 * p + 2) ≤ 2
      · have y8 := t5 c3
        omega
      · have m2 := (hT p p0 p1).1 k 2 (by omega) (by omega)
        rw [m2, rk 2 (by omega) (by omega), x8]
        omega
  · have c := (w4 k).2
    have m0 := (hT p p0 p1).2 k
    have z0 : M 94 (p * 3 + 0) = M 94 (p * 3) := by rw [Int.add_zero]
    have o0 : wO K p 0 = 10 := by unfold wO; rw [if_pos k, if_pos rfl]
    have o1 : wO K p 1 = 0 := by unfold wO; rw [if_pos k, if_neg (by omega)]
    have o2 : wO K p 2 = 0 := by unfold wO; rw [if_pos k, if_neg (by omega)]
    rw [rk 0 (by omega) (by omega), o0, o1, o2]
    omega
/-- from one PLACE on: width 1 -/
theorem c_passRow {d a b : Nat} {M : ZM} {K : Int → Int} {p c : Int} {Q : ZM → Prop} (hx : NX M a b) (hw : M 106 3 = 1) (hL : CL K M) (hT : CT K M) (hF : CF K M) (hH : ∀ j, 0 ≤ j → j < 18 → M 91 j = K (160 + j)) (p0 : 0 ≤ p) (p1 : p < K 182) (k3 : K (10 * p) ≠ 3) (hc : M a p = 10 * c) (c0 : 0 ≤ c ∧ c ≤ 1000000000) (hb : ∀ q, 0 ≤ q → q < 16 → 0 ≤ M b q ∧ M b q ≤ 200000000000) (hQ : ∀ M', (∀ x, x ≠ b → M' x = M x) → (∀ q, 0 ≤ q → q < 16 → M' b q = M b q + cn K p q * c) → Q M') : zcV (d + 1) 19 [zA 106, zI p] M Q := by
  obtain ⟨hW, c1, c2, c3⟩ := id hL
  obtain ⟨q1, q2, q3, q4, q5, q6⟩ := c3 p p0 p1
  have hpl := hW.1
  have hwp := hW.2.2.2.2.2.2.2 p p0 p1
  have hr := hwp.rc
  obtain ⟨w1, w2, w3, w4, w5, w6⟩ := hwp
  obtain ⟨z1, z2, z3, z4, z5, z6, -, -⟩ := hx.zk
  have hab : a ≠ b := by rcases hx.1 with ⟨rfl, rfl⟩ | ⟨rfl, rfl⟩ <;> decide
  have b106 : b ≠ 106 := by rcases hx.1 with ⟨rfl, rfl⟩ | ⟨rfl, rfl⟩ <;> decide
  have b48 : b ≠ 48 ∧ b ≠ 49 ∧ b ≠ 94 := by rcases hx.1 with ⟨rfl, rfl⟩ | ⟨rfl, rfl⟩ <;> decide
  have h1 : 1 ≤ K (10 * p + 2) := by
    rcases (by omega : K (10 * p) = 0 ∨ K (10 * p) = 1 ∨ K (10 * p) = 2) with q | q | q
    · have := w2 q; omega
    · have := w3 q; omega
    · have := w4 q; omega
  have tc := ten_cn hL hT hF hH p0 p1 k3
  have tb : ∀ k, 0 ≤ k → k < K (10 * p + 2) → 0 ≤ M 94 (p * 3 + k) ∧ M 94 (p * 3 + k) ≤ 10 := by
    intro k k0 k1
    rcases (by omega : K (10 * p) = 0 ∨ K (10 * p) = 1 ∨ K (10 * p) = 2) with q | q | q
    · obtain ⟨f1, f2, f3⟩ := hF p p0 p1 q
      have hl := hW.hd (K (10 * p + 1)) (w2 q).1.1 (by have := (w2 q).1.2; omega)
      have l5 := (w2 q).1
      have x0 := hH (3 * K (10 * p + 1)) (by omega) (by omega)
      have x1 := hH (3 * K (10 * p + 1) + 1) (by omega) (by omega)
      dsimp only at hl
      rcases (by omega : K (10 * p + 2) = 1 ∨ K (10 * p + 2) = 2 ∨ K (10 * p + 2) = 3) with c | c | c
      · have := f1 c
        rw [show p * 3 + k = p * 3 by omega]; omega
      · have := f2 c
        rcases (by omega : k = 0 ∨ k = 1) with rfl | rfl
        · rw [Int.add_zero]; omega
        · omega
      · have := f3 c
        rcases (by omega : k = 0 ∨ k = 1 ∨ k = 2) with rfl | rfl | rfl
        · rw [Int.add_zero]; omega
        · omega
        · omega
    · rw [(hT p p0 p1).1 q k k0 k1]
      have := (w3 q).2.1 k k0 k1
      omega
    · have := (hT p p0 p1).2 q
      have := (w4 q).2
      rw [show p * 3 + k = p * 3 by omega]; omega
  -- one road
  have st : ∀ {k : Int} {M1 : ZM} {Q : ZM → Prop}, 0 ≤ k → k < K (10 * p + 2) → (∀ x, x ≠ b → M1 x = M x) → (∀ q, 0 ≤ q → q < 16 → 0 ≤ M1 b q ∧ M1 b q ≤ 1000000000000) → wX2_passRow d 2 [(0, zA 106), (1, zI p), (2, zI (k + 1))] (zup M1 b (K (10 * p + 3 + k)) (M1 b (K (10 * p + 3 + k)) + c * M 94 (p * 3 + k))) Q → wX2_passRow d 2 [(0, zA 106), (1, zI p), (2, zI k)] M1 Q := by
    intro k M1 Q k0 k1 r1 b1 nx
    have rd := w6 k k0 k1
    have bb := b1 _ rd.1 (by omega)
    have tk := tb k k0 k1
    have wb := wsum (B := 1000000000) (S := 10) (a := M 94 (p * 3 + k)) (b := 10 - M 94 (p * 3 + k)) (c := 0) (x := c) (z := 0) (y := 0) tk.1 (by omega) (by omega) (by omega) (by omega) (by omega) (by omega)
    rw [Int.mul_zero, Int.mul_zero, Int.mul_comm (M 94 (p * 3 + k)) c] at wb
    have m0 : 0 ≤ c * M 94 (p * 3 + k) := Int.mul_nonneg c0.1 tk.1
    have x1 : M1 106 1 = a := by rw [r1 106 (Ne.symm b106)]; exact hx.2.1
    have x2 : M1 106 2 = b := by rw [r1 106 (Ne.symm b106)]; exact hx.2.2
    have x3 : M1 106 3 = 1 := by rw [r1 106 (Ne.symm b106)]; exact hw
    apply vX2_passRow_2
    rw [r1 48 (Ne.symm b48.1), q5, r1 49 (Ne.symm b48.2.1), q6 k k0 k1, r1 94 (Ne.symm b48.2.2), x3]
    refine ⟨by omega, fun z => by omega, fun _ => ⟨⟨by omega, by omega⟩, ⟨by omega, by omega⟩, by omega, ⟨by omega, by omega⟩, ⟨by omega, by omega⟩, by omega, ⟨by omega, by omega⟩, ?_⟩⟩
    apply vX2_passRow_58
    rw [x1, x2, x3, Int.toNat_natCast, Int.toNat_natCast, z1, z2, z3, z4, z6, r1 a hab, show p * 1 + 0 = p by omega, hc, show K (10 * p + 3 + k) * 1 + 0 = K (10 * p + 3 + k) by omega, Int.mul_tdiv_cancel_left c (by decide)]
    refine ⟨fun z => by omega, fun _ => ⟨⟨by omega, by omega⟩, ⟨by omega, by omega⟩, ⟨by omega, by omega⟩, ⟨by omega, by omega⟩, ⟨by omega, by omega⟩, by omega, ⟨by omega, by omega⟩, ⟨by omega, by omega⟩, ⟨by omega, by omega⟩, ⟨by omega, by omega⟩, zset ⟨⟨by omega, by omega⟩, ?_⟩⟩⟩
    apply vX2_passRow_58
    rw [zup_row (Ne.symm b106), x3]
    exact ⟨fun _ => ⟨⟨by omega, by omega⟩, nx⟩, fun z => by omega⟩
  have en : ∀ {k : Int} {M1 : ZM}, K (10 * p + 2) ≤ k → M1 48 p = K (10 * p + 2) → Q M1 → wX2_passRow d 2 [(0, zA 106), (1, zI p), (2, zI k)] M1 Q := by
    intro k M1 hk e hq
    apply vX2_passRow_2
    rw [e]
    exact ⟨by omega, fun _ => hq, fun z => by omega⟩
  have mb : ∀ k, 0 ≤ k → k < K (10 * p + 2) → 0 ≤ c * M 94 (p * 3 + k) ∧ c * M 94 (p * 3 + k) ≤ 10000000000 := by
    intro k k0 k1
    have tk := tb k k0 k1
    refine ⟨Int.mul_nonneg c0.1 tk.1, ?_⟩
    have := Int.mul_le_mul c0.2 tk.2 tk.1 (by omega)
    omega
  apply vX2_passRow
  refine st (k := 0) (by omega) (by omega) (fun _ _ => rfl) (fun q a b => by have := hb q a b; omega) ?_
  rw [show (0 : Int) + 1 = 1 by omega]
  have m0 := mb 0 (by omega) (by omega)
  generalize hN1 : zup M b (K (10 * p + 3 + 0)) (M b (K (10 * p + 3 + 0)) + c * M 94 (p * 3 + 0)) = N1
  have n1 : ∀ x, x ≠ b → N1 x = M x := fun x hx => by subst hN1; exact zup_row hx
  have v1 : ∀ q, N1 b q = M b q + (if K (10 * p + 3 + 0) = q then c * M 94 (p * 3 + 0) else 0) := fun q => by
    subst hN1
    rw [zup_at]
    by_cases hq : q = K (10 * p + 3 + 0)
    · rw [if_pos hq, if_pos hq.symm, hq]
    · rw [if_neg hq, if_neg (fun z => hq z.symm)]; omega
  have dist : ∀ (P : Prop) [Decidable P] (x : Int), (if P then c * x else 0) = (if P then x else 0) * c := by
    intro P _ x
    split
    · rw [Int.mul_comm]
    · omega
  by_cases c2' : K (10 * p + 2) ≤ 1
  · refine en c2' (by rw [n1 48 (Ne.symm b48.1)]; exact q5) (hQ N1 n1 (fun q a b' => ?_))
    have t := tc q
    rw [if_neg (show ¬ 1 < K (10 * p + 2) by omega), if_neg (show ¬ 2 < K (10 * p + 2) by omega)] at t
    rw [v1, dist, show cn K p q = (if K (10 * p + 3 + 0) = q then M 94 (p * 3 + 0) else 0) by omega]
  · refine st (k := 1) (by omega) (by omega) n1 (fun q a b' => ?_) ?_
    · rw [v1]; have := hb q a b'; split <;> omega
    have m1 := mb 1 (by omega) (by omega)
    rw [show (1 : Int) + 1 = 2 by omega]
    generalize hN2 : zup N1 b (K (10 * p + 3 + 1)) (N1 b (K (10 * p + 3 + 1)) + c * M 94 (p * 3 + 1)) = N2
    have n2 : ∀ x, x ≠ b → N2 x = M x := fun x hx => by subst hN2; rw [zup_row hx, n1 x hx]
    have v2 : ∀ q, N2 b q = N1 b q + (if K (10 * p + 3 + 1) = q then c * M 94 (p * 3 + 1) else 0) := fun q => by
      subst hN2
      rw [zup_at]
      by_cases hq : q = K (10 * p + 3 + 1)
      · rw [if_pos hq, if_pos hq.symm, hq]
      · rw [if_neg hq, if_neg (fun z => hq z.symm)]; omega
    by_cases c3' : K (10 * p + 2) ≤ 2
    · refine en c3' (by rw [n2 48 (Ne.symm b48.1)]; exact q5) (hQ N2 n2 (fun q a b' => ?_))
      have t := tc q
      rw [if_pos (show 1 < K (10 * p + 2) by omega), if_neg (show ¬ 2 < K (10 * p + 2) by omega)] at t
      rw [v2, v1, dist, dist, show cn K p q = (if K (10 * p + 3 + 0) = q then M 94 (p * 3 + 0) else 0) + (if K (10 * p + 3 + 1) = q then M 94 (p * 3 + 1) else 0) by omega, Int.add_mul, Int.add_assoc]
    · refine st (k := 2) (by omega) (by omega) n2 (fun q a b' => ?_) ?_
      · rw [v2, v1]; have := hb q a b'; split <;> split <;> omega
      rw [show (2 : Int) + 1 = 3 by omega]
      refine en (by omega) (by rw [zup_row (Ne.symm b48.1), n2 48 (Ne.symm b48.1)]; exact q5) (hQ _ (fun x hx => by rw [zup_row hx, n2 x hx]) (fun q a b' => ?_))
      have v3 : zup N2 b (K (10 * p + 3 + 2)) (N2 b (K (10 * p + 3 + 2)) + c * M 94 (p * 3 + 2)) b q = N2 b q + (if K (10 * p + 3 + 2) = q then c * M 94 (p * 3 + 2) else 0) := by
        rw [zup_at]
        by_cases hq : q = K (10 * p + 3 + 2)
        · rw [if_pos hq, if_pos hq.symm, hq]
        · rw [if_neg hq, if_neg (fun z => hq z.symm)]; omega
      rw [v3, v2, v1, ← tc q, if_pos (show 1 < K (10 * p + 2) by omega), if_pos (show 2 < K (10 * p + 2) by omega), dist, dist, dist, Int.add_mul, Int.add_mul]
      omega
