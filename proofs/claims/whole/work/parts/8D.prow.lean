/-! the class's Flow with wide rows: passRow, passOpen -/
theorem ix_rg {w q i : Int} (hw : w = 11 ∨ w = 24) (q0 : 0 ≤ q) (q1 : q < 16) (i0 : 0 ≤ i) (i1 : i < w) : 0 ≤ q * w + i ∧ q * w + i < 384 ∧ 0 ≤ q * w ∧ q * w < 384 := by
  rcases hw with rfl | rfl <;> omega
theorem ix_inj {w q i q' i' : Int} (hw : w = 11 ∨ w = 24) (i0 : 0 ≤ i) (i1 : i < w) (i0' : 0 ≤ i') (i1' : i' < w) (h : q * w + i = q' * w + i') : q = q' ∧ i = i' := by
  rcases hw with rfl | rfl <;> omega
theorem c_passRowW {d a b : Nat} {M : ZM} {K : Int → Int} {p w : Int} {c : Int → Int} {Q : ZM → Prop} (hx : NX M a b) (hw : w = 11 ∨ w = 24) (h3 : M 106 3 = w) (hL : CL K M) (hT : CT K M) (hF : CF K M) (hH : ∀ j, 0 ≤ j → j < 18 → M 91 j = K (160 + j)) (p0 : 0 ≤ p) (p1 : p < K 182) (k3 : K (10 * p) ≠ 3) (hc : ∀ i, 0 ≤ i → i < w → M a (p * w + i) = 10 * c i) (cb : ∀ i, 0 ≤ i → i < w → -100000000000000000 ≤ c i ∧ c i ≤ 100000000000000000) (hb : ∀ q i, 0 ≤ q → q < 16 → 0 ≤ i → i < w → -1000000000000000000 ≤ M b (q * w + i) ∧ M b (q * w + i) ≤ 1000000000000000000) (hQ : ∀ M', (∀ x, x ≠ b → M' x = M x) → (∀ q i, 0 ≤ q → q < 16 → 0 ≤ i → i < w → M' b (q * w + i) = M b (q * w + i) + cn K p q * c i) → Q M') : zcV (d + 1) 19 [zA 106, zI p] M Q := by
  obtain ⟨hW, c1, c2, c3⟩ := id hL
  obtain ⟨q1, q2, q3, q4, q5, q6⟩ := c3 p p0 p1
  have hpl := hW.1
  have hwp := hW.2.2.2.2.2.2.2 p p0 p1
  have hr := hwp.rc
  obtain ⟨w1, w2, w3, w4, w5, w6⟩ := hwp
  obtain ⟨z1, z2, z3, z4, z5, z6, -, -⟩ := hx.zk
  have hab : a ≠ b := by rcases hx.1 with ⟨rfl, rfl⟩ | ⟨rfl, rfl⟩ <;> decide
  have b106 : b ≠ 106 := by rcases hx.1 with ⟨rfl, rfl⟩ | ⟨rfl, rfl⟩ <;> decide
  have b48 : b ≠ 48 ∧ b ≠ 49 ∧ b ≠ 94 := by rcases hx.1 with ⟨rfl, rfl⟩ | ⟨rfl, rfl⟩ <;> decide
  have wr : 0 ≤ w ∧ w ≤ 24 := by omega
  have h1 : 1 ≤ K (10 * p + 2) := by
    rcases (by omega : K (10 * p) = 0 ∨ K (10 * p) = 1 ∨ K (10 * p) = 2) with q | q | q
    · have := w2 q; omega
    · have := w3 q; omega
    · have := w4 q; omega
  have tc := ten_cn hL hT hF hH p0 p1 k3
  have tb : ∀ k, 0 ≤ k → k < K (10 * p + 2) → 0 ≤ M 94 (p * 3 + k) ∧ M 94 (p * 3 + k) ≤ 10 := by
    intro k k0 k1
    rcases (by omega : K (10 * p) = 0 ∨ K (10 * p) = 1 ∨ K (10 * p) = 2) with q | q | q
    · obtain ⟨f1, f2, f3⟩ := hF p p0 p1 q
      have hl := hW.hd (K (10 * p + 1)) (w2 q).1.1 (by have := (w2 q).1.2; omega)
      have l5 := (w2 q).1
      have x0 := hH (3 * K (10 * p + 1)) (by omega) (by omega)
      have x1 := hH (3 * K (10 * p + 1) + 1) (by omega) (by omega)
      dsimp only at hl
      rcases (by omega : K (10 * p + 2) = 1 ∨ K (10 * p + 2) = 2 ∨ K (10 * p + 2) = 3) with c | c | c
      · have := f1 c
        rw [show p * 3 + k = p * 3 by omega]; omega
      · have := f2 c
        rcases (by omega : k = 0 ∨ k = 1) with rfl | rfl
        · rw [Int.add_zero]; omega
        · omega
      · have := f3 c
        rcases (by omega : k = 0 ∨ k = 1 ∨ k = 2) with rfl | rfl | rfl
        · rw [Int.add_zero]; omega
        · omega
        · omega
    · rw [(hT p p0 p1).1 q k k0 k1]
      have := (w3 q).2.1 k k0 k1
      omega
    · have := (hT p p0 p1).2 q
      have := (w4 q).2
      rw [show p * 3 + k = p * 3 by omega]; omega
  have mb : ∀ k i, 0 ≤ k → k < K (10 * p + 2) → 0 ≤ i → i < w → -1000000000000000000 ≤ c i * M 94 (p * 3 + k) ∧ c i * M 94 (p * 3 + k) ≤ 1000000000000000000 := by
    intro k i k0 k1 i0 i1
    have tk := tb k k0 k1
    have x := cb i i0 i1
    have wb := wsum (B := 100000000000000000) (S := 10) (a := M 94 (p * 3 + k)) (b := 10 - M 94 (p * 3 + k)) (c := 0) (x := c i) (z := 0) (y := 0) tk.1 (by omega) (by omega) (by omega) (by omega) (by omega) (by omega)
    rw [Int.mul_zero, Int.mul_zero, Int.mul_comm (M 94 (p * 3 + k)) (c i)] at wb
    omega
  -- one road
  have st : ∀ {k : Int} {M1 : ZM} {Q : ZM → Prop}, 0 ≤ k → k < K (10 * p + 2) → (∀ x, x ≠ b → M1 x = M x) → (∀ q i, 0 ≤ q → q < 16 → 0 ≤ i → i < w → -4000000000000000000 ≤ M1 b (q * w + i) ∧ M1 b (q * w + i) ≤ 4000000000000000000) → (∀ M2, (∀ x, x ≠ b → M2 x = M x) → (∀ q i, 0 ≤ q → q < 16 → 0 ≤ i → i < w → M2 b (q * w + i) = M1 b (q * w + i) + (if K (10 * p + 3 + k) = q then c i * M 94 (p * 3 + k) else 0)) → wX2_passRow d 2 [(0, zA 106), (1, zI p), (2, zI (k + 1))] M2 Q) → wX2_passRow d 2 [(0, zA 106), (1, zI p), (2, zI k)] M1 Q := by
    intro k M1 Q k0 k1 r1 b1 nx
    have rd := w6 k k0 k1
    have x1 : M1 106 1 = a := by rw [r1 106 (Ne.symm b106)]; exact hx.2.1
    have x2 : M1 106 2 = b := by rw [r1 106 (Ne.symm b106)]; exact hx.2.2
    have x3 : M1 106 3 = w := by rw [r1 106 (Ne.symm b106)]; exact h3
    have ir := ix_rg hw rd.1 (by omega) (i := 0) (by omega) (by omega)
    apply vX2_passRow_2
    rw [r1 48 (Ne.symm b48.1), q5, r1 49 (Ne.symm b48.2.1), q6 k k0 k1, r1 94 (Ne.symm b48.2.2), x3]
    refine ⟨by omega, fun z => by omega, fun _ => ⟨⟨by omega, by omega⟩, ⟨by omega, by omega⟩, by omega, ⟨by omega, by omega⟩, ⟨by omega, by omega⟩, by omega, ⟨by omega, by omega⟩, ?_⟩⟩
    have lp : ∀ (m i : Nat) (M2 : ZM), (i : Int) + m = w → (∀ x, x ≠ b → M2 x = M x) → (∀ q j, 0 ≤ q → q < 16 → 0 ≤ j → j < w → M2 b (q * w + j) = M1 b (q * w + j) + (if K (10 * p + 3 + k) = q ∧ j < i then c j * M 94 (p * 3 + k) else 0)) → wX2_passRow d 58 [(0, zA 106), (1, zI p), (2, zI k), (3, zI (M 94 (p * 3 + k))), (4, zI (K (10 * p + 3 + k) * w)), (5, zI (i : Int))] M2 Q := by
      intro m
      induction m with
      | zero =>
        intro i M2 hi r2 v2
        have y3 : M2 106 3 = w := by rw [r2 106 (Ne.symm b106)]; exact h3
        apply vX2_passRow_58
        rw [y3]
        refine ⟨fun _ => ⟨⟨by omega, by omega⟩, nx M2 r2 (fun q j a1 a2 a3 a4 => ?_)⟩, fun z => by omega⟩
        rw [v2 q j a1 a2 a3 a4]
        by_cases e : K (10 * p + 3 + k) = q
        · rw [if_pos ⟨e, by omega⟩, if_pos e]
        · rw [if_neg (fun z => e z.1), if_neg e]
      | succ m ih =>
        intro i M2 hi r2 v2
        have y1 : M2 106 1 = a := by rw [r2 106 (Ne.symm b106)]; exact hx.2.1
        have y2 : M2 106 2 = b := by rw [r2 106 (Ne.symm b106)]; exact hx.2.2
        have y3 : M2 106 3 = w := by rw [r2 106 (Ne.symm b106)]; exact h3
        have j1 := ix_rg hw rd.1 (by omega) (i := (i : Int)) (by omega) (by omega)
        have j2 := ix_rg hw p0 (by omega) (i := (i : Int)) (by omega) (by omega)
        have ec := hc i (by omega) (by omega)
        have cbi := cb i (by omega) (by omega)
        have mbi := mb k i k0 k1 (by omega) (by omega)
        have v := v2 (K (10 * p + 3 + k)) i rd.1 (by omega) (by omega) (by omega)
        rw [if_neg (by omega), Int.add_zero] at v
        have bb := b1 (K (10 * p + 3 + k)) i rd.1 (by omega) (by omega) (by omega)
        apply vX2_passRow_58
        rw [y1, y2, y3, Int.toNat_natCast, Int.toNat_natCast, z1, z2, z3, z4, z6, r2 a hab, ec, Int.mul_tdiv_cancel_left (c i) (by decide), v]
        refine ⟨fun z => by omega, fun _ => ⟨⟨by omega, by omega⟩, ⟨by omega, by omega⟩, ⟨by omega, by omega⟩, ⟨by omega, by omega⟩, ⟨by omega, by omega⟩, by omega, ⟨by omega, by omega⟩, ⟨by omega, by omega⟩, ⟨by omega, by omega⟩, ⟨by omega, by omega⟩, zset ⟨⟨by omega, by omega⟩, ih (i + 1) _ (by omega) (fun x hx => by rw [zup_row hx, r2 x hx]) (fun q j a1 a2 a3 a4 => ?_)⟩⟩⟩
        rw [zup_at]
        by_cases e : q * w + j = K (10 * p + 3 + k) * w + i
        · obtain ⟨e1, e2⟩ := ix_inj hw a3 a4 (by omega) (by omega) e
          rw [if_pos e, e1, e2, if_pos ⟨rfl, by omega⟩]
        · rw [if_neg e, v2 q j a1 a2 a3 a4]
          by_cases e1 : K (10 * p + 3 + k) = q ∧ j < i
          · rw [if_pos e1, if_pos ⟨e1.1, by omega⟩]
          · rw [if_neg e1, if_neg]
            rintro ⟨y1, y2⟩
            have : j = i := by
              by_cases h : j < i
              · exact absurd ⟨y1, h⟩ e1
              · omega
            exact e (by rw [y1, this])
    exact lp w.toNat 0 M1 (by omega) r1 (fun q j a1 a2 a3 a4 => by rw [if_neg (by omega), Int.add_zero])
  have en : ∀ {k : Int} {M1 : ZM}, K (10 * p + 2) ≤ k → M1 48 p = K (10 * p + 2) → Q M1 → wX2_passRow d 2 [(0, zA 106), (1, zI p), (2, zI k)] M1 Q := by
    intro k M1 hk e hq
    apply vX2_passRow_2
    rw [e]
    exact ⟨by omega, fun _ => hq, fun z => by omega⟩
  have dist : ∀ (P : Prop) [Decidable P] (x y : Int), (if P then y * x else 0) = (if P then x else 0) * y := by
    intro P _ x y
    split
    · rw [Int.mul_comm]
    · omega
  apply vX2_passRow
  refine st (k := 0) (by omega) (by omega) (fun _ _ => rfl) (fun q i a1 a2 a3 a4 => by have := hb q i a1 a2 a3 a4; omega) (fun N1 n1 v1 => ?_)
  rw [show (0 : Int) + 1 = 1 by omega]
  by_cases c2' : K (10 * p + 2) ≤ 1
  · refine en c2' (by rw [n1 48 (Ne.symm b48.1)]; exact q5) (hQ N1 n1 (fun q i a1 a2 a3 a4 => ?_))
    have t := tc q
    rw [if_neg (show ¬ 1 < K (10 * p + 2) by omega), if_neg (show ¬ 2 < K (10 * p + 2) by omega)] at t
    rw [v1 q i a1 a2 a3 a4, dist, show cn K p q = (if K (10 * p + 3 + 0) = q then M 94 (p * 3 + 0) else 0) by omega]
  · refine st (k := 1) (by omega) (by omega) n1 (fun q i a1 a2 a3 a4 => ?_) (fun N2 n2 v2 => ?_)
    · rw [v1 q i a1 a2 a3 a4]
      have := hb q i a1 a2 a3 a4
      have := mb 0 i (by omega) (by omega) a3 a4
      split <;> omega
    rw [show (1 : Int) + 1 = 2 by omega]
    by_cases c3' : K (10 * p + 2) ≤ 2
    · refine en c3' (by rw [n2 48 (Ne.symm b48.1)]; exact q5) (hQ N2 n2 (fun q i a1 a2 a3 a4 => ?_))
      have t := tc q
      rw [if_pos (show 1 < K (10 * p + 2) by omega), if_neg (show ¬ 2 < K (10 * p + 2) by omega)] at t
      rw [v2 q i a1 a2 a3 a4, v1 q i a1 a2 a3 a4, dist, dist, show cn K p q = (if K (10 * p + 3 + 0) = q then M 94 (p * 3 + 0) else 0) + (if K (10 * p + 3 + 1) = q then M 94 (p * 3 + 1) else 0) by omega, Int.add_mul, Int.add_assoc]
    · refine st (k := 2) (by omega) (by omega) n2 (fun q i a1 a2 a3 a4 => ?_) (fun N3 n3 v3 => ?_)
      · rw [v2 q i a1 a2 a3 a4, v1 q i a1 a2 a3 a4]
        have := hb q i a1 a2 a3 a4
        have := mb 0 i (by omega) (by omega) a3 a4
        have := mb 1 i (by omega) (by omega) a3 a4
        split <;> split <;> omega
      rw [show (2 : Int) + 1 = 3 by omega]
      refine en (by omega) (by rw [n3 48 (Ne.symm b48.1)]; exact q5) (hQ N3 n3 (fun q i a1 a2 a3 a4 => ?_))
      rw [v3 q i a1 a2 a3 a4, v2 q i a1 a2 a3 a4, v1 q i a1 a2 a3 a4, ← tc q, if_pos (show 1 < K (10 * p + 2) by omega), if_pos (show 2 < K (10 * p + 2) by omega), dist, dist, dist, Int.add_mul, Int.add_mul]
      omega
/-- passOpen: g tells the row's chances -/
theorem c_passOpen {d a b : Nat} {M : ZM} {K : Int → Int} {p : Int} {g : Int → Int} {Q : ZM → Prop} (hx : NX M a b) (h3 : M 106 3 = 11) (hL : CL K M) (p0 : 0 ≤ p) (p1 : p < K 182) (pk : K (10 * p) = 0) (rc : 1 < K (10 * p + 2)) (hg : ∀ i, 0 ≤ i → i < 11 → M a (p * 11 + i) = g i) (g0 : g (-1) = 0) (g10 : g 10 = 0) (gb : ∀ i, -1000000000000000000 ≤ g i ∧ g i ≤ 1000000000000000000) (hb : ∀ q i, 0 ≤ q → q < 16 → 0 ≤ i → i < 11 → -1000000000000000000 ≤ M b (q * 11 + i) ∧ M b (q * 11 + i) ≤ 1000000000000000000) (hQ : ∀ M', (∀ x, x ≠ b → M' x = M x) → (∀ q i, 0 ≤ q → q < 16 → 0 ≤ i → i < 11 → M' b (q * 11 + i) = M b (q * 11 + i) + ((if rdc K p 0 = q then g (i - 1) else 0) + (if rdc K p 1 = q then g i - g (i - 1) else 0))) → Q M') : zcV (d + 1) 20 [zA 106, zI p] M Q := by
  obtain ⟨hW, c1, c2, c3⟩ := id hL
  obtain ⟨q1, q2, q3, q4, q5, q6⟩ := c3 p p0 p1
  have hpl := hW.1
  obtain ⟨z1, z2, z3, z4, z5, z6, -, -⟩ := hx.zk
  have hab : a ≠ b := by rcases hx.1 with ⟨rfl, rfl⟩ | ⟨rfl, rfl⟩ <;> decide
  have b106 : b ≠ 106 := by rcases hx.1 with ⟨rfl, rfl⟩ | ⟨rfl, rfl⟩ <;> decide
  have r0 : M 49 (p * 3) = rdc K p 0 := by
    have := q6 0 (by omega) (by omega)
    rw [Int.add_zero] at this
    rw [this]
    unfold rdc
    rw [if_pos (by omega)]
  have r1 : M 49 (p * 3 + 1) = rdc K p 1 := by
    rw [q6 1 (by omega) (by omega)]
    unfold rdc
    rw [if_pos rc]
  have d0 := rdc_nn hW p0 p1 (by omega) (k := 0) (by omega)
  have d1 := rdc_nn hW p0 p1 (by omega) (k := 1) (by omega)
  apply vX2_passOpen
  rw [r0, r1, h3]
  refine ⟨⟨by omega, by omega⟩, by omega, ⟨by omega, by omega⟩, ⟨by omega, by omega⟩, ⟨by omega, by omega⟩, by omega, ⟨by omega, by omega⟩, ?_⟩
  generalize rdc K p 0 = z at *
  generalize rdc K p 1 = o at *
  have lp : ∀ (m i : Nat) (M1 : ZM), i + m = 10 → (∀ x, x ≠ b → M1 x = M x) → (∀ q j, 0 ≤ q → q < 16 → 0 ≤ j → j < 11 → M1 b (q * 11 + j) = M b (q * 11 + j) + ((if z = q ∧ j ≤ i then g (j - 1) else 0) + (if o = q then (if j < i then g j else 0) - (if j ≤ i then g (j - 1) else 0) else 0))) → wX2_passOpen d 45 [(0, zA 106), (1, zI p), (2, zI (z * 11)), (3, zI (o * 11)), (4, zI (i : Int))] M1 Q := by
    intro m
    induction m with
    | zero =>
      intro i M1 hi r v
      have y3 : M1 106 3 = 11 := by rw [r 106 (Ne.symm b106)]; exact h3
      apply vX2_passOpen_45
      rw [y3]
      refine ⟨⟨by omega, by omega⟩, fun _ => hQ M1 r (fun q j a1 a2 a3 a4 => ?_), fun y => by omega⟩
      rw [v q j a1 a2 a3 a4]
      have ej : (if j < (i : Int) then g j else 0) = g j := by
        by_cases h : j < i
        · rw [if_pos h]
        · rw [if_neg h, show j = 10 by omega, g10]
      rw [ej, if_pos (show j ≤ (i : Int) by omega)]
      by_cases e : z = q
      · rw [if_pos ⟨e, by omega⟩, if_pos e]
      · rw [if_neg (fun y => e y.1), if_neg e]
    | succ m ih =>
      intro i M1 hi r v
      have y1 : M1 106 1 = a := by rw [r 106 (Ne.symm b106)]; exact hx.2.1
      have y2 : M1 106 2 = b := by rw [r 106 (Ne.symm b106)]; exact hx.2.2
      have y3 : M1 106 3 = 11 := by rw [r 106 (Ne.symm b106)]; exact h3
      have ea : M1 a (p * 11 + i) = g i := by rw [r a hab]; exact hg i (by omega) (by omega)
      have gi := gb i
      -- bounds of what lies there
      have bd : ∀ q j, 0 ≤ q → q < 16 → 0 ≤ j → j < 11 → -4000000000000000000 ≤ M1 b (q * 11 + j) ∧ M1 b (q * 11 + j) ≤ 4000000000000000000 := by
        intro q j a1 a2 a3 a4
        rw [v q j a1 a2 a3 a4]
        have x1 := hb q j a1 a2 a3 a4
        have x2 := gb j
        have x3 := gb (j - 1)
        split <;> split <;> (try split) <;> (try split) <;> omega
      apply vX2_passOpen_45
      rw [y1, y2, y3, Int.toNat_natCast, Int.toNat_natCast, z1, z2, z3, z4, z6, ea]
      have bz := bd z (i + 1) d0.1 (by omega) (by omega) (by omega)
      rw [← Int.add_assoc] at bz
      refine ⟨⟨by omega, by omega⟩, fun y => by omega, fun _ => ⟨⟨by omega, by omega⟩, ⟨by omega, by omega⟩, ⟨by omega, by omega⟩, ⟨by omega, by omega⟩, ⟨by omega, by omega⟩, ⟨by omega, by omega⟩, ⟨by omega, by omega⟩, ⟨by omega, by omega⟩, ?_⟩⟩
      intro M2 hM2
      have m2 : ∀ x, x ≠ b → M2 x = M1 x := fun x hx => by subst hM2; exact zup_row hx
      have n2 : ∀ j, M2 b j = if j = z * 11 + i + 1 then M1 b (z * 11 + i + 1) + g i else M1 b j := fun j => by subst hM2; exact zup_at
      have t2 : M2 106 2 = b := by rw [m2 106 (Ne.symm b106)]; exact y2
      rw [t2, Int.toNat_natCast, z3, z4, z6]
      have b2 : -6000000000000000000 ≤ M2 b (o * 11 + i) ∧ M2 b (o * 11 + i) ≤ 6000000000000000000 := by
        rw [n2]
        have := bd o i d1.1 (by omega) (by omega) (by omega)
        split <;> omega
      refine ⟨⟨by omega, by omega⟩, ⟨by omega, by omega⟩, ⟨by omega, by omega⟩, ⟨by omega, by omega⟩, ?_⟩
      intro M3 hM3
      have m3 : ∀ x, x ≠ b → M3 x = M1 x := fun x hx => by subst hM3; rw [zup_row hx, m2 x hx]
      have n3 : ∀ j, M3 b j = if j = o * 11 + i then M2 b (o * 11 + i) + g i else M2 b j := fun j => by subst hM3; exact zup_at
      have t3 : M3 106 2 = b := by rw [m3 106 (Ne.symm b106)]; exact y2
      rw [t3, Int.toNat_natCast, z3, z4, z6]
      have b3 : -6000000000000000000 ≤ M3 b (o * 11 + i + 1) ∧ M3 b (o * 11 + i + 1) ≤ 6000000000000000000 := by
        rw [n3, if_neg (by omega), n2]
        have := bd o (i + 1) d1.1 (by omega) (by omega) (by omega)
        rw [← Int.add_assoc] at this
        split <;> omega
      refine ⟨⟨by omega, by omega⟩, ⟨by omega, by omega⟩, ⟨by omega, by omega⟩, ⟨by omega, by omega⟩, ⟨by omega, by omega⟩, zset ⟨⟨by omega, by omega⟩, ih (i + 1) _ (by omega) (fun x hx => by rw [zup_row hx, m3 x hx, r x hx]) (fun q j a1 a2 a3 a4 => ?_)⟩⟩
      -- the sum of the three
      have s3 : zup M3 b (o * 11 + i + 1) (M3 b (o * 11 + i + 1) - g i) b (q * 11 + j) = M1 b (q * 11 + j) + (if z = q ∧ j = i + 1 then g i else 0) + (if o = q ∧ j = i then g i else 0) - (if o = q ∧ j = i + 1 then g i else 0) := by
        rw [zup_at]
        have A : M2 b (q * 11 + j) = M1 b (q * 11 + j) + (if z = q ∧ j = i + 1 then g i else 0) := by
          rw [n2]
          by_cases e : z = q ∧ j = i + 1
          · obtain ⟨rfl, rfl⟩ := e
            rw [if_pos (by omega), if_pos ⟨rfl, rfl⟩, ← Int.add_assoc]
          · rw [if_neg e, if_neg (by omega), Int.add_zero]
        have B : M3 b (q * 11 + j) = M2 b (q * 11 + j) + (if o = q ∧ j = i then g i else 0) := by
          rw [n3]
          by_cases e : o = q ∧ j = i
          · obtain ⟨rfl, rfl⟩ := e
            rw [if_pos rfl, if_pos ⟨rfl, rfl⟩]
          · rw [if_neg e, if_neg (by omega), Int.add_zero]
        by_cases e : o = q ∧ j = i + 1
        · obtain ⟨rfl, rfl⟩ := e
          rw [if_pos (by omega), if_pos (show o = o ∧ (i : Int) + 1 = i + 1 from ⟨rfl, rfl⟩)]
          rw [← A, ← B, ← Int.add_assoc]
        · rw [if_neg e, if_neg (by omega), B, A]
          omega
      rw [s3, v q j a1 a2 a3 a4]
      have ni : ((i + 1 : Nat) : Int) = (i : Int) + 1 := by omega
      rw [ni]
      by_cases e1 : j = (i : Int) + 1
      · have ej : j - 1 = i := by omega
        rw [ej]
        by_cases ez : z = q <;> by_cases eo : o = q <;> simp [ez, eo, e1] <;> omega
      · by_cases e2 : j = (i : Int)
        · subst e2
          by_cases ez : z = q <;> by_cases eo : o = q <;> simp [ez, eo] <;> omega
        · have x1 : (j < (i : Int) + 1) = (j < (i : Int)) := propext ⟨fun h => by omega, fun h => by omega⟩
          have x2 : (j ≤ (i : Int) + 1) = (j ≤ (i : Int)) := propext ⟨fun h => by omega, fun h => by omega⟩
          simp only [x1, x2, e1, e2, and_false, if_false]
          omega
  refine lp 10 0 M (by omega) (fun _ _ => rfl) (fun q j a1 a2 a3 a4 => ?_)
  have e1 : (if z = q ∧ j ≤ ((0 : Nat) : Int) then g (j - 1) else 0) = 0 := by
    split
    · rename_i h; rw [show j - 1 = -1 by omega]; exact g0
    · rfl
  have e2 : (if j < ((0 : Nat) : Int) then g j else 0) = 0 := if_neg (by omega)
  have e3 : (if j ≤ ((0 : Nat) : Int) then g (j - 1) else 0) = 0 := by
    split
    · rename_i h; rw [show j - 1 = -1 by omega]; exact g0
    · rfl
  rw [e1, e2, e3]
  split <;> omega
