/-! the class weighs: its Chart, over a COUNTRY K (LOOKS as the chart has them) -/
def CL (K : Int → Int) (M : ZM) : Prop := WF K ∧ M 44 0 = K 182 ∧ (M 55 0 = K 178 ∧ M 55 1 = K 179 ∧ M 55 2 = K 180 ∧ M 55 3 = K 181) ∧ ∀ p, 0 ≤ p → p < K 182 → M 45 p = K (10 * p) ∧ (K (10 * p) = 0 → M 90 p = K (10 * p + 1)) ∧ (K (10 * p) = 2 → M 47 p = K (10 * p + 1)) ∧ (K (10 * p) ≠ 2 → M 47 p = 0) ∧ M 48 p = K (10 * p + 2) ∧ (∀ k, 0 ≤ k → k < K (10 * p + 2) → M 49 (p * 3 + k) = K (10 * p + 3 + k))
/-- TENTHS at TURNS and INNS -/
def CT (K : Int → Int) (M : ZM) : Prop := ∀ p, 0 ≤ p → p < K 182 → (K (10 * p) = 1 → ∀ k, 0 ≤ k → k < K (10 * p + 2) → M 94 (p * 3 + k) = K (10 * p + 6 + k)) ∧ (K (10 * p) = 2 → M 94 (p * 3) = 10)
/-- TENTHS at FORKS -/
def CF (K : Int → Int) (M : ZM) : Prop := ∀ p, 0 ≤ p → p < K 182 → K (10 * p) = 0 → (K (10 * p + 2) = 1 → M 94 (p * 3) = 10) ∧ (K (10 * p + 2) = 2 → M 94 (p * 3) = M 91 (3 * K (10 * p + 1)) ∧ M 94 (p * 3 + 1) = 10 - M 91 (3 * K (10 * p + 1))) ∧ (K (10 * p + 2) = 3 → M 94 (p * 3) = M 91 (3 * K (10 * p + 1)) ∧ M 94 (p * 3 + 1) = M 91 (3 * K (10 * p + 1) + 1) ∧ M 94 (p * 3 + 2) = 10 - M 91 (3 * K (10 * p + 1)) - M 91 (3 * K (10 * p + 1) + 1))
theorem CL.congr {K : Int → Int} {M M' : ZM} (h : CL K M) (e : ∀ b, (44 ≤ b ∧ b ≤ 55) ∨ b = 90 → M' b = M b) : CL K M' := by
  unfold CL at *
  rw [e 44 (by omega), e 55 (by omega), e 45 (by omega), e 90 (by omega), e 47 (by omega), e 48 (by omega), e 49 (by omega)]
  exact h
theorem c_mean {d : Nat} {M : ZM} {K : Int → Int} {E : Int → Int → Int} {fr : Int → Bool} {n : Nat} {p row : Int} {Q : Int → ZM → Prop} (hL : CL K M) (hT : CT K M) (hF : CF K M) (hE : EB K E) (hH : HD (M 91)) (p0 : 0 ≤ p) (p1 : p < K 182) (k3 : K (10 * p) ≠ 3) (hn : n ≤ 9) (hfr : K (10 * p) = 0 → fr (K (10 * p + 1)) = false) (r0 : 0 ≤ row) (r1 : row ≤ 160)
    (hV : ∀ k, 0 ≤ k → k < K (10 * p + 2) → M 92 (row + K (10 * p + 3 + k)) = VV K E (M 91) fr n (K (10 * p + 3 + k)) * 10 ^ (10 - n)) (hK : Q (VV K E (M 91) fr (n + 1) p * 10 ^ (10 - (n + 1))) M) : zcL (d + 1) 10 [zA 89, zI p, zI row] M Q := by
  obtain ⟨hW, c1, c2, c3⟩ := hL
  obtain ⟨q1, q2, q3, q4, q5, q6⟩ := c3 p p0 p1
  obtain ⟨a1, a2, a3, a4, a5, a6, a7, a8⟩ := id hW
  have hwp := a8 p p0 p1
  have hr := hwp.rc
  obtain ⟨w1, w2, w3, w4, w5, w6⟩ := id hwp
  have hrc : 1 ≤ K (10 * p + 2) := by
    rcases (by omega : K (10 * p) = 0 ∨ K (10 * p) = 1 ∨ K (10 * p) = 2) with q | q | q
    · have := w2 q; omega
    · have := w3 q; omega
    · have := w4 q; omega
  have vb : ∀ q, 0 ≤ q → -19890000000000 ≤ VV K E (M 91) fr n q * 10 ^ (10 - n) ∧ VV K E (M 91) fr n q * 10 ^ (10 - n) ≤ 19890000000000 := fun q q0 => scale_bd (by omega) (VV_bd hW hE hH n q q0)
  have hU : (10 : Int) ^ (10 - n) = 10 * 10 ^ (10 - (n + 1)) := by
    rw [show 10 - n = 10 - (n + 1) + 1 by omega, Int.pow_succ, Int.mul_comm]
  have hP : (10 : Int) ^ (n + 1) * 10 ^ (10 - (n + 1)) = 10000000000 := by
    rw [← Int.pow_add, show n + 1 + (10 - (n + 1)) = 10 by omega]
    decide
  -- the steps of the loop
  have st : ∀ {k j3 : Int} {Q : Int → ZM → Prop}, 0 ≤ k → k < K (10 * p + 2) → (0 ≤ M 94 (p * 3 + k) ∧ M 94 (p * 3 + k) ≤ 10) → (-600000000000000 ≤ j3 ∧ j3 ≤ 600000000000000) → wX1_mean d 22 [(0, zA 89), (1, zI p), (2, zI row), (3, zJ (j3 + M 94 (p * 3 + k) * (VV K E (M 91) fr n (K (10 * p + 3 + k)) * 10 ^ (10 - n)))), (5, zI (p * 3 + M 48 p)), (6, zI (p * 3 + k + 1))] M Q → wX1_mean d 22 [(0, zA 89), (1, zI p), (2, zI row), (3, zJ j3), (5, zI (p * 3 + M 48 p)), (6, zI (p * 3 + k))] M Q := by
    intro k j3 Q k0 k1 ht jb nx
    have rb := w6 k k0 k1
    have v := vb _ rb.1
    have wb := wsum (B := 19890000000000) (S := 10) (a := M 94 (p * 3 + k)) (b := 10 - M 94 (p * 3 + k)) (c := 0) (z := 0) (y := 0) ht.1 (by omega) (by omega) (by omega) v (by omega) (by omega)
    rw [Int.mul_zero, Int.mul_zero] at wb
    apply vX1_mean_22
    rw [q6 k k0 k1, hV k k0 k1]
    refine ⟨fun z => by omega, fun _ => ⟨by omega, fun z => ⟨⟨by omega, by omega⟩, ?_⟩, fun z => ⟨by omega, by omega, ⟨by omega, by omega⟩, by omega, ⟨by omega, by omega⟩, ⟨by omega, by omega⟩, ⟨by omega, by omega⟩, nx⟩⟩⟩
    rw [show M 94 (p * 3 + k) = 0 by omega, Int.zero_mul, Int.add_zero] at nx
    exact nx
  have fin : ∀ {j3 i6 S : Int}, p * 3 + M 48 p ≤ i6 → j3 = S * 10 ^ (10 - n) → (-600000000000000 ≤ j3 ∧ j3 ≤ 600000000000000) → S - M 47 p * 10 ^ (n + 1) = VV K E (M 91) fr (n + 1) p → wX1_mean d 22 [(0, zA 89), (1, zI p), (2, zI row), (3, zJ j3), (5, zI (p * 3 + M 48 p)), (6, zI i6)] M Q := by
    intro j3 i6 S hi hj jb hS
    have tl : 0 ≤ M 47 p ∧ M 47 p ≤ 99 := by
      by_cases q : K (10 * p) = 2
      · rw [q3 q]; have := w4 q; omega
      · rw [q4 q]; omega
    have e1 : Int.tdiv j3 10 = S * 10 ^ (10 - (n + 1)) := by
      rw [hj, hU, Int.mul_left_comm]
      exact Int.mul_tdiv_cancel_left _ (by decide)
    have e2 : Int.tdiv j3 10 - M 47 p * 10000000000 = VV K E (M 91) fr (n + 1) p * 10 ^ (10 - (n + 1)) := by
      rw [e1, ← hS, Int.sub_mul, Int.mul_assoc (M 47 p), hP]
    have td := tdiv_abs j3 10
    apply vX1_mean_22
    refine ⟨fun _ => ⟨by omega, ⟨by omega, by omega⟩, by omega, ⟨by omega, by omega⟩, ⟨by omega, by omega⟩, ?_⟩, fun z => by omega⟩
    rw [e2]
    exact hK
  have rk : ∀ k, 0 ≤ k → k < K (10 * p + 2) → rdc K p k = K (10 * p + 3 + k) := fun k k0 k1 => by unfold rdc; rw [if_pos k1]
  have rl : ∀ k, K (10 * p + 2) ≤ k → rdc K p k = K (10 * p + 3 + (K (10 * p + 2) - 1)) := fun k k1 => by unfold rdc; rw [if_neg (by omega)]
  -- TENTHS
  have tb : ∀ k, 0 ≤ k → k < K (10 * p + 2) → 0 ≤ M 94 (p * 3 + k) ∧ M 94 (p * 3 + k) ≤ 10 := by
    intro k k0 k1
    rcases (by omega : K (10 * p) = 0 ∨ K (10 * p) = 1 ∨ K (10 * p) = 2) with q | q | q
    · obtain ⟨f1, f2, f3⟩ := hF p p0 p1 q
      have hl := hH (K (10 * p + 1)) (w2 q).1.1 (by have := (w2 q).1.2; omega)
      rcases (by omega : K (10 * p + 2) = 1 ∨ K (10 * p + 2) = 2 ∨ K (10 * p + 2) = 3) with c | c | c
      · have := f1 c
        rw [show p * 3 + k = p * 3 by omega]; omega
      · have := f2 c
        rcases (by omega : k = 0 ∨ k = 1) with rfl | rfl
        · rw [Int.add_zero]; omega
        · omega
      · have := f3 c
        rcases (by omega : k = 0 ∨ k = 1 ∨ k = 2) with rfl | rfl | rfl
        · rw [Int.add_zero]; omega
        · omega
        · omega
    · rw [(hT p p0 p1).1 q k k0 k1]
      have := (w3 q).2.1 k k0 k1
      omega
    · have := (hT p p0 p1).2 q
      have := (w4 q).2
      rw [show p * 3 + k = p * 3 by omega]; omega
  have rb0 := vb _ (w6 0 (by omega) (by omega)).1
  have tb0 := tb 0 (by omega) (by omega)
  rw [Int.add_zero] at tb0 rb0
  have s0 := wsum (B := 19890000000000) (S := 10) (a := M 94 (p * 3)) (b := 10 - M 94 (p * 3)) (c := 0) (z := 0) (y := 0) (by omega) (by omega) (by omega) (by omega) rb0 (by omega) (by omega)
  rw [Int.mul_zero, Int.mul_zero] at s0
  have hv1 : VV K E (M 91) fr (n + 1) p = if K (10 * p) = 2 then 10 * VV K E (M 91) fr n (rdc K p 0) - K (10 * p + 1) * 10 ^ (n + 1) else if K (10 * p) = 1 then K (10 * p + 6) * VV K E (M 91) fr n (rdc K p 0) + K (10 * p + 7) * VV K E (M 91) fr n (rdc K p 1) + K (10 * p + 8) * VV K E (M 91) fr n (rdc K p 2) else M 91 (3 * K (10 * p + 1)) * VV K E (M 91) fr n (rdc K p 0) + M 91 (3 * K (10 * p + 1) + 1) * VV K E (M 91) fr n (rdc K p 1) + M 91 (3 * K (10 * p + 1) + 2) * VV K E (M 91) fr n (rdc K p 2) := by
    conv => lhs; unfold VV
    rw [if_pos p1, if_neg k3]
    by_cases k2 : K (10 * p) = 2
    · rw [if_pos k2, if_pos k2]
    · rw [if_neg k2, if_neg k2]
      by_cases k1 : K (10 * p) = 1
      · rw [if_pos k1, if_pos k1]
      · rw [if_neg k1, if_neg k1, if_neg (by rw [hfr (by omega)]; decide)]
  have toll0 : K (10 * p) ≠ 2 → ∀ x : Int, x - M 47 p * 10 ^ (n + 1) = x := fun q x => by rw [q4 q, Int.zero_mul, Int.sub_zero]
  apply vX1_mean
  refine ⟨⟨by omega, by omega⟩, by omega, ⟨by omega, by omega⟩, ⟨by omega, by omega⟩, ?_⟩
  have go0 := @st 0 0 Q (by omega) (by omega) (by rw [Int.add_zero]; exact tb0) (by omega)
  rw [Int.add_zero, Int.add_zero, Int.zero_add] at go0
  refine go0 ?_
  rcases (by omega : K (10 * p + 2) = 1 ∨ K (10 * p + 2) = 2 ∨ K (10 * p + 2) = 3) with c | c | c
  · refine fin (S := M 94 (p * 3) * VV K E (M 91) fr n (K (10 * p + 3))) (by omega) (by rw [Int.mul_assoc]) (by omega) ?_
    have r0' : rdc K p 0 = K (10 * p + 3) := by rw [rk 0 (by omega) (by omega), Int.add_zero]
    have r1' : rdc K p 1 = K (10 * p + 3) := by rw [rl 1 (by omega), c]; simp
    have r2' : rdc K p 2 = K (10 * p + 3) := by rw [rl 2 (by omega), c]; simp
    rw [hv1, r0', r1', r2']
    rcases (by omega : K (10 * p) = 0 ∨ K (10 * p) = 1 ∨ K (10 * p) = 2) with q | q | q
    · rw [if_neg (by omega), if_neg (by omega), toll0 (by omega), (hF p p0 p1 q).1 c]
      have hl := hH (K (10 * p + 1)) (w2 q).1.1 (by have := (w2 q).1.2; omega)
      rw [← Int.add_mul, ← Int.add_mul, hl.2.2.2]
    · rw [if_neg (by omega), if_pos q, toll0 (by omega)]
      have := (hT p p0 p1).1 q 0 (by omega) (by omega)
      rw [Int.add_zero, Int.add_zero] at this
      rw [this, (w3 q).2.2.2.1 (by omega), (w3 q).2.2.2.2 (by omega)]
      omega
    · rw [if_pos q, (hT p p0 p1).2 q, q3 q]
  · have rb1 := vb _ (w6 1 (by omega) (by omega)).1
    have tb1 := tb 1 (by omega) (by omega)
    have s1 := wsum (B := 19890000000000) (S := 10) (a := M 94 (p * 3 + 1)) (b := 10 - M 94 (p * 3 + 1)) (c := 0) (z := 0) (y := 0) (by omega) (by omega) (by omega) (by omega) rb1 (by omega) (by omega)
    rw [Int.mul_zero, Int.mul_zero] at s1
    refine st (k := 1) (by omega) (by omega) tb1 (by omega) ?_
    refine fin (S := M 94 (p * 3) * VV K E (M 91) fr n (K (10 * p + 3)) + M 94 (p * 3 + 1) * VV K E (M 91) fr n (K (10 * p + 3 + 1))) (by omega) (by rw [Int.add_mul, Int.mul_assoc, Int.mul_assoc]) (by omega) ?_
    have r0' : rdc K p 0 = K (10 * p + 3) := by rw [rk 0 (by omega) (by omega), Int.add_zero]
    have r1' : rdc K p 1 = K (10 * p + 3 + 1) := rk 1 (by omega) (by omega)
    have r2' : rdc K p 2 = K (10 * p + 3 + 1) := by rw [rl 2 (by omega), c]; rfl
    rw [hv1, r0', r1', r2']
    rcases (by omega : K (10 * p) = 0 ∨ K (10 * p) = 1 ∨ K (10 * p) = 2) with q | q | q
    · rw [if_neg (by omega), if_neg (by omega), toll0 (by omega), ((hF p p0 p1 q).2.1 c).1, ((hF p p0 p1 q).2.1 c).2]
      have hl := hH (K (10 * p + 1)) (w2 q).1.1 (by have := (w2 q).1.2; omega)
      rw [show (10 : Int) - M 91 (3 * K (10 * p + 1)) = M 91 (3 * K (10 * p + 1) + 1) + M 91 (3 * K (10 * p + 1) + 2) by omega, Int.add_mul, ← Int.add_assoc]
    · rw [if_neg (by omega), if_pos q, toll0 (by omega)]
      have := (hT p p0 p1).1 q 0 (by omega) (by omega)
      rw [Int.add_zero, Int.add_zero] at this
      have t1 := (hT p p0 p1).1 q 1 (by omega) (by omega)
      rw [show 10 * p + 6 + 1 = 10 * p + 7 by omega] at t1
      rw [this, t1, (w3 q).2.2.2.2 (by omega)]
      omega
    · have := (w4 q).2; omega
  · have rb1 := vb _ (w6 1 (by omega) (by omega)).1
    have tb1 := tb 1 (by omega) (by omega)
    have rb2 := vb _ (w6 2 (by omega) (by omega)).1
    have tb2 := tb 2 (by omega) (by omega)
    have s1 := wsum (B := 19890000000000) (S := 10) (a := M 94 (p * 3 + 1)) (b := 10 - M 94 (p * 3 + 1)) (c := 0) (z := 0) (y := 0) (by omega) (by omega) (by omega) (by omega) rb1 (by omega) (by omega)
    rw [Int.mul_zero, Int.mul_zero] at s1
    have s2 := wsum (B := 19890000000000) (S := 10) (a := M 94 (p * 3 + 2)) (b := 10 - M 94 (p * 3 + 2)) (c := 0) (z := 0) (y := 0) (by omega) (by omega) (by omega) (by omega) rb2 (by omega) (by omega)
    rw [Int.mul_zero, Int.mul_zero] at s2
    refine st (k := 1) (by omega) (by omega) tb1 (by omega) ?_
    rw [show p * 3 + 1 + 1 = p * 3 + 2 by omega]
    refine st (k := 2) (by omega) (by omega) tb2 (by omega) ?_
    refine fin (S := M 94 (p * 3) * VV K E (M 91) fr n (K (10 * p + 3)) + M 94 (p * 3 + 1) * VV K E (M 91) fr n (K (10 * p + 3 + 1)) + M 94 (p * 3 + 2) * VV K E (M 91) fr n (K (10 * p + 3 + 2))) (by omega) (by rw [Int.add_mul, Int.add_mul, Int.mul_assoc, Int.mul_assoc, Int.mul_assoc]) (by omega) ?_
    have r0' : rdc K p 0 = K (10 * p + 3) := by rw [rk 0 (by omega) (by omega), Int.add_zero]
    have r1' : rdc K p 1 = K (10 * p + 3 + 1) := rk 1 (by omega) (by omega)
    have r2' : rdc K p 2 = K (10 * p + 3 + 2) := rk 2 (by omega) (by omega)
    rw [hv1, r0', r1', r2']
    rcases (by omega : K (10 * p) = 0 ∨ K (10 * p) = 1 ∨ K (10 * p) = 2) with q | q | q
    · rw [if_neg (by omega), if_neg (by omega), toll0 (by omega), ((hF p p0 p1 q).2.2 c).1, ((hF p p0 p1 q).2.2 c).2.1, ((hF p p0 p1 q).2.2 c).2.2]
      have hl := hH (K (10 * p + 1)) (w2 q).1.1 (by have := (w2 q).1.2; omega)
      rw [show (10 : Int) - M 91 (3 * K (10 * p + 1)) - M 91 (3 * K (10 * p + 1) + 1) = M 91 (3 * K (10 * p + 1) + 2) by omega]
    · rw [if_neg (by omega), if_pos q, toll0 (by omega)]
      have := (hT p p0 p1).1 q 0 (by omega) (by omega)
      rw [Int.add_zero, Int.add_zero] at this
      have t1 := (hT p p0 p1).1 q 1 (by omega) (by omega)
      rw [show 10 * p + 6 + 1 = 10 * p + 7 by omega] at t1
      have t2 := (hT p p0 p1).1 q 2 (by omega) (by omega)
      rw [show 10 * p + 6 + 2 = 10 * p + 8 by omega] at t2
      rw [this, t1, t2]
    · have := (w4 q).2; omega
/-- the best ROAD -/
theorem c_most {d : Nat} {M : ZM} {K : Int → Int} {E : Int → Int → Int} {fr : Int → Bool} {n : Nat} {p row : Int} {Q : Int → ZM → Prop} (hL : CL K M) (hE : EB K E) (hH : HD (M 91)) (p0 : 0 ≤ p) (p1 : p < K 182) (k0 : K (10 * p) = 0) (hn : n ≤ 9) (hfr : fr (K (10 * p + 1)) = true) (r0 : 0 ≤ row) (r1 : row ≤ 160)
    (hV : ∀ k, 0 ≤ k → k < K (10 * p + 2) → M 92 (row + K (10 * p + 3 + k)) = VV K E (M 91) fr n (K (10 * p + 3 + k)) * 10 ^ (10 - n)) (hK : Q (VV K E (M 91) fr (n + 1) p * 10 ^ (10 - (n + 1))) M) : zcL (d + 1) 9 [zA 89, zI p, zI row] M Q := by
  obtain ⟨hW, c1, c2, c3⟩ := hL
  obtain ⟨q1, q2, q3, q4, q5, q6⟩ := c3 p p0 p1
  obtain ⟨a1, a2, a3, a4, a5, a6, a7, a8⟩ := id hW
  have hwp := a8 p p0 p1
  have hr := hwp.rc
  obtain ⟨w1, w2, w3, w4, w5, w6⟩ := id hwp
  have hrc := (w2 k0).2
  have vb : ∀ q, 0 ≤ q → -19890000000000 ≤ VV K E (M 91) fr n q * 10 ^ (10 - n) ∧ VV K E (M 91) fr n q * 10 ^ (10 - n) ≤ 19890000000000 := fun q q0 => scale_bd (by omega) (VV_bd hW hE hH n q q0)
  have hU : (10 : Int) ^ (10 - n) = 10 * 10 ^ (10 - (n + 1)) := by
    rw [show 10 - n = 10 - (n + 1) + 1 by omega, Int.pow_succ, Int.mul_comm]
  have hu := pow10_pos (10 - n)
  have st : ∀ {k j3 : Int} {Q : Int → ZM → Prop}, 0 ≤ k → k < K (10 * p + 2) → wX1_most d 7 [(0, zA 89), (1, zI p), (2, zI row), (3, zJ (max j3 (VV K E (M 91) fr n (K (10 * p + 3 + k)) * 10 ^ (10 - n)))), (5, zI (k + 1))] M Q → wX1_most d 7 [(0, zA 89), (1, zI p), (2, zI row), (3, zJ j3), (5, zI k)] M Q := by
    intro k j3 Q k0 k1 nx
    have rb := w6 k k0 k1
    apply vX1_most_7
    rw [q6 k k0 k1, hV k k0 k1]
    exact ⟨by omega, fun z => by omega, fun _ => ⟨⟨by omega, by omega⟩, ⟨by omega, by omega⟩, by omega, ⟨by omega, by omega⟩, by omega, ⟨by omega, by omega⟩, nx⟩⟩
  have rk : ∀ k, 0 ≤ k → k < K (10 * p + 2) → rdc K p k = K (10 * p + 3 + k) := fun k k0 k1 => by unfold rdc; rw [if_pos k1]
  have rl : ∀ k, K (10 * p + 2) ≤ k → rdc K p k = K (10 * p + 3 + (K (10 * p + 2) - 1)) := fun k k1 => by unfold rdc; rw [if_neg (by omega)]
  have mm : ∀ a b : Int, max (a * 10 ^ (10 - n)) (b * 10 ^ (10 - n)) = max a b * 10 ^ (10 - n) := by
    intro a b
    by_cases h : a ≤ b
    · have := Int.mul_le_mul_of_nonneg_right h (show 0 ≤ (10 : Int) ^ (10 - n) by omega)
      rw [show max a b = b by omega]; omega
    · have := Int.mul_le_mul_of_nonneg_right (show b ≤ a by omega) (show 0 ≤ (10 : Int) ^ (10 - n) by omega)
      rw [show max a b = a by omega]; omega
  have hv1 : VV K E (M 91) fr (n + 1) p * 10 ^ (10 - (n + 1)) = mx3 (VV K E (M 91) fr n (rdc K p 0)) (VV K E (M 91) fr n (rdc K p 1)) (VV K E (M 91) fr n (rdc K p 2)) * 10 ^ (10 - n) := by
    conv => lhs; unfold VV
    rw [if_pos p1, if_neg (by omega), if_neg (by omega), if_neg (by omega), if_pos hfr, hU, Int.mul_comm 10, Int.mul_assoc]
  rw [hv1] at hK
  have fin : ∀ {j3 i5 : Int}, M 48 p ≤ i5 → j3 = mx3 (VV K E (M 91) fr n (rdc K p 0)) (VV K E (M 91) fr n (rdc K p 1)) (VV K E (M 91) fr n (rdc K p 2)) * 10 ^ (10 - n) → wX1_most d 7 [(0, zA 89), (1, zI p), (2, zI row), (3, zJ j3), (5, zI i5)] M Q := by
    intro j3 i5 hi hj
    apply vX1_most_7
    rw [hj]
    exact ⟨by omega, fun _ => hK, fun z => by omega⟩
  apply vX1_most
  have v0 := vb _ (w6 0 (by omega) (by omega)).1
  refine st (k := 0) (by omega) (by omega) ?_
  rw [show max (-1000000000000000000) (VV K E (M 91) fr n (K (10 * p + 3 + 0)) * 10 ^ (10 - n)) = VV K E (M 91) fr n (K (10 * p + 3 + 0)) * 10 ^ (10 - n) by omega, show (0 : Int) + 1 = 1 by omega]
  rcases (by omega : K (10 * p + 2) = 1 ∨ K (10 * p + 2) = 2 ∨ K (10 * p + 2) = 3) with c | c | c
  · refine fin (by omega) ?_
    rw [rk 0 (by omega) (by omega), rl 1 (by omega), rl 2 (by omega), c]
    unfold mx3
    rw [show (1 : Int) - 1 = 0 by omega]
    congr 1
    omega
  · refine st (k := 1) (by omega) (by omega) (fin (by omega) ?_)
    rw [rk 0 (by omega) (by omega), rk 1 (by omega) (by omega), rl 2 (by omega), c, mm]
    unfold mx3
    rw [show (2 : Int) - 1 = 1 by omega]
    congr 1
    omega
  · refine st (k := 1) (by omega) (by omega) (st (k := 2) (by omega) (by omega) (fin (by omega) ?_))
    rw [rk 0 (by omega) (by omega), rk 1 (by omega) (by omega), rk 2 (by omega) (by omega), mm, mm]
    unfold mx3
    congr 1
    omega
