/-! the class's Pebble: weigh -/
theorem c_roadChosen {d : Nat} {M : ZM} {K : Int → Int} {p c : Int} {Q : Int → ZM → Prop} (hL : CL K M) (p0 : 0 ≤ p) (p1 : p < K 182) (pk : K (10 * p) = 0) (c0 : 0 ≤ c) (c1 : c < 100) (hQ : Q (rdc K p (c / 2)) M) : zcI (d + 1) 41 [zA 100, zI p, zI c] M Q := by
  obtain ⟨hW, e1, e2, e3⟩ := hL
  obtain ⟨q1, q2, q3, q4, q5, q6⟩ := e3 p p0 p1
  have hpl := hW.1
  have rc := ((hW.2.2.2.2.2.2.2 p p0 p1).2.1 pk).2
  have td : Int.tdiv c 2 = c / 2 := Int.tdiv_eq_ediv_of_nonneg c0
  apply vX4_roadChosen
  rw [td, q5]
  have e : M 49 (p * 3 + min (c / 2) (K (10 * p + 2) - 1)) = rdc K p (c / 2) := by
    rw [q6 _ (by omega) (by omega)]
    unfold rdc
    by_cases h : c / 2 < K (10 * p + 2)
    · rw [if_pos h, show min (c / 2) (K (10 * p + 2) - 1) = c / 2 by omega]
    · rw [if_neg h, show min (c / 2) (K (10 * p + 2) - 1) = K (10 * p + 2) - 1 by omega]
  rw [e]
  exact ⟨by omega, ⟨by omega, by omega⟩, by omega, ⟨by omega, by omega⟩, ⟨by omega, by omega⟩, ⟨by omega, by omega⟩, by omega, hQ⟩
theorem c_pFork {d : Nat} {M : ZM} {K : Int → Int} {E : Int → Int → Int} {n : Nat} {p row b : Int} {Q : Int → ZM → Prop} (hL : CL K M) (hE : EB K E) (hR : RU K (M 102)) (p0 : 0 ≤ p) (p1 : p < K 182) (pk : K (10 * p) = 0) (hn : n ≤ 9) (r0 : 0 ≤ row) (r1 : row ≤ 160) (b0 : 0 ≤ b) (b1 : b ≤ 1) (hV : ∀ k c, 0 ≤ k → k < K (10 * p + 2) → 0 ≤ c → c ≤ 1 → M 101 ((row + K (10 * p + 3 + k)) * 2 + c) = PV K E (M 102) n (K (10 * p + 3 + k)) c * 10 ^ (10 - n)) (hQ : Q (PV K E (M 102) (n + 1) p b * 10 ^ (10 - (n + 1))) M) : zcL (d + 2) 43 [zA 100, zI p, zI row, zI b] M Q := by
  obtain ⟨hW, e1, e2, e3⟩ := id hL
  obtain ⟨q1, q2, q3, q4, q5, q6⟩ := e3 p p0 p1
  have hpl := hW.1
  have hw := hW.2.2.2.2.2.2.2 p p0 p1
  have rc := (hw.2.1 pk).2
  have w6 := hw.2.2.2.2.2
  obtain ⟨hl, hm⟩ := mR_fork hW p0 p1 pk
  have hr := hR (K (10 * p + 1)) b hl.1 hl.2 b0 b1 hm
  have m3 : mR K (K (10 * p + 1)) ≤ 3 := (mB_rg hW _ (K 182).toNat (by omega)).2
  have hU : (10 : Int) ^ (10 - n) = 10 * 10 ^ (10 - (n + 1)) := by
    rw [show 10 - n = 10 - (n + 1) + 1 by omega, Int.pow_succ, Int.mul_comm]
  have rk : ∀ k, 0 ≤ k → k < K (10 * p + 2) → rdc K p k = K (10 * p + 3 + k) := fun k k0 k1 => by unfold rdc; rw [if_pos k1]
  have rl : ∀ k, K (10 * p + 2) ≤ k → rdc K p k = K (10 * p + 3 + (K (10 * p + 2) - 1)) := fun k k1 => by unfold rdc; rw [if_neg (by omega)]
  have hv : PV K E (M 102) (n + 1) p b = if M 102 (2 * K (10 * p + 1) + b) = -1 then 10 * mx3 (max (PV K E (M 102) n (rdc K p 0) 0) (PV K E (M 102) n (rdc K p 0) 1)) (max (PV K E (M 102) n (rdc K p 1) 0) (PV K E (M 102) n (rdc K p 1) 1)) (max (PV K E (M 102) n (rdc K p 2) 0) (PV K E (M 102) n (rdc K p 2) 1)) else 10 * PV K E (M 102) n (rdc K p (M 102 (2 * K (10 * p + 1) + b) / 2)) (M 102 (2 * K (10 * p + 1) + b) % 2) := by
    conv => lhs; unfold PV
    rw [if_pos p1, if_neg (by omega), if_neg (by omega), if_neg (by omega)]
  rw [hv] at hQ
  apply vX4_atFork
  rw [q2 pk, show K (10 * p + 1) * 2 + b = 2 * K (10 * p + 1) + b by omega]
  refine ⟨by omega, ⟨by omega, by omega⟩, ⟨by omega, by omega⟩, by omega, fun hf => ?_, fun hf => c_roadChosen hL p0 p1 pk (by omega) (by omega) ?_⟩
  · rw [if_pos hf] at hQ
    have vb : ∀ q c, 0 ≤ q → 0 ≤ c → c ≤ 1 → -19890000000000 ≤ PV K E (M 102) n q c * 10 ^ (10 - n) ∧ PV K E (M 102) n q c * 10 ^ (10 - n) ≤ 19890000000000 := fun q c q0 c0 c1 => scale_bd (by omega) (PV_bd hW hE hR n q c q0 c0 c1)
    have hu := pow10_pos (10 - n)
    have mm : ∀ a b : Int, max (a * 10 ^ (10 - n)) (b * 10 ^ (10 - n)) = max a b * 10 ^ (10 - n) := by
      intro a b
      by_cases h : a ≤ b
      · have := Int.mul_le_mul_of_nonneg_right h (show 0 ≤ (10 : Int) ^ (10 - n) by omega)
        rw [show max a b = b by omega]; omega
      · have := Int.mul_le_mul_of_nonneg_right (show b ≤ a by omega) (show 0 ≤ (10 : Int) ^ (10 - n) by omega)
        rw [show max a b = a by omega]; omega
    let V := fun k => max (PV K E (M 102) n (rdc K p k) 0) (PV K E (M 102) n (rdc K p k) 1)
    have hQ' : Q (mx3 (V 0) (V 1) (V 2) * 10 ^ (10 - n)) M := by
      rw [hU, ← Int.mul_assoc, Int.mul_comm (mx3 (V 0) (V 1) (V 2)) 10]
      exact hQ
    have st : ∀ {k j5 : Int} {Q : Int → ZM → Prop}, 0 ≤ k → k < K (10 * p + 2) → wX4_atFork (d + 1) 56 [(0, zA 100), (1, zI p), (2, zI row), (5, zJ (max j5 (V k * 10 ^ (10 - n)))), (7, zI (k + 1))] M Q → wX4_atFork (d + 1) 56 [(0, zA 100), (1, zI p), (2, zI row), (5, zJ j5), (7, zI k)] M Q := by
      intro k j5 Q k0 k1 nx
      have rb := w6 k k0 k1
      have v0 := hV k 0 k0 k1 (by omega) (by omega)
      have v1 := hV k 1 k0 k1 (by omega) (by omega)
      rw [Int.add_zero] at v0
      apply vX4_atFork_56
      rw [q5, q6 k k0 k1, v0, v1, mm, ← rk k k0 k1]
      rw [← rk k k0 k1] at rb
      exact ⟨by omega, fun z => by omega, fun _ => ⟨⟨by omega, by omega⟩, ⟨by omega, by omega⟩, by omega, ⟨by omega, by omega⟩, ⟨by omega, by omega⟩, by omega, ⟨by omega, by omega⟩, by omega, ⟨by omega, by omega⟩, nx⟩⟩
    have fin : ∀ {j5 i7 : Int}, K (10 * p + 2) ≤ i7 → j5 = mx3 (V 0) (V 1) (V 2) * 10 ^ (10 - n) → wX4_atFork (d + 1) 56 [(0, zA 100), (1, zI p), (2, zI row), (5, zJ j5), (7, zI i7)] M Q := by
      intro j5 i7 hi hj
      apply vX4_atFork_56
      rw [hj, q5]
      exact ⟨by omega, fun _ => hQ', fun z => by omega⟩
    have vb0 : -19890000000000 ≤ V 0 * 10 ^ (10 - n) := by
      have r0' := (rdc_nn hW p0 p1 (by omega) (k := 0) (by omega)).1
      have x := vb _ 0 r0' (by omega) (by omega)
      have : V 0 * 10 ^ (10 - n) = max (PV K E (M 102) n (rdc K p 0) 0 * 10 ^ (10 - n)) (PV K E (M 102) n (rdc K p 0) 1 * 10 ^ (10 - n)) := (mm _ _).symm
      omega
    refine st (k := 0) (by omega) (by omega) ?_
    rw [show max (-1000000000000000000) (V 0 * 10 ^ (10 - n)) = V 0 * 10 ^ (10 - n) by omega, show (0 : Int) + 1 = 1 by omega]
    rcases (by omega : K (10 * p + 2) = 1 ∨ K (10 * p + 2) = 2 ∨ K (10 * p + 2) = 3) with c | c | c
    · refine fin (by omega) ?_
      have e1 : V 1 = V 0 := by show max _ _ = max _ _; rw [rk 0 (by omega) (by omega), rl 1 (by omega), c]; rfl
      have e2 : V 2 = V 0 := by show max _ _ = max _ _; rw [rk 0 (by omega) (by omega), rl 2 (by omega), c]; rfl
      rw [e1, e2]
      unfold mx3
      rw [show max (V 0) (max (V 0) (V 0)) = V 0 by omega]
    · refine st (k := 1) (by omega) (by omega) (fin (by omega) ?_)
      have e2 : V 2 = V 1 := by show max _ _ = max _ _; rw [rk 1 (by omega) (by omega), rl 2 (by omega), c]; rfl
      rw [e2, mm]
      unfold mx3
      rw [show max (V 0) (max (V 1) (V 1)) = max (V 0) (V 1) by omega]
    · refine st (k := 1) (by omega) (by omega) (st (k := 2) (by omega) (by omega) (fin (by omega) ?_))
      rw [mm, mm]
      unfold mx3
      rw [show max (max (V 0) (V 1)) (V 2) = max (V 0) (max (V 1) (V 2)) by omega]
  · rw [if_neg hf] at hQ
    have tm : Int.tmod (M 102 (2 * K (10 * p + 1) + b)) 2 = M 102 (2 * K (10 * p + 1) + b) % 2 := Int.tmod_eq_emod_of_nonneg (by omega)
    have rb := rdc_nn hW p0 p1 (by omega) (k := M 102 (2 * K (10 * p + 1) + b) / 2) (by omega)
    have e : M 101 ((row + rdc K p (M 102 (2 * K (10 * p + 1) + b) / 2)) * 2 + M 102 (2 * K (10 * p + 1) + b) % 2) = PV K E (M 102) n (rdc K p (M 102 (2 * K (10 * p + 1) + b) / 2)) (M 102 (2 * K (10 * p + 1) + b) % 2) * 10 ^ (10 - n) := by
      by_cases h : M 102 (2 * K (10 * p + 1) + b) / 2 < K (10 * p + 2)
      · rw [rk _ (by omega) h]; exact hV _ _ (by omega) h (by omega) (by omega)
      · rw [rl _ (by omega)]; exact hV _ _ (by omega) (by omega) (by omega) (by omega)
    rw [tm, e]
    refine ⟨⟨by omega, by omega⟩, ⟨by omega, by omega⟩, by omega, ⟨by omega, by omega⟩, by omega, ?_⟩
    rw [hU, ← Int.mul_assoc, Int.mul_comm _ 10]
    exact hQ
theorem c_pMean {d : Nat} {M : ZM} {K : Int → Int} {E : Int → Int → Int} {ru : Int → Int} {n : Nat} {p row b : Int} {Q : Int → ZM → Prop} (hL : CL K M) (hT : CT K M) (hE : EB K E) (hR : RU K ru) (p0 : 0 ≤ p) (p1 : p < K 182) (pk : K (10 * p) ≠ 0) (k3 : K (10 * p) ≠ 3) (hn : n ≤ 9) (r0 : 0 ≤ row) (r1 : row ≤ 160) (b0 : 0 ≤ b) (b1 : b ≤ 1) (hV : ∀ k, 0 ≤ k → k < K (10 * p + 2) → M 101 ((row + K (10 * p + 3 + k)) * 2 + b) = PV K E ru n (K (10 * p + 3 + k)) b * 10 ^ (10 - n)) (hQ : Q (PV K E ru (n + 1) p b * 10 ^ (10 - (n + 1))) M) : zcL (d + 1) 44 [zA 100, zI p, zI row, zI b] M Q := by
  obtain ⟨hW, e1, e2, e3⟩ := id hL
  obtain ⟨q1, q2, q3, q4, q5, q6⟩ := e3 p p0 p1
  have hpl := hW.1
  have hw := hW.2.2.2.2.2.2.2 p p0 p1
  have hr := hw.rc
  obtain ⟨w1, w2, w3, w4, w5, w6⟩ := id hw
  have hU : (10 : Int) ^ (10 - n) = 10 * 10 ^ (10 - (n + 1)) := by
    rw [show 10 - n = 10 - (n + 1) + 1 by omega, Int.pow_succ, Int.mul_comm]
  have hP : (10 : Int) ^ (n + 1) * 10 ^ (10 - (n + 1)) = 10000000000 := by
    rw [← Int.pow_add, show n + 1 + (10 - (n + 1)) = 10 by omega]
    decide
  have vb : ∀ q, 0 ≤ q → -19890000000000 ≤ PV K E ru n q b * 10 ^ (10 - n) ∧ PV K E ru n q b * 10 ^ (10 - n) ≤ 19890000000000 := fun q q0 => scale_bd (by omega) (PV_bd hW hE hR n q b q0 b0 b1)
  have st : ∀ {k j4 : Int} {Q : Int → ZM → Prop}, 0 ≤ k → k < K (10 * p + 2) → (0 ≤ M 94 (p * 3 + k) ∧ M 94 (p * 3 + k) ≤ 10) → (-600000000000000 ≤ j4 ∧ j4 ≤ 600000000000000) → wX4_mean d 6 [(0, zA 100), (1, zI p), (2, zI row), (3, zI b), (4, zJ (j4 + M 94 (p * 3 + k) * (PV K E ru n (K (10 * p + 3 + k)) b * 10 ^ (10 - n)))), (6, zI (k + 1))] M Q → wX4_mean d 6 [(0, zA 100), (1, zI p), (2, zI row), (3, zI b), (4, zJ j4), (6, zI k)] M Q := by
    intro k j4 Q k0 k1 ht jb nx
    have rb := w6 k k0 k1
    have v := vb _ rb.1
    have wb := wsum (B := 19890000000000) (S := 10) (a := M 94 (p * 3 + k)) (b := 10 - M 94 (p * 3 + k)) (c := 0) (z := 0) (y := 0) ht.1 (by omega) (by omega) (by omega) v (by omega) (by omega)
    rw [Int.mul_zero, Int.mul_zero] at wb
    apply vX4_mean_6
    rw [q5, q6 k k0 k1, hV k k0 k1]
    exact ⟨by omega, fun z => by omega, fun _ => ⟨⟨by omega, by omega⟩, ⟨by omega, by omega⟩, by omega, ⟨by omega, by omega⟩, ⟨by omega, by omega⟩, ⟨by omega, by omega⟩, ⟨by omega, by omega⟩, ⟨by omega, by omega⟩, by omega, by omega, ⟨by omega, by omega⟩, ⟨by omega, by omega⟩, ⟨by omega, by omega⟩, nx⟩⟩
  have fin : ∀ {j4 i6 S : Int}, K (10 * p + 2) ≤ i6 → j4 = S * 10 ^ (10 - n) → (-600000000000000 ≤ j4 ∧ j4 ≤ 600000000000000) → S - M 47 p * 10 ^ (n + 1) = PV K E ru (n + 1) p b → wX4_mean d 6 [(0, zA 100), (1, zI p), (2, zI row), (3, zI b), (4, zJ j4), (6, zI i6)] M Q := by
    intro j4 i6 S hi hj jb hS
    have tl : 0 ≤ M 47 p ∧ M 47 p ≤ 99 := by
      by_cases q : K (10 * p) = 2
      · rw [q3 q]; have := w4 q; omega
      · rw [q4 q]; omega
    have x1 : Int.tdiv j4 10 = S * 10 ^ (10 - (n + 1)) := by
      rw [hj, hU, Int.mul_left_comm]
      exact Int.mul_tdiv_cancel_left _ (by decide)
    have x2 : Int.tdiv j4 10 - M 47 p * 10000000000 = PV K E ru (n + 1) p b * 10 ^ (10 - (n + 1)) := by
      rw [x1, ← hS, Int.sub_mul, Int.mul_assoc (M 47 p), hP]
    have td := tdiv_abs j4 10
    apply vX4_mean_6
    rw [q5]
    refine ⟨by omega, fun _ => ⟨by omega, ⟨by omega, by omega⟩, by omega, ⟨by omega, by omega⟩, ⟨by omega, by omega⟩, ?_⟩, fun z => by omega⟩
    rw [x2]
    exact hQ
  have hv1 : PV K E ru (n + 1) p b = if K (10 * p) = 2 then 10 * PV K E ru n (rdc K p 0) b - K (10 * p + 1) * 10 ^ (n + 1) else K (10 * p + 6) * PV K E ru n (rdc K p 0) b + K (10 * p + 7) * PV K E ru n (rdc K p 1) b + K (10 * p + 8) * PV K E ru n (rdc K p 2) b := by
    conv => lhs; unfold PV
    rw [if_pos p1, if_neg k3]
    by_cases k2 : K (10 * p) = 2
    · rw [if_pos k2, if_pos k2]
    · rw [if_neg k2, if_neg k2, if_pos (by omega)]
  have rk : ∀ k, 0 ≤ k → k < K (10 * p + 2) → rdc K p k = K (10 * p + 3 + k) := fun k k0 k1 => by unfold rdc; rw [if_pos k1]
  apply vX4_mean
  by_cases k2 : K (10 * p) = 2
  · have rc := (w4 k2).2
    have t0 := (hT p p0 p1).2 k2
    have v := vb _ (w6 0 (by omega) (by omega)).1
    rw [if_pos k2, rk 0 (by omega) (by omega)] at hv1
    refine st (k := 0) (by omega) (by omega) (by rw [Int.add_zero]; omega) (by omega) ?_
    rw [show p * 3 + 0 = p * 3 by omega, show 10 * p + 3 + 0 = 10 * p + 3 by omega, t0, Int.zero_add]
    rw [Int.add_zero] at v hv1
    refine fin (S := 10 * PV K E ru n (K (10 * p + 3)) b) (by omega) (by rw [Int.mul_assoc]) (by omega) ?_
    rw [hv1, q3 k2]
  · have k1 : K (10 * p) = 1 := by omega
    rw [if_neg k2] at hv1
    obtain ⟨t1, t2, t3, t4, t5⟩ := w3 k1
    obtain ⟨n6, n7, n8, -⟩ := turn_nn hw k1
    have toll0 : ∀ x : Int, x - M 47 p * 10 ^ (n + 1) = x := fun x => by rw [q4 k2, Int.zero_mul, Int.sub_zero]
    have ten : ∀ k, 0 ≤ k → k < K (10 * p + 2) → M 94 (p * 3 + k) = K (10 * p + 6 + k) := (hT p p0 p1).1 k1
    have sb : ∀ k, 0 ≤ k → k < K (10 * p + 2) → -198900000000000 ≤ M 94 (p * 3 + k) * (PV K E ru n (K (10 * p + 3 + k)) b * 10 ^ (10 - n)) ∧ M 94 (p * 3 + k) * (PV K E ru n (K (10 * p + 3 + k)) b * 10 ^ (10 - n)) ≤ 198900000000000 := by
      intro k k0 k1
      have ht := t2 k k0 k1
      rw [← ten k k0 k1] at ht
      have v := vb _ (w6 k k0 k1).1
      have wb := wsum (B := 19890000000000) (S := 10) (a := M 94 (p * 3 + k)) (b := 10 - M 94 (p * 3 + k)) (c := 0) (z := 0) (y := 0) (by omega) (by omega) (by omega) (by omega) v (by omega) (by omega)
      rw [Int.mul_zero, Int.mul_zero] at wb
      omega
    have tb : ∀ k, 0 ≤ k → k < K (10 * p + 2) → 0 ≤ M 94 (p * 3 + k) ∧ M 94 (p * 3 + k) ≤ 10 := fun k k0 k1 => by have := t2 k k0 k1; rw [ten k k0 k1]; omega
    have s0 := sb 0 (by omega) (by omega)
    refine st (k := 0) (by omega) (by omega) (tb 0 (by omega) (by omega)) (by omega) ?_
    rw [Int.zero_add, show (0 : Int) + 1 = 1 by omega]
    have g0 := ten 0 (by omega) (by omega)
    have z6 : K (10 * p + 6 + 0) = K (10 * p + 6) := by rw [Int.add_zero]
    have z7 : K (10 * p + 6 + 1) = K (10 * p + 7) := by congr 1; omega
    have z8 : K (10 * p + 6 + 2) = K (10 * p + 8) := by congr 1; omega
    by_cases c2 : K (10 * p + 2) ≤ 1
    · refine fin (S := M 94 (p * 3 + 0) * PV K E ru n (K (10 * p + 3 + 0)) b) (by omega) (by rw [Int.mul_assoc]) (by omega) ?_
      rw [toll0, hv1, t4 c2, t5 (by omega), rk 0 (by omega) (by omega), g0, z6]
      omega
    · have s1 := sb 1 (by omega) (by omega)
      refine st (k := 1) (by omega) (by omega) (tb 1 (by omega) (by omega)) (by omega) ?_
      rw [show (1 : Int) + 1 = 2 by omega]
      have g1 := ten 1 (by omega) (by omega)
      by_cases c3 : K (10 * p + 2) ≤ 2
      · refine fin (S := M 94 (p * 3 + 0) * PV K E ru n (K (10 * p + 3 + 0)) b + M 94 (p * 3 + 1) * PV K E ru n (K (10 * p + 3 + 1)) b) (by omega) (by rw [Int.add_mul, Int.mul_assoc, Int.mul_assoc]) (by omega) ?_
        rw [toll0, hv1, t5 c3, rk 0 (by omega) (by omega), rk 1 (by omega) (by omega), g0, g1, z6, z7]
        omega
      · have s2 := sb 2 (by omega) (by omega)
        refine st (k := 2) (by omega) (by omega) (tb 2 (by omega) (by omega)) (by omega) ?_
        have g2 := ten 2 (by omega) (by omega)
        refine fin (S := M 94 (p * 3 + 0) * PV K E ru n (K (10 * p + 3 + 0)) b + M 94 (p * 3 + 1) * PV K E ru n (K (10 * p + 3 + 1)) b + M 94 (p * 3 + 2) * PV K E ru n (K (10 * p + 3 + 2)) b) (by omega) (by rw [Int.add_mul, Int.add_mul, Int.mul_assoc, Int.mul_assoc, Int.mul_assoc]) (by omega) ?_
        rw [toll0, hv1, rk 0 (by omega) (by omega), rk 1 (by omega) (by omega), rk 2 (by omega) (by omega), g0, g1, g2, z6, z7, z8]
def PBAS (K : Int → Int) (E : Int → Int → Int) (rs : Int → Int → Bool) (M : ZM) : Prop := ∀ s p b, 0 ≤ s → s ≤ K 179 → 0 ≤ p → p ≤ 15 → 0 ≤ b → b ≤ 1 → rs s p = true → (K 182 ≤ p → M 101 ((16 * s + p) * 2 + b) = K 181 * 10000000000) ∧ (p < K 182 → K (10 * p) = 3 → M 101 ((16 * s + p) * 2 + b) = E p s * 10000000000) ∧ (p < K 182 → K (10 * p) ≠ 3 → s = K 179 → M 101 ((16 * s + p) * 2 + b) = K 180 * 10000000000)
theorem c_pWeigh {d : Nat} {M : ZM} {K : Int → Int} {E : Int → Int → Int} {rs : Int → Int → Bool} {Q : Int → ZM → Prop} (hC : CH K E rs M) (hE : EB K E) (hR : RU K (M 102)) (hB : PBAS K E rs M) (hQ : ∀ M', (∀ b, b ≠ 101 → M' b = M b) → PBAS K E rs M' → Q (pW K E (M 102) * 10 ^ (10 - (K 179).toNat)) M') : zcL (d + 3) 42 [zA 100] M Q := by
  obtain ⟨hL, hT, hO, hCl, -⟩ := id hC
  obtain ⟨hW, c1, c2, c3⟩ := id hL
  obtain ⟨a1, a2, a3, a4, a5, a6, a7, a8⟩ := id hW
  obtain ⟨o1, o2, o3, o4⟩ := id hO
  let G := fun (s p b : Int) (M1 : ZM) => M1 101 ((16 * s + p) * 2 + b) = PV K E (M 102) (K 179 - s).toNat p b * 10 ^ (10 - (K 179 - s).toNat)
  let Inv := fun (i : Int) (M1 : ZM) => (∀ b, b ≠ 101 → M1 b = M b) ∧ PBAS K E rs M1 ∧ ∀ j, 0 ≤ j → j < i → j < M 89 8 → ∀ s p b, 0 ≤ s → s < K 179 → 0 ≤ p → p < K 182 → 0 ≤ b → b ≤ 1 → M 93 j = 16 * s + p → G s p b M1
  have base : ∀ M1, PBAS K E rs M1 → ∀ s p b, 0 ≤ s → s ≤ K 179 → 0 ≤ p → p ≤ 15 → 0 ≤ b → b ≤ 1 → rs s p = true → (K 182 ≤ p ∨ K (10 * p) = 3 ∨ s = K 179) → G s p b M1 := by
    intro M1 hb s p b s0 s1 p0 p1 b0 b1 hr hn
    obtain ⟨y1, y2, y3⟩ := hb s p b s0 s1 p0 p1 b0 b1 hr
    show M1 101 ((16 * s + p) * 2 + b) = _
    have ps := pow_split (n := (K 179 - s).toNat) (by omega)
    generalize hm : (K 179 - s).toNat = m at ps ⊢
    by_cases hp : p < K 182
    · by_cases hk : K (10 * p) = 3
      · rw [y2 hp hk]
        cases m with
        | zero =>
          unfold PV
          rw [if_pos hp, if_pos hk, show s = K 179 by omega]
          rfl
        | succ m =>
          unfold PV
          rw [if_pos hp, if_pos hk, Int.mul_assoc, ps, show K 179 - ((m + 1 : Nat) : Int) = s by omega]
      · have hs : s = K 179 := by omega
        obtain rfl : m = 0 := by omega
        rw [y3 hp hk hs]
        unfold PV
        rw [if_pos hp, if_neg hk]
        rfl
    · rw [y1 (by omega)]
      cases m with
      | zero => unfold PV; rw [if_neg hp]; rfl
      | succ m => unfold PV; rw [if_neg hp, Int.mul_assoc, ps]
  have all : ∀ M1 (i : Int), Inv i M1 → ∀ s p b, 0 ≤ s → s ≤ K 179 → 0 ≤ p → p ≤ 15 → 0 ≤ b → b ≤ 1 → rs s p = true → (∀ j, 0 ≤ j → j < M 89 8 → M 93 j = 16 * s + p → j < i) → G s p b M1 := by
    intro M1 i hI s p b s0 s1 p0 p1 b0 b1 hr hj
    by_cases hn : K 182 ≤ p ∨ K (10 * p) = 3 ∨ s = K 179
    · exact base M1 hI.2.1 s p b s0 s1 p0 p1 b0 b1 hr hn
    · obtain ⟨j, j0, j1, j2⟩ := o3 s p s0 (by omega) p0 (by omega) (by omega) hr
      exact hI.2.2 j j0 (hj j j0 j1 j2) j1 s p b s0 (by omega) p0 (by omega) b0 b1 j2
  have lp : ∀ (n i : Nat) (M1 : ZM), i + n = (M 89 8).toNat → Inv i M1 → wX4_weigh (d + 2) 2 [(0, zA 100), (1, zI i)] M1 Q := by
    intro n
    induction n with
    | zero =>
      intro i M1 hn hI
      apply vX4_weigh_2
      rw [hI.1 89 (by decide), hI.1 55 (by decide), c2.1]
      refine ⟨fun _ => ⟨by omega, ⟨by omega, by omega⟩, by omega, ?_⟩, fun q => by omega⟩
      have g := all M1 i hI 0 (K 178) 0 (by omega) (by omega) a2.1 a2.2 (by omega) (by omega) hCl.1 (fun j j0 j1 _ => by omega)
      have g : M1 101 ((16 * 0 + K 178) * 2 + 0) = _ := g
      rw [show ((16 : Int) * 0 + K 178) * 2 + 0 = K 178 * 2 by omega, show K 179 - 0 = K 179 by omega] at g
      rw [g]
      exact hQ M1 hI.1 hI.2.1
    | succ n ih =>
      intro i M1 hn hI
      have m1 := hI.1
      obtain ⟨s, p, e, s0, s1, p0, p1, k3, hr⟩ := o2 i (by omega) (by omega)
      obtain ⟨q1, q2, q3, q4, q5, q6⟩ := c3 p p0 p1
      obtain ⟨w1, w2, w3, w4, w5, w6⟩ := a8 p p0 p1
      have hrc := (a8 p p0 p1).rc
      have tm : Int.tmod (16 * s + p) 16 = p := by rw [Int.tmod_eq_emod_of_nonneg (by omega)]; omega
      have hnn : (K 179 - s).toNat = (K 179 - (s + 1)).toNat + 1 := by omega
      have hV : ∀ M2 : ZM, (∀ i, (i < (16 * s + p) * 2 ∨ (16 * s + p) * 2 + 2 ≤ i) → M2 101 i = M1 101 i) → ∀ k c, 0 ≤ k → k < K (10 * p + 2) → 0 ≤ c → c ≤ 1 → M2 101 ((16 * s + 16 + K (10 * p + 3 + k)) * 2 + c) = PV K E (M 102) (K 179 - (s + 1)).toNat (K (10 * p + 3 + k)) c * 10 ^ (10 - (K 179 - (s + 1)).toNat) := by
        intro M2 o k c k0 k1 cc0 cc1
        have rb := w6 k k0 k1
        have g := all M1 i hI (s + 1) (K (10 * p + 3 + k)) c (by omega) (by omega) rb.1 rb.2 cc0 cc1 (hCl.2 s p k s0 s1 p0 p1 k0 k1 hr) (fun j j0 j1 j2 => by
          by_cases hj : j < i
          · exact hj
          · have := o4 i j (by omega) (by omega) j1
            rw [e, j2] at this
            omega)
        rw [o _ (by omega), show (16 * s + 16 + K (10 * p + 3 + k)) * 2 + c = (16 * (s + 1) + K (10 * p + 3 + k)) * 2 + c by omega]
        exact g
      -- both POCKETS
      have pk : ∀ (m b : Nat) (M2 : ZM), b + m = 2 → (∀ x, x ≠ 101 → M2 x = M x) → (∀ i, (i < (16 * s + p) * 2 ∨ (16 * s + p) * 2 + 2 ≤ i) → M2 101 i = M1 101 i) → (∀ c : Int, 0 ≤ c → c < b → M2 101 ((16 * s + p) * 2 + c) = PV K E (M 102) (K 179 - s).toNat p c * 10 ^ (10 - (K 179 - s).toNat)) → wX4_weigh (d + 2) 39 [(0, zA 100), (1, zI (i : Int)), (2, zI (16 * s + p)), (3, zI p), (4, zI (16 * s + 16)), (5, zI (b : Int))] M2 Q := by
        intro m
        induction m with
        | zero =>
          intro b M2 hb r2 o2' v2
          apply vX4_weigh_39
          refine ⟨fun _ => ⟨⟨by omega, by omega⟩, ih (i + 1) M2 (by omega) ⟨r2, fun s' p' b' x1 x2 x3 x4 x5 x6 x7 => ?_, fun j j0 j1 j2 s' p' b' x1 x2 x3 x4 x5 x6 x7 => ?_⟩⟩, fun z => by omega⟩
          · obtain ⟨y1, y2, y3⟩ := hI.2.1 s' p' b' x1 x2 x3 x4 x5 x6 x7
            by_cases e' : s' = s ∧ p' = p
            · obtain ⟨rfl, rfl⟩ := e'
              exact ⟨fun z => by omega, fun z z2 => absurd z2 k3, fun z z2 z3 => by omega⟩
            · rw [o2' _ (by omega)]
              exact ⟨y1, y2, y3⟩
          · show M2 101 ((16 * s' + p') * 2 + b') = _
            by_cases e' : s' = s ∧ p' = p
            · obtain ⟨rfl, rfl⟩ := e'
              exact v2 b' x5 (by omega)
            · rw [o2' _ (by omega)]
              refine hI.2.2 j j0 ?_ j2 s' p' b' x1 x2 x3 x4 x5 x6 x7
              by_cases hji : j = i
              · subst hji
                rw [e] at x7
                omega
              · omega
        | succ m ihm =>
          intro b M2 hb r2 o2' v2
          have L2 : CL K M2 := hL.congr (fun x hx => r2 x (by omega))
          have T2 : CT K M2 := fun p p0 p1 => by rw [r2 94 (by decide)]; exact hT p p0 p1
          have e102 : M2 102 = M 102 := r2 102 (by decide)
          have nx : ∀ x, x = PV K E (M 102) ((K 179 - (s + 1)).toNat + 1) p b * 10 ^ (10 - ((K 179 - (s + 1)).toNat + 1)) → wX4_weigh (d + 2) 39 [(0, zA 100), (1, zI (i : Int)), (2, zI (16 * s + p)), (3, zI p), (4, zI (16 * s + 16)), (5, zI ((b : Int) + 1))] (zup M2 101 ((16 * s + p) * 2 + b) x) Q := by
            intro x hx
            refine ihm (b + 1) _ (by omega) (fun y hy => by rw [zup_row hy, r2 y hy]) (fun i hi => by rw [zup_ne (by omega), o2' i hi]) (fun c cc0 cc1 => ?_)
            rw [zup_at]
            by_cases ec : c = b
            · rw [if_pos (by omega), hx, ec, hnn]
            · rw [if_neg (by omega)]; exact v2 c cc0 (by omega)
          apply vX4_weigh_39
          rw [r2 45 (by decide), q1]
          refine ⟨fun z => by omega, fun _ => ⟨⟨by omega, by omega⟩, ⟨by omega, by omega⟩, by omega, fun z => c_pMean (ru := M 102) L2 T2 hE hR p0 p1 z k3 (by omega) (by omega) (by omega) (by omega) (by omega) (fun k k0 k1 => hV M2 o2' k b k0 k1 (by omega) (by omega)) ⟨by omega, zset ⟨⟨by omega, by omega⟩, nx _ rfl⟩⟩, fun z => ?_⟩⟩
          refine c_pFork (E := E) L2 hE (by rw [e102]; exact hR) p0 p1 z (n := (K 179 - (s + 1)).toNat) (by omega) (by omega) (by omega) (by omega) (by omega) (fun k c k0 k1 cc0 cc1 => by rw [e102]; exact hV M2 o2' k c k0 k1 cc0 cc1) ⟨by omega, zset ⟨⟨by omega, by omega⟩, nx _ (by rw [e102])⟩⟩
      apply vX4_weigh_2
      rw [m1 89 (by decide), m1 93 (by decide), e, tm, show 16 * s + p - p + 16 = 16 * s + 16 by omega]
      refine ⟨fun q => by omega, fun _ => ⟨by omega, by omega, ⟨by omega, by omega⟩, ⟨by omega, by omega⟩, pk 2 0 M1 (by omega) m1 (fun _ _ => rfl) (fun c _ _ => by omega)⟩⟩
  apply vX4_weigh
  exact lp _ 0 M (Nat.zero_add _) ⟨fun _ _ => rfl, hB, fun j j0 j1 => by omega⟩
