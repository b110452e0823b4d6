/-! feed -/
theorem zi2b_rg (x : Int) : -128 ≤ zi2b x ∧ zi2b x ≤ 127 := by
  unfold zi2b
  rw [Int8.toInt_toInt32]
  have h1 := Int8.le_toInt (zi x).toInt8
  have h2 := Int8.toInt_lt (zi x).toInt8
  omega
def PF (M0 : ZM) (v : Int) (k : Nat) (M : ZM) : Prop := (∀ b, b ≠ 29 → b ≠ 30 → M b = M0 b) ∧ (∀ i, i ≠ 1 → M 29 i = M0 29 i) ∧ M 29 1 = M0 29 1 + k ∧ ∀ i, M 30 i = if M0 29 1 ≤ i ∧ i < M0 29 1 + k then zi2b (zshr v (24 - 8 * (i - M0 29 1))) else M0 30 i
theorem c_putFour {d : Nat} {M0 : ZM} {v : Int} {K : ZM → Prop} (h0 : 0 ≤ M0 29 1) (h1 : M0 29 1 ≤ 396) (hK : ∀ M', PF M0 v 4 M' → K M') : zcV (d + 1) 103 [zA 29, zI v] M0 K := by
  have lp : ∀ (n k : Nat) (M : ZM) (s : Int), k + n = 4 → s = 24 - 8 * k → PF M0 v k M → wX9_putFour d 3 [(0, zA 29), (1, zI v), (2, zI s)] M K := by
    intro n
    induction n with
    | zero =>
      intro k M s hn hs hP
      apply vX9_putFour_3
      have : k = 4 := by omega
      subst this
      exact ⟨fun _ => hK M hP, fun q => by omega⟩
    | succ n ih =>
      intro k M s hn hs hP
      obtain ⟨p1, p2, p3, p4⟩ := hP
      apply vX9_putFour_3
      refine ⟨fun q => by omega, fun _ => ⟨fun q => by omega, fun _ => ⟨by omega, zi2b_rg _, zset ?_⟩⟩⟩
      rw [zup_row (by decide)]
      refine ⟨⟨by omega, by omega⟩, zset ⟨⟨by omega, by omega⟩, ih (k + 1) _ _ (by omega) (by omega) ⟨?_, ?_, ?_, ?_⟩⟩⟩
      · intro b b1 b2
        rw [zup_row b1, zup_row b2, p1 b b1 b2]
      · intro i hi
        rw [zup_ne (fun q => hi q.2), zup_row (by decide), p2 i hi]
      · rw [zup_eq]; omega
      · intro i
        rw [zup_row (by decide), zup_at, p4 i, p3]
        by_cases hi : i = M0 29 1 + k
        · rw [if_pos hi, if_pos (by omega), hs, show (24 : Int) - 8 * k = 24 - 8 * (i - M0 29 1) by omega]
        · rw [if_neg hi]
          by_cases h2 : M0 29 1 ≤ i ∧ i < M0 29 1 + k
          · rw [if_pos h2, if_pos (by omega)]
          · rw [if_neg h2, if_neg (by omega)]
  exact vX9_putFour _ _ _ _ (lp 4 0 M0 24 (by omega) (by omega) ⟨fun _ _ _ => rfl, fun _ _ => rfl, by omega, fun i => by rw [if_neg (by omega)]⟩)
def fByte (F : Int → Int) (n : Int) : Int := zi2b (zshr (F (n / 4)) (24 - 8 * (n % 4)))
def fdR (M : ZM) (F : Int → Int) (k : Nat) : Int → Int := fun j => if M 113 9 ≤ j ∧ j < M 113 9 + k then fByte F (j - M 113 9) else M 119 j
theorem m_feedLoop {d : Nat} {M : ZM} {K : Int → ZM → Prop} (h0 : 0 ≤ M 113 9) (h1 : M 113 9 ≤ 380) (hK : K (M 113 9 + 20) (zup (zrow M 119 (fdR M (M 120) 20)) 113 9 (M 113 9 + 20))) : wX10_feed d 55 [(0, zA 113), (6, zI 0)] M K := by
  have lp : ∀ n p : Nat, p + n = 20 → wX10_feed d 55 [(0, zA 113), (6, zI p)] (zrow M 119 (fdR M (M 120) p)) K := by
    intro n
    induction n with
    | zero =>
      intro p hn
      have e : p = 20 := by omega
      subst e
      apply vX10_feed_55
      refine ⟨fun _ => ?_, fun q => by omega⟩
      rw [zrow_ne (by decide)]
      refine ⟨⟨by omega, by omega⟩, zset ?_⟩
      rw [zup_eq]
      exact hK
    | succ n ih =>
      intro p hn
      have nx := ih (p + 1) (by omega)
      apply vX10_feed_55
      have t1 : Int.tdiv (p : Int) 4 = (p : Int) / 4 := Int.tdiv_eq_ediv_of_nonneg (by omega)
      have t2 : Int.tmod (p : Int) 4 = (p : Int) % 4 := Int.tmod_eq_emod_of_nonneg (by omega)
      rw [t1, t2, zrow_ne (by decide), zrow_ne (by decide)]
      refine ⟨fun q => by omega, fun _ => ⟨⟨by omega, by omega⟩, by omega, ⟨by omega, by omega⟩, by omega, by omega, ⟨by omega, by omega⟩, ⟨by omega, by omega⟩, by omega, zi2b_rg _, zset ⟨⟨by omega, by omega⟩, ?_⟩⟩⟩
      rw [zup_zrow]
      have e : kup (fdR M (M 120) p) (M 113 9 + p) (zi2b (zshr (M 120 ((p : Int) / 4)) (24 - 8 * ((p : Int) % 4)))) = fdR M (M 120) (p + 1) := by
        funext j
        unfold kup fdR
        by_cases hj : j = M 113 9 + p
        · rw [if_pos hj, if_pos (by omega)]
          unfold fByte
          rw [show j - M 113 9 = p by omega]
        · rw [if_neg hj]
          by_cases h2 : M 113 9 ≤ j ∧ j < M 113 9 + p
          · rw [if_pos h2, if_pos (by omega)]
          · rw [if_neg h2, if_neg (by omega)]
      rw [e]
      exact nx
  have z : zrow M 119 (fdR M (M 120) 0) = M := by
    have : fdR M (M 120) 0 = M 119 := by
      funext j
      unfold fdR
      rw [if_neg (by omega)]
    rw [this, zrow_self]
  have l0 := lp 20 0 (by omega)
  rw [z] at l0
  exact l0
theorem s_feed {d t : Nat} {M : ZM} (h : J t M) {a b c e f : Int} : zcI (d + 2) 102 [zA 29, zI a, zI b, zI c, zI e, zI f] M (fun x M1 => zcI (d + 2) 159 [zA 113, zI a, zI b, zI c, zI e, zI f] M1 (fun y M2 => x = y ∧ J (t + 1) M2)) := by
  obtain ⟨h1, h2, h3, h4, h5, h6, h7, h8⟩ := h.idle
  obtain ⟨⟨t1, t2, t3⟩, t4, t5⟩ := id h1
  apply vX9_feed
  refine ⟨⟨by omega, by omega⟩, fun q => ?_, fun q => ?_⟩
  · refine c_putFour (by omega) (by omega) (fun M1 P1 => c_putFour (by have := P1.2.2.1; omega) (by have := P1.2.2.1; omega) (fun M2 P2 => c_putFour (by have := P1.2.2.1; have := P2.2.2.1; omega) (by have := P1.2.2.1; have := P2.2.2.1; omega) (fun M3 P3 => c_putFour (by have := P1.2.2.1; have := P2.2.2.1; have := P3.2.2.1; omega) (by have := P1.2.2.1; have := P2.2.2.1; have := P3.2.2.1; omega) (fun M4 P4 => c_putFour (by have := P1.2.2.1; have := P2.2.2.1; have := P3.2.2.1; have := P4.2.2.1; omega) (by have := P1.2.2.1; have := P2.2.2.1; have := P3.2.2.1; have := P4.2.2.1; omega) (fun M5 P5 => ?_)))))
    obtain ⟨a1, a2, a3, a4⟩ := P1
    obtain ⟨b1, b2, b3, b4⟩ := P2
    obtain ⟨c1, c2, c3, c4⟩ := P3
    obtain ⟨d1, d2, d3, d4⟩ := P4
    obtain ⟨e1, e2, e3, e4⟩ := P5
    have row : ∀ x, x ≠ 29 → x ≠ 30 → M5 x = M x := fun x x1 x2 => by rw [e1 x x1 x2, d1 x x1 x2, c1 x x1 x2, b1 x x1 x2, a1 x x1 x2]
    have r29 : ∀ i, i ≠ 1 → M5 29 i = M 29 i := fun i hi => by rw [e2 i hi, d2 i hi, c2 i hi, b2 i hi, a2 i hi]
    have r291 : M5 29 1 = M 29 1 + 20 := by omega
    apply vX10_feed
    rw [row 113 (by decide) (by decide)]
    refine ⟨⟨by omega, by omega⟩, fun _ => ⟨by omega, zset ⟨by omega, zset ⟨by omega, zset ⟨by omega, zset ⟨by omega, zset ?_⟩⟩⟩⟩⟩, fun q => by omega⟩
    generalize hM6 : zup (zup (zup (zup (zup M5 120 0 a) 120 1 b) 120 2 c) 120 3 e) 120 4 f = M6
    have row6 : ∀ x, x ≠ 120 → M6 x = M5 x := fun x hx => by subst hM6; rw [zup_row hx, zup_row hx, zup_row hx, zup_row hx, zup_row hx]
    have f0 : M6 120 0 = a := by subst hM6; simp only [zupE, reduceIte, false_and, and_false, true_and, and_true, Int.reduceEq]
    have f1 : M6 120 1 = b := by subst hM6; simp only [zupE, reduceIte, false_and, and_false, true_and, and_true, Int.reduceEq]
    have f2 : M6 120 2 = c := by subst hM6; simp only [zupE, reduceIte, false_and, and_false, true_and, and_true, Int.reduceEq]
    have f3 : M6 120 3 = e := by subst hM6; simp only [zupE, reduceIte, false_and, and_false, true_and, and_true, Int.reduceEq]
    have f4 : M6 120 4 = f := by subst hM6; simp only [zupE, reduceIte, false_and, and_false, true_and, and_true, Int.reduceEq]
    have g113 : M6 113 = M 113 := by rw [row6 113 (by decide), row 113 (by decide) (by decide)]
    refine m_feedLoop (by rw [g113]; omega) (by rw [g113]; omega) ⟨by rw [r291, g113]; omega, ?_⟩
    rw [g113]
    generalize hM7 : zup (zrow M6 119 (fdR M6 (M6 120) 20)) 113 9 (M 113 9 + 20) = M7
    have row7 : ∀ x, x ≠ 29 → x ≠ 30 → x ≠ 120 → x ≠ 119 → x ≠ 113 → M7 x = M x := fun x x1 x2 x3 x4 x5 => by
      subst hM7
      rw [zup_row x5, zrow_ne x4, row6 x x3, row x x1 x2]
    have s29 : M7 29 = M5 29 := by subst hM7; rw [zup_row (by decide), zrow_ne (by decide), row6 29 (by decide)]
    have s30 : M7 30 = M5 30 := by subst hM7; rw [zup_row (by decide), zrow_ne (by decide), row6 30 (by decide)]
    have s113 : ∀ i, i ≠ 9 → M7 113 i = M 113 i := fun i hi => by
      subst hM7
      rw [zup_ne (fun q => hi q.2), zrow_ne (by decide), g113]
    have s1139 : M7 113 9 = M 113 9 + 20 := by subst hM7; exact zup_eq
    have s119 : M7 119 = fdR M6 (M6 120) 20 := by subst hM7; rw [zup_row (by decide), zrow_at]
    refine ⟨?_, ?_, ?_, h4.fr (row7 86 (by decide) (by decide) (by decide) (by decide) (by decide)) (row7 117 (by decide) (by decide) (by decide) (by decide) (by decide)) (row7 116 (by decide) (by decide) (by decide) (by decide) (by decide)) (fun x x1 x2 => row7 x (by omega) (by omega) (by omega) (by omega) (by omega)), h5.fr (row7 110 (by decide) (by decide) (by decide) (by decide) (by decide)) (row7 111 (by decide) (by decide) (by decide) (by decide) (by decide)) (row7 139 (by decide) (by decide) (by decide) (by decide) (by decide)) (s113 46 (by decide)) (s113 47 (by decide)), ?_, h7.fr (row7 118 (by decide) (by decide) (by decide) (by decide) (by decide)) (s113 29 (by decide)), h8.fr (row7 106 (by decide) (by decide) (by decide) (by decide) (by decide))⟩
    · unfold JT
      rw [s29, r291, s1139, r29 2 (by decide), s113 10 (by decide), s30, s119]
      refine ⟨by omega, t4, fun i i0 i1 => ?_⟩
      have e119 : M6 119 i = M 119 i := by rw [row6 119 (by decide), row 119 (by decide) (by decide)]
      unfold fdR
      rw [g113]
      by_cases hi : M 113 9 ≤ i
      · rw [if_pos (by omega)]
        refine ⟨?_, zi2b_rg _⟩
        unfold fByte
        rw [e4]
        by_cases w5 : M 29 1 + 16 ≤ i
        · rw [if_pos (by omega), show (i - M 113 9) / 4 = 4 by omega, f4, show (24 : Int) - 8 * (i - M4 29 1) = 24 - 8 * ((i - M 113 9) % 4) by omega]
        · rw [if_neg (by omega), d4]
          by_cases w4 : M 29 1 + 12 ≤ i
          · rw [if_pos (by omega), show (i - M 113 9) / 4 = 3 by omega, f3, show (24 : Int) - 8 * (i - M3 29 1) = 24 - 8 * ((i - M 113 9) % 4) by omega]
          · rw [if_neg (by omega), c4]
            by_cases w3 : M 29 1 + 8 ≤ i
            · rw [if_pos (by omega), show (i - M 113 9) / 4 = 2 by omega, f2, show (24 : Int) - 8 * (i - M2 29 1) = 24 - 8 * ((i - M 113 9) % 4) by omega]
            · rw [if_neg (by omega), b4]
              by_cases w2 : M 29 1 + 4 ≤ i
              · rw [if_pos (by omega), show (i - M 113 9) / 4 = 1 by omega, f1, show (24 : Int) - 8 * (i - M1 29 1) = 24 - 8 * ((i - M 113 9) % 4) by omega]
              · rw [if_neg (by omega), a4, if_pos (by omega), show (i - M 113 9) / 4 = 0 by omega, f0, show (24 : Int) - 8 * (i - M 29 1) = 24 - 8 * ((i - M 113 9) % 4) by omega]
      · rw [if_neg (by omega), e119, e4, if_neg (by omega), d4, if_neg (by omega), c4, if_neg (by omega), b4, if_neg (by omega), a4, if_neg (by omega)]
        exact t5 i i0 (by omega)
    · unfold JR at *
      rw [s29, r29 15 (by decide), s113 0 (by decide), row7 112 (by decide) (by decide) (by decide) (by decide) (by decide), row7 114 (by decide) (by decide) (by decide) (by decide) (by decide)]
      exact h2
    · rw [row7 115 (by decide) (by decide) (by decide) (by decide) (by decide)]
      exact h3.congr (fun j hj => row7 _ (by omega) (by omega) (by omega) (by omega) (by omega))
    · unfold JW at *
      rw [s113 1 (by decide), s113 26 (by decide), row7 115 (by decide) (by decide) (by decide) (by decide) (by decide), row7 126 (by decide) (by decide) (by decide) (by decide) (by decide)]
      refine ⟨h6.1, h6.2.1, fun q p s x y z w => ?_⟩
      rw [h6.2.2 q p s x y z w, EW.fr (row7 51 (by decide) (by decide) (by decide) (by decide) (by decide)) (row7 52 (by decide) (by decide) (by decide) (by decide) (by decide)) (row7 53 (by decide) (by decide) (by decide) (by decide) (by decide)) (row7 54 (by decide) (by decide) (by decide) (by decide) (by decide)) (by rw [row7 115 (by decide) (by decide) (by decide) (by decide) (by decide)])]
  · apply vX10_feed
    exact ⟨⟨by omega, by omega⟩, fun q2 => by omega, fun _ => ⟨rfl, h.idle⟩⟩
