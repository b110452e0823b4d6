/-! country -/
theorem J.swap {t : Nat} {M M' : ZM} (h : J t M) (hT : JT M') (row : ∀ b, b ≠ 29 → b ≠ 113 → (b < 30 ∨ 42 < b) → (b < 119 ∨ 124 < b) → M' b = M b) (r29 : ∀ i, i ≠ 1 → i ≠ 2 → M' 29 i = M 29 i) (r113 : ∀ i, (i < 9 ∨ 20 < i) → M' 113 i = M 113 i) : J t M' := by
  obtain ⟨h1, h2, h3, h4, h5, h6, h7, h8⟩ := h
  have q : ∀ b, b ≠ 29 → b ≠ 113 → (b < 30 ∨ 42 < b) → (b < 119 ∨ 124 < b) → M' b = M b := row
  refine ⟨hT, ?_, ?_, h4.fr (q 86 (by decide) (by decide) (by decide) (by decide)) (q 117 (by decide) (by decide) (by decide) (by decide)) (q 116 (by decide) (by decide) (by decide) (by decide)) (fun b b1 b2 => q b (by omega) (by omega) (by omega) (by omega)), h5.fr (q 110 (by decide) (by decide) (by decide) (by decide)) (q 111 (by decide) (by decide) (by decide) (by decide)) (q 139 (by decide) (by decide) (by decide) (by decide)) (r113 46 (by decide)) (r113 47 (by decide)), ?_, h7.fr (q 118 (by decide) (by decide) (by decide) (by decide)) (r113 29 (by decide)), h8.fr (q 106 (by decide) (by decide) (by decide) (by decide))⟩
  · unfold JR at *
    rw [r29 15 (by decide) (by decide), r113 0 (by decide), q 112 (by decide) (by decide) (by decide) (by decide), q 114 (by decide) (by decide) (by decide) (by decide)]
    exact h2
  · rw [q 115 (by decide) (by decide) (by decide) (by decide)]
    exact h3.congr (fun j hj => q _ (by omega) (by omega) (by omega) (by omega))
  · unfold JW at *
    rw [r113 1 (by decide), r113 26 (by decide), q 126 (by decide) (by decide) (by decide) (by decide), q 115 (by decide) (by decide) (by decide) (by decide)]
    refine ⟨h6.1, h6.2.1, fun w p s p0 p1 s0 s1 => ?_⟩
    rw [EW.fr (q 51 (by decide) (by decide) (by decide) (by decide)) (q 52 (by decide) (by decide) (by decide) (by decide)) (q 53 (by decide) (by decide) (by decide) (by decide)) (q 54 (by decide) (by decide) (by decide) (by decide)) (by rw [q 115 (by decide) (by decide) (by decide) (by decide)])]
    exact h6.2.2 w p s p0 p1 s0 s1
theorem WP_of {K : Int → Int} {p : Int} (h : wPL (fun k => K (10 * p + k))) : WP K p := by
  have e0 : K (10 * p + 0) = K (10 * p) := by rw [Int.add_zero]
  have e3 : ∀ k, K (10 * p + (3 + k)) = K (10 * p + 3 + k) := fun k => by rw [Int.add_assoc]
  have e6 : ∀ k, K (10 * p + (6 + k)) = K (10 * p + 6 + k) := fun k => by rw [Int.add_assoc]
  unfold wPL at h
  dsimp only at h
  rw [e0] at h
  simp only [e3, e6] at h
  exact h
section CY
variable {d t : Nat} {M : ZM}
/-- the new book -/
theorem BK_new {K0 R c v : Int → Int} {L0 L : LB} {Q n1 : Int} {tt : Int} {M1 : ZM} (h : BK K0 L0) (q0 : 1 ≤ Q) (q1 : Q ≤ 16) (t0 : 0 ≤ tt) (t1 : tt ≤ 400) (hW : oW Q R) (n4 : n1 ≤ 400) (e31 : M1 31 0 = Q) (hP : ∀ p, 0 ≤ p → p < Q → cPL c v 5000 (fun k => R (10 * p + k)) M1 p n1) (ec : ∀ i, ¬ (0 ≤ i ∧ i < tt) → c i = 0) (ev : ∀ i, ¬ (0 ≤ i ∧ i < tt) → v i = 0) (eL : ∀ j i, j ≤ 10 → 0 ≤ i → i < lenL j → L j i = M1 (31 + j) i) (e11 : L 11 = L0 11) (e12 : L 12 = L0 12) : BK (kR K0 Q R c v tt tt) L := by
  obtain ⟨h1, h2, h3, h4, h5⟩ := h
  obtain ⟨w1, w2, w3, w4, w5, w6, w7, w8⟩ := h1
  have kp : ∀ y, 160 ≤ y → y < 182 → kR K0 Q R c v tt tt y = K0 y := fun y y0 y1 => by
    unfold kR
    rw [if_neg (by omega), if_neg (by omega), if_neg (by omega), if_neg (by omega), if_neg (by omega)]
  have k182 : kR K0 Q R c v tt tt 182 = Q := by unfold kR; rw [if_neg (by omega), if_pos rfl]
  have k183 : kR K0 Q R c v tt tt 183 = tt := by unfold kR; rw [if_neg (by omega), if_neg (by decide), if_pos rfl]
  have kr : ∀ p k, 0 ≤ p → p < Q → 0 ≤ k → k < 10 → kR K0 Q R c v tt tt (10 * p + k) = R (10 * p + k) := fun p k p0 p1 k0 k1 => if_pos (by omega)
  have cT : cTok (kR K0 Q R c v tt tt) = c := by
    funext i
    unfold cTok
    rw [k183]
    by_cases z : 0 ≤ i ∧ i < tt
    · rw [if_pos z]
      unfold kR
      rw [if_neg (by omega), if_neg (by omega), if_neg (by omega), if_pos (by omega), show 184 + i - 184 = i by omega]
    · rw [if_neg z, ec i z]
  have vT : vTok (kR K0 Q R c v tt tt) = v := by
    funext i
    unfold vTok
    rw [k183]
    by_cases z : 0 ≤ i ∧ i < tt
    · rw [if_pos z]
      unfold kR
      rw [if_neg (by omega), if_neg (by omega), if_neg (by omega), if_neg (by omega), if_pos (by omega), show 584 + i - 584 = i by omega]
    · rw [if_neg z, ev i z]
  have wp : ∀ p, 0 ≤ p → p < Q → wPL (fun k => kR K0 Q R c v tt tt (10 * p + k)) := fun p p0 p1 => (hW p p0 p1).cg (fun k k0 k1 => kr p k p0 p1 k0 k1)
  refine ⟨⟨by rw [k182]; omega, by rw [kp 178 (by decide) (by decide)]; exact w2, by rw [kp 179 (by decide) (by decide)]; exact w3, by rw [kp 180 (by decide) (by decide)]; exact w4, by rw [kp 181 (by decide) (by decide)]; exact w5, fun l l0 l1 => ?_, by rw [k183]; omega, fun p p0 p1 => ?_⟩, ?_, fun p p0 p1 => ?_, fun i i0 i1 => ?_, fun i i0 i1 => ?_⟩
  · rw [kp (160 + 3 * l) (by omega) (by omega), kp (161 + 3 * l) (by omega) (by omega), kp (162 + 3 * l) (by omega) (by omega)]
    exact w6 l l0 l1
  · rw [k182] at p1
    exact WP_of (wp p p0 p1)
  · rw [k182, eL 0 0 (by decide) (by decide) (by decide)]; exact e31
  · rw [k182] at p1
    have cp := (hP p p0 p1).cg (hW p p0 p1) (g := fun k => kR K0 Q R c v tt tt (10 * p + k)) (fun k k0 k1 => kr p k p0 p1 k0 k1)
    have r := (wp p p0 p1).r3
    obtain ⟨⟨q1', q2, q3, q4, q5, q6⟩, h35, he⟩ := cp
    dsimp only at r q1' q2 q3 q4 q5 q6 h35 he
    rw [Int.add_zero] at q1' q2 q3 q4 q6 he
    have row : ∀ j, j ≤ 9 → j ≠ 0 → j ≠ 5 → j ≠ 6 → L j p = M1 (31 + j) p := fun j j0 j1 j2 j3 => eL j p (by omega) p0 (by
      unfold lenL
      rw [if_neg j1, if_neg (by omega), if_neg (by omega), if_neg (by omega), if_neg (by omega)]
      omega)
    refine ⟨⟨?_, ?_, ?_, ?_, ?_, fun k k0 k1 => ?_, fun w k k0 k1 => ?_⟩, fun w => ?_⟩
    · rw [row 1 (by decide) (by decide) (by decide) (by decide)]; exact q1'
    · rw [row 2 (by decide) (by decide) (by decide) (by decide)]; exact q2
    · rw [row 3 (by decide) (by decide) (by decide) (by decide)]; exact q3
    · rw [row 3 (by decide) (by decide) (by decide) (by decide)]; exact q4
    · rw [row 4 (by decide) (by decide) (by decide) (by decide)]; exact h35
    · rw [eL 5 (p * 3 + k) (by decide) (by omega) (show p * 3 + k < 48 by omega), Int.add_assoc]; exact q5 k k0 k1
    · rw [eL 6 (p * 3 + k) (by decide) (by omega) (show p * 3 + k < 48 by omega), Int.add_assoc]; exact q6 w k k0 k1
    · exact EQ_of (he w) n4 p0 (by omega) cT vT rfl (row 7 (by decide) (by decide) (by decide) (by decide)) (row 8 (by decide) (by decide) (by decide) (by decide)) (row 9 (by decide) (by decide) (by decide) (by decide)) (fun i i0 i1 => eL 10 i (by decide) i0 (show i < 400 from i1))
  · rw [e11, kp (178 + i) (by omega) (by omega)]; exact h4 i i0 i1
  · rw [e12, kp (160 + i) (by omega) (by omega)]; exact h5 i i0 i1
theorem s_country (ht : t < 512) (h : J t M) : zcI (d + 48) 105 [zA 29] M (fun x M1 => zcI (d + 48) 179 [zA 113] M1 (fun y M2 => x = y ∧ J (t + 1) M2)) := by
  obtain ⟨h1, h2, h3, h4, h5, h6, h7, h8⟩ := id h
  obtain ⟨⟨l1, l2, l3⟩, l4, l5⟩ := id h1
  have hB : BYT (M 119) (M 29 1) := ⟨⟨l2, l3⟩, fun i i0 i1 => (l5 i i0 i1).2⟩
  have ag : ∀ i, 0 ≤ i → i < M 29 1 → M 30 i = M 119 i := fun i i0 i1 => (l5 i i0 i1).1
  have hB' : BYT (M 30) (M 29 1) := ⟨⟨l2, l3⟩, fun i i0 i1 => by rw [ag i i0 i1]; exact (l5 i i0 i1).2⟩
  obtain ⟨tt, t1, t2, t3⟩ := tok_end hB
  have hT := cF_tkc hB t1
  have hC := cF_cvt (T' := M 30) hB t3 ag
  have hF := cF_fin (T' := M 30) hB t3 t2 ag
  have og := oC_rg (n := 5000) hT (by decide) 16 0 0 0 (fun _ => 0) (by decide) (by decide) (by decide) hT.1.1 (by decide) (by decide) (fun p p0 p1 => by omega)
  apply vX9_country
  refine zset ?_
  refine c_read (d := d) (M := zup M 29 1 0) (T := M 30) (n := 5000) (zup_row (by decide)) hB' hT hC (by decide) hF ?_
  generalize ho : oC (cF (M 119) (M 29 1) tt) (vF (M 119) (M 29 1) tt) 5000 tt 16 0 0 0 (fun _ => 0) = o at *
  cases o with
  | inl j =>
    obtain ⟨j0, j1⟩ : 0 ≤ j ∧ j ≤ (tt : Int) := og
    intro M2 ca
    have r := tS_rg (M 30) hB.1.1 j.toNat
    refine zset ?_
    rw [zup_eq]
    refine ⟨fun z => by omega, fun _ => ?_⟩
    -- the class's memory
    have r2 : ∀ b, b ≠ 29 → (b < 31 ∨ 42 < b) → zup M2 29 2 (tP (M 30) (M 29 1) j.toNat) b = M b := fun b b1 b2 => by rw [zup_row b1, ca b b2, zup_row b1]
    have r29 : ∀ i, zup M2 29 2 (tP (M 30) (M 29 1) j.toNat) 29 i = if i = 2 then tP (M 30) (M 29 1) j.toNat else if i = 1 then 0 else M 29 i := fun i => by rw [zup_at, ca 29 (by decide), zup_at]
    generalize hM3 : zup M2 29 2 (tP (M 30) (M 29 1) j.toNat) = M3 at *
    refine c_refuse (fun i i0 i1 => by rw [r2 112 (by decide) (by decide)]; exact h2.k ht i i0 i1) ?_
    have r4 : ∀ b, b ≠ 29 → b ≠ 112 → (b < 31 ∨ 42 < b) → rfC M3 (-6) b = M b := fun b b1 b2 b3 => by unfold rfC; rw [zup_row b2, zup_row b1, r2 b b1 b3]
    have e119 : rfC M3 (-6) 119 = M 119 := r4 119 (by decide) (by decide) (by decide)
    refine m_country (D := d + 7) (M := rfC M3 (-6)) (L := M 29 1) (t := tt) (o := .inl j) ?_ ?_ ?_ t1 ?_ ?_ ?_ (fun j' ej M4 mc e115 e9 e10 => ?_) (fun Q R e => by cases e)
    · exact h7.fr (r4 118 (by decide) (by decide) (by decide)) (by rw [r4 113 (by decide) (by decide) (by decide)])
    · rw [r4 113 (by decide) (by decide) (by decide)]; exact l1.symm
    · rw [e119]; exact hB
    · rw [e119]; exact t2
    · rw [e119]; exact t3
    · rw [e119]; exact ho
    · cases ej
      rw [e119] at e10
      have m114 : M4 114 = M 114 := by rw [mc.1 114 (by decide) (by decide) (by decide), r4 114 (by decide) (by decide) (by decide)]
      have jr := h2.2.2.2.2
      have jr : M 112 3 = M 114 6 ∧ 0 ≤ M 114 6 ∧ M 114 6 ≤ t := jr
      refine m_refuses (by omega) ?_ ?_
      · rw [m114]
        show 0 ≤ M 114 6 ∧ M 114 6 ≤ 1000
        omega
      · refine ⟨rfl, (h.refuse (k := -6) (by decide)).swap ?_ (fun b b1 b2 b3 b4 => ?_) (fun i i0 i1 => ?_) (fun i i0 => ?_)⟩
        · have a1 : zup (zup M4 113 0 (-6)) 114 (- -6) (M4 114 (- -6) + 1) 29 1 = 0 := by
            rw [zup_row (by decide), zup_row (by decide), mc.1 29 (by decide) (by decide) (by decide)]
            unfold rfC
            rw [zup_row (by decide), zup_at, if_neg (by decide), r29, if_neg (by decide), if_pos rfl]
          have a2 : zup (zup M4 113 0 (-6)) 114 (- -6) (M4 114 (- -6) + 1) 29 2 = tP (M 30) (M 29 1) j.toNat := by
            rw [zup_row (by decide), zup_row (by decide), mc.1 29 (by decide) (by decide) (by decide)]
            unfold rfC
            rw [zup_row (by decide), zup_at, if_neg (by decide), r29, if_pos rfl]
          have a3 : zup (zup M4 113 0 (-6)) 114 (- -6) (M4 114 (- -6) + 1) 113 9 = 0 := by rw [zup_row (by decide), zup_at, if_neg (by decide)]; exact e9
          have a4 : zup (zup M4 113 0 (-6)) 114 (- -6) (M4 114 (- -6) + 1) 113 10 = tP (M 119) (M 29 1) j.toNat := by rw [zup_row (by decide), zup_at, if_neg (by decide)]; exact e10
          unfold JT
          rw [a1, a2, a3, a4, (tS_cg hB.1.1 ag j.toNat).2]
          exact ⟨⟨rfl, by decide, by decide⟩, rfl, fun i i0 i1 => by omega⟩
        · by_cases c1 : b = 112
          · subst c1
            rw [zup_row (by decide), zup_row (by decide), mc.1 112 (by decide) (by decide) (by decide)]
            unfold rfM rfC
            rw [zup_row (show (112 : Nat) ≠ 114 by decide), zup_row (show (112 : Nat) ≠ 113 by decide), zup_kup, zup_kup, zup_row (show (112 : Nat) ≠ 29 by decide), zup_row (show (112 : Nat) ≠ 29 by decide), r2 112 (by decide) (by decide)]
          · by_cases c2 : b = 114
            · subst c2
              rw [zup_kup, zup_row (by decide), m114]
              unfold rfM rfC
              rw [zup_kup, zup_row (show (114 : Nat) ≠ 113 by decide), zup_row (show (114 : Nat) ≠ 112 by decide), zup_row (show (114 : Nat) ≠ 29 by decide)]
            · have lhs : zup (zup M4 113 0 (-6)) 114 (- -6) (M4 114 (- -6) + 1) b = M b := by
                rw [zup_row c2, zup_row b2]
                by_cases c3 : b = 115
                · rw [c3, e115, r4 115 (by decide) (by decide) (by decide)]
                · rw [mc.1 b b2 c3 (by omega), r4 b b1 c1 (by omega)]
              rw [lhs]
              unfold rfM rfC
              rw [zup_row c2, zup_row b2, zup_row c1, zup_row b1]
        · rw [zup_row (by decide), zup_row (by decide), mc.1 29 (by decide) (by decide) (by decide)]
          unfold rfM rfC
          rw [zup_row (show (29 : Nat) ≠ 114 by decide), zup_row (show (29 : Nat) ≠ 113 by decide), zup_row (show (29 : Nat) ≠ 112 by decide), zup_row (show (29 : Nat) ≠ 112 by decide), zup_at, zup_at, r29, if_neg i1, if_neg i0]
        · rw [zup_row (by decide), zup_at, mc.2 i i0, r4 113 (by decide) (by decide) (by decide)]
          unfold rfM rfC
          rw [zup_row (show (113 : Nat) ≠ 114 by decide), zup_at, zup_row (show (113 : Nat) ≠ 112 by decide), zup_row (show (113 : Nat) ≠ 29 by decide)]
  | inr QR =>
    obtain ⟨Q, R⟩ := QR
    obtain ⟨⟨Q1, Q2⟩, hW⟩ : (1 ≤ Q ∧ Q ≤ 16) ∧ oW Q R := og
    intro M2 n1 ca n4 e31 hP
    refine zset ?_
    rw [zup_eq]
    refine ⟨fun _ => ?_, fun z => absurd rfl z⟩
    have r2 : ∀ b, b ≠ 29 → (b < 31 ∨ 42 < b) → zup M2 29 2 (-1) b = M b := fun b b1 b2 => by rw [zup_row b1, ca b b2, zup_row b1]
    have r29 : ∀ i, zup M2 29 2 (-1) 29 i = if i = 2 then -1 else if i = 1 then 0 else M 29 i := fun i => by rw [zup_at, ca 29 (by decide), zup_at]
    have rl : ∀ b, 31 ≤ b → b ≤ 42 → zup M2 29 2 (-1) b = M2 b := fun b b1 b2 => zup_row (by omega)
    generalize hM3 : zup M2 29 2 (-1) = M3 at *
    refine c_copyLand_44_31 (fun M5 f5 g5 => ?_)
    have e44 : M5 44 0 = Q := by
      have := g5 0 0 (by decide) (by decide) (by decide)
      rw [show (44 : Nat) = 44 + 0 from rfl, this]
      show M3 31 0 = Q
      rw [rl 31 (by decide) (by decide)]
      exact e31
    rw [e44]
    refine c_grant ?_
    have r5 : ∀ b, b ≠ 29 → (b < 31 ∨ 42 < b) → (b < 44 ∨ 54 < b) → gdC M5 b = M b := fun b b1 b2 b3 => by unfold gdC; rw [zup_row b1, f5 b b3, r2 b b1 b2]
    have e119 : gdC M5 119 = M 119 := r5 119 (by decide) (by decide) (by decide)
    refine m_country (D := d + 7) (M := gdC M5) (L := M 29 1) (t := tt) (o := .inr (Q, R)) ?_ ?_ ?_ t1 ?_ ?_ ?_ (fun j e => by cases e) (fun Q' R' e M6 mc e9 e10 e115 => ?_)
    · exact h7.fr (r5 118 (by decide) (by decide) (by decide)) (by rw [r5 113 (by decide) (by decide) (by decide)])
    · rw [r5 113 (by decide) (by decide) (by decide)]; exact l1.symm
    · rw [e119]; exact hB
    · rw [e119]; exact t2
    · rw [e119]; exact t3
    · rw [e119]; exact ho
    · cases e
      rw [e119, r5 115 (by decide) (by decide) (by decide)] at e115
      have hv := h6.1
      have m1 : M6 113 1 = M 113 1 := by rw [mc.2 1 (by decide), r5 113 (by decide) (by decide) (by decide)]
      refine m_good (by rw [m1]; omega) ⟨rfl, ?_⟩
      have row : ∀ b, b ≠ 29 → b ≠ 113 → b ≠ 115 → (b < 31 ∨ 42 < b) → (b < 44 ∨ 54 < b) → (b < 121 ∨ 124 < b) → zup (zup M6 113 0 0) 113 1 (M6 113 1 + 1) b = M b := fun b b1 b2 b3 b4 b5 b6 => by rw [zup_row b2, zup_row b2, mc.1 b b2 b3 b6, r5 b b1 b4 b5]
      have q29 : ∀ i, zup (zup M6 113 0 0) 113 1 (M6 113 1 + 1) 29 i = if i = 15 then 0 else if i = 2 then -1 else if i = 1 then 0 else M 29 i := fun i => by
        rw [zup_row (by decide), zup_row (by decide), mc.1 29 (by decide) (by decide) (by decide)]
        unfold gdC
        rw [zup_at, f5 29 (by decide), r29]
      have q113 : ∀ i, (i < 9 ∨ 20 < i) → i ≠ 0 → i ≠ 1 → zup (zup M6 113 0 0) 113 1 (M6 113 1 + 1) 113 i = M 113 i := fun i i0 i1 i2 => by rw [zup_at, if_neg i2, zup_at, if_neg i1, mc.2 i i0, r5 113 (by decide) (by decide) (by decide)]
      have q115 : zup (zup M6 113 0 0) 113 1 (M6 113 1 + 1) 115 = kR (M 115) Q R (cF (M 119) (M 29 1) tt) (vF (M 119) (M 29 1) tt) tt tt := by rw [zup_row (by decide), zup_row (by decide)]; exact e115
      refine h.grant ht ?_ ?_ ?_ (row 112 (by decide) (by decide) (by decide) (by decide) (by decide) (by decide)) (row 114 (by decide) (by decide) (by decide) (by decide) (by decide) (by decide)) (q113 26 (by decide) (by decide) (by decide)) ?_ ?_ (h4.fr (row 86 (by decide) (by decide) (by decide) (by decide) (by decide) (by decide)) (row 117 (by decide) (by decide) (by decide) (by decide) (by decide) (by decide)) (row 116 (by decide) (by decide) (by decide) (by decide) (by decide) (by decide)) (fun b b1 b2 => row b (by omega) (by omega) (by omega) (by omega) (by omega) (by omega))) (h5.fr (row 110 (by decide) (by decide) (by decide) (by decide) (by decide) (by decide)) (row 111 (by decide) (by decide) (by decide) (by decide) (by decide) (by decide)) (row 139 (by decide) (by decide) (by decide) (by decide) (by decide) (by decide)) (q113 46 (by decide) (by decide) (by decide)) (q113 47 (by decide) (by decide) (by decide))) (h7.fr (row 118 (by decide) (by decide) (by decide) (by decide) (by decide) (by decide)) (q113 29 (by decide) (by decide) (by decide))) (h8.fr (row 106 (by decide) (by decide) (by decide) (by decide) (by decide) (by decide)))
      · rw [q29, if_pos rfl]
      · rw [zup_at, if_neg (by decide), zup_eq]
      · rw [zup_eq, m1]
      · have a3 : zup (zup M6 113 0 0) 113 1 (M6 113 1 + 1) 113 9 = 0 := by rw [zup_at, if_neg (by decide), zup_at, if_neg (by decide)]; exact e9
        have a4 : zup (zup M6 113 0 0) 113 1 (M6 113 1 + 1) 113 10 = -1 := by rw [zup_at, if_neg (by decide), zup_at, if_neg (by decide)]; exact e10
        unfold JT
        rw [q29, q29, a3, a4, if_neg (by decide), if_neg (by decide), if_pos rfl, if_neg (by decide), if_pos rfl]
        exact ⟨⟨rfl, by decide, by decide⟩, rfl, fun i i0 i1 => by omega⟩
      · rw [q115]
        refine BK_new (M1 := M3) (n1 := n1) h3 Q1 Q2 hT.1.1 hT.1.2 hW n4 (by rw [rl 31 (by decide) (by decide)]; exact e31) (fun p p0 p1 => ?_) (fun i hi => if_neg hi) (fun i hi => if_neg hi) (fun j i hj i0 i1 => ?_) ?_ ?_
        · have := hP p p0 p1
          unfold cPL CQ CE at *
          rw [rl 32 (by decide) (by decide), rl 33 (by decide) (by decide), rl 34 (by decide) (by decide), rl 35 (by decide) (by decide), rl 36 (by decide) (by decide), rl 37 (by decide) (by decide), rl 38 (by decide) (by decide), rl 39 (by decide) (by decide), rl 40 (by decide) (by decide), rl 41 (by decide) (by decide)]
          exact this
        · show zup (zup M6 113 0 0) 113 1 (M6 113 1 + 1) (44 + j) i = _
          rw [zup_row (by omega), zup_row (by omega), mc.1 (44 + j) (by omega) (by omega) (by omega)]
          unfold gdC
          rw [zup_row (by omega)]
          exact g5 j i hj i0 i1
        · exact row 55 (by decide) (by decide) (by decide) (by decide) (by decide) (by decide)
        · exact row 56 (by decide) (by decide) (by decide) (by decide) (by decide) (by decide)
end CY
