/-! the class's secondBelief -/
theorem c_second {d a b : Nat} {M : ZM} {K : Int → Int} {P : Int} {Q : Int → ZM → Prop} (hL : CL K M) (hT : CT K M) (hx : NX M a b) (hH : ∀ j, 0 ≤ j → j < 18 → M 91 j = K (160 + j)) (hP : FKP K P) (hQ : ∀ M', (∀ x, x ≠ 94 → x ≠ 106 → x ≠ 107 → x ≠ 108 → M' x = M x) → JF M' → zcI (d + 3) 26 [zJ (TT2 K P gB ((K 179).toNat + 1)), zJ (TT2 K P gA ((K 179).toNat + 1) * 27720)] M' Q) : zcI (d + 4) 24 [zA 106, zI P] M Q := by
  obtain ⟨hW, c1, c2, c3⟩ := id hL
  have hday := hW.2.2.1
  have hpl := hW.1
  have hD : HD (M 91) := hW.hd.congr hH
  obtain ⟨D, hD'⟩ : ∃ D : Nat, (D : Int) = K 179 := ⟨(K 179).toNat, by omega⟩
  have eD : (K 179).toNat = D := by omega
  rw [eD] at hQ
  apply vX2_secondBelief
  refine c_startW hx (Or.inr rfl) hL hT hD (fun MS rS kS wS tS fS vS => ⟨by omega, ?_⟩)
  have ao : ∀ x, x < 107 → x ≠ a ∧ x ≠ b := by intro x hx'; rcases hx.1 with ⟨rfl, rfl⟩ | ⟨rfl, rfl⟩ <;> omega
  have e55 : MS 55 1 = K 179 := by rw [rS 55 (by decide) (by decide) (ao 55 (by decide)).1]; exact c2.2.1
  rw [e55]
  -- a row, where the first q PLACES are counted
  let VAL := fun (s : Nat) (q : Int) (a : Nat) (M1 : ZM) => ∀ r N, 0 ≤ r → r < 16 → 0 ≤ N → N < 12 → M1 a (r * 24 + N) = (if r < q then SA2 K P s r N else SA20 K P s r N) * 10 ^ (10 - s) ∧ M1 a (r * 24 + 12 + N) = (if r < q then SB2 K P s r N else SB20 K P s r N) * 10 ^ (10 - s)
  let FRM := fun (a b : Nat) (M1 : ZM) => (∀ x, x ≠ 94 → x ≠ 106 → x ≠ 107 → x ≠ 108 → M1 x = M x) ∧ NX M1 a b ∧ M1 106 3 = 24 ∧ CT K M1 ∧ CF K M1
  have lp : ∀ m s a b : Nat, ∀ M1 : ZM, s + m = D + 1 → FRM a b M1 → ((s : Int) ≤ K 179 → VAL s 0 a M1) → wX2_secondBelief (d + 3) 28 [(0, zA 106), (1, zI P), (2, zJ (TT2 K P gA s)), (4, zJ (TT2 K P gB s)), (6, zI (K 179)), (7, zI (s : Int))] M1 Q := by
    intro m
    induction m with
    | zero =>
      intro s a b M1 hm ⟨i1, i2, i3, i4, i5⟩ i6
      obtain rfl : s = D + 1 := by omega
      have t := TT2_le hW hP (D + 1) (by omega)
      apply vX2_secondBelief_28
      exact ⟨fun _ => ⟨⟨by omega, by omega⟩, hQ M1 i1 i2.jf⟩, fun z => by omega⟩
    | succ m ih =>
      intro s a b M1 hm ⟨i1, i2, i3, i4, i5⟩ i6
      have hs : (s : Int) ≤ K 179 := by omega
      have hs10 : s ≤ 10 := by omega
      have t := TT2_le hW hP s (by omega)
      have u0 := pow10_pos (10 - s)
      have ps := p10s hs10
      have un : (0 : Int) ≤ 10 ^ (10 - s) := by omega
      have fw : ∀ r, 0 ≤ r → r < 16 → FW K s r * 10 ^ (10 - s) ≤ 10000000000 := fun r r0 r1 => by
        have := Int.mul_le_mul_of_nonneg_right (FW_le hW s r0 r1).2 un
        omega
      have vb : ∀ (q r N : Int), 0 ≤ r → r < 16 → 0 ≤ N → N < 12 → (0 ≤ (if r < q then SA2 K P s r N else SA20 K P s r N) * 10 ^ (10 - s) ∧ (if r < q then SA2 K P s r N else SA20 K P s r N) * 10 ^ (10 - s) ≤ 10000000000) ∧ 0 ≤ (if r < q then SB2 K P s r N else SB20 K P s r N) * 10 ^ (10 - s) ∧ (if r < q then SB2 K P s r N else SB20 K P s r N) * 10 ^ (10 - s) ≤ 110000000000 := by
        intro q r N r0 r1 N0 N1
        have g := SA_rg hW hP s r N0 N1
        have g0 := SA0_rg hW hP s r N0 N1
        have f := fw r r0 r1
        have e1 : 0 ≤ (if r < q then SA2 K P s r N else SA20 K P s r N) ∧ (if r < q then SA2 K P s r N else SA20 K P s r N) ≤ FW K s r := by split <;> omega
        have e2 : 0 ≤ (if r < q then SB2 K P s r N else SB20 K P s r N) ∧ (if r < q then SB2 K P s r N else SB20 K P s r N) ≤ 11 * FW K s r := by split <;> omega
        have m1 := Int.mul_nonneg e1.1 un
        have m2 := Int.mul_le_mul_of_nonneg_right e1.2 un
        have m3 := Int.mul_nonneg e2.1 un
        have m4 := Int.mul_le_mul_of_nonneg_right e2.2 un
        rw [Int.mul_assoc] at m4
        omega
      have inner : ∀ (n q : Nat) (M2 : ZM), q + n = 16 → FRM a b M2 → VAL s q a M2 → wX2_secondBelief (d + 3) 38 [(0, zA 106), (1, zI P), (2, zJ (TT2 K P gA s + sN (EX2 K P gA s) q * 10 ^ (10 - s))), (4, zJ (TT2 K P gB s + sN (EX2 K P gB s) q * 10 ^ (10 - s))), (6, zI (K 179)), (7, zI (s : Int)), (8, zI (q : Int))] M2 Q := by
        intro n
        induction n with
        | zero =>
          intro q M2 hq ⟨j1, j2, j3, j4, j5⟩ j6
          obtain rfl : q = 16 := by omega
          have ab' : ∀ x, x ≠ 107 → x ≠ 108 → x ≠ a ∧ x ≠ b := by intro x h1 h2; rcases j2.1 with ⟨rfl, rfl⟩ | ⟨rfl, rfl⟩ <;> exact ⟨by omega, by omega⟩
          have L2 : CL K M2 := hL.congr (fun x hx => j1 x (by omega) (by omega) (by omega) (by omega))
          apply vX2_secondBelief_38
          refine ⟨fun _ => c_goOnB (a := a) (b := b) (f := fun r x => if x < 12 then SA2 K P s r x else SB2 K P s r (x - 12)) j2 j3 L2 j4 j5 (fun j y0 y1 => by rw [j1 91 (by decide) (by decide) (by decide) (by decide)]; exact hH j y0 y1) hs (fun r x r0 r1 x0 x1 => ?_) (fun r x r0 r1 x0 x1 => ?_) (fun M3 r3 k3 x3 v3 => ⟨⟨by omega, by omega⟩, ?_⟩), fun z => by omega⟩
          · by_cases hx : x < 12
            · rw [if_pos hx, (j6 r x r0 r1 x0 hx).1, if_pos (by omega)]
            · rw [if_neg hx]
              have := (j6 r (x - 12) r0 r1 (by omega) (by omega)).2
              rw [if_pos (by omega), show r * 24 + 12 + (x - 12) = r * 24 + x by omega] at this
              exact this
          · by_cases hx : x < 12
            · rw [if_pos hx]
              have := SA_rg hW hP s r x0 hx
              have := (FW_le hW s r0 r1).1
              omega
            · rw [if_neg hx]
              have := SA_rg hW hP s r (N := x - 12) (by omega) (by omega)
              omega
          · refine ih (s + 1) b a M3 (by omega) ⟨fun x h1 h2 h3 h4 => ?_, x3, ?_, fun p p0 p1 => ?_, fun p p0 p1 pk => ?_⟩ (fun hs1 r N r0 r1 N0 N1 => ?_)
            · rw [r3 x h2 (ab' x h3 h4).2, j1 x h1 h2 h3 h4]
            · rw [k3 3 (by omega) (by omega)]; exact j3
            · rw [r3 94 (by decide) (ab' 94 (by decide) (by decide)).2]; exact j4 p p0 p1
            · rw [r3 94 (by decide) (ab' 94 (by decide) (by decide)).2, r3 91 (by decide) (ab' 91 (by decide) (by decide)).2]; exact j5 p p0 p1 pk
            · rw [if_neg (by omega), if_neg (by omega)]
              have v1 := v3 (by omega) r N r0 r1 N0 (by omega)
              have v2 := v3 (by omega) r (12 + N) r0 r1 (by omega) (by omega)
              rw [← Int.add_assoc] at v2
              rw [v1, v2, SA20_s, SB20_s]
              refine ⟨congrArg (fun x => x * 10 ^ (10 - (s + 1))) (FP_cg _ (fun p _ _ => ?_)), congrArg (fun x => x * 10 ^ (10 - (s + 1))) (FP_cg _ (fun p _ _ => ?_))⟩
              · rw [if_pos N1]
              · rw [if_neg (by omega), show 12 + N - 12 = N by omega]
        | succ n ihn =>
          intro q M2 hq ⟨j1, j2, j3, j4, j5⟩ j6
          obtain ⟨z1, z2, z3, z4, z5, z6, z7, z8⟩ := j2.zk
          have L2 : CL K M2 := hL.congr (fun x hx => j1 x (by omega) (by omega) (by omega) (by omega))
          have aa : ∀ x, x ≠ 107 → x ≠ 108 → x ≠ a := by intro x h1 h2; rcases j2.1 with ⟨rfl, rfl⟩ | ⟨rfl, rfl⟩ <;> omega
          have a107 : a = 107 ∨ a = 108 := by rcases j2.1 with ⟨rfl, rfl⟩ | ⟨rfl, rfl⟩ <;> decide
          -- what comes behind the counting
          have tail : ∀ M3 : ZM, FRM a b M3 → VAL s ((q + 1 : Nat) : Int) a M3 → zcI (d + 3) 15 [zA 89, zI (q : Int), zI (s : Int)] M3 (fun x5 M4 => (¬ x5 = 0 → r32 ((q : Int) + 1) ∧ wX2_secondBelief (d + 3) 38 [(0, zA 106), (1, zI P), (2, zJ (TT2 K P gA s + sN (EX2 K P gA s) q * 10 ^ (10 - s))), (4, zJ (TT2 K P gB s + sN (EX2 K P gB s) q * 10 ^ (10 - s))), (6, zI (K 179)), (7, zI (s : Int)), (8, zI ((q : Int) + 1))] M4 Q) ∧ (x5 = 0 → wX2_secondBelief (d + 3) 89 [(0, zA 106), (1, zI P), (2, zJ (TT2 K P gA s + sN (EX2 K P gA s) q * 10 ^ (10 - s))), (4, zJ (TT2 K P gB s + sN (EX2 K P gB s) q * 10 ^ (10 - s))), (6, zI (K 179)), (7, zI (s : Int)), (8, zI (q : Int)), (9, zI 1)] M4 Q)) := by
            intro M3 hF3 hV3
            obtain ⟨f1, f2, f3, f4, f5⟩ := id hF3
            have L3 : CL K M3 := hL.congr (fun x hx => f1 x (by omega) (by omega) (by omega) (by omega))
            have nx := ihn (q + 1) M3 (by omega) hF3 hV3
            have eA : sN (EX2 K P gA s) (q + 1) = sN (EX2 K P gA s) q + EX2 K P gA s q := rfl
            have eB : sN (EX2 K P gB s) (q + 1) = sN (EX2 K P gB s) q + EX2 K P gB s q := rfl
            rw [eA, eB] at nx
            refine c_goesOn L3 (by omega) (fun hp1 k3 hd => ⟨fun _ => ⟨⟨by omega, by omega⟩, ?_⟩, fun z => by omega⟩) (fun hno => ⟨fun z => absurd rfl z, fun _ => ?_⟩)
            · have x1 : EX2 K P gA s q = 0 := by unfold EX2; rw [if_pos ⟨hp1, k3, hd⟩]
              have x2 : EX2 K P gB s q = 0 := by unfold EX2; rw [if_pos ⟨hp1, k3, hd⟩]
              rw [x1, x2, Int.add_zero, Int.add_zero] at nx
              exact nx
            · have x1 : EX2 K P gA s q = sN (fun N => if N = 0 then 0 else SA2 K P s q N) 12 := by unfold EX2; rw [if_neg hno]; exact (W_SA s q).1
              have x2 : EX2 K P gB s q = sN (fun N => if N = 0 then 0 else SB2 K P s q N * Int.tdiv 27720 N) 12 := by unfold EX2; rw [if_neg hno]; exact (W_SA s q).2
              have we := EX2_le hW hP s q
              have fq := (FW_le hW s (q := q) (by omega) (by omega)).2
              rw [x1, x2] at we nx
              have es := EX2_sum hW hP s (n := q) (by omega)
              have nnA : ∀ N : Int, 0 ≤ N → N < (12 : Nat) → 0 ≤ (fun N => if N = 0 then 0 else SA2 K P s q N) N := fun N N0 N1 => by
                dsimp only
                have := SA_rg hW hP s q N0 (by omega)
                split <;> omega
              have nnB : ∀ N : Int, 0 ≤ N → N < (12 : Nat) → 0 ≤ (fun N => if N = 0 then 0 else SB2 K P s q N * Int.tdiv 27720 N) N := fun N N0 N1 => by
                dsimp only
                have g := SA_rg hW hP s q N0 (by omega)
                by_cases e : N = 0
                · rw [if_pos e]; omega
                · rw [if_neg e]
                  exact Int.mul_nonneg g.2.2.1 (by have := td_le (j := N) (by omega) (by omega); omega)
              have l89 : ∀ (k N : Nat), N + k = 12 → 1 ≤ N → wX2_secondBelief (d + 3) 89 [(0, zA 106), (1, zI P), (2, zJ (TT2 K P gA s + sN (EX2 K P gA s) q * 10 ^ (10 - s) + sN (fun N => if N = 0 then 0 else SA2 K P s q N) N * 10 ^ (10 - s))), (4, zJ (TT2 K P gB s + sN (EX2 K P gB s) q * 10 ^ (10 - s) + sN (fun N => if N = 0 then 0 else SB2 K P s q N * Int.tdiv 27720 N) N * 10 ^ (10 - s))), (6, zI (K 179)), (7, zI (s : Int)), (8, zI (q : Int)), (9, zI (N : Int))] M3 Q := by
                intro k
                induction k with
                | zero =>
                  intro N hN N1
                  obtain rfl : N = 12 := by omega
                  apply vX2_secondBelief_89
                  refine ⟨fun _ => ⟨⟨by omega, by omega⟩, ?_⟩, fun z => by omega⟩
                  rw [Int.add_mul, Int.add_mul, ← Int.add_assoc, ← Int.add_assoc] at nx
                  exact nx
                | succ k ihk =>
                  intro N hN N1
                  have nk := ihk (N + 1) (by omega) (by omega)
                  have a1 : sN (fun N => if N = 0 then 0 else SA2 K P s q N) (N + 1) = sN (fun N => if N = 0 then 0 else SA2 K P s q N) N + SA2 K P s q N := by
                    show _ + (if (N : Int) = 0 then 0 else SA2 K P s q N) = _
                    rw [if_neg (by omega)]
                  have a2 : sN (fun N => if N = 0 then 0 else SB2 K P s q N * Int.tdiv 27720 N) (N + 1) = sN (fun N => if N = 0 then 0 else SB2 K P s q N * Int.tdiv 27720 N) N + SB2 K P s q N * Int.tdiv 27720 N := by
                    show _ + (if (N : Int) = 0 then 0 else SB2 K P s q N * Int.tdiv 27720 N) = _
                    rw [if_neg (by omega)]
                  have y0A := sN_nn (f := fun N => if N = 0 then 0 else SA2 K P s q N) (n := N) (fun r r0 r1 => nnA r (by omega) (by omega))
                  have y0B := sN_nn (f := fun N => if N = 0 then 0 else SB2 K P s q N * Int.tdiv 27720 N) (n := N) (fun r r0 r1 => nnB r (by omega) (by omega))
                  have y1A := sN_mono (f := fun N => if N = 0 then 0 else SA2 K P s q N) (m := N + 1) (n := 12) (fun r r0 r1 => nnA r (by omega) (by omega)) (by omega)
                  have y1B := sN_mono (f := fun N => if N = 0 then 0 else SB2 K P s q N * Int.tdiv 27720 N) (m := N + 1) (n := 12) (fun r r0 r1 => nnB r (by omega) (by omega)) (by omega)
                  have g := SA_rg hW hP s q (N := N) (by omega) (by omega)
                  have td := td_le (j := N) (by omega) (by omega)
                  have tdu : Int.tdiv 27720 (N : Int) ≤ 27720 := by
                    have := Int.mul_le_mul_of_nonneg_left (show (1 : Int) ≤ N by omega) (show 0 ≤ Int.tdiv 27720 (N : Int) by omega)
                    omega
                  obtain ⟨e1, e2⟩ := hV3 q N (by omega) (by omega) (by omega) (by omega)
                  rw [if_pos (by omega)] at e1
                  rw [if_pos (by omega)] at e2
                  have vbN := vb ((q + 1 : Nat) : Int) q N (by omega) (by omega) (by omega) (by omega)
                  rw [if_pos (by omega), if_pos (by omega)] at vbN
                  rw [a1] at y1A nk
                  rw [a2] at y1B nk
                  have y2B : 0 ≤ SB2 K P s q N * Int.tdiv 27720 N := Int.mul_nonneg g.2.2.1 (by omega)
                  have mB : SB2 K P s q N * 10 ^ (10 - s) * Int.tdiv 27720 N = SB2 K P s q N * Int.tdiv 27720 N * 10 ^ (10 - s) := Int.mul_right_comm ..
                  have k1 := Int.mul_le_mul_of_nonneg_right (show sN (fun N => if N = 0 then 0 else SA2 K P s q N) N + SA2 K P s q N ≤ 10 ^ s by omega) un
                  have k2 := Int.mul_le_mul_of_nonneg_right (show sN (fun N => if N = 0 then 0 else SB2 K P s q N * Int.tdiv 27720 N) N + SB2 K P s q N * Int.tdiv 27720 N ≤ 27720 * 10 ^ s by omega) un
                  have k3 := Int.mul_nonneg y0A un
                  have k4 := Int.mul_nonneg y0B un
                  have k5 := Int.mul_nonneg y2B un
                  have k6 := Int.mul_nonneg es.1 un
                  have k7 := Int.mul_le_mul_of_nonneg_right (show sN (EX2 K P gB s) q ≤ 27720 * 10 ^ s by omega) un
                  have k8 := Int.mul_nonneg es.2.2.1 un
                  have k9 := Int.mul_le_mul_of_nonneg_right es.2.2.2 un
                  rw [Int.mul_assoc, ps] at k7 k2
                  rw [Int.add_mul] at k1 k2 nk
                  rw [Int.add_mul] at nk
                  apply vX2_secondBelief_89
                  rw [f2.2.1, Int.toNat_natCast, z1, z2, e1, e2, mB]
                  refine ⟨fun z => by omega, fun _ => ⟨⟨by omega, by omega⟩, ⟨by omega, by omega⟩, ⟨by omega, by omega⟩, ⟨by omega, by omega⟩, ⟨by omega, by omega⟩, ⟨by omega, by omega⟩, ⟨by omega, by omega⟩, ⟨by omega, by omega⟩, by omega, ⟨by omega, by omega⟩, ⟨by omega, by omega⟩, ⟨by omega, by omega⟩, ⟨by omega, by omega⟩, ?_⟩⟩
                  rw [← Int.add_assoc, ← Int.add_assoc] at nk
                  exact nk
              have := l89 11 1 (by omega) (by omega)
              have s1 : sN (fun N => if N = 0 then 0 else SA2 K P s q N) 1 * 10 ^ (10 - s) = 0 := by show (0 + 0) * _ = (0 : Int); rw [Int.add_zero, Int.zero_mul]
              have s2 : sN (fun N => if N = 0 then 0 else SB2 K P s q N * Int.tdiv 27720 N) 1 * 10 ^ (10 - s) = 0 := by show (0 + 0) * _ = (0 : Int); rw [Int.add_zero, Int.zero_mul]
              rw [s1, s2, Int.add_zero, Int.add_zero] at this
              exact this
          -- where nothing is counted
          have no : lQ K P q = 0 → VAL s ((q + 1 : Nat) : Int) a M2 := by
            intro l0 r N r0 r1 N0 N1
            have e := j6 r N r0 r1 N0 N1
            by_cases hr : r < q
            · rw [if_pos hr, if_pos hr] at e
              rw [if_pos (by omega), if_pos (by omega)]; exact e
            · rw [if_neg hr, if_neg hr] at e
              by_cases hr2 : r = q
              · subst hr2
                have m0 : mE P q = 0 := by have := mE_le hP q; have := mE_rg P q; omega
                obtain ⟨y1, y2⟩ := S_cnt hP s hs10 q N
                rw [l0, Int.sub_zero] at y1 y2
                rw [m0, Int.zero_mul, Int.add_zero] at y2
                rw [if_pos (by omega), if_pos (by omega), y1, y2]
                exact e
              · rw [if_neg (by omega), if_neg (by omega)]; exact e
          have cnt : lQ K P q = 1 → ∀ {Q2 : ZM → Prop}, (∀ M3, FRM a b M3 → VAL s ((q + 1 : Nat) : Int) a M3 → Q2 M3) → zcV (d + 3) 25 [zA 106, zI (q : Int), zI (mE P q)] M2 Q2 := by
            intro l1 Q2 h2
            refine c_countOne (a := a) (b := b) j2 (by omega) (by omega) (mE_rg P q) (fun y y0 y1 => ?_) (fun M3 r3 o3 v3 => h2 M3 ⟨fun x h1 h2 h3 h4 => ?_, ⟨j2.1, ?_, ?_⟩, ?_, fun p p0 p1 => ?_, fun p p0 p1 pk => ?_⟩ (fun r N r0 r1 N0 N1 => ?_))
            · by_cases hy : y % 24 < 12
              · have e := (j6 (y / 24) (y % 24) (by omega) (by omega) (by omega) hy).1
                have b1 := (vb q (y / 24) (y % 24) (by omega) (by omega) (by omega) hy).1
                rw [show y / 24 * 24 + y % 24 = y by omega] at e
                rw [e]; omega
              · have e := (j6 (y / 24) (y % 24 - 12) (by omega) (by omega) (by omega) (by omega)).2
                have b1 := (vb q (y / 24) (y % 24 - 12) (by omega) (by omega) (by omega) (by omega)).2
                rw [show y / 24 * 24 + 12 + (y % 24 - 12) = y by omega] at e
                rw [e]; omega
            · rw [r3 x (by omega), j1 x h1 h2 h3 h4]
            · rw [r3 106 (by omega)]; exact j2.2.1
            · rw [r3 106 (by omega)]; exact j2.2.2
            · rw [r3 106 (by omega)]; exact j3
            · rw [r3 94 (by omega)]; exact j4 p p0 p1
            · rw [r3 94 (by omega), r3 91 (by omega)]; exact j5 p p0 p1 pk
            · by_cases hr : r = q
              · subst hr
                obtain ⟨y1, y2⟩ := S_cnt hP s hs10 q N
                obtain ⟨w1, w2⟩ := v3 N N0 N1
                rw [l1] at y1 y2
                rw [if_pos (by omega), if_pos (by omega), y1, y2, w1, w2]
                by_cases n0 : N = 0
                · obtain ⟨g1, g2⟩ := SA0_neg hP s q
                  rw [if_pos n0, if_pos n0, n0, show (0 : Int) - 1 = -1 by omega, g1, g2, Int.mul_zero]
                  exact ⟨by omega, by omega⟩
                · have e := j6 q (N - 1) (by omega) (by omega) (by omega) (by omega)
                  rw [if_neg (by omega), if_neg (by omega)] at e
                  rw [if_neg n0, if_neg n0, show (q : Int) * 24 + N - 1 = q * 24 + (N - 1) by omega, show (q : Int) * 24 + 12 + N - 1 = q * 24 + 12 + (N - 1) by omega, e.1, e.2, Int.add_mul, Int.mul_assoc]
                  exact ⟨rfl, rfl⟩
              · rw [o3 _ (by omega), o3 _ (by omega)]
                have e := j6 r N r0 r1 N0 N1
                by_cases hl : r < q
                · rw [if_pos hl, if_pos hl] at e
                  rw [if_pos (by omega), if_pos (by omega)]; exact e
                · rw [if_neg hl, if_neg hl] at e
                  rw [if_neg (by omega), if_neg (by omega)]; exact e
          have e44 : M2 44 0 = K 182 := L2.2.1
          apply vX2_secondBelief_38
          refine ⟨fun z => by omega, fun _ => ?_⟩
          have ln : ¬ (0 ≤ (q : Int) ∧ (q : Int) < M2 44 0 ∧ M2 45 q = 0) ∨ (¬ M2 90 q = M2 90 P) → lQ K P q = 0 := by
            intro hh
            unfold lQ
            rw [if_neg]
            intro z
            have c := L2.2.2.2 q (by omega) z.1
            have cP := L2.2.2.2 P hP.1 hP.2.1
            rcases hh with hh | hh
            · exact hh ⟨by omega, by rw [e44]; exact z.1, by rw [c.1]; exact z.2.1⟩
            · exact hh (by rw [c.2.1 z.2.1, cP.2.1 hP.2.2]; exact z.2.2)
          apply vX2_looksLike
          refine c_isKind (by rw [e44]; omega) (fun y0 y1 y2 => ⟨fun z => by omega, fun _ => ⟨by omega, ⟨hP.1, by have := hP.2.1; omega⟩, fun z => ⟨Or.inl rfl, fun _ => tail M2 ⟨j1, j2, j3, j4, j5⟩ (no (ln (Or.inr z))), fun w => absurd rfl w⟩, fun z => ⟨Or.inr rfl, fun w => by omega, fun _ => ?_⟩⟩⟩) (fun y => ⟨fun _ => ⟨Or.inl rfl, fun _ => tail M2 ⟨j1, j2, j3, j4, j5⟩ (no (ln (Or.inl y))), fun w => absurd rfl w⟩, fun w => absurd rfl w⟩)
          rw [e44] at y1
          have cq := L2.2.2.2 q (by omega) y1
          have cP := L2.2.2.2 P hP.1 hP.2.1
          rw [cq.1] at y2
          have l1 : lQ K P q = 1 := by
            unfold lQ
            rw [if_pos ⟨y1, y2, by rw [← cq.2.1 y2, ← cP.2.1 hP.2.2]; exact z⟩]
          have cn1 := @cnt l1
          refine ⟨fun ne => ?_, fun e => ?_⟩
          · rw [show mE P q = 0 by unfold mE; rw [if_neg ne]] at cn1
            exact cn1 (fun M3 h3 v3 => tail M3 h3 v3)
          · rw [show mE P q = 1 by unfold mE; rw [if_pos e]] at cn1
            exact cn1 (fun M3 h3 v3 => tail M3 h3 v3)
      have := inner 16 0 M1 (by omega) ⟨i1, i2, i3, i4, i5⟩ (i6 hs)
      have z1 : sN (EX2 K P gA s) 0 * 10 ^ (10 - s) = 0 := by show (0 : Int) * _ = 0; rw [Int.zero_mul]
      have z2 : sN (EX2 K P gB s) 0 * 10 ^ (10 - s) = 0 := by show (0 : Int) * _ = 0; rw [Int.zero_mul]
      rw [z1, z2, Int.add_zero, Int.add_zero] at this
      apply vX2_secondBelief_28
      exact ⟨fun z => by omega, fun _ => this⟩
  refine lp (D + 1) 0 a b MS (by omega) ⟨fun x h1 h2 h3 h4 => ?_, ⟨hx.1, by rw [kS 1 (by omega)]; exact hx.2.1, by rw [kS 2 (by omega)]; exact hx.2.2⟩, wS, tS, fS⟩ (fun _ r N r0 r1 N0 N1 => ?_)
  · have : x ≠ a := by rcases hx.1 with ⟨rfl, rfl⟩ | ⟨rfl, rfl⟩ <;> assumption
    rw [rS x h1 h2 this]
  · rw [if_neg (by omega), if_neg (by omega), SA20_0, SB20_0, vS r N r0 r1 N0 (by omega)]
    have v2 := vS r (12 + N) r0 r1 (by omega) (by omega)
    rw [← Int.add_assoc, if_neg (by omega)] at v2
    rw [v2]
    refine ⟨?_, by rw [Int.zero_mul]⟩
    split
    · decide
    · omega
