/-! the class's factor -/
theorem cq_zero {K : Int → Int} {lk p q : Int} (h : K (10 * p) ≠ 3 → rdc K p 0 ≠ q ∧ rdc K p 1 ≠ q ∧ rdc K p 2 ≠ q) (f : Int → Int) (i : Int) : cq K lk f p q i = 0 := by
  unfold cq cn
  by_cases k3 : K (10 * p) = 3
  · rw [if_neg (fun z => by have := z.1; omega), if_pos k3, Int.zero_mul]
  · obtain ⟨h0, h1, h2⟩ := h k3
    rw [if_neg h0, if_neg h1, if_neg k3, if_neg h0, if_neg h1, if_neg h2]
    split <;> omega
theorem FQ_rs {K : Int → Int} {lk : Int} {rs : Int → Int → Bool} (hW : WF K) (hC : RSC K rs) : ∀ (s : Nat) (q i : Int), (s : Int) ≤ K 179 → rs s q = false → FQ K lk s q i = 0 := by
  have hpl := hW.1
  intro s
  induction s with
  | zero =>
    intro q i _ hq
    unfold FQ
    rw [if_neg]
    rintro ⟨rfl, -⟩
    have := hC.1
    rw [show ((0 : Nat) : Int) = 0 from rfl] at hq
    rw [this] at hq
    cases hq
  | succ s ih =>
    intro q i hs hq
    have all : ∀ n : Nat, (n : Int) ≤ K 182 → FQP K lk (FQ K lk s) n q i = 0 := by
      intro n
      induction n with
      | zero => intro _; rfl
      | succ n ihn =>
        intro hn
        unfold FQP
        rw [ihn (by omega)]
        have hw := hW.2.2.2.2.2.2.2 n (by omega) (by omega)
        cases hr : rs s n with
        | false =>
          have z : ∀ i, FQ K lk s n i = 0 := fun i => ih n i (by omega) hr
          unfold cq
          rw [z i, z (i - 1)]
          split
          · split <;> split <;> omega
          · omega
        | true =>
          rw [cq_zero (fun k3 => ?_)]
          · omega
          · have st : ∀ k, 0 ≤ k → rdc K n k ≠ q := by
              intro k k0 e
              have h1 : 1 ≤ K (10 * (n : Int) + 2) := by
                obtain ⟨w1, w2, w3, w4, w5, w6⟩ := hw
                rcases (by omega : K (10 * (n : Int)) = 0 ∨ K (10 * (n : Int)) = 1 ∨ K (10 * (n : Int)) = 2) with q | q | q
                · have := w2 q; omega
                · have := w3 q; omega
                · have := w4 q; omega
              have g : ∀ j, 0 ≤ j → j < K (10 * (n : Int) + 2) → K (10 * (n : Int) + 3 + j) ≠ q := by
                intro j j0 j1 e
                have := hC.2 s n j (by omega) (by omega) (by omega) (by omega) j0 j1 hr
                rw [e, show (s : Int) + 1 = ((s + 1 : Nat) : Int) by omega, hq] at this
                cases this
              unfold rdc at e
              split at e
              · exact g k k0 (by omega) e
              · exact g _ (by omega) (by omega) e
            exact ⟨st 0 (by omega), st 1 (by omega), st 2 (by omega)⟩
    exact all _ (by omega)
theorem gnd_bd {K : Int → Int} {E : Int → Int → Int} (hW : WF K) (hE : EB K E) (n : Nat) {p : Int} (p0 : 0 ≤ p) : -999 ≤ gnd K E n p ∧ gnd K E n p ≤ 999 := by
  obtain ⟨a1, a2, a3, a4, a5, a6, a7, a8⟩ := hW
  have := hE p (K 179 - n)
  unfold gnd
  by_cases hp : p < K 182
  · rw [if_pos hp]
    by_cases k3 : K (10 * p) = 3
    · rw [if_pos k3]; omega
    · rw [if_neg k3]
      by_cases n0 : n = 0
      · rw [if_pos n0]; omega
      · rw [if_neg n0]
        by_cases k2 : K (10 * p) = 2
        · rw [if_pos k2]
          have := ((a8 p p0 hp).2.2.2.1 k2).1
          omega
        · rw [if_neg k2]; omega
  · rw [if_neg hp]; omega
theorem inn_bd {K : Int → Int} {E : Int → Int → Int} {lk : Int} (hW : WF K) (hE : EB K E) {s n k : Nat} (hk : k ≤ 10) : ∀ m : Nat, m ≤ 16 → -(999 * 30 ^ s) ≤ sN (fun p => gnd K E n p * FQ K lk s p k) m ∧ sN (fun p => gnd K E n p * FQ K lk s p k) m ≤ 999 * 30 ^ s := by
  obtain ⟨b1, b2⟩ := AE_bd (lk := lk) hW s
  have key : ∀ m : Nat, m ≤ 16 → -(999 * sN (AE K lk s) m) ≤ sN (fun p => gnd K E n p * FQ K lk s p k) m ∧ sN (fun p => gnd K E n p * FQ K lk s p k) m ≤ 999 * sN (AE K lk s) m := by
    intro m
    induction m with
    | zero => intro _; show -(999 * 0) ≤ (0 : Int) ∧ (0 : Int) ≤ 999 * 0; omega
    | succ m ih =>
      intro hm
      have ih := ih (by omega)
      have a1 := sA_at (FQ K lk s m) (i := (k : Int)) (by omega) (by omega)
      have a2 := FQ_abs (lk := lk) hW s m
      have g := gnd_bd hW hE n (p := m) (by omega)
      have f : -AE K lk s m ≤ FQ K lk s m k ∧ FQ K lk s m k ≤ AE K lk s m := by omega
      have x := wone (x := gnd K E n m) (B := 999) (T := AE K lk s m) (b1 m) g
      have y : -(999 * AE K lk s m) ≤ gnd K E n m * FQ K lk s m k ∧ gnd K E n m * FQ K lk s m k ≤ 999 * AE K lk s m := by
        have h1 := ab_mul (c := ab (FQ K lk s m k)) (x := gnd K E n m) (by unfold ab; omega)
        have n1 : ab (gnd K E n m) ≤ 999 := by unfold ab; omega
        have n2 : ab (FQ K lk s m k) ≤ AE K lk s m := by unfold ab; omega
        have n3 : 0 ≤ ab (FQ K lk s m k) := by unfold ab; omega
        have h2 := Int.mul_le_mul n2 n1 (by unfold ab; omega) (b1 m)
        have h3 : ab (gnd K E n m * FQ K lk s m k) ≤ ab (FQ K lk s m k) * ab (gnd K E n m) := by
          by_cases hs : 0 ≤ FQ K lk s m k
          · have := ab_mul (x := gnd K E n m) hs
            rw [Int.mul_comm] at this
            rw [show ab (FQ K lk s m k) = FQ K lk s m k by unfold ab; omega]
            exact this
          · have := ab_mul (c := -FQ K lk s m k) (x := gnd K E n m) (by omega)
            rw [Int.neg_mul] at this
            rw [show ab (FQ K lk s m k) = -FQ K lk s m k by unfold ab; omega, Int.neg_mul]
            have e : ab (-(FQ K lk s m k * gnd K E n m)) = ab (gnd K E n m * FQ K lk s m k) := by rw [Int.mul_comm]; unfold ab; omega
            rw [e] at this
            rw [Int.neg_mul] at this
            exact this
        have h4 : ab (gnd K E n m * FQ K lk s m k) ≤ 999 * AE K lk s m := by rw [Int.mul_comm 999]; omega
        unfold ab at h4
        omega
      show -(999 * (sN (AE K lk s) m + AE K lk s m)) ≤ sN (fun p => gnd K E n p * FQ K lk s p k) m + gnd K E n m * FQ K lk s m k ∧ sN (fun p => gnd K E n p * FQ K lk s p k) m + gnd K E n m * FQ K lk s m k ≤ 999 * (sN (AE K lk s) m + AE K lk s m)
      omega
  intro m hm
  have h1 := key m hm
  have h2 := sN_mono (f := AE K lk s) (m := m) (n := 16) (fun q _ _ => b1 q) hm
  omega
/-- a bound of the sum so far -/
def TBd : Nat → Int
  | 0 => 0
  | s + 1 => TBd s + 999 * 30 ^ s * 10 ^ (10 - s)
theorem TBd_le : ∀ s : Nat, s ≤ 11 → 0 ≤ TBd s ∧ TBd s ≤ 900000000000000000 := by decide +kernel
theorem c_factor {d a b k : Nat} {M : ZM} {K : Int → Int} {E : Int → Int → Int} {rs : Int → Int → Bool} {lk : Int} {Q : Int → ZM → Prop} (R : RG M) (hE : EB K E) (hC : CH K E rs M) (hx : NX M a b) (hH : ∀ j, 0 ≤ j → j < 18 → M 91 j = K (160 + j)) (hk : k ≤ 10) (hQ : ∀ M', (∀ x, x ≠ 94 → x ≠ 106 → x ≠ 107 → x ≠ 108 → M' x = M x) → JF M' → Q (PW K E lk (K 179).toNat (K 178) k * 10 ^ (10 - (K 179).toNat)) M') : zcL (d + 4) 27 [zA 106, zI lk, zI (k : Int)] M Q := by
  obtain ⟨hL, hT, hO, hCl, hBs⟩ := id hC
  obtain ⟨hW, c1, c2, c3⟩ := id hL
  have hday := hW.2.2.1
  have hpl := hW.1
  have hD : HD (M 91) := hW.hd.congr hH
  obtain ⟨D, hD'⟩ : ∃ D : Nat, (D : Int) = K 179 := ⟨(K 179).toNat, by omega⟩
  have eD : (K 179).toNat = D := by omega
  rw [eD] at hQ
  have rg92 : ∀ j, 0 ≤ j → j < 176 → -9223372036854775808 ≤ M 92 j ∧ M 92 j ≤ 9223372036854775807 := fun j j0 j1 => R.at (a := 92) (by decide) j0 (by show j < 176; exact j1)
  have CSs : ∀ s : Nat, s ≤ D → GS K E lk k D (s + 1) * 10 ^ (10 - D) = GS K E lk k D s * 10 ^ (10 - D) + sN (fun p => gnd K E (D - s) p * FQ K lk s p k) 16 * 10 ^ (10 - s) := by
    intro s hs
    show (GS K E lk k D s + sN (fun p => gnd K E (D - s) p * FQ K lk s p k) 16 * 10 ^ (D - s)) * 10 ^ (10 - D) = _
    rw [Int.add_mul, Int.mul_assoc, ← Int.pow_add, show D - s + (10 - D) = 10 - s by omega]
  have CSb : ∀ s : Nat, s ≤ D + 1 → -TBd s ≤ GS K E lk k D s * 10 ^ (10 - D) ∧ GS K E lk k D s * 10 ^ (10 - D) ≤ TBd s := by
    intro s
    induction s with
    | zero => intro _; show -0 ≤ (0 : Int) * _ ∧ (0 : Int) * _ ≤ 0; rw [Int.zero_mul]; omega
    | succ s ih =>
      intro hs
      have ih := ih (by omega)
      have u0 := pow10_pos (10 - s)
      have x := scl (u := 10 ^ (10 - s)) (by omega) (inn_bd (lk := lk) hW hE (s := s) (n := D - s) hk 16 (by omega))
      rw [CSs s (by omega)]
      show -(TBd s + 999 * 30 ^ s * 10 ^ (10 - s)) ≤ _ ∧ _ ≤ TBd s + 999 * 30 ^ s * 10 ^ (10 - s)
      omega
  apply vX2_factor
  refine c_startW hx (Or.inl rfl) hL hT hD (fun MS rS kS wS tS fS vS => ⟨by omega, ?_⟩)
  have ao : ∀ x, x < 107 → x ≠ a ∧ x ≠ b := by intro x hx'; rcases hx.1 with ⟨rfl, rfl⟩ | ⟨rfl, rfl⟩ <;> omega
  have e55 : MS 55 1 = K 179 := by rw [rS 55 (by decide) (by decide) (ao 55 (by decide)).1]; exact c2.2.1
  rw [e55]
  have lp : ∀ m s a b : Nat, ∀ M1 : ZM, s + m = D + 1 → ((∀ x, x ≠ 94 → x ≠ 106 → x ≠ 107 → x ≠ 108 → M1 x = M x) ∧ NX M1 a b ∧ M1 106 3 = 11 ∧ CT K M1 ∧ CF K M1 ∧ ((s : Int) ≤ K 179 → ∀ q i, 0 ≤ q → q < 16 → 0 ≤ i → i < 11 → M1 a (q * 11 + i) = FQ K lk s q i * 10 ^ (10 - s))) → wX2_factor (d + 3) 25 [(0, zA 106), (1, zI lk), (2, zI (k : Int)), (3, zJ (GS K E lk k D s * 10 ^ (10 - D))), (5, zI (K 179)), (6, zI (s : Int))] M1 Q := by
    intro m
    induction m with
    | zero =>
      intro s a b M1 hm ⟨i1, i2, i3, i4, i5, i6⟩
      obtain rfl : s = D + 1 := by omega
      apply vX2_factor_25
      refine ⟨fun _ => ?_, fun z => by omega⟩
      rw [dual hW hD']
      exact hQ M1 i1 i2.jf
    | succ m ih =>
      intro s a b M1 hm ⟨i1, i2, i3, i4, i5, i6⟩
      have hs : (s : Int) ≤ K 179 := by omega
      have hs10 : s ≤ 10 := by omega
      have ab' : ∀ x, x ≠ 107 → x ≠ 108 → x ≠ a ∧ x ≠ b := by intro x h1 h2; rcases i2.1 with ⟨rfl, rfl⟩ | ⟨rfl, rfl⟩ <;> exact ⟨by omega, by omega⟩
      have L1 : CL K M1 := hL.congr (fun x hx => i1 x (by omega) (by omega) (by omega) (by omega))
      obtain ⟨z1, z2, z3, z4, z5, z6, z7, z8⟩ := i2.zk
      have cb := CSb s (by omega)
      have tb := TBd_le s (by omega)
      have tb1 := TBd_le (s + 1) (by omega)
      have u0 := pow10_pos (10 - s)
      have etb : TBd (s + 1) = TBd s + 999 * 30 ^ s * 10 ^ (10 - s) := rfl
      have inner : ∀ (n p : Nat), p + n = 16 → wX2_factor (d + 3) 35 [(0, zA 106), (1, zI lk), (2, zI (k : Int)), (3, zJ (GS K E lk k D s * 10 ^ (10 - D) + sN (fun p => gnd K E (D - s) p * FQ K lk s p k) p * 10 ^ (10 - s))), (5, zI (K 179)), (6, zI (s : Int)), (7, zI (p : Int))] M1 Q := by
        intro n
        induction n with
        | zero =>
          intro p hp
          obtain rfl : p = 16 := by omega
          apply vX2_factor_35
          refine ⟨fun _ => ?_, fun z => by omega⟩
          rw [← CSs s (by omega)]
          refine c_goOnP (a := a) (b := b) (s := s) (K := K) (lk := lk) i2 i3 L1 i4 i5 (fun j j0 j1 => by rw [i1 91 (by decide) (by decide) (by decide) (by decide)]; exact hH j j0 j1) hs (i6 hs) (fun M3 r3 k3 x3 v3 => ⟨⟨by omega, by omega⟩, ih (s + 1) b a M3 (by omega) ⟨fun x h1 h2 h3 h4 => ?_, x3, ?_, fun p p0 p1 => ?_, fun p p0 p1 pk => ?_, fun h q i q0 q1 j0 j1 => v3 (by omega) q i q0 q1 j0 j1⟩⟩)
          · rw [r3 x h2 (ab' x h3 h4).2, i1 x h1 h2 h3 h4]
          · rw [k3 3 (by omega) (by omega)]; exact i3
          · rw [r3 94 (by decide) (ab' 94 (by decide) (by decide)).2]; exact i4 p p0 p1
          · rw [r3 94 (by decide) (ab' 94 (by decide) (by decide)).2, r3 91 (by decide) (ab' 91 (by decide) (by decide)).2]; exact i5 p p0 p1 pk
        | succ n ihn =>
          intro p hp
          have nx := ihn (p + 1) (by omega)
          have eS : sN (fun p => gnd K E (D - s) p * FQ K lk s p k) (p + 1) = sN (fun p => gnd K E (D - s) p * FQ K lk s p k) p + gnd K E (D - s) p * FQ K lk s p k := rfl
          have b1 := scl (u := 10 ^ (10 - s)) (by omega) (inn_bd (lk := lk) hW hE (s := s) (n := D - s) hk p (by omega))
          have b2 := scl (u := 10 ^ (10 - s)) (by omega) (inn_bd (lk := lk) hW hE (s := s) (n := D - s) hk (p + 1) (by omega))
          have va := i6 hs p k (by omega) (by omega) (by omega) (by omega)
          -- with what is got there
          have k96 : ∀ g : Int, g * FQ K lk s p k = gnd K E (D - s) p * FQ K lk s p k → wX2_factor (d + 3) 96 [(0, zA 106), (1, zI lk), (2, zI (k : Int)), (3, zJ (GS K E lk k D s * 10 ^ (10 - D) + sN (fun p => gnd K E (D - s) p * FQ K lk s p k) p * 10 ^ (10 - s))), (5, zI (K 179)), (6, zI (s : Int)), (7, zI (p : Int)), (8, zJ g)] M1 Q := by
            intro g hg
            apply vX2_factor_96
            rw [i2.2.1, Int.toNat_natCast, z1, z2, va, ← Int.mul_assoc, hg]
            rw [eS, Int.add_mul] at b2 nx
            rw [← Int.add_assoc] at nx
            exact ⟨⟨by omega, by omega⟩, ⟨by omega, by omega⟩, ⟨by omega, by omega⟩, ⟨by omega, by omega⟩, ⟨by omega, by omega⟩, ⟨by omega, by omega⟩, nx⟩
          apply vX2_factor_35
          refine ⟨fun z => by omega, fun _ => c_goesOn L1 (by omega) (fun hp1 k3 hd => ⟨fun z => by omega, fun _ => ?_⟩) (fun hno => ⟨fun _ => ?_, fun z => absurd rfl z⟩)⟩
          · obtain ⟨q1, q2, q3, q4, q5, q6⟩ := c3 p (by omega) hp1
            have e47 : M1 47 p = M 47 p := by rw [i1 47 (by decide) (by decide) (by decide) (by decide)]
            have tl : 0 ≤ M 47 p ∧ M 47 p ≤ 99 := by
              by_cases q : K (10 * p) = 2
              · rw [q3 q]; have := (hW.2.2.2.2.2.2.2 p (by omega) hp1).2.2.2.1 q; omega
              · rw [q4 q]; omega
            rw [e47]
            refine ⟨by omega, ⟨by omega, by omega⟩, k96 _ ?_⟩
            congr 1
            unfold gnd
            rw [if_pos hp1, if_neg k3, if_neg (by omega)]
            by_cases q : K (10 * p) = 2
            · rw [if_pos q, q3 q]
            · rw [if_neg q, q4 q]; rfl
          · have e92 : M1 92 = M 92 := i1 92 (by decide) (by decide) (by decide) (by decide)
            have rr := rg92 (s * 16 + p) (by omega) (by omega)
            have td : (Int.tdiv (M 92 ((s : Int) * 16 + p)) 10000000000).natAbs = (M 92 ((s : Int) * 16 + p)).natAbs / 10000000000 := by rw [Int.natAbs_tdiv]; rfl
            rw [e92]
            refine ⟨⟨by omega, by omega⟩, ⟨by omega, by omega⟩, by omega, by omega, ⟨by omega, by omega⟩, k96 _ ?_⟩
            cases hr : rs s p with
            | false => rw [FQ_rs hW hCl s p k hs hr, Int.mul_zero, Int.mul_zero]
            | true =>
              congr 1
              obtain ⟨y1, y2, y3⟩ := hBs s p (by omega) hs (by omega) (by omega) hr
              rw [show (s : Int) * 16 + p = 16 * s + p by omega]
              have tv : ∀ x : Int, Int.tdiv (x * 10000000000) 10000000000 = x := fun x => Int.mul_tdiv_cancel _ (by decide)
              unfold gnd
              by_cases hp1 : (p : Int) < K 182
              · rw [if_pos hp1]
                by_cases k3 : K (10 * p) = 3
                · rw [if_pos k3, y2 hp1 k3, tv, show K 179 - ((D - s : Nat) : Int) = s by omega]
                · have es : (s : Int) = K 179 := by omega
                  rw [if_neg k3, if_pos (by omega), y3 hp1 k3 es, tv]
              · rw [if_neg hp1, y1 (by omega), tv]
      have := inner 16 0 (by omega)
      have z : sN (fun p => gnd K E (D - s) p * FQ K lk s p k) 0 * 10 ^ (10 - s) = 0 := by show (0 : Int) * _ = 0; rw [Int.zero_mul]
      rw [z, Int.add_zero] at this
      apply vX2_factor_25
      exact ⟨fun z => by omega, fun _ => this⟩
  have z0 : GS K E lk k D 0 * 10 ^ (10 - D) = 0 := by show (0 : Int) * _ = 0; rw [Int.zero_mul]
  have fin := lp (D + 1) 0 a b MS (by omega) ⟨fun x h1 h2 h3 h4 => by
    have : x ≠ a := by rcases hx.1 with ⟨rfl, rfl⟩ | ⟨rfl, rfl⟩ <;> assumption
    rw [rS x h1 h2 this], ⟨hx.1, by rw [kS 1 (by omega)]; exact hx.2.1, by rw [kS 2 (by omega)]; exact hx.2.2⟩, wS, tS, fS, fun _ q i q0 q1 i0 i1 => by
    rw [vS q i q0 q1 i0 i1]
    unfold FQ
    split
    · decide
    · omega⟩
  rw [z0] at fin
  exact fin
