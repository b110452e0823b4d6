/-! countVisits -/
theorem c_start1 {d a b : Nat} {M : ZM} {K : Int → Int} {Q : ZM → Prop} (hx : NX M a b) (hL : CL K M) (hT : CT K M) (hD : HD (M 91)) (hQ : ∀ M', (∀ x, x ≠ 94 → x ≠ 106 → x ≠ a → M' x = M x) → (∀ k, k ≠ 3 → M' 106 k = M 106 k) → M' 106 3 = 1 → CT K M' → CF K M' → (∀ q, 0 ≤ q → q < 16 → M' a q = FW K 0 q * 10 ^ (10 - 0)) → Q M') : zcV (d + 2) 17 [zA 106, zI 1] M Q := by
  obtain ⟨hW, c1, c2, c3⟩ := id hL
  obtain ⟨z1, z2, z3, z4, z5, z6, z7, z8⟩ := hx.zk
  have a2 := hW.2.1
  have hpl := hW.1
  have ao : ∀ x, x < 107 → x ≠ a := by intro x hx'; rcases hx.1 with ⟨rfl, rfl⟩ | ⟨rfl, rfl⟩ <;> omega
  apply vX2_start
  intro M1 hM1
  have r1 : ∀ x, x ≠ 106 → M1 x = M x := fun x hx => by subst hM1; exact zup_row hx
  have v1 : ∀ k, M1 106 k = if k = 3 then 1 else M 106 k := fun k => by subst hM1; exact zup_at
  refine c_share (d := d) (K := K) (hL.congr (fun x hx => r1 x (by omega))) (fun p p0 p1 => by rw [r1 94 (by decide)]; exact hT p p0 p1) (by rw [r1 91 (by decide)]; exact hD) (fun M2 r2 T2 F2 => ?_)
  have x1 : M2 106 1 = a := by rw [r2 106 (by decide), v1, if_neg (by omega)]; exact hx.2.1
  rw [x1, Int.toNat_natCast]
  refine c_fillL (n := 384) z7 z5 (by omega) ?_
  generalize hM3 : zrow M2 a (fun j => if 0 ≤ j ∧ j < ((384 : Nat) : Int) then (0 : Int) else M2 a j) = M3
  have r3 : ∀ x, x ≠ a → M3 x = M2 x := fun x hx => by subst hM3; exact zrow_ne hx
  have v3 : ∀ q, 0 ≤ q → q < 384 → M3 a q = 0 := fun q q0 q1 => by subst hM3; rw [zrow_at, if_pos (by omega)]
  have y1 : M3 106 1 = a := by rw [r3 106 (ao 106 (by decide))]; exact x1
  have y3 : M3 106 3 = 1 := by rw [r3 106 (ao 106 (by decide)), r2 106 (by decide), v1, if_pos rfl]
  have y5 : M3 55 0 = K 178 := by rw [r3 55 (ao 55 (by decide)), r2 55 (by decide), r1 55 (by decide)]; exact c2.1
  rw [y1, y3, y5, Int.toNat_natCast, z1, z2, z5, Int.mul_one]
  refine ⟨⟨by omega, by omega⟩, ⟨by omega, by omega⟩, ⟨by omega, by omega⟩, zset ?_⟩
  refine hQ _ (fun x h1 h2 h3 => ?_) (fun k hk => ?_) ?_ (fun p p0 p1 => ?_) (fun p p0 p1 pk => ?_) (fun q q0 q1 => ?_)
  · rw [zup_row h3, r3 x h3, r2 x h1, r1 x h2]
  · rw [zup_row (ao 106 (by decide)), r3 106 (ao 106 (by decide)), r2 106 (by decide), v1, if_neg hk]
  · rw [zup_row (ao 106 (by decide))]; exact y3
  · rw [zup_row (ao 94 (by decide)), r3 94 (ao 94 (by decide))]; exact T2 p p0 p1
  · rw [zup_row (ao 94 (by decide)), r3 94 (ao 94 (by decide)), zup_row (ao 91 (by decide)), r3 91 (ao 91 (by decide))]; exact F2 p p0 p1 pk
  · rw [zup_at]
    unfold FW
    by_cases hq : q = K 178
    · rw [if_pos hq, if_pos hq]; decide
    · rw [if_neg hq, if_neg hq, v3 q q0 (by omega)]; omega
theorem sN_up {f : Int → Int} {n : Nat} (h : ∀ q : Int, 0 ≤ q → q < n → 0 ≤ f q ∧ f q ≤ 10000000000) : 0 ≤ sN f n ∧ sN f n ≤ n * 10000000000 := by
  induction n with
  | zero => unfold sN; omega
  | succ n ih =>
    unfold sN
    have := ih (fun q a b => h q a (by omega))
    have := h n (by omega) (by omega)
    omega
def lsF (K f : Int → Int) (q : Int) : Int := if q < K 182 then 0 else f q
def tsF (K f : Int → Int) (q : Int) : Int := if q < K 182 ∧ K (10 * q) ≠ 3 then f q else 0
theorem c_cvRow {d a b s : Nat} {M1 : ZM} {K f : Int → Int} {Q : ZM → Prop} (hL : CL K M1) (hx : NX M1 a b) (hn : ∀ q, 0 ≤ q → q < 16 → M1 a q = f q) (f0 : ∀ q, 0 ≤ q → q < 16 → 0 ≤ f q ∧ f q ≤ 10000000000) (h9 : ∀ q, 0 ≤ q → q < 16 → 0 ≤ M1 109 q ∧ M1 109 q ≤ 1000000000000) (h5 : 0 ≤ M1 106 5 ∧ M1 106 5 ≤ 10000000000000) (h6 : 0 ≤ M1 106 6 ∧ M1 106 6 ≤ 10000000000000) (hQ : ∀ M2, (∀ x, x ≠ 106 → x ≠ 109 → M2 x = M1 x) → (∀ k, k ≠ 5 → k ≠ 6 → M2 106 k = M1 106 k) → (∀ q, 0 ≤ q → q < 16 → M2 109 q = M1 109 q + f q) → M2 106 6 = M1 106 6 + sN (lsF K f) 16 → M2 106 5 = M1 106 5 + (if (s : Int) = K 179 then sN (tsF K f) 16 else 0) → zcV d 18 [zA 106, zI (s : Int), zI (-1)] M2 (fun M3 => r32 ((s : Int) + 1) ∧ wX2_countVisits d 38 [(0, zA 106), (1, zI (K 179)), (2, zI ((s : Int) + 1))] M3 Q)) : wX2_countVisits d 45 [(0, zA 106), (1, zI (K 179)), (2, zI (s : Int)), (3, zI 0)] M1 Q := by
  obtain ⟨hW, c1, c2, c3⟩ := id hL
  have hpl := hW.1
  obtain ⟨z1, z2, z3, z4, z5, z6, z7, z8⟩ := hx.zk
  have ao : 106 ≠ a ∧ 109 ≠ a := by rcases hx.1 with ⟨rfl, rfl⟩ | ⟨rfl, rfl⟩ <;> decide
  have lb : ∀ q, 0 ≤ q → q < 16 → 0 ≤ lsF K f q ∧ lsF K f q ≤ 10000000000 := fun q q0 q1 => by have := f0 q q0 q1; unfold lsF; split <;> omega
  have tb : ∀ q, 0 ≤ q → q < 16 → 0 ≤ tsF K f q ∧ tsF K f q ≤ 10000000000 := fun q q0 q1 => by have := f0 q q0 q1; unfold tsF; split <;> omega
  have lp : ∀ m i : Nat, ∀ M2 : ZM, i + m = 16 → ((∀ x, x ≠ 106 → x ≠ 109 → M2 x = M1 x) ∧ (∀ k, k ≠ 5 → k ≠ 6 → M2 106 k = M1 106 k) ∧ (∀ q, 0 ≤ q → q < 16 → M2 109 q = M1 109 q + if q < (i : Int) then f q else 0) ∧ M2 106 6 = M1 106 6 + sN (lsF K f) i ∧ M2 106 5 = M1 106 5 + (if (s : Int) = K 179 then sN (tsF K f) i else 0)) → wX2_countVisits d 45 [(0, zA 106), (1, zI (K 179)), (2, zI (s : Int)), (3, zI (i : Int))] M2 Q := by
    intro m
    induction m with
    | zero =>
      intro i M2 hi ⟨j1, j2, j3, j4, j5⟩
      have : i = 16 := by omega
      subst this
      apply vX2_countVisits_45
      exact ⟨fun _ => hQ M2 j1 j2 (fun q q0 q1 => by rw [j3 q q0 q1, if_pos (by omega)]) j4 j5, fun z => by omega⟩
    | succ m ih =>
      intro i M2 hi ⟨j1, j2, j3, j4, j5⟩
      have fi := f0 i (by omega) (by omega)
      have gi := h9 i (by omega) (by omega)
      have l0 := sN_up (f := lsF K f) (n := i) (fun q a b => lb q a (by omega))
      have t0 := sN_up (f := tsF K f) (n := i) (fun q a b => tb q a (by omega))
      have x1 : M2 106 1 = a := by rw [j2 1 (by omega) (by omega)]; exact hx.2.1
      have xa : M2 a i = f i := by rw [j1 a (Ne.symm ao.1) (Ne.symm ao.2), hn i (by omega) (by omega)]
      have xi : M2 109 i = M1 109 i := by rw [j3 i (by omega) (by omega), if_neg (by omega)]; omega
      have b5 : 0 ≤ M2 106 5 ∧ M2 106 5 ≤ 20000000000000 := by rw [j5]; split <;> omega
      have b6 : 0 ≤ M2 106 6 ∧ M2 106 6 ≤ 20000000000000 := by rw [j4]; omega
      have sl : sN (lsF K f) (i + 1) = sN (lsF K f) i + lsF K f i := rfl
      have st : sN (tsF K f) (i + 1) = sN (tsF K f) i + tsF K f i := rfl
      apply vX2_countVisits_45
      rw [x1, Int.toNat_natCast, z1, z2, xa, xi]
      refine ⟨fun z => by omega, fun _ => ⟨⟨by omega, by omega⟩, ⟨by omega, by omega⟩, ⟨by omega, by omega⟩, ⟨by omega, by omega⟩, ?_⟩⟩
      intro N hN
      have n1 : ∀ x, x ≠ 109 → N x = M2 x := fun x hx => by subst hN; exact zup_row hx
      have n2 : ∀ q, 0 ≤ q → q < 16 → N 109 q = M1 109 q + if q < ((i + 1 : Nat) : Int) then f q else 0 := fun q q0 q1 => by
        subst hN
        rw [zup_at]
        by_cases hq : q = i
        · rw [if_pos hq, hq, if_pos (by omega)]
        · rw [if_neg hq, j3 q q0 q1]
          by_cases h2 : q < (i : Int)
          · rw [if_pos h2, if_pos (by omega)]
          · rw [if_neg h2, if_neg (by omega)]
      have y1 : N 106 1 = a := by rw [n1 106 (by decide)]; exact x1
      have ya : N a i = f i := by rw [n1 a (Ne.symm ao.2)]; exact xa
      have y44 : N 44 0 = K 182 := by rw [n1 44 (by decide), j1 44 (by decide) (by decide)]; exact c1
      have e5 : N 106 5 = M2 106 5 := by rw [n1 106 (by decide)]
      have e6 : N 106 6 = M2 106 6 := by rw [n1 106 (by decide)]
      -- nothing added but to 109
      have k0 : lsF K f i = 0 → ((s : Int) = K 179 → tsF K f i = 0) → wX2_countVisits d 45 [(0, zA 106), (1, zI (K 179)), (2, zI (s : Int)), (3, zI ((i : Int) + 1))] N Q := by
        intro l1 t1
        refine ih (i + 1) N (by omega) ⟨fun x h1 h2 => by rw [n1 x h2, j1 x h1 h2], fun k h1 h2 => by rw [n1 106 (by decide), j2 k h1 h2], n2, ?_, ?_⟩
        · rw [e6, j4, sl, l1]; omega
        · rw [e5, j5, st]
          by_cases hs : (s : Int) = K 179
          · rw [if_pos hs, if_pos hs, t1 hs]; omega
          · rw [if_neg hs, if_neg hs]
      rw [y44, y1, Int.toNat_natCast, z1, z2, ya, e5, e6]
      refine ⟨fun hp => ⟨fun hs => ⟨⟨by omega, by omega⟩, k0 (by unfold lsF; rw [if_pos hp]) (fun z => absurd z hs)⟩, fun hs => ?_⟩, fun hp => ⟨⟨by omega, by omega⟩, ⟨by omega, by omega⟩, ?_⟩⟩
      · have y45 : N 45 i = K (10 * i) := by rw [n1 45 (by decide), j1 45 (by decide) (by decide)]; exact (c3 i (by omega) hp).1
        rw [y45]
        refine ⟨⟨by omega, by omega⟩, fun k3 => ⟨⟨by omega, by omega⟩, k0 (by unfold lsF; rw [if_pos hp]) (fun _ => by unfold tsF; rw [if_neg (by omega)])⟩, fun k3 => ⟨⟨by omega, by omega⟩, ⟨by omega, by omega⟩, ?_⟩⟩
        intro N3 hN3
        refine ⟨⟨by omega, by omega⟩, ih (i + 1) N3 (by omega) ⟨fun x h1 h2 => by subst hN3; rw [zup_row h1, n1 x h2, j1 x h1 h2], fun k h1 h2 => by subst hN3; rw [zup_at, if_neg h1, n1 106 (by decide), j2 k h1 h2], fun q q0 q1 => by subst hN3; rw [zup_row (by decide)]; exact n2 q q0 q1, ?_, ?_⟩⟩
        · subst hN3
          rw [zup_at, if_neg (by omega), e6, j4, sl, show lsF K f i = 0 by unfold lsF; rw [if_pos hp]]; omega
        · subst hN3
          rw [zup_at, if_pos rfl, j5, st, if_pos hs, if_pos hs, show tsF K f i = f i by unfold tsF; rw [if_pos ⟨hp, k3⟩]]; omega
      · intro N4 hN4
        refine ⟨⟨by omega, by omega⟩, ih (i + 1) N4 (by omega) ⟨fun x h1 h2 => by subst hN4; rw [zup_row h1, n1 x h2, j1 x h1 h2], fun k h1 h2 => by subst hN4; rw [zup_at, if_neg h2, n1 106 (by decide), j2 k h1 h2], fun q q0 q1 => by subst hN4; rw [zup_row (by decide)]; exact n2 q q0 q1, ?_, ?_⟩⟩
        · subst hN4
          rw [zup_at, if_pos rfl, j4, sl, show lsF K f i = f i by unfold lsF; rw [if_neg hp]]; omega
        · subst hN4
          rw [zup_at, if_neg (by omega), e5, j5, st, show tsF K f i = 0 by unfold tsF; rw [if_neg (by omega)], Int.add_zero]
  refine lp 16 0 M1 (by omega) ⟨fun _ _ _ => rfl, fun _ _ _ => rfl, fun q q0 q1 => by rw [if_neg (by omega)]; omega, by unfold sN; omega, by unfold sN; split <;> omega⟩
