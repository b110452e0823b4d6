/-! countVisits, whole -/
/-- chance of being at q at STEP s, a whole being ten to the tenth -/
def fS (K : Int → Int) (s : Nat) (q : Int) : Int := FW K s q * 10 ^ (10 - s)
def VS (K : Int → Int) : Nat → Int → Int
  | 0, _ => 0
  | n + 1, q => VS K n q + fS K n q
def LST (K : Int → Int) : Nat → Int
  | 0 => 0
  | n + 1 => LST K n + sN (lsF K (fS K n)) 16
def TS (K : Int → Int) : Int := sN (tsF K (fS K (K 179).toNat)) 16
theorem fS_bd {K : Int → Int} (hW : WF K) {s : Nat} (hs : s ≤ 10) {q : Int} (q0 : 0 ≤ q) (q1 : q < 16) : 0 ≤ fS K s q ∧ fS K s q ≤ 10000000000 := by
  have h := FW_le hW s q0 q1
  have ps : (10 : Int) ^ s * 10 ^ (10 - s) = 10000000000 := by
    rw [← Int.pow_add, show s + (10 - s) = 10 by omega]
    decide
  have u0 := pow10_pos (10 - s)
  have cb := Int.mul_le_mul_of_nonneg_right h.2 (show 0 ≤ (10 : Int) ^ (10 - s) by omega)
  have cb0 := Int.mul_nonneg h.1 (show 0 ≤ (10 : Int) ^ (10 - s) by omega)
  unfold fS
  omega
theorem VS_bd {K : Int → Int} (hW : WF K) : ∀ n : Nat, n ≤ 11 → ∀ q, 0 ≤ q → q < 16 → 0 ≤ VS K n q ∧ VS K n q ≤ n * 10000000000 := by
  intro n
  induction n with
  | zero => intro _ q _ _; unfold VS; omega
  | succ n ih =>
    intro hn q q0 q1
    have := ih (by omega) q q0 q1
    have := fS_bd hW (s := n) (by omega) q0 q1
    unfold VS
    omega
theorem LST_bd {K : Int → Int} (hW : WF K) : ∀ n : Nat, n ≤ 11 → 0 ≤ LST K n ∧ LST K n ≤ n * 160000000000 := by
  intro n
  induction n with
  | zero => intro _; unfold LST; omega
  | succ n ih =>
    intro hn
    have := ih (by omega)
    have := sN_up (f := lsF K (fS K n)) (n := 16) (fun q q0 q1 => by have := fS_bd hW (s := n) (by omega) q0 (show q < 16 by omega); unfold lsF; split <;> omega)
    unfold LST
    omega
theorem c_countVisits {d a b : Nat} {M : ZM} {K : Int → Int} {Q : ZM → Prop} (hx : NX M a b) (hL : CL K M) (hT : CT K M) (hH : ∀ j, 0 ≤ j → j < 18 → M 91 j = K (160 + j)) (hD : HD (M 91)) (hQ : ∀ M', (∀ x, x ≠ 94 → x ≠ 106 → x ≠ 107 → x ≠ 108 → x ≠ 109 → M' x = M x) → JF M' → M' 106 5 = TS K → M' 106 6 = LST K ((K 179).toNat + 1) → (∀ q, 0 ≤ q → q < 16 → M' 109 q = VS K ((K 179).toNat + 1) q) → Q M') : zcV (d + 3) 21 [zA 106] M Q := by
  obtain ⟨hW, c1, c2, c3⟩ := id hL
  have hpl := hW.1
  have hday := hW.2.2.1
  have lp : ∀ m s a b : Nat, ∀ M1 : ZM, s + m = (K 179).toNat + 1 → ((∀ x, x ≠ 94 → x ≠ 106 → x ≠ 107 → x ≠ 108 → x ≠ 109 → M1 x = M x) ∧ NX M1 a b ∧ M1 106 3 = 1 ∧ CT K M1 ∧ CF K M1 ∧ ((s : Int) ≤ K 179 → ∀ q, 0 ≤ q → q < 16 → M1 a q = fS K s q) ∧ (∀ q, 0 ≤ q → q < 16 → M1 109 q = VS K s q) ∧ M1 106 6 = LST K s ∧ M1 106 5 = (if (s : Int) ≤ K 179 then 0 else TS K)) → wX2_countVisits (d + 2) 38 [(0, zA 106), (1, zI (K 179)), (2, zI (s : Int))] M1 Q := by
    intro m
    induction m with
    | zero =>
      intro s a b M1 hm ⟨i1, i2, i3, i4, i5, i6, i7, i8, i9⟩
      have : s = (K 179).toNat + 1 := by omega
      subst this
      apply vX2_countVisits_38
      refine ⟨fun _ => hQ M1 i1 i2.jf ?_ i8 i7, fun z => by omega⟩
      rw [i9, if_neg (by omega)]
    | succ m ih =>
      intro s a b M1 hm ⟨i1, i2, i3, i4, i5, i6, i7, i8, i9⟩
      have hs : (s : Int) ≤ K 179 := by omega
      have bo : ∀ x, x < 107 → x ≠ a ∧ x ≠ b := by intro x hx'; rcases i2.1 with ⟨rfl, rfl⟩ | ⟨rfl, rfl⟩ <;> omega
      have b9 : 109 ≠ a ∧ 109 ≠ b ∧ a ≠ 106 ∧ a ≠ 109 ∧ a ≠ b := by rcases i2.1 with ⟨rfl, rfl⟩ | ⟨rfl, rfl⟩ <;> decide
      have ab : ∀ x, x ≠ 107 → x ≠ 108 → x ≠ a ∧ x ≠ b := by intro x h1 h2; rcases i2.1 with ⟨rfl, rfl⟩ | ⟨rfl, rfl⟩ <;> exact ⟨by omega, by omega⟩
      have L1 : CL K M1 := hL.congr (fun x hx => i1 x (by omega) (by omega) (by omega) (by omega) (by omega))
      have vb := VS_bd hW s (by omega)
      have lb := LST_bd hW s (by omega)
      have n5 : M1 106 5 = 0 := by rw [i9, if_pos hs]
      apply vX2_countVisits_38
      refine ⟨fun z => by omega, fun _ => c_cvRow (f := fS K s) L1 i2 (i6 hs) (fun q q0 q1 => fS_bd hW (by omega) q0 q1) (fun q q0 q1 => by rw [i7 q q0 q1]; have := vb q q0 q1; omega) (by rw [n5]; omega) (by rw [i8]; omega) (fun M2 r2 k2 v2 l2 t2 => ?_)⟩
      have L2 : CL K M2 := L1.congr (fun x hx => r2 x (by omega) (by omega))
      refine c_goOn1 (d := d) (a := a) (b := b) (s := s) (K := K) ⟨i2.1, by rw [k2 1 (by omega) (by omega)]; exact i2.2.1, by rw [k2 2 (by omega) (by omega)]; exact i2.2.2⟩ (by rw [k2 3 (by omega) (by omega)]; exact i3) L2 (fun p p0 p1 => by rw [r2 94 (by decide) (by decide)]; exact i4 p p0 p1) (fun p p0 p1 pk => by rw [r2 94 (by decide) (by decide), r2 91 (by decide) (by decide)]; exact i5 p p0 p1 pk) (fun j j0 j1 => by rw [r2 91 (by decide) (by decide), i1 91 (by decide) (by decide) (by decide) (by decide) (by decide)]; exact hH j j0 j1) hs (fun q q0 q1 => by rw [r2 a b9.2.2.1 b9.2.2.2.1]; exact i6 hs q q0 q1) (fun M3 r3 k3 x3 v3 => ⟨⟨by omega, by omega⟩, ih (s + 1) b a M3 (by omega) ⟨fun x h1 h2 h3 h4 h5 => ?_, x3, ?_, fun p p0 p1 => ?_, fun p p0 p1 pk => ?_, fun h q q0 q1 => v3 (by omega) q q0 q1, fun q q0 q1 => ?_, ?_, ?_⟩⟩)
      · rw [r3 x h2 (ab x h3 h4).2, r2 x h2 h5, i1 x h1 h2 h3 h4 h5]
      · rw [k3 3 (by omega) (by omega), k2 3 (by omega) (by omega)]; exact i3
      · rw [r3 94 (by decide) (bo 94 (by decide)).2, r2 94 (by decide) (by decide)]; exact i4 p p0 p1
      · rw [r3 94 (by decide) (bo 94 (by decide)).2, r2 94 (by decide) (by decide), r3 91 (by decide) (bo 91 (by decide)).2, r2 91 (by decide) (by decide)]; exact i5 p p0 p1 pk
      · rw [r3 109 (by decide) b9.2.1, v2 q q0 q1, i7 q q0 q1]; rfl
      · rw [k3 6 (by omega) (by omega), l2, i8]; rfl
      · rw [k3 5 (by omega) (by omega), t2, n5]
        by_cases hd : (s : Int) = K 179
        · rw [if_pos hd, if_neg (by omega), Int.zero_add]
          unfold TS
          rw [← hd, Int.toNat_natCast]
        · rw [if_neg hd, if_pos (by omega)]; omega
  apply vX2_countVisits
  refine c_fillL (n := 16) (by decide) (by decide) (by omega) ?_
  generalize hM1 : zrow M 109 (fun j => if 0 ≤ j ∧ j < ((16 : Nat) : Int) then (0 : Int) else M 109 j) = M1
  have r1 : ∀ x, x ≠ 109 → M1 x = M x := fun x hx => by subst hM1; exact zrow_ne hx
  have v1 : ∀ q, 0 ≤ q → q < 16 → M1 109 q = 0 := fun q q0 q1 => by subst hM1; rw [zrow_at, if_pos (by omega)]
  intro M2 hM2 M3 hM3
  have r3 : ∀ x, x ≠ 106 → M3 x = M1 x := fun x hx => by subst hM3 hM2; rw [zup_row hx, zup_row hx]
  have v3 : ∀ k, M3 106 k = if k = 6 then 0 else if k = 5 then 0 else M 106 k := fun k => by subst hM3 hM2; rw [zup_at, zup_at, r1 106 (by decide)]
  have x3 : NX M3 a b := ⟨hx.1, by rw [v3, if_neg (by omega), if_neg (by omega)]; exact hx.2.1, by rw [v3, if_neg (by omega), if_neg (by omega)]; exact hx.2.2⟩
  have ao : ∀ x, x ≠ 107 → x ≠ 108 → x ≠ a := by intro x h1 h2; rcases hx.1 with ⟨rfl, rfl⟩ | ⟨rfl, rfl⟩ <;> assumption
  refine c_start1 (d := d) (K := K) x3 (hL.congr (fun x hx => by rw [r3 x (by omega), r1 x (by omega)])) (fun p p0 p1 => by rw [r3 94 (by decide), r1 94 (by decide)]; exact hT p p0 p1) (by rw [r3 91 (by decide), r1 91 (by decide)]; exact hD) (fun M4 r4 k4 w4 T4 F4 n4 => ?_)
  have y5 : M4 55 1 = K 179 := by rw [r4 55 (by decide) (by decide) (ao 55 (by decide) (by decide)), r3 55 (by decide), r1 55 (by decide)]; exact c2.2.1
  rw [y5]
  refine ⟨⟨by omega, by omega⟩, lp ((K 179).toNat + 1) 0 a b M4 (by omega) ⟨fun x h1 h2 h3 h4 h5 => ?_, ⟨hx.1, ?_, ?_⟩, w4, T4, F4, fun _ => n4, fun q q0 q1 => ?_, ?_, ?_⟩⟩
  · rw [r4 x h1 h2 (ao x h3 h4), r3 x h2, r1 x h5]
  · rw [k4 1 (by omega)]; exact x3.2.1
  · rw [k4 2 (by omega)]; exact x3.2.2
  · rw [r4 109 (by decide) (by decide) (ao 109 (by decide) (by decide)), r3 109 (by decide), v1 q q0 q1]; rfl
  · rw [k4 6 (by omega), v3, if_pos rfl]; rfl
  · rw [k4 5 (by omega), v3, if_neg (by omega), if_pos rfl, if_pos (by omega)]
