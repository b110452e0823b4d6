/-! the reference's dices -/
def tn3 : Nat → Int
  | 0 => 1
  | n + 1 => tn3 n + (n + 2)
theorem m_share3 {d : Nat} {M : ZM} {l : Nat} {Q : ZM → Prop} (hl : l < 6) : ∀ (n : Nat) (z o : Int), z + n = 10 → 0 ≤ z → 0 ≤ o → o < tn3 n → o ≤ 100 → (∀ M', (∀ b, b ≠ 127 → M' b = M b) → (∀ j, (j < 3 * (l : Int) ∨ 3 * (l : Int) + 3 ≤ j) → M' 127 j = M 127 j) → M' 127 (3 * l) = (tr3 n z o).1 → M' 127 (3 * l + 1) = (tr3 n z o).2 → M' 127 (3 * l + 2) = 10 - (tr3 n z o).1 - (tr3 n z o).2 → Q M') → wX10_laysShare d 67 [(0, zA 113), (3, zI (3 * (l : Int))), (4, zI o), (5, zI z)] M Q := by
  intro n
  have fin : ∀ (z o : Int), 0 ≤ z → z ≤ 10 → 0 ≤ o → o < 11 - z → (∀ M', (∀ b, b ≠ 127 → M' b = M b) → (∀ j, (j < 3 * (l : Int) ∨ 3 * (l : Int) + 3 ≤ j) → M' 127 j = M 127 j) → M' 127 (3 * l) = z → M' 127 (3 * l + 1) = o → M' 127 (3 * l + 2) = 10 - z - o → Q M') → wX10_laysShare d 67 [(0, zA 113), (3, zI (3 * (l : Int))), (4, zI o), (5, zI z)] M Q := by
    intro z o z0 z1 o0 o1 hQ
    apply vX10_laysShare_67
    refine ⟨⟨by omega, by omega⟩, fun _ => ⟨by omega, zset ⟨⟨by omega, by omega⟩, by omega, zset ⟨⟨by omega, by omega⟩, ⟨by omega, by omega⟩, ⟨by omega, by omega⟩, by omega, zset (hQ _ (fun b hb => by rw [zup_row hb, zup_row hb, zup_row hb]) (fun j hj => by rw [zup_ne (by omega), zup_ne (by omega), zup_ne (by omega)]) ?_ ?_ ?_)⟩⟩⟩, fun y => by omega⟩
    · rw [zup_ne (by omega), zup_ne (by omega), zup_eq]
    · rw [zup_ne (by omega), zup_eq]
    · rw [zup_eq]
  induction n with
  | zero =>
    intro z o hz z0 o0 ot o1 hQ
    have : o < 1 := ot
    exact fin z o z0 (by omega) o0 (by omega) hQ
  | succ n ih =>
    intro z o hz z0 o0 ot o1 hQ
    have ot : o < tn3 n + (n + 2) := ot
    have e : tr3 (n + 1) z o = if z < 10 ∧ 10 - z < o then tr3 n (z + 1) (o - (11 - z)) else (z, o) := rfl
    rw [e] at hQ
    by_cases h : 10 - z < o
    · rw [if_pos ⟨by omega, h⟩] at hQ
      apply vX10_laysShare_67
      refine ⟨⟨by omega, by omega⟩, fun y => by omega, fun _ => ⟨⟨by omega, by omega⟩, ⟨by omega, by omega⟩, ⟨by omega, by omega⟩, ih (z + 1) (o - (11 - z)) (by omega) (by omega) (by omega) (by omega) (by omega) hQ⟩⟩
    · rw [if_neg (fun z => h z.2)] at hQ
      exact fin z o z0 (by omega) o0 (by omega) hQ
theorem m_laysShare {d : Nat} {M : ZM} {l c : Nat} {Q : ZM → Prop} (hW : WF (M 115)) (hl : l < 6) (hR : 1 ≤ mR (M 115) l) (hc : (c : Int) < cho true (mR (M 115) l)) (hQ : ∀ M', (∀ b, b ≠ 127 → M' b = M b) → (∀ j, (j < 3 * (l : Int) ∨ 3 * (l : Int) + 3 ≤ j) → M' 127 j = M 127 j) → (∀ i, 0 ≤ i → i ≤ 2 → M' 127 (3 * (l : Int) + i) = tri true (mR (M 115) l) c i) → Q M') : zcV (d + 5) 216 [zA 113, zI (l : Int), zI (c : Int)] M Q := by
  have hpl := hW.1
  have rg : 0 ≤ mR (M 115) l ∧ mR (M 115) l ≤ 3 := mB_rg hW l (M 115 182).toNat (by omega)
  unfold cho at hc
  rw [if_pos rfl] at hc
  have mx : max 1 (mR (M 115) l) = mR (M 115) l := by omega
  have k34 : ∀ x : Int, 0 ≤ x → x ≤ 10 → (tri true (mR (M 115) l) c 0 = x ∧ tri true (mR (M 115) l) c 1 = 10 - x ∧ tri true (mR (M 115) l) c 2 = 0) → wX10_laysShare (d + 4) 34 [(0, zA 113), (3, zI (3 * (l : Int)))] (zup M 127 (3 * (l : Int)) x) Q := by
    intro x x0 x1 ⟨t0, t1, t2⟩
    apply vX10_laysShare_34
    rw [zup_eq]
    refine ⟨⟨by omega, by omega⟩, by omega, ⟨by omega, by omega⟩, by omega, zset ⟨⟨by omega, by omega⟩, by omega, zset (hQ _ (fun b hb => by rw [zup_row hb, zup_row hb, zup_row hb]) (fun j hj => by rw [zup_ne (by omega), zup_ne (by omega), zup_ne (by omega)]) (fun i i0 i1 => ?_))⟩⟩
    rcases (by omega : i = 0 ∨ i = 1 ∨ i = 2) with rfl | rfl | rfl
    · rw [Int.add_zero, zup_ne (by omega), zup_ne (by omega), zup_eq, t0]
    · rw [zup_ne (by omega), zup_eq, t1]
    · rw [zup_eq, t2]
  apply vX10_laysShare
  refine ⟨⟨by omega, by omega⟩, m_most hW ?_⟩
  rw [mx]
  refine ⟨fun h3 => ?_, fun h3 => m_most hW ?_⟩
  · have r3 : mR (M 115) l = 3 := by omega
    rw [if_neg (by omega), if_neg (by omega)] at hc
    have c65 : ((min c 65 : Nat) : Int) = c := by omega
    refine m_share3 hl 10 0 c (by omega) (by omega) (by omega) (by show (c : Int) < 66; omega) (by omega) (fun M' r' o' t0 t1 t2 => hQ M' r' o' (fun i i0 i1 => ?_))
    unfold tri
    rw [if_neg (by omega), if_pos ⟨rfl, r3⟩, c65]
    rcases (by omega : i = 0 ∨ i = 1 ∨ i = 2) with rfl | rfl | rfl
    · rw [Int.add_zero, if_pos rfl, t0]
    · rw [if_neg (by omega), if_pos rfl, t1]
    · rw [if_neg (by omega), if_neg (by omega), t2]
  · rw [mx]
    refine ⟨fun h1 => ⟨by omega, zset (k34 c (by omega) ?_ ?_)⟩, fun h1 => ⟨by omega, zset (k34 10 (by omega) (by omega) ?_)⟩⟩
    · rw [if_neg h1, if_pos (by omega)] at hc; omega
    · rw [if_neg h1, if_pos (by omega)] at hc
      have c10 : ((min c 10 : Nat) : Int) = c := by omega
      have r2 : mR (M 115) l = 2 := by omega
      have tv : ∀ i, tri true (mR (M 115) l) c i = if i = 0 then (c : Int) else if i = 1 then 10 - (c : Int) else 0 := by
        intro i
        unfold tri
        rw [if_pos ⟨rfl, r2⟩, c10]
      rw [tv, tv, tv]
      exact ⟨rfl, rfl, rfl⟩
    · rw [if_pos h1] at hc
      obtain rfl : c = 0 := by omega
      rw [h1]
      decide
theorem m_shares {d : Nat} {M : ZM} {l : Int} {Q : Int → ZM → Prop} (hW : WF (M 115)) (hR : 1 ≤ mR (M 115) l) (hQ : Q (cho true (mR (M 115) l)) M) : zcI (d + 5) 215 [zA 113, zI l] M Q := by
  have mx : max 1 (mR (M 115) l) = mR (M 115) l := by omega
  unfold cho at hQ
  rw [if_pos rfl] at hQ
  apply vX10_shares
  refine m_most hW ?_
  rw [mx]
  refine ⟨fun h1 => m_most hW ?_, fun h1 => by rw [if_pos h1] at hQ; exact hQ⟩
  rw [mx]
  rw [if_neg h1] at hQ
  exact ⟨fun h2 => by rw [if_neg h2] at hQ; exact hQ, fun h2 => by rw [if_pos h2] at hQ; exact hQ⟩
theorem pfx_bits {x : Int} {dc : Bool} {R : Int → Int} (hR : ∀ l : Nat, R l ≤ 3) : ∀ k : Nat, pfx (nnS (fun l => bt x l) dc R) k ≤ 66 ^ (bN x k).toNat := by
  intro k
  induction k with
  | zero => exact Nat.le_refl _
  | succ k ih =>
    have rg := bN_rg x k
    show pfx (nnS (fun l => bt x l) dc R) k * nnS (fun l => bt x l) dc R k ≤ 66 ^ (bN x k + (if bt x k = true then 1 else 0)).toNat
    by_cases h : bt x k = true
    · rw [if_pos h, show (bN x k + 1).toNat = (bN x k).toNat + 1 by omega, Nat.pow_succ]
      refine Nat.mul_le_mul ih ?_
      unfold nnS
      rw [if_pos h]
      have := hR k
      unfold cho
      split
      · split
        · decide
        · split <;> decide
      · omega
    · rw [if_neg h, Int.add_zero]
      have e : nnS (fun l => bt x l) dc R k = 1 := by
        unfold nnS
        rw [if_neg h]
      rw [e, Nat.mul_one]
      exact ih
theorem bN_mono (x : Int) {a b : Nat} (h : a ≤ b) : bN x a ≤ bN x b := by
  induction b with
  | zero => obtain rfl : a = 0 := by omega
            exact Int.le_refl _
  | succ b ih =>
    by_cases e : a = b + 1
    · rw [e]; exact Int.le_refl _
    · have := ih (by omega)
      show bN x a ≤ bN x b + (if bt x b = true then 1 else 0)
      split <;> omega
abbrev ND (K : Int → Int) (x : Int) : Nat → Nat := nnS (fun l => bt x l) true (mR K)
abbrev TD (K : Int → Int) (E : Int → Int → Int) (x : Int) : SR (Int → Int) := TT K E x true (mR K) (rlH K)
/-- behind dices(), where there are not too many -/
def DIC (x : Int) (M M' : ZM) : Prop := frm M M' ∧ JV M' ∧ (∀ b, b ≠ 113 → b ≠ 125 → b ≠ 126 → b ≠ 127 → b ≠ 128 → b ≠ 131 → M' b = M b) ∧ M' 113 32 = (TD (M 115) (EW M) x).1 ∧ M' 113 33 = (TD (M 115) (EW M) x).2.1 ∧ M' 113 34 = (PN (ND (M 115) x) 6 : Nat) ∧ ∀ j, 0 ≤ j → j < 18 → M' 131 j = (TD (M 115) (EW M) x).2.2 j
theorem m_dices {d : Nat} {M : ZM} {bits : Int} {Q : Int → ZM → Prop} (hB : BKE (M 115) (bL M 44)) (hV : JV M) (h29 : M 113 29 = 0) (hbits : bs 6 bits) (h0 : (3 < bC (zand bits (uS (M 115))) ∨ 5000 < PN (ND (M 115) (zand bits (uS (M 115)))) 6) → Q 0 M) (h1 : bC (zand bits (uS (M 115))) ≤ 3 → PN (ND (M 115) (zand bits (uS (M 115)))) 6 ≤ 5000 → ∀ M', DIC (zand bits (uS (M 115))) M M' → Q 1 M') : zcI (d + 46) 214 [zA 113, zI bits] M Q := by
  have hW := hB.1
  have hE := EB_ew M
  have hpl := hW.1
  have br := hbits.r (by decide)
  have ub := hW.us
  have ur := ub.r (by decide)
  have xb : bs 6 (zand bits (uS (M 115))) := bs_and (by decide) hbits ur.1 ur.2
  have xbt : ∀ l, bt (zand bits (uS (M 115))) l = (bt bits l && bt (uS (M 115)) l) := fun l => bt_and br.1 br.2 ur.1 ur.2
  apply vX10_dices
  refine m_used hpl ?_
  obtain ⟨x, hx⟩ : ∃ x, x = zand bits (uS (M 115)) := ⟨_, rfl⟩
  rw [← hx] at h0 h1 xb xbt ⊢
  have xr := xb.r (by decide)
  generalize hK : M 115 = K at *
  generalize hEE : EW M = E at *
  have hS : ∀ l : Nat, bt x l = true → 1 ≤ mR K l := by
    intro l h
    rw [xbt, Bool.and_eq_true] at h
    have := (mR_used hW (l := (l : Int)) (by omega)).mpr h.2
    omega
  have rg : ∀ l : Nat, 0 ≤ mR K l ∧ mR K l ≤ 3 := fun l => mB_rg hW l (K 182).toNat (by omega)
  have nn1 : ∀ l, 1 ≤ ND K x l := by
    intro l
    show 1 ≤ nnS (fun l => bt x l) true (mR K) l
    unfold nnS
    by_cases h : bt x l = true
    · rw [if_pos h]
      have := cho_rg (dc := true) ⟨hS l h, (rg l).2⟩
      omega
    · rw [if_neg h]; exact Nat.le_refl _
  have ndv : ∀ l : Nat, bt x l = true → ((ND K x l : Nat) : Int) = cho true (mR K l) := by
    intro l h
    have := cho_rg (dc := true) ⟨hS l h, (rg l).2⟩
    show ((nnS (fun l => bt x l) true (mR K) l : Nat) : Int) = _
    unfold nnS
    rw [if_pos h]
    omega
  have nd1 : ∀ l : Nat, bt x l = false → ND K x l = 1 := by
    intro l h
    show nnS (fun l => bt x l) true (mR K) l = 1
    unfold nnS
    rw [if_neg (by show ¬ bt x l = true; rw [h]; decide)]
  refine m_ones xr.1 xr.2 ⟨fun b3 => ?_, fun b3 => ⟨by omega, h0 (by omega)⟩⟩
  let c : Nat → Nat → Nat := fun r => dg (ND K x) 6 r (fun _ => 0)
  let lf := lfH K E (fun l => bt x l) true (mR K) (rlH K)
  let σ : Nat → SR (Int → Int) := fun r => mgf (bot (rlH K)) (fun r => lf (c r)) r
  have σS : ∀ r, σ (r + 1) = mg (σ r) (lf (c r)) := fun r => rfl
  have σc : ∀ r, 0 ≤ (σ r).2.1 ∧ (σ r).2.1 ≤ r := by
    intro r
    have := mgf_cnt (f := rlH K) (g := fun r => lf (c r)) (P := 1) r (fun i _ => ⟨by show (0 : Int) ≤ 1; omega, Int.le_refl 1⟩)
    rw [Int.mul_one] at this
    exact this
  have TDe : TD K E x = σ (PN (ND K x) 6) := SUM_enum nn1 (lfH_v hW hE hW.hd) 6 (Nat.le_refl _) _
  have b66 : ∀ k, k ≤ 6 → pfx (ND K x) k ≤ 287496 := by
    intro k hk
    refine Nat.le_trans (pfx_bits (fun l => (rg l).2) k) ?_
    have h1 : bN x k ≤ bC x := bN_mono x (show k ≤ 16 by omega)
    have h2 := bN_rg x k
    have : (66 : Nat) ^ (bN x k).toNat ≤ 66 ^ 3 := Nat.pow_le_pow_right (by decide) (by omega)
    exact Nat.le_trans this (by decide)
  let PI := fun (r : Nat) (M1 : ZM) => JV M1 ∧ (∀ b, b ≠ 113 → b ≠ 125 → b ≠ 126 → b ≠ 127 → b ≠ 128 → b ≠ 131 → M1 b = M b) ∧ (∀ k, k ≠ 21 → k ≠ 22 → k ≠ 23 → k ≠ 26 → k ≠ 32 → k ≠ 33 → k ≠ 34 → M1 113 k = M 113 k) ∧ M1 113 34 = (PN (ND K x) 6 : Nat) ∧ M1 113 32 = (σ r).1 ∧ M1 113 33 = (σ r).2.1 ∧ (1 ≤ r → ∀ j, 0 ≤ j → j < 18 → M1 131 j = (σ r).2.2 j)
  have lp86 : PN (ND K x) 6 ≤ 5000 → ∀ (m r : Nat) (M1 : ZM), r + m = PN (ND K x) 6 → PI r M1 → wX10_dices (d + 45) 86 [(0, zA 113), (2, zI x), (3, zI ((PN (ND K x) 6 : Nat) : Int)), (4, zI (r : Int))] M1 Q := by
    intro p5 m
    induction m with
    | zero =>
      intro r M1 hr hI
      obtain ⟨i1, i2, i3, i4, i5, i6, i7⟩ := hI
      obtain rfl : r = PN (ND K x) 6 := by omega
      apply vX10_dices_86
      refine ⟨fun _ => ⟨by omega, h1 b3 p5 M1 ⟨frm.of (fun b b1 b2 => i2 b b1 (by omega) (by omega) (by omega) (by omega) (by omega)) (fun k hk => i3 k (by omega) (by omega) (by omega) (by omega) (by omega) (by omega) (by omega)), i1, i2, ?_, ?_, ?_, fun j j0 j1 => ?_⟩⟩, fun z => by omega⟩
      · rw [i5, hK, hEE, TDe]
      · rw [i6, hK, hEE, TDe]
      · rw [i4, hK]
      · rw [i7 (PN_pos nn1 6) j j0 j1, hK, hEE, TDe]
    | succ m ih =>
      intro r M1 hr hI
      obtain ⟨i1, i2, i3, i4, i5, i6, i7⟩ := hI
      have e115 : M1 115 = K := by rw [i2 115 (by decide) (by decide) (by decide) (by decide) (by decide) (by decide)]; exact hK
      have cl : ∀ l, l < 6 → c r l < ND K x l := fun l hl => dg_lt nn1 r hl
      apply vX10_dices_86
      refine ⟨fun z => by omega, fun _ => m_takesRule ?_⟩
      have dl : ∀ (m : Nat) (M2 : ZM), m ≤ 6 → (∀ b, b ≠ 127 → M2 b = M1 b) → (∀ (l : Nat) (i : Int), l < 6 → 0 ≤ i → i ≤ 2 → M2 127 (3 * l + i) = if m ≤ l then HH (fun l => bt x l) true (mR K) (rlH K) (c r) (3 * l + i) else rlH K (3 * l + i)) → wX10_dices (d + 45) 103 [(0, zA 113), (2, zI x), (3, zI ((PN (ND K x) 6 : Nat) : Int)), (4, zI (r : Int)), (5, zI ((r / PN (ND K x) (6 - m) : Nat) : Int)), (6, zI ((m : Int) - 1))] M2 Q := by
        intro m
        induction m with
        | zero =>
          intro M2 _ r2 o2
          have e2 : M2 115 = K := by rw [r2 115 (by decide)]; exact e115
          have q2 : ∀ b, b < 113 → M2 b = M b := fun b hb => by rw [r2 b (by omega), i2 b (by omega) (by omega) (by omega) (by omega) (by omega) (by omega)]
          have B2 : BKE (M2 115) (bL M2 44) := by rw [e2]; exact hB.congr (fun j hj => q2 _ (by omega))
          have V2 : JV M2 := i1.cg (by rw [r2 113 (by decide)]) (by rw [r2 113 (by decide)]) (r2 115 (by decide)) (r2 126 (by decide)) (fun b _ _ => r2 b (by omega))
          have E2 : EW M2 = E := by
            rw [← hEE]
            funext p s
            exact EW.fr (q2 51 (by decide)) (q2 52 (by decide)) (q2 53 (by decide)) (q2 54 (by decide)) (by rw [e2, hK]) p s
          have hh : ∀ j, 0 ≤ j → j < 18 → M2 127 j = HH (fun l => bt x l) true (mR K) (rlH K) (c r) j := by
            intro j j0 j1
            have h1 := o2 (j / 3).toNat (j % 3) (by omega) (by omega) (by omega)
            rw [if_pos (by omega), show 3 * (((j / 3).toNat : Nat) : Int) + j % 3 = j by omega] at h1
            exact h1
          apply vX10_dices_103
          refine ⟨fun _ => m_val B2 V2 (by rw [r2 113 (by decide), i3 29 (by decide) (by decide) (by decide) (by decide) (by decide) (by decide) (by decide)]; exact h29) (HH_hd hW.hd (c r)) hh (fun M3 V3 r3 k3 => ?_), fun z => by omega⟩
          rw [e2, E2]
          have q3 : ∀ b, b ≠ 113 → b ≠ 125 → b ≠ 126 → b ≠ 127 → b ≠ 128 → M3 b = M1 b := fun b h1 h2 h3 h4 h5 => by rw [r3 b h1 h2 h3 h5, r2 b h4]
          have kk : ∀ k, k ≠ 21 → k ≠ 22 → k ≠ 23 → k ≠ 26 → M3 113 k = M1 113 k := fun k h1 h2 h3 h4 => by rw [k3 k h1 h2 h3 h4, r2 113 (by decide)]
          have f32 : M3 113 32 = (σ r).1 := by rw [kk 32 (by decide) (by decide) (by decide) (by decide)]; exact i5
          have f33 : M3 113 33 = (σ r).2.1 := by rw [kk 33 (by decide) (by decide) (by decide) (by decide)]; exact i6
          have f127 : ∀ j, 0 ≤ j → j < 18 → M3 127 j = HH (fun l => bt x l) true (mR K) (rlH K) (c r) j := fun j j0 j1 => by rw [r3 127 (by decide) (by decide) (by decide) (by decide)]; exact hh j j0 j1
          have lv : (lf (c r)).1 = WS K E (HH (fun l => bt x l) true (mR K) (rlH K) (c r)) (fun _ => false) := rfl
          have l3 : (lf (c r)).2.2 = HH (fun l => bt x l) true (mR K) (rlH K) (c r) := rfl
          have gt : NOTH < (lf (c r)).1 := lfH_v hW hE hW.hd (c r)
          have ss := σS r
          have cc := σc r
          generalize hv : WS K E (HH (fun l => bt x l) true (mR K) (rlH K) (c r)) (fun _ => false) = v at *
          have k213 : ∀ M4 : ZM, (∀ b, b ≠ 113 → b ≠ 131 → M4 b = M3 b) → (∀ k, k ≠ 32 → k ≠ 33 → M4 113 k = M3 113 k) → ((M4 113 32 = v ∧ M4 113 33 = 0 ∧ (σ r).1 < v ∧ ∀ j, 0 ≤ j → j < 18 → M4 131 j = HH (fun l => bt x l) true (mR K) (rlH K) (c r) j) ∨ (M4 = M3 ∧ v ≤ (σ r).1)) → wX10_dices (d + 45) 213 [(0, zA 113), (2, zI x), (3, zI ((PN (ND K x) 6 : Nat) : Int)), (4, zI (r : Int)), (6, zJ v)] M4 Q := by
            intro M4 r4 k4 h4
            have nxt : ∀ y, y = (σ (r + 1)).2.1 → M4 113 32 = (σ (r + 1)).1 → (∀ j, 0 ≤ j → j < 18 → M4 131 j = (σ (r + 1)).2.2 j) → r32 ((r : Int) + 1) ∧ wX10_dices (d + 45) 86 [(0, zA 113), (2, zI x), (3, zI ((PN (ND K x) 6 : Nat) : Int)), (4, zI ((r : Int) + 1))] (zup M4 113 33 y) Q := by
              intro y hy h32 h131
              refine ⟨⟨by omega, by omega⟩, ih (r + 1) _ (by omega) ⟨?_, fun b h1 h2 h3 h4' h5 h6 => ?_, fun k h1 h2 h3 h4' h5 h6 h7 => ?_, ?_, ?_, ?_, fun _ j j0 j1 => ?_⟩⟩
              · exact V3.cg (by rw [zup_ne (by omega), k4 26 (by decide) (by decide)]) (by rw [zup_ne (by omega), k4 1 (by decide) (by decide)]) (by rw [zup_row (by decide), r4 115 (by decide) (by decide)]) (by rw [zup_row (by decide), r4 126 (by decide) (by decide)]) (fun b _ _ => by rw [zup_row (by omega), r4 b (by omega) (by omega)])
              · rw [zup_row h1, r4 b h1 h6, q3 b h1 h2 h3 h4' h5, i2 b h1 h2 h3 h4' h5 h6]
              · rw [zup_ne (fun z => h6 z.2), k4 k h5 h6, kk k h1 h2 h3 h4', i3 k h1 h2 h3 h4' h5 h6 h7]
              · rw [zup_ne (by omega), k4 34 (by decide) (by decide), kk 34 (by decide) (by decide) (by decide) (by decide)]; exact i4
              · rw [zup_ne (by omega)]; exact h32
              · rw [zup_eq]; exact hy
              · rw [zup_row (by decide)]; exact h131 j j0 j1
            apply vX10_dices_213
            rcases h4 with ⟨a1, a2, a3, a4⟩ | ⟨rfl, a2⟩
            · have e : σ (r + 1) = lf (c r) := by rw [ss, mg_lt (by rw [lv]; exact a3)]
              rw [a1, a2, if_neg (by omega), if_pos rfl]
              refine ⟨fun z => absurd rfl z, fun _ => ⟨⟨by omega, by omega⟩, zset (nxt _ (by rw [e]; rfl) (by rw [a1, e, lv]) (fun j j0 j1 => by rw [a4 j j0 j1, e, l3]))⟩⟩
            · have h1r : 1 ≤ r := by
                by_cases hr0 : r = 0
                · subst hr0
                  have : (σ 0).1 = NOTH := rfl
                  rw [lv] at gt
                  omega
                · omega
              have o131 : ∀ j, 0 ≤ j → j < 18 → M4 131 j = (σ r).2.2 j := fun j j0 j1 => by rw [q3 131 (by decide) (by decide) (by decide) (by decide) (by decide)]; exact i7 h1r j j0 j1
              rw [f32, f33]
              by_cases he : v = (σ r).1
              · have e : σ (r + 1) = ((σ r).1, (σ r).2.1 + 1, (σ r).2.2) := by rw [ss, mg_eq (by rw [lv]; exact he.symm)]; rfl
                rw [if_neg (by omega), if_pos he]
                refine ⟨fun z => absurd rfl z, fun _ => ⟨⟨by omega, by omega⟩, zset (nxt _ (by rw [e]) (by rw [f32, e]) (fun j j0 j1 => by rw [o131 j j0 j1, e]))⟩⟩
              · have e : σ (r + 1) = σ r := by rw [ss, mg_gt (by rw [lv]; omega)]
                rw [if_neg (by omega), if_neg he]
                refine ⟨fun _ => ⟨⟨by omega, by omega⟩, zset (nxt _ (by rw [e, Int.add_zero]) (by rw [f32, e]) (fun j j0 j1 => by rw [o131 j j0 j1, e]))⟩, fun z => by omega⟩
          rw [f32]
          by_cases hlt : (σ r).1 < v
          · rw [if_pos hlt]
            refine ⟨fun z => by omega, fun _ => zset (zset ?_)⟩
            have l186 : ∀ (m i : Nat) (M4 : ZM), i + m = 18 → (∀ b, b ≠ 113 → b ≠ 131 → M4 b = M3 b) → (∀ k, k ≠ 32 → k ≠ 33 → M4 113 k = M3 113 k) → M4 113 32 = v → M4 113 33 = 0 → (∀ j, 0 ≤ j → j < (i : Int) → M4 131 j = HH (fun l => bt x l) true (mR K) (rlH K) (c r) j) → wX10_dices (d + 45) 186 [(0, zA 113), (2, zI x), (3, zI ((PN (ND K x) 6 : Nat) : Int)), (4, zI (r : Int)), (6, zJ v), (8, zI (i : Int))] M4 Q := by
              intro m
              induction m with
              | zero =>
                intro i M4 hi r4 k4 a1 a2 a4
                apply vX10_dices_186
                exact ⟨fun _ => k213 M4 r4 k4 (Or.inl ⟨a1, a2, hlt, fun j j0 j1 => a4 j j0 (by omega)⟩), fun z => by omega⟩
              | succ m ihm =>
                intro i M4 hi r4 k4 a1 a2 a4
                apply vX10_dices_186
                refine ⟨fun z => by omega, fun _ => ⟨by omega, by omega, zset ⟨⟨by omega, by omega⟩, ihm (i + 1) _ (by omega) (fun b h1 h2 => by rw [zup_row h2, r4 b h1 h2]) (fun k h1 h2 => by rw [zup_row (by decide), k4 k h1 h2]) (by rw [zup_row (by decide)]; exact a1) (by rw [zup_row (by decide)]; exact a2) (fun j j0 j1 => ?_)⟩⟩⟩
                rw [zup_at]
                by_cases e : j = i
                · rw [if_pos e, r4 127 (by decide) (by decide), f127 i (by omega) (by omega), e]
                · rw [if_neg e]; exact a4 j j0 (by omega)
            exact l186 18 0 _ (by omega) (fun b h1 _ => by rw [zup_row h1, zup_row h1]) (fun k h1 h2 => by rw [zup_ne (fun z => h2 z.2), zup_ne (fun z => h1 z.2)]) (by rw [zup_ne (by omega), zup_eq]) zup_eq (fun l hl => by omega)
          · rw [if_neg hlt]
            refine ⟨fun _ => k213 M3 (fun _ _ _ => rfl) (fun _ _ _ => rfl) (Or.inr ⟨rfl, by omega⟩), fun z => ?_⟩
            split at z <;> omega
        | succ m ihm =>
          intro M2 hm r2 o2
          have e2 : M2 115 = K := by rw [r2 115 (by decide)]; exact e115
          have W2 : WF (M2 115) := by rw [e2]; exact hW
          have dv : c r m = r / PN (ND K x) (5 - m) % ND K x m := by
            show dg (ND K x) 6 r (fun _ => 0) m = _
            unfold dg
            rw [if_pos ⟨by omega, by omega⟩]
          have ps : PN (ND K x) (6 - m) = ND K x m * PN (ND K x) (5 - m) := by
            rw [show 6 - m = (5 - m) + 1 by omega]
            show ND K x (5 - (5 - m)) * _ = _
            rw [show 5 - (5 - m) = m by omega]
          have dd : r / PN (ND K x) (6 - m) = r / PN (ND K x) (5 - m) / ND K x m := by
            rw [ps, Nat.mul_comm, Nat.div_div_eq_div_mul]
          have le := Int.ofNat_le.mpr (Nat.div_le_self r (PN (ND K x) (6 - m)))
          have ge := Int.natCast_nonneg (r / PN (ND K x) (6 - m))
          have cm := cl m (by omega)
          apply vX10_dices_103
          rw [show ((m + 1 : Nat) : Int) - 1 = m by omega, show 6 - (m + 1) = 5 - m by omega]
          refine ⟨fun z => by omega, fun _ => m_isIn xr.1 xr.2 (by omega) (by omega) (fun hb => ⟨fun _ => ?_, fun z => by omega⟩) (fun hb => ⟨fun z => absurd rfl z, fun _ => ⟨⟨by omega, by omega⟩, ?_⟩⟩)⟩
          · have sh := hS m hb
            have nv := ndv m hb
            refine m_shares W2 (by rw [e2]; exact sh) ?_
            rw [e2, ← nv]
            have em : Int.tmod ((r / PN (ND K x) (5 - m) : Nat) : Int) ((ND K x m : Nat) : Int) = (c r m : Nat) := by rw [dv]; rfl
            have ed : Int.tdiv ((r / PN (ND K x) (5 - m) : Nat) : Int) ((ND K x m : Nat) : Int) = ((r / PN (ND K x) (6 - m) : Nat) : Int) := by rw [dd]; rfl
            rw [em]
            have n1 := nn1 m
            refine ⟨by omega, m_laysShare W2 (by omega) (by rw [e2]; exact sh) (by rw [e2, ← nv]; omega) (fun M3 r3 o3 n3 => ?_)⟩
            have e3 : M3 115 = K := by rw [r3 115 (by decide)]; exact e2
            refine m_shares (by rw [e3]; exact hW) (by rw [e3]; exact sh) ?_
            rw [e3, ← nv, ed]
            refine ⟨by omega, ⟨Int.le_trans (by decide) ge, Int.le_trans le (by omega)⟩, ⟨by omega, by omega⟩, ?_⟩
            refine ihm M3 (by omega) (fun b hb => by rw [r3 b hb, r2 b hb]) (fun l i hl i0 i1 => ?_)
            by_cases e : l = m
            · subst e
              rw [n3 i i0 i1, if_pos (by omega), e2, HH_in (S := fun l => bt x l) hb i i0 i1]
            · rw [o3 _ (by omega), o2 l i hl i0 i1]
              by_cases h2 : m ≤ l
              · rw [if_pos h2, if_pos (by omega)]
              · rw [if_neg h2, if_neg (by omega)]
          · have n1 := nd1 m hb
            have ed : r / PN (ND K x) (5 - m) = r / PN (ND K x) (6 - m) := by rw [dd, n1, Nat.div_one]
            rw [ed]
            refine ihm M2 (by omega) r2 (fun l i hl i0 i1 => ?_)
            rw [o2 l i hl i0 i1]
            by_cases e : l = m
            · subst e
              rw [if_neg (by omega), if_pos (by omega), HH_out (S := fun l => bt x l) hb i i0 i1]
            · by_cases h2 : m ≤ l
              · rw [if_pos h2, if_pos (by omega)]
              · rw [if_neg h2, if_neg (by omega)]
      have := dl 6 (zrow M1 127 (trR M1 18)) (by omega) (fun b hb => zrow_ne hb) (fun l i hl i0 i1 => by
        rw [zrow_at, if_neg (by omega)]
        unfold trR
        rw [if_pos (by omega), e115])
      rw [show 6 - 6 = 0 from rfl, show r / PN (ND K x) 0 = r from Nat.div_one r] at this
      exact this
  have lp22 : ∀ (m i : Nat), i + m = 6 → wX10_dices (d + 45) 22 [(0, zA 113), (2, zI x), (3, zI ((pfx (ND K x) i : Nat) : Int)), (4, zI (i : Int))] M Q := by
    intro m
    induction m with
    | zero =>
      intro i hi
      obtain rfl : i = 6 := by omega
      apply vX10_dices_22
      rw [pfx6]
      refine ⟨fun _ => ⟨fun p5 => zset (zset (zset (lp86 (by omega) (PN (ND K x) 6) 0 _ (by omega) ⟨?_, fun b h1 _ _ _ _ _ => by rw [zup_row h1, zup_row h1, zup_row h1], fun k _ _ _ _ h5 h6 h7 => by rw [zup_ne (fun z => h6 z.2), zup_ne (fun z => h5 z.2), zup_ne (fun z => h7 z.2)], ?_, ?_, ?_, fun h => by omega⟩))), fun p5 => ⟨by omega, h0 (by omega)⟩⟩, fun z => by omega⟩
      · exact hV.cg (by rw [zup_ne (by omega), zup_ne (by omega), zup_ne (by omega)]) (by rw [zup_ne (by omega), zup_ne (by omega), zup_ne (by omega)]) (by rw [zup_row (by decide), zup_row (by decide), zup_row (by decide)]) (by rw [zup_row (by decide), zup_row (by decide), zup_row (by decide)]) (fun b _ _ => by rw [zup_row (by omega), zup_row (by omega), zup_row (by omega)])
      · rw [zup_ne (by omega), zup_ne (by omega), zup_eq]
      · rw [zup_ne (by omega), zup_eq]; rfl
      · rw [zup_eq]; rfl
    | succ m ih =>
      intro i hi
      have b1 := b66 (i + 1) (by omega)
      have nx := ih (i + 1) (by omega)
      have ev : ((pfx (ND K x) (i + 1) : Nat) : Int) = (pfx (ND K x) i : Nat) * (ND K x i : Nat) := by
        show ((pfx (ND K x) i * ND K x i : Nat) : Int) = _
        rw [Int.natCast_mul]
      apply vX10_dices_22
      refine ⟨fun z => by omega, fun _ => m_isIn xr.1 xr.2 (by omega) (by omega) (fun hb => ⟨fun z => by omega, fun _ => m_shares (by rw [hK]; exact hW) (by rw [hK]; exact hS i hb) ?_⟩) (fun hb => ⟨fun _ => ?_, fun z => absurd rfl z⟩)⟩
      · rw [hK, ← ndv i hb, ← ev]
        exact ⟨⟨by omega, by omega⟩, ⟨by omega, by omega⟩, nx⟩
      · rw [nd1 i hb, show ((1 : Nat) : Int) = 1 from rfl] at ev
        rw [← ev]
        exact ⟨⟨by omega, by omega⟩, ⟨by omega, by omega⟩, nx⟩
  exact lp22 6 0 (by omega)
