/-! the class's Seeker: small methods -/
theorem zand_diff {n m : Nat} (hn : n < 2147483648) : zand n (zxor m (-1)) = ((n ^^^ (n &&& m) : Nat) : Int) := by
  have e1 : zi (zxor (m : Int) (-1)) = zi (m : Int) ^^^ zi (-1) := by
    unfold zxor zi
    exact Int32.ofInt_toInt _
  have hl : n &&& m ≤ n := Nat.and_le_left
  have hx : n ^^^ (n &&& m) < 2 ^ 31 := Nat.xor_lt_two_pow (by omega) (by omega)
  unfold zand
  rw [e1]
  show (BitVec.ofInt 32 (n : Int) &&& (BitVec.ofInt 32 (m : Int) ^^^ BitVec.ofInt 32 (-1))).toInt = _
  have e2 : BitVec.ofInt 32 (n : Int) &&& (BitVec.ofInt 32 (m : Int) ^^^ BitVec.ofInt 32 (-1)) = BitVec.ofNat 32 (n ^^^ (n &&& m)) := by
    have em : BitVec.ofInt 32 (-1) = BitVec.allOnes 32 := by decide
    rw [BitVec.ofInt_natCast, BitVec.ofInt_natCast, em, BitVec.xor_allOnes]
    apply BitVec.eq_of_getLsbD_eq
    intro i hi
    rw [BitVec.getLsbD_and, BitVec.getLsbD_not, BitVec.getLsbD_ofNat, BitVec.getLsbD_ofNat, BitVec.getLsbD_ofNat, Nat.testBit_xor, Nat.testBit_and]
    have : decide (i < 32) = true := by simpa using hi
    rw [this]
    cases n.testBit i <;> cases m.testBit i <;> rfl
  rw [e2]
  have e : (BitVec.ofNat 32 (n ^^^ (n &&& m))).toNat = n ^^^ (n &&& m) := by
    rw [BitVec.toNat_ofNat, Nat.mod_eq_of_lt (by omega)]
  rw [BitVec.toInt_eq_toNat_of_lt (by rw [e]; omega), e]
theorem bt_diff {x y k : Int} (x0 : 0 ≤ x) (x1 : x ≤ 2147483647) (y0 : 0 ≤ y) : bt (zand x (zxor y (-1))) k = (bt x k && !bt y k) := by
  obtain ⟨n, rfl⟩ : ∃ n : Nat, x = n := ⟨x.toNat, by omega⟩
  obtain ⟨m, rfl⟩ : ∃ m : Nat, y = m := ⟨y.toNat, by omega⟩
  rw [zand_diff (by omega)]
  unfold bt
  rw [Int.toNat_natCast, Int.toNat_natCast, Int.toNat_natCast, Nat.testBit_xor, Nat.testBit_and]
  cases n.testBit k.toNat <;> cases m.testBit k.toNat <;> rfl
theorem bs_diff {w : Nat} (hw : w ≤ 31) {x y : Int} (hx : bs w x) (y0 : 0 ≤ y) : bs w (zand x (zxor y (-1))) := by
  have xr := hx.r hw
  obtain ⟨n, rfl⟩ : ∃ n : Nat, x = n := ⟨x.toNat, by omega⟩
  obtain ⟨m, rfl⟩ : ∃ m : Nat, y = m := ⟨y.toNat, by omega⟩
  have hl : n &&& m ≤ n := Nat.and_le_left
  have hn : n < 2 ^ w := Int.ofNat_lt.mp hx.2
  rw [zand_diff (by omega)]
  exact ⟨Int.natCast_nonneg _, Int.ofNat_lt.mpr (Nat.xor_lt_two_pow hn (by omega))⟩
theorem bs_and {w : Nat} (hw : w ≤ 31) {x y : Int} (hx : bs w x) (y0 : 0 ≤ y) (y1 : y ≤ 2147483647) : bs w (zand x y) := by
  have xr := hx.r hw
  obtain ⟨n, rfl⟩ : ∃ n : Nat, x = n := ⟨x.toNat, by omega⟩
  obtain ⟨m, rfl⟩ : ∃ m : Nat, y = m := ⟨y.toNat, by omega⟩
  have hl : n &&& m ≤ n := Nat.and_le_left
  have h2 := hx.2
  rw [zand_nat (by omega) (by omega)]
  exact ⟨Int.natCast_nonneg _, by omega⟩
theorem bs_ext {w : Nat} {x y : Int} (hx : bs w x) (hy : bs w y) (h : ∀ k : Nat, k < w → bt x k = bt y k) : x = y := by
  obtain ⟨n, rfl⟩ : ∃ n : Nat, x = n := ⟨x.toNat, by have := hx.1; omega⟩
  obtain ⟨m, rfl⟩ : ∃ m : Nat, y = m := ⟨y.toNat, by have := hy.1; omega⟩
  have hn : n < 2 ^ w := Int.ofNat_lt.mp hx.2
  have hm : m < 2 ^ w := Int.ofNat_lt.mp hy.2
  congr 1
  apply Nat.eq_of_testBit_eq
  intro i
  by_cases hi : i < w
  · have := h i hi
    unfold bt at this
    rw [Int.toNat_natCast, Int.toNat_natCast, Int.toNat_natCast] at this
    exact this
  · rw [Nat.testBit_lt_two_pow (Nat.lt_of_lt_of_le hn (Nat.pow_le_pow_right (by decide) (by omega))), Nat.testBit_lt_two_pow (Nat.lt_of_lt_of_le hm (Nat.pow_le_pow_right (by decide) (by omega)))]
theorem bs_high {w : Nat} {x k : Int} (hx : bs w x) (hk : (w : Int) ≤ k) : bt x k = false := by
  obtain ⟨n, rfl⟩ : ∃ n : Nat, x = n := ⟨x.toNat, by have := hx.1; omega⟩
  have hn : n < 2 ^ w := Int.ofNat_lt.mp hx.2
  unfold bt
  rw [Int.toNat_natCast]
  exact Nat.testBit_lt_two_pow (Nat.lt_of_lt_of_le hn (Nat.pow_le_pow_right (by decide) (by omega)))
/-- the chart, laid over K -/
def CH (K : Int → Int) (E : Int → Int → Int) (rs : Int → Int → Bool) (M : ZM) : Prop := CL K M ∧ CT K M ∧ ORD K rs M ∧ RSC K rs ∧ BAS K E rs M
theorem CH.congr {K : Int → Int} {E : Int → Int → Int} {rs : Int → Int → Bool} {M M' : ZM} (h : CH K E rs M) (e : ∀ b, (44 ≤ b ∧ b ≤ 55) ∨ b = 90 ∨ b = 92 ∨ b = 93 ∨ b = 94 → M' b = M b) (e8 : M' 89 8 = M 89 8) : CH K E rs M' := by
  obtain ⟨h1, h2, h3, h4, h5⟩ := h
  refine ⟨h1.congr (fun b hb => e b (by omega)), ?_, ?_, h4, ?_⟩
  · unfold CT at *
    rw [e 94 (by omega)]
    exact h2
  · unfold ORD at *
    rw [e8, e 93 (by omega)]
    exact h3
  · unfold BAS at *
    rw [e 92 (by omega)]
    exact h5
theorem c_weighC {d : Nat} {M : ZM} {K : Int → Int} {E : Int → Int → Int} {rs : Int → Int → Bool} {Q : Int → ZM → Prop} (h : CH K E rs M) (hE : EB K E) (hH : HD (M 91)) (hf : bs 6 (M 89 5)) (hQ : ∀ M', (∀ b, b ≠ 92 → b ≠ 94 → M' b = M b) → CH K E rs M' → Q (WS K E (M 91) (fun l => bt (M 89 5) l)) M') : zcL (d + 2) 8 [zA 89] M Q := by
  obtain ⟨h1, h2, h3, h4, h5⟩ := h
  refine c_weigh h1 h2 h3 h4 h5 hE hH hf (fun M' r ct cf ba fi => hQ M' r ⟨h1.congr (fun b hb => r b (by omega) (by omega)), ct, ?_, h4, ba⟩)
  unfold ORD at *
  rw [r 89 (by decide) (by decide), r 93 (by decide) (by decide)]
  exact h3
theorem c_looksAhead {d : Nat} {M : ZM} {K : Int → Int} {E : Int → Int → Int} {rs : Int → Int → Bool} {Q : Int → ZM → Prop} (h : CH K E rs M) (hQ : ∀ x, bs 6 x → (∀ s p, 0 ≤ s → s < K 179 → 0 ≤ p → p < K 182 → K (10 * p) = 0 → rs s p = true → bt x (K (10 * p + 1)) = true) → Q x M) : zcI (d + 1) 13 [zA 89] M Q := by
  obtain ⟨⟨hW, c1, c2, c3⟩, -, ⟨o1, o2, o3, -⟩, -, -⟩ := h
  have hpl := hW.1
  have lp : ∀ (m i : Nat) (x : Int), (i : Int) + m = M 89 8 → bs 6 x → (∀ j, 0 ≤ j → j < (i : Int) → ∀ s p, M 93 j = 16 * s + p → 0 ≤ s → 0 ≤ p → p < K 182 → K (10 * p) = 0 → bt x (K (10 * p + 1)) = true) → wX1_looksAhead d 4 [(0, zA 89), (1, zI x), (2, zI i)] M Q := by
    intro m
    induction m with
    | zero =>
      intro i x hi hx hb
      apply vX1_looksAhead_4
      refine ⟨fun _ => hQ x hx (fun s p s0 s1 p0 p1 pk hr => ?_), fun z => by omega⟩
      obtain ⟨j, j0, j1, j2⟩ := o3 s p s0 s1 p0 p1 (by omega) hr
      exact hb j j0 (by omega) s p j2 s0 p0 p1 pk
    | succ m ih =>
      intro i x hi hx hb
      obtain ⟨s, p, e, s0, s1, p0, p1, k3, hr⟩ := o2 i (by omega) (by omega)
      have tm : Int.tmod (16 * s + p) 16 = p := by rw [Int.tmod_eq_emod_of_nonneg (by omega)]; omega
      have hw := hW.2.2.2.2.2.2.2 p p0 p1
      apply vX1_looksAhead_4
      rw [e, tm, (c3 p p0 p1).1]
      refine ⟨fun z => by omega, fun _ => ⟨by omega, by omega, by omega, fun k => ⟨⟨by omega, by omega⟩, ih (i + 1) x (by omega) hx (fun j j0 j1 s' p' e' s0' p0' p1' pk => ?_)⟩, fun k => ⟨by omega, ⟨by omega, by omega⟩, ?_⟩⟩⟩
      · by_cases hj : j = i
        · subst hj
          rw [e] at e'
          have : p' = p := by omega
          subst this
          exact absurd pk k
        · exact hb j j0 (by omega) s' p' e' s0' p0' p1' pk
      · have hl := (hw.2.1 k).1
        rw [(c3 p p0 p1).2.1 k]
        have sb := bs_shl (m := 6) (by decide) (k := K (10 * p + 1)) hl.1 (by omega)
        have sr := sb.r (by decide)
        have xr := hx.r (by decide)
        refine ih (i + 1) _ (by omega) (bs_or (by decide) hx sb) (fun j j0 j1 s' p' e' s0' p0' p1' pk => ?_)
        by_cases hj : j = i
        · subst hj
          rw [e] at e'
          have : p' = p := by omega
          subst this
          refine bt_mono2 xr.1 xr.2 sr.1 sr.2 ?_
          rw [bt_shl hl.1 (by omega) hl.1]
          simp
        · exact bt_mono xr.1 xr.2 sr.1 sr.2 (hb j j0 (by omega) s' p' e' s0' p0' p1' pk)
  exact vX1_looksAhead _ _ _ (lp (M 89 8).toNat 0 0 (by omega) (bs_zero 6) (fun j a b => by omega))
/-- how many ROADS the FORK with the most of them has, of the first n PLACES with LOOK l -/
def mB (K : Int → Int) (l : Int) : Nat → Int
  | 0 => 0
  | n + 1 => if K (10 * n) = 0 ∧ K (10 * n + 1) = l then max (mB K l n) (K (10 * n + 2)) else mB K l n
abbrev mR (K : Int → Int) (l : Int) : Int := mB K l (K 182).toNat
theorem mB_rg {K : Int → Int} (hW : WF K) (l : Int) : ∀ n : Nat, (n : Int) ≤ K 182 → 0 ≤ mB K l n ∧ mB K l n ≤ 3 := by
  intro n
  induction n with
  | zero => intro _; unfold mB; omega
  | succ n ih =>
    intro hn
    have := ih (by omega)
    have := (hW.2.2.2.2.2.2.2 n (by omega) (by omega)).rc
    unfold mB
    split <;> omega
theorem mB_pos {K : Int → Int} (hW : WF K) (l : Int) : ∀ n : Nat, (n : Int) ≤ K 182 → (0 < mB K l n ↔ ∃ p : Int, 0 ≤ p ∧ p < n ∧ K (10 * p) = 0 ∧ K (10 * p + 1) = l) := by
  intro n
  induction n with
  | zero =>
    intro _
    unfold mB
    constructor
    · intro h; omega
    · rintro ⟨p, a, b, -⟩; omega
  | succ n ih =>
    intro hn
    have ih := ih (by omega)
    have rg := mB_rg hW l n (by omega)
    have hw := hW.2.2.2.2.2.2.2 n (by omega) (by omega)
    unfold mB
    by_cases h : K (10 * n) = 0 ∧ K (10 * n + 1) = l
    · rw [if_pos h]
      have := (hw.2.1 h.1).2
      constructor
      · intro _; exact ⟨n, by omega, by omega, h.1, h.2⟩
      · intro _; omega
    · rw [if_neg h, ih]
      constructor
      · rintro ⟨p, a, b, c, e⟩; exact ⟨p, a, by omega, c, e⟩
      · rintro ⟨p, a, b, c, e⟩
        refine ⟨p, a, ?_, c, e⟩
        have : p ≠ n := by rintro rfl; exact h ⟨c, e⟩
        omega
theorem mR_used {K : Int → Int} (hW : WF K) {l : Int} (l0 : 0 ≤ l) : (0 < mR K l) ↔ bt (uS K) l = true := by
  have hpl := hW.1
  have := uB_bt (K := K) (K 182).toNat (fun p p0 p1 hk => ((hW.2.2.2.2.2.2.2 p p0 (by omega)).2.1 hk).1) l0
  rw [this]
  exact mB_pos hW l _ (by omega)
theorem c_countRoads {d : Nat} {M : ZM} {K : Int → Int} {Q : ZM → Prop} (hL : CL K M) (hQ : ∀ M', (∀ b, b ≠ 97 → M' b = M b) → (∀ l, 0 ≤ l → l < 6 → M' 97 l = mR K l) → Q M') : zcV (d + 2) 14 [zA 89, zA 97] M Q := by
  obtain ⟨hW, c1, c2, c3⟩ := hL
  have hpl := hW.1
  apply vX1_countRoads_at89_97
  refine c_fillI (n := 6) rfl rfl (by decide) ?_
  have lp : ∀ (m i : Nat) (M1 : ZM), (i : Int) + m = K 182 → (∀ b, b ≠ 97 → M1 b = M b) → (∀ l, 0 ≤ l → l < 6 → M1 97 l = mB K l i) → wX1_countRoads (d + 1) 7 [(0, zA 89), (1, zA 97), (2, zI i)] M1 Q := by
    intro m
    induction m with
    | zero =>
      intro i M1 hi r v
      obtain rfl : i = (K 182).toNat := by omega
      apply vX1_countRoads_at89_97_7
      rw [r 44 (by decide), c1]
      exact ⟨fun _ => hQ M1 r v, fun z => by omega⟩
    | succ m ih =>
      intro i M1 hi r v
      obtain ⟨q1, q2, q3, q4, q5, q6⟩ := c3 i (by omega) (by omega)
      have hw := hW.2.2.2.2.2.2.2 i (by omega) (by omega)
      apply vX1_countRoads_at89_97_7
      rw [r 44 (by decide), c1, r 45 (by decide), q1, r 90 (by decide), r 48 (by decide), q5]
      refine ⟨fun z => by omega, fun _ => ⟨by omega, fun k => ⟨⟨by omega, by omega⟩, ih (i + 1) M1 (by omega) r (fun l l0 l1 => ?_)⟩, fun k => ?_⟩⟩
      · unfold mB; rw [if_neg (fun z => k z.1)]; exact v l l0 l1
      · have hl := (hw.2.1 k).1
        rw [q2 k]
        refine ⟨by omega, fun z => by omega, fun _ => ⟨by omega, by omega, by omega, by omega, by omega, zset ⟨⟨by omega, by omega⟩, ih (i + 1) _ (by omega) (fun b hb => by rw [zup_row hb, r b hb]) (fun l l0 l1 => ?_)⟩⟩⟩
        rw [zup_at]
        unfold mB
        by_cases e : l = K (10 * i + 1)
        · rw [if_pos e, if_pos ⟨k, e.symm⟩, e, v _ (by omega) (by omega)]
        · rw [if_neg e, if_neg (fun z => e z.2.symm), v l l0 l1]
  exact lp (K 182).toNat 0 _ (by omega) (fun b hb => zrow_ne hb) (fun l l0 l1 => by rw [zrow_at, if_pos (by omega)]; rfl)
theorem c_usedLooks {d : Nat} {M : ZM} {Q : Int → ZM → Prop} (hQ : ∀ x, bs 6 x → (∀ l : Nat, l < 6 → bt x l = decide (0 < M 97 l)) → Q x M) : zcI (d + 1) 78 [zA 96] M Q := by
  have lp : ∀ (m i : Nat) (x : Int), i + m = 6 → bs 6 x → (∀ l : Nat, l < 6 → bt x l = (decide (l < i) && decide (0 < M 97 l))) → wX6_usedLooks d 4 [(0, zA 96), (1, zI x), (2, zI i)] M Q := by
    intro m
    induction m with
    | zero =>
      intro i x hi hx hb
      apply vX6_usedLooks_4
      refine ⟨fun _ => hQ x hx (fun l hl => ?_), fun z => by omega⟩
      rw [hb l hl, show decide (l < i) = true by simp; omega, Bool.true_and]
    | succ m ih =>
      intro i x hi hx hb
      have sb := bs_shl (m := 6) (by decide) (k := (i : Int)) (by omega) (by omega)
      have sr := sb.r (by decide)
      have xr := hx.r (by decide)
      apply vX6_usedLooks_4
      refine ⟨fun z => by omega, fun _ => ⟨by omega, fun z => ⟨⟨by omega, by omega⟩, ih (i + 1) x (by omega) hx (fun l hl => ?_)⟩, fun z => ⟨⟨by omega, by omega⟩, ih (i + 1) _ (by omega) (bs_or (by decide) hx sb) (fun l hl => ?_)⟩⟩⟩
      · rw [hb l hl]
        by_cases e : l = i
        · subst e
          have : decide (0 < M 97 (l : Int)) = false := by simp; omega
          rw [this]; simp
        · congr 1
          exact decide_eq_decide.mpr (by omega)
      · rw [bt_or xr.1 xr.2 sr.1 sr.2, hb l hl, bt_shl (by omega) (by omega) (by omega)]
        by_cases e : l = i
        · subst e
          have : decide (0 < M 97 (l : Int)) = true := by simp; omega
          rw [this]; simp
        · have e1 : decide ((l : Int) = (i : Int)) = false := by simp; omega
          have e2 : decide (l < i + 1) = decide (l < i) := decide_eq_decide.mpr (by omega)
          rw [e1, e2, Bool.or_false]
  refine vX6_usedLooks _ _ _ (lp 6 0 0 (by omega) (bs_zero 6) (fun l hl => ?_))
  rw [bt_zero]
  simp
/-- how many choices -/
def cho (dc : Bool) (rc : Int) : Int := if dc = true then (if rc = 1 then 1 else if rc = 2 then 11 else 66) else rc
theorem c_choices {d : Nat} {M : ZM} {dc : Bool} {l : Int} {Q : Int → ZM → Prop} (hdc : M 96 6 = if dc = true then 1 else 0) (l0 : 0 ≤ l) (l1 : l < 6) (hQ : Q (cho dc (M 97 l)) M) : zcI (d + 1) 80 [zA 96, zI l] M Q := by
  apply vX6_choices
  rw [hdc]
  unfold cho at hQ
  cases dc with
  | true =>
    rw [if_pos rfl] at hQ ⊢
    refine ⟨fun _ => ⟨by omega, fun a => ⟨by omega, fun b => ?_, fun b => ?_⟩, fun a => ?_⟩, fun z => by omega⟩
    · rw [if_neg a, if_neg b] at hQ; exact hQ
    · rw [if_neg a, if_pos b] at hQ; exact hQ
    · rw [if_pos a] at hQ; exact hQ
  | false => exact ⟨fun z => absurd rfl z, fun _ => ⟨by omega, hQ⟩⟩
def pfx (nn : Nat → Nat) : Nat → Nat
  | 0 => 1
  | k + 1 => pfx nn k * nn k
theorem pfx6 (nn : Nat → Nat) : pfx nn 6 = PN nn 6 := by
  simp only [pfx, PN, Nat.mul_assoc, Nat.one_mul, Nat.mul_one, Nat.sub_zero, Nat.reduceSub]
theorem pfx_le {nn : Nat → Nat} (h : ∀ l, nn l ≤ 66) (k : Nat) : pfx nn k ≤ 66 ^ k := by
  induction k with
  | zero => exact Nat.le_refl _
  | succ k ih => rw [Nat.pow_succ]; exact Nat.mul_le_mul ih (h k)
/-- choices of each sought LOOK -/
def nnS (S : Nat → Bool) (dc : Bool) (R : Int → Int) (l : Nat) : Nat := if S l = true then (cho dc (R l)).toNat else 1
theorem c_rules {d : Nat} {M : ZM} {dc : Bool} {x : Int} {Q : Int → ZM → Prop} (hdc : M 96 6 = if dc = true then 1 else 0) (hx : bs 6 x) (hR : ∀ l : Nat, l < 6 → 0 ≤ M 97 l ∧ M 97 l ≤ 3) (hQ : Q (PN (nnS (fun l => bt x l) dc (M 97)) 6 : Nat) M) : zcL (d + 2) 79 [zA 96, zI x] M Q := by
  have xr := hx.r (by decide)
  have hb : ∀ l, nnS (fun l => bt x l) dc (M 97) l ≤ 66 := by
    intro l
    unfold nnS
    by_cases hl : l < 6
    · have := hR l hl
      split
      · unfold cho; split
        · split <;> (try split) <;> omega
        · omega
      · omega
    · rw [if_neg (by show ¬ bt x l = true; rw [bs_high hx (by omega)]; decide)]; omega
  have lp : ∀ (m i : Nat), i + m = 6 → wX6_rules (d + 1) 5 [(0, zA 96), (1, zI x), (2, zJ (pfx (nnS (fun l => bt x l) dc (M 97)) i : Nat)), (4, zI i)] M Q := by
    intro m
    induction m with
    | zero =>
      intro i hi
      obtain rfl : i = 6 := by omega
      rw [← pfx6] at hQ
      apply vX6_rules_5
      exact ⟨fun _ => hQ, fun z => by omega⟩
    | succ m ih =>
      intro i hi
      have nx := ih (i + 1) (by omega)
      have b1 := pfx_le hb (i + 1)
      have b2 : 66 ^ (i + 1) ≤ 66 ^ 6 := Nat.pow_le_pow_right (by decide) (by omega)
      have b3 : (66 : Nat) ^ 6 = 82653950016 := by decide
      apply vX6_rules_5
      rw [bt_read xr.1 xr.2 (by omega) (by omega)]
      have e : pfx (nnS (fun l => bt x l) dc (M 97)) (i + 1) = pfx (nnS (fun l => bt x l) dc (M 97)) i * nnS (fun l => bt x l) dc (M 97) i := rfl
      refine ⟨fun z => by omega, fun _ => ⟨fun z => ⟨⟨by omega, by omega⟩, ?_⟩, fun z => c_choices hdc (by omega) (by omega) ?_⟩⟩
      · have hf : bt x i = false := by
          cases hb : bt x i with
          | false => rfl
          | true => rw [hb] at z; exact absurd (if_pos rfl) z
        rw [e, show nnS (fun l => bt x l) dc (M 97) i = 1 by unfold nnS; rw [if_neg (by show ¬ bt x i = true; rw [hf]; decide)], Nat.mul_one] at nx
        exact nx
      · have ht : bt x i = true := by
          cases hb : bt x i with
          | true => rfl
          | false => rw [hb] at z; simp at z
        have rg := hR i (by omega)
        have c0 : 0 ≤ cho dc (M 97 i) := by
          unfold cho
          split
          · split <;> (try split) <;> omega
          · omega
        have en : ((nnS (fun l => bt x l) dc (M 97) i : Nat) : Int) = cho dc (M 97 i) := by unfold nnS; rw [if_pos ht]; omega
        have ev : ((pfx (nnS (fun l => bt x l) dc (M 97)) (i + 1) : Nat) : Int) = (pfx (nnS (fun l => bt x l) dc (M 97)) i : Nat) * cho dc (M 97 i) := by rw [e, Int.natCast_mul, en]
        rw [← ev]
        exact ⟨⟨by omega, by omega⟩, ⟨by omega, by omega⟩, nx⟩
  apply vX6_rules
  exact lp 6 0 (by omega)
/-- choose -/
theorem c_choose {d : Nat} {M : ZM} {dc : Bool} {l c : Nat} {Q : ZM → Prop} (hdc : M 96 6 = if dc = true then 1 else 0) (l6 : l < 6) (h2 : dc = true → M 97 l = 2 → c ≤ 10) (h3 : dc = true → M 97 l = 3 → c ≤ 65) (hQ : ∀ M', (∀ b, b ≠ 91 → M' b = M b) → (∀ j, (j < 3 * (l : Int) ∨ 3 * (l : Int) + 3 ≤ j) → M' 91 j = M 91 j) → (∀ i, 0 ≤ i → i ≤ 2 → M' 91 (3 * (l : Int) + i) = tri dc (M 97 l) c i) → Q M') : zcV (d + 1) 81 [zA 96, zI (l : Int), zI (c : Int)] M Q := by
  have fin : ∀ {i3 i4 : Int}, (0 ≤ i3 ∧ i3 ≤ 100) → (0 ≤ i4 ∧ i4 ≤ 100) → tri dc (M 97 l) c 0 = i3 → tri dc (M 97 l) c 1 = i4 → wX6_choose d 104 [(0, zA 96), (1, zI (l : Int)), (3, zI i3), (4, zI i4)] M Q := by
    intro i3 i4 b3 b4 e3 e4
    have ok := tri_ok dc (M 97 l) c
    apply vX6_choose_104
    refine ⟨⟨by omega, by omega⟩, by omega, zset ⟨⟨by omega, by omega⟩, ⟨by omega, by omega⟩, by omega, zset ⟨⟨by omega, by omega⟩, ⟨by omega, by omega⟩, ⟨by omega, by omega⟩, ⟨by omega, by omega⟩, by omega, zset (hQ _ (fun b hb => by rw [zup_row hb, zup_row hb, zup_row hb]) (fun j hj => by rw [zup_ne (by omega), zup_ne (by omega), zup_ne (by omega)]) (fun i i0 i1 => ?_))⟩⟩⟩
    rcases (by omega : i = 0 ∨ i = 1 ∨ i = 2) with rfl | rfl | rfl
    · rw [zup_ne (by omega), zup_ne (by omega), show 3 * (l : Int) + 0 = l * 3 by omega, zup_eq, e3]
    · rw [zup_ne (by omega), show 3 * (l : Int) + 1 = l * 3 + 1 by omega, zup_eq, e4]
    · rw [show 3 * (l : Int) + 2 = l * 3 + 2 by omega, zup_eq]; omega
  have lp : ∀ (n : Nat) (z o : Int), z + n = 10 → 0 ≤ z → 0 ≤ o → o ≤ 100 → dc = true → M 97 l = 3 → tr3 10 0 c = tr3 n z o → wX6_choose d 74 [(0, zA 96), (1, zI (l : Int)), (3, zI z), (4, zI o)] M Q := by
    intro n
    have en : ∀ {z o : Int}, (0 ≤ z ∧ z ≤ 10) → (0 ≤ o ∧ o ≤ 100) → dc = true → M 97 l = 3 → tr3 10 0 c = (z, o) → wX6_choose d 104 [(0, zA 96), (1, zI (l : Int)), (3, zI z), (4, zI o)] M Q := by
      intro z o zb ob hd hr e
      have c65 : ((min c 65 : Nat) : Int) = c := by have := h3 hd hr; omega
      refine fin (by omega) ob ?_ ?_
      · unfold tri
        rw [if_neg (by omega), if_pos ⟨hd, hr⟩, if_pos rfl, c65, e]
      · unfold tri
        rw [if_neg (by omega), if_pos ⟨hd, hr⟩, if_neg (by omega), if_pos rfl, c65, e]
    induction n with
    | zero =>
      intro z o hz z0 o0 o1 hd hr e
      apply vX6_choose_74
      exact ⟨fun _ => en (by omega) (by omega) hd hr e, fun z => by omega⟩
    | succ n ih =>
      intro z o hz z0 o0 o1 hd hr e
      have e : tr3 10 0 c = if z < 10 ∧ 10 - z < o then tr3 n (z + 1) (o - (11 - z)) else (z, o) := e
      apply vX6_choose_74
      refine ⟨fun z => by omega, fun _ => ⟨⟨by omega, by omega⟩, fun q => en (by omega) (by omega) hd hr ?_, fun q => ⟨⟨by omega, by omega⟩, ⟨by omega, by omega⟩, ⟨by omega, by omega⟩, ih _ _ (by omega) (by omega) (by omega) (by omega) hd hr ?_⟩⟩⟩
      · rw [e, if_neg (by omega)]
      · rw [e, if_pos (by omega)]
  have k24 : ∀ {i3 i4 : Int}, i3 = (if c = 0 then 10 else 0) → i4 = (if c = 1 then 10 else 0) → wX6_choose d 24 [(0, zA 96), (1, zI (l : Int)), (2, zI (c : Int)), (3, zI i3), (4, zI i4)] M Q := by
    intro i3 i4 e3 e4
    have b3 : 0 ≤ i3 ∧ i3 ≤ 100 := by rw [e3]; split <;> omega
    have b4 : 0 ≤ i4 ∧ i4 ≤ 100 := by rw [e4]; split <;> omega
    have pl : ¬ (dc = true ∧ M 97 l = 2) → ¬ (dc = true ∧ M 97 l = 3) → wX6_choose d 104 [(0, zA 96), (1, zI (l : Int)), (3, zI i3), (4, zI i4)] M Q := by
      intro n2 n3
      refine fin b3 b4 ?_ ?_
      · unfold tri
        rw [if_neg n2, if_neg n3, e3]
        by_cases h0 : c = 0
        · rw [if_pos h0, if_pos (by rw [if_pos (by omega)]; omega)]
        · rw [if_neg h0, if_neg (by split <;> omega)]
      · unfold tri
        rw [if_neg n2, if_neg n3, e4]
        by_cases h0 : c = 1
        · rw [if_pos h0, if_pos (by rw [if_pos (by omega)]; omega)]
        · rw [if_neg h0, if_neg (by split <;> omega)]
    apply vX6_choose_24
    rw [hdc]
    have k52 : ¬ (dc = true ∧ M 97 l = 2) → wX6_choose d 52 [(0, zA 96), (1, zI (l : Int)), (2, zI (c : Int)), (3, zI i3), (4, zI i4)] M Q := by
      intro n2
      apply vX6_choose_52
      rw [hdc]
      cases dc with
      | true =>
        refine ⟨fun z => by simp at z, fun _ => ⟨by omega, fun z => pl n2 (fun y => z y.2), fun z => ?_⟩⟩
        have := h3 rfl z
        exact lp 10 0 c (by omega) (by omega) (by omega) (by omega) rfl z rfl
      | false => exact ⟨fun _ => pl n2 (fun y => by cases y.1), fun z => by simp at z⟩
    cases dc with
    | true =>
      refine ⟨fun z => by simp at z, fun _ => ⟨by omega, fun z => k52 (fun y => z y.2), fun z => ?_⟩⟩
      have h10 := h2 rfl z
      have c10 : ((min c 10 : Nat) : Int) = c := by omega
      refine ⟨⟨by omega, by omega⟩, fin (by omega) (by omega) ?_ ?_⟩
      · unfold tri
        rw [if_pos ⟨rfl, z⟩, if_pos rfl, c10]
      · unfold tri
        rw [if_pos ⟨rfl, z⟩, if_neg (by omega), if_pos rfl, c10]
    | false => exact ⟨fun _ => k52 (fun y => by cases y.1), fun z => by simp at z⟩
  apply vX6_choose
  refine ⟨fun a => ⟨fun b => k24 ?_ ?_, fun b => k24 ?_ ?_⟩, fun a => ⟨fun b => k24 ?_ ?_, fun b => by omega⟩⟩
  · rw [if_neg (by omega)]
  · rw [if_neg (by omega)]
  · rw [if_neg (by omega)]
  · rw [if_pos (by omega)]
  · rw [if_pos (by omega)]
  · rw [if_neg (by omega)]
