/-! the reference's pocket -/
theorem m_pocketAt {d : Nat} {M : ZM} {E : Int → Int → Int} {ru : Int → Int} {n : Nat} {p s b : Int} {Q : Int → ZM → Prop} (hW : WF (M 115)) (p0 : 0 ≤ p) (p1 : p ≤ 15) (b0 : 0 ≤ b) (b1 : b ≤ 1) (hs : s = M 115 179 - n) (s0 : 0 ≤ s) (hT : p < M 115 182 → M 134 ((16 * s + p) * 2 + b) = PV (M 115) E ru n p b) (hQ : Q (PV (M 115) E ru n p b) M) : zcL (d + 2) 222 [zA 113, zI p, zI s, zI b] M Q := by
  obtain ⟨a1, a2, a3, a4, a5, a6, a7, a8⟩ := hW
  have t1 := ten_le n (by omega)
  have t0 := pow10_pos n
  apply vX10_pocketAt
  refine m_places ⟨fun q => ⟨by omega, m_day ⟨⟨by omega, by omega⟩, m_ten (n := n) (by omega) (by omega) ?_⟩⟩, fun q => ⟨⟨by omega, by omega⟩, ⟨by omega, by omega⟩, ⟨by omega, by omega⟩, ⟨by omega, by omega⟩, by omega, ?_⟩⟩
  · have := wone (T := 10 ^ n) (by omega) a5
    refine ⟨⟨by omega, by omega⟩, ?_⟩
    have e : PV (M 115) E ru n p b = M 115 181 * 10 ^ n := by
      cases n with
      | zero => unfold PV; rw [if_neg (by omega)]; omega
      | succ n => unfold PV; rw [if_neg (by omega)]
    rw [e] at hQ
    exact hQ
  · rw [hT (by omega)]; exact hQ
theorem m_pocket0 {d : Nat} {M : ZM} {E : Int → Int → Int} {n : Nat} {p s b : Int} {Q : Int → ZM → Prop} (hW : WF (M 115)) (hE : EB (M 115) E) (hV : VR (M 115) (M 133)) (p0 : 0 ≤ p) (p1 : p < M 115 182) (b0 : 0 ≤ b) (b1 : b ≤ 1) (hs : s = M 115 179 - n) (s0 : 0 ≤ s) (hw : M 115 (10 * p) = 3 → M 126 (11 * p + s) = E p s) (hT : ∀ n' q c, n = n' + 1 → 0 ≤ q → q < M 115 182 → 0 ≤ c → c ≤ 1 → M 134 ((16 * (s + 1) + q) * 2 + c) = PV (M 115) E (M 133) n' q c) (hQ : Q (PV (M 115) E (M 133) n p b) M) : zcL (d + 3) 223 [zA 113, zI p, zI s, zI b] M Q := by
  obtain ⟨a1, a2, a3, a4, a5, a6, a7, a8⟩ := id hW
  have t1 := ten_le n (by omega)
  have t0 := pow10_pos n
  have hwp := a8 p p0 p1
  have hr := hwp.rc
  obtain ⟨w1, w2, w3, w4, w5, w6⟩ := id hwp
  apply vX10_pocket0
  refine m_kind (by omega) (m_day ⟨⟨by omega, by omega⟩, m_ten (n := n) (by omega) (by omega) ⟨fun k3 => m_day ⟨fun q => ?_, fun q => ?_⟩, fun k3 => ?_⟩⟩)
  · obtain ⟨n', rfl⟩ : ∃ n', n = n' + 1 := ⟨n - 1, by omega⟩
    have vb : ∀ q c, 0 ≤ q → 0 ≤ c → c ≤ 1 → -19890000000000 ≤ PV (M 115) E (M 133) n' q c ∧ PV (M 115) E (M 133) n' q c ≤ 19890000000000 := fun q c q0 c0 c1 => by
      have := PV_bd hW hE hV.ru n' q c q0 c0 c1
      have := BD_le n' (by omega)
      omega
    have nxt : ∀ {q c : Int} {Q : Int → ZM → Prop}, 0 ≤ q → q ≤ 15 → 0 ≤ c → c ≤ 1 → Q (PV (M 115) E (M 133) n' q c) M → zcL (d + 2) 222 [zA 113, zI q, zI (s + 1), zI c] M Q := fun {q c Q} q0 q1 c0 c1 hQ => m_pocketAt hW q0 q1 c0 c1 (by omega) (by omega) (fun q2 => hT n' q c rfl q0 q2 c0 c1) hQ
    have rk : ∀ k, 0 ≤ k → k < M 115 (10 * p + 2) → rdc (M 115) p k = M 115 (10 * p + 3 + k) := fun k k0 k1 => by unfold rdc; rw [if_pos k1]
    unfold PV at hQ
    rw [if_pos p1, if_neg k3] at hQ
    refine ⟨fun k2 => m_fld (by omega) (by omega) ⟨fun k0 => ?_, fun k0 => ?_⟩, fun k2 => ?_⟩
    · -- a TURN
      have k1 : M 115 (10 * p) = 1 := by omega
      rw [if_neg k2, if_pos k1] at hQ
      obtain ⟨⟨c0, c1⟩, u2, u3, u4, u5⟩ := w3 k1
      have go : ∀ {j8 i10 : Int} {Q : Int → ZM → Prop}, 0 ≤ i10 → i10 < M 115 (10 * p + 2) → (-400000000000000 ≤ j8 ∧ j8 ≤ 400000000000000) → wX10_pocket0 (d + 2) 178 [(0, zA 113), (1, zI p), (2, zI s), (3, zI b), (7, zI (M 115 (10 * p + 2))), (8, zJ (j8 + M 115 (10 * p + 6 + i10) * PV (M 115) E (M 133) n' (rdc (M 115) p i10) b)), (10, zI (i10 + 1))] M Q → wX10_pocket0 (d + 2) 178 [(0, zA 113), (1, zI p), (2, zI s), (3, zI b), (7, zI (M 115 (10 * p + 2))), (8, zJ j8), (10, zI i10)] M Q := by
        intro j8 i10 Q i0 i1 jb nx
        have hu := u2 i10 i0 i1
        have hd' := w6 i10 i0 i1
        rw [rk i10 i0 i1] at nx
        have vb1 := vb _ b hd'.1 b0 b1
        have wb := wsum (B := 19890000000000) (S := 10) (a := M 115 (10 * p + 6 + i10)) (b := 10 - M 115 (10 * p + 6 + i10)) (c := 0) (z := 0) (y := 0) (by omega) (by omega) (by omega) (by omega) vb1 (by omega) (by omega)
        rw [Int.mul_zero, Int.mul_zero] at wb
        apply vX10_pocket0_178
        exact ⟨fun z => by omega, fun _ => ⟨⟨by omega, by omega⟩, m_fldk (by omega) (by omega) ⟨⟨by omega, by omega⟩, m_fldk (by omega) (by omega) ⟨⟨by omega, by omega⟩, nxt hd'.1 hd'.2 b0 b1 ⟨⟨by omega, by omega⟩, ⟨by omega, by omega⟩, ⟨by omega, by omega⟩, nx⟩⟩⟩⟩⟩
      have en : ∀ {j8 i10 : Int}, M 115 (10 * p + 2) ≤ i10 → Q j8 M → wX10_pocket0 (d + 2) 178 [(0, zA 113), (1, zI p), (2, zI s), (3, zI b), (7, zI (M 115 (10 * p + 2))), (8, zJ j8), (10, zI i10)] M Q := fun {j8 i10} a b => vX10_pocket0_178 _ _ _ _ _ _ _ _ _ ⟨fun _ => b, fun q => by omega⟩
      have x6 := u2 0 (by omega) (by omega)
      rw [Int.add_zero] at x6
      have v0 := vb (rdc (M 115) p 0) b (rdc_nn hW p0 p1 k3 (by omega)).1 b0 b1
      have y0 := wsum (B := 19890000000000) (S := 10) (a := M 115 (10 * p + 6)) (b := 10 - M 115 (10 * p + 6)) (c := 0) (z := 0) (y := 0) (by omega) (by omega) (by omega) (by omega) v0 (by omega) (by omega)
      rw [Int.mul_zero, Int.mul_zero] at y0
      refine go (by omega) (by omega) (by omega) ?_
      rw [Int.add_zero, Int.zero_add, show (0 : Int) + 1 = 1 by omega]
      by_cases c2 : M 115 (10 * p + 2) ≤ 1
      · refine en c2 ?_
        rw [u4 c2, u5 (by omega)] at hQ
        rw [Int.zero_mul, Int.zero_mul, Int.add_zero, Int.add_zero] at hQ
        exact hQ
      · have x7 := u2 1 (by omega) (by omega)
        rw [show 10 * p + 6 + 1 = 10 * p + 7 by omega] at x7
        have v1 := vb (rdc (M 115) p 1) b (rdc_nn hW p0 p1 k3 (by omega)).1 b0 b1
        have y1 := wsum (B := 19890000000000) (S := 10) (a := M 115 (10 * p + 7)) (b := 10 - M 115 (10 * p + 7)) (c := 0) (z := 0) (y := 0) (by omega) (by omega) (by omega) (by omega) v1 (by omega) (by omega)
        rw [Int.mul_zero, Int.mul_zero] at y1
        refine go (by omega) (by omega) (by omega) ?_
        rw [show 10 * p + 6 + 1 = 10 * p + 7 by omega, show (1 : Int) + 1 = 2 by omega]
        by_cases c3 : M 115 (10 * p + 2) ≤ 2
        · refine en c3 ?_
          rw [u5 c3, Int.zero_mul, Int.add_zero] at hQ
          exact hQ
        · refine go (by omega) (by omega) (by omega) ?_
          rw [show 10 * p + 6 + 2 = 10 * p + 8 by omega]
          exact en (by omega) hQ
    · -- a FORK
      obtain ⟨hl, hm⟩ := mR_fork hW p0 p1 k0
      have hv := hV (M 115 (10 * p + 1)) b hl.1 hl.2 b0 b1 hm
      have m3 : mR (M 115) (M 115 (10 * p + 1)) ≤ 3 := (mB_rg hW _ (M 115 182).toNat (by omega)).2
      have rc := (w2 k0).2
      rw [if_neg k2, if_neg (by omega), if_neg (by omega)] at hQ
      refine m_fld (by omega) (by omega) ?_
      have td : Int.tdiv (M 133 (2 * M 115 (10 * p + 1) + b)) 2 = M 133 (2 * M 115 (10 * p + 1) + b) / 2 := Int.tdiv_eq_ediv_of_nonneg (by omega)
      have tm : Int.tmod (M 133 (2 * M 115 (10 * p + 1) + b)) 2 = M 133 (2 * M 115 (10 * p + 1) + b) % 2 := Int.tmod_eq_emod_of_nonneg (by omega)
      generalize hru : M 133 (2 * M 115 (10 * p + 1) + b) = r at *
      rw [td]
      have rb := rdc_nn hW p0 p1 k3 (k := r / 2) (by omega)
      have k147 : ∀ i9 : Int, 0 ≤ i9 → i9 < M 115 (10 * p + 2) → M 115 (10 * p + 3 + i9) = rdc (M 115) p (r / 2) → wX10_pocket0 (d + 2) 147 [(0, zA 113), (1, zI p), (2, zI s), (8, zI r), (9, zI i9)] M Q := by
        intro i9 i0 i1 ei
        have vb1 := vb _ (r % 2) rb.1 (by omega) (by omega)
        apply vX10_pocket0_147
        refine ⟨⟨by omega, by omega⟩, m_fldk (by omega) (by omega) ?_⟩
        rw [ei, tm]
        exact ⟨⟨by omega, by omega⟩, by omega, nxt rb.1 rb.2 (by omega) (by omega) ⟨⟨by omega, by omega⟩, hQ⟩⟩
      refine ⟨⟨by omega, by omega⟩, ⟨by omega, by omega⟩, by omega, by omega, ⟨by omega, by omega⟩, fun z => ⟨⟨by omega, by omega⟩, k147 _ (by omega) (by omega) ?_⟩, fun z => ⟨by omega, ⟨by omega, by omega⟩, k147 _ (by omega) (by omega) ?_⟩⟩
      · unfold rdc; rw [if_neg (by omega)]
      · unfold rdc; rw [if_pos (by omega)]
    · rw [if_pos k2] at hQ
      obtain ⟨x1, x2⟩ := w4 k2
      have hd' := w6 0 (by omega) (by omega)
      rw [rk 0 (by omega) (by omega)] at hQ
      rw [Int.add_zero] at hd' hQ
      have vb1 := vb _ b hd'.1 b0 b1
      have tb := wone (B := 99) (x := M 115 (10 * p + 1)) (T := 10 ^ (n' + 1)) (by omega) (by omega)
      exact m_fld (by omega) (by omega) ⟨⟨by omega, by omega⟩, nxt hd'.1 hd'.2 b0 b1 ⟨⟨by omega, by omega⟩, m_fld (by omega) (by omega) ⟨⟨by omega, by omega⟩, ⟨by omega, by omega⟩, hQ⟩⟩⟩
  · obtain rfl : n = 0 := by omega
    unfold PV at hQ
    rw [if_pos p1, if_neg k3] at hQ
    exact ⟨by omega, hQ⟩
  · have e := hw k3
    have eb := hE p s
    have tb := wone (B := 999) (x := E p s) (T := 10 ^ n) (by omega) eb
    rw [e]
    refine ⟨⟨by omega, by omega⟩, ⟨by omega, by omega⟩, by omega, ⟨by omega, by omega⟩, ?_⟩
    cases n with
    | zero =>
      unfold PV at hQ
      rw [if_pos p1, if_pos k3] at hQ
      rw [show s = M 115 179 by omega, Int.pow_zero, Int.mul_one]
      exact hQ
    | succ n =>
      unfold PV at hQ
      rw [if_pos p1, if_pos k3] at hQ
      rw [hs]
      exact hQ
/-- choices of KEY k -/
def bP (K : Int → Int) (k : Nat) : Nat := if bt (uS K) ((k / 2 : Nat) : Int) = true then 2 * NP K (k / 2) else 1
theorem bP_pos {K : Int → Int} (hW : WF K) (k : Nat) : 1 ≤ bP K k ∧ bP K k ≤ 6 := by
  have := (NP_v hW (k / 2)).2
  unfold bP
  split <;> omega
theorem PB_bits {K : Int → Int} (hW : WF K) : ∀ l : Nat, PB (bP K) (2 * l) ≤ 36 ^ (bN (uS K) l).toNat := by
  intro l
  induction l with
  | zero => exact Nat.le_refl _
  | succ l ih =>
    have rg := bN_rg (uS K) l
    have e : PB (bP K) (2 * (l + 1)) = PB (bP K) (2 * l) * bP K (2 * l) * bP K (2 * l + 1) := rfl
    have b1 := (bP_pos hW (2 * l)).2
    have b2 := (bP_pos hW (2 * l + 1)).2
    rw [e]
    show _ ≤ 36 ^ (bN (uS K) l + (if bt (uS K) l = true then 1 else 0)).toNat
    by_cases h : bt (uS K) l = true
    · rw [if_pos h, show (bN (uS K) l + 1).toNat = (bN (uS K) l).toNat + 1 by omega, Nat.pow_succ, Nat.mul_assoc]
      exact Nat.mul_le_mul ih (Nat.mul_le_mul b1 b2)
    · have x1 : bP K (2 * l) = 1 := by unfold bP; rw [show 2 * l / 2 = l by omega, if_neg h]
      have x2 : bP K (2 * l + 1) = 1 := by unfold bP; rw [show (2 * l + 1) / 2 = l by omega, if_neg h]
      rw [if_neg h, Int.add_zero, x1, x2, Nat.mul_one, Nat.mul_one]
      exact ih
theorem m_pocketLoop {d : Nat} {M : ZM} {E : Int → Int → Int} {Q : Int → ZM → Prop} (hW : WF (M 115)) (hE : EB (M 115) E) (hw : ∀ p s, 0 ≤ p → p < M 115 182 → 0 ≤ s → s ≤ 10 → M 115 (10 * p) = 3 → M 126 (11 * p + s) = E p s) (h3 : bC (uS (M 115)) ≤ 3) (hQ : ∀ M' x, (∀ b, b ≠ 133 → b ≠ 134 → M' b = M b) → PX (M 115) E x → Q (x * 10 ^ (10 - (M 115 179).toNat)) M') : wX10_pocket (d + 45) 35 [(0, zA 113), (1, zI 1), (2, zI (uS (M 115))), (3, zI 0)] M Q := by
  have hpl := hW.1
  have hst := hW.2.1
  have hday := hW.2.2.1
  have ub := hW.us
  have ur := ub.r (by decide)
  generalize hK : M 115 = K at *
  have ba1 : ∀ k, 1 ≤ bP K k := fun k => (bP_pos hW k).1
  have pb12 : ∀ l, l ≤ 6 → PB (bP K) (2 * l) ≤ 46656 := by
    intro l hl
    refine Nat.le_trans (PB_bits hW l) ?_
    have h1 : bN (uS K) l ≤ bC (uS K) := bN_mono (uS K) (show l ≤ 16 by omega)
    have h2 := bN_rg (uS K) l
    have : (36 : Nat) ^ (bN (uS K) l).toNat ≤ 36 ^ 3 := Nat.pow_le_pow_right (by decide) (by omega)
    exact Nat.le_trans this (by decide)
  have pbk : ∀ k, k ≤ 12 → PB (bP K) k ≤ 46656 * 6 := by
    intro k hk
    rcases (by omega : k = 2 * (k / 2) ∨ k = 2 * (k / 2) + 1) with e | e
    · rw [e]; have := pb12 (k / 2) (by omega); omega
    · rw [e]
      show PB (bP K) (2 * (k / 2)) * bP K (2 * (k / 2)) ≤ 46656 * 6
      exact Nat.mul_le_mul (pb12 (k / 2) (by omega)) (bP_pos hW _).2
  have pp : PB (bP K) 12 ≤ 46656 := pb12 6 (by omega)
  -- a rule by its number
  let dgt : Nat → Nat → Nat := fun r k => r / PB (bP K) k % bP K k
  have dlt : ∀ r k, dgt r k < bP K k := fun r k => Nat.mod_lt _ (ba1 k)
  let AGR : Nat → (Int → Int) → Prop := fun r ru => ∀ (l b : Nat), l < 6 → b < 2 → bt (uS K) l = true → ru (2 * l + b) = (dgt r (2 * l + b) : Nat)
  have usd : ∀ l : Nat, bt (uS K) l = true → ((NP K l : Nat) : Int) = mR K l ∧ 0 < mR K l := by
    intro l hl
    have a := (NP_v hW l).1
    have b := (mR_used hW (l := (l : Int)) (by omega)).mpr hl
    exact ⟨by omega, b⟩
  have agv : ∀ r ru, AGR r ru → VR K ru := by
    intro r ru ha l b l0 l1 b0 b1 lm
    obtain ⟨l, rfl⟩ : ∃ m : Nat, l = m := ⟨l.toNat, by omega⟩
    obtain ⟨b, rfl⟩ : ∃ m : Nat, b = m := ⟨b.toNat, by omega⟩
    have hb := (mR_used hW (l := (l : Int)) (by omega)).mp lm
    have e := ha l b (by omega) (by omega) hb
    have lt := dlt r (2 * l + b)
    have bp : bP K (2 * l + b) = 2 * NP K l := by
      unfold bP
      rw [show (2 * l + b) / 2 = l by omega, if_pos hb]
    have := usd l hb
    rw [e]
    omega
  have lp82 : ∀ (m r : Nat) (x : Int) (M1 : ZM), r + m = PB (bP K) 12 → (∀ b, b ≠ 133 → b ≠ 134 → M1 b = M b) → ((r = 0 ∧ x = NOTH) ∨ (∃ ru, VR K ru ∧ x = pW K E ru)) → (∀ r' ru, r' < r → AGR r' ru → pW K E ru ≤ x) → wX10_pocket (d + 45) 82 [(0, zA 113), (1, zI ((PB (bP K) 12 : Nat) : Int)), (2, zI (uS K)), (3, zJ x), (5, zI (r : Int))] M1 Q := by
    intro m
    induction m with
    | zero =>
      intro r x M1 hr r1 hx hm
      obtain rfl : r = PB (bP K) 12 := by omega
      have e115 : M1 115 = K := by rw [r1 115 (by decide) (by decide)]; exact hK
      have p1 := PB_pos ba1 12
      apply vX10_pocket_82
      refine ⟨fun _ => m_day ?_, fun z => by omega⟩
      rw [e115]
      rcases hx with ⟨a, -⟩ | hx
      · omega
      refine ⟨⟨by omega, by omega⟩, m_ten (n := 10 - (K 179).toNat) (by omega) (by omega) ?_⟩
      obtain ⟨ru, v, rfl⟩ := hx
      have sb := scale_bd (n := (K 179).toNat) (by omega) (PV_bd hW hE v.ru (K 179).toNat (K 178) 0 hst.1 (by omega) (by omega))
      have sb : -19890000000000 ≤ pW K E ru * 10 ^ (10 - (K 179).toNat) ∧ pW K E ru * 10 ^ (10 - (K 179).toNat) ≤ 19890000000000 := sb
      refine ⟨⟨by omega, by omega⟩, hQ M1 _ r1 ⟨⟨ru, v, rfl⟩, fun ru' hv' => ?_⟩⟩
      -- each rule has a number
      obtain ⟨r', q1, q2⟩ := PB_surj (ba := bP K) (c := fun k => if bt (uS K) ((k / 2 : Nat) : Int) = true ∧ k < 12 then (ru' k).toNat else 0) ba1 (fun k => by
        by_cases hb : bt (uS K) ((k / 2 : Nat) : Int) = true ∧ k < 12
        · rw [if_pos hb]
          have u := usd (k / 2) hb.1
          have v2 := hv' ((k / 2 : Nat) : Int) ((k % 2 : Nat) : Int) (by omega) (by omega) (by omega) (by omega) u.2
          rw [show 2 * ((k / 2 : Nat) : Int) + ((k % 2 : Nat) : Int) = (k : Int) by omega] at v2
          have bp : bP K k = 2 * NP K (k / 2) := by unfold bP; rw [if_pos hb.1]
          rw [bp]
          omega
        · rw [if_neg hb]; have := ba1 k; omega) 12
      refine hm r' ru' q1 (fun l b hl hb hu => ?_)
      have := q2 (2 * l + b) (by omega)
      show _ = ((r' / PB (bP K) (2 * l + b) % bP K (2 * l + b) : Nat) : Int)
      rw [this, show (2 * l + b) / 2 = l by omega, if_pos ⟨hu, by omega⟩]
      have v2 := hv' (l : Int) (b : Int) (by omega) (by omega) (by omega) (by omega) (usd l hu).2
      rw [show ((2 * l + b : Nat) : Int) = 2 * (l : Int) + (b : Int) by omega]
      omega
    | succ m ih =>
      intro r x M1 hr r1 hx hm
      have e115 : M1 115 = K := by rw [r1 115 (by decide) (by decide)]; exact hK
      apply vX10_pocket_82
      refine ⟨fun z => by omega, fun _ => ?_⟩
      -- weighed
      have wgh : ∀ M2 : ZM, (∀ b, b ≠ 133 → b ≠ 134 → M2 b = M b) → AGR r (M2 133) → wX10_pocket (d + 45) 174 [(0, zA 113), (1, zI ((PB (bP K) 12 : Nat) : Int)), (2, zI (uS K)), (3, zJ x), (5, zI (r : Int)), (7, zI (K 179))] M2 Q := by
        intro M2 r2 ag2
        have V2 := agv r _ ag2
        generalize hru : M2 133 = ru at *
        let Inv := fun (n : Nat) (p c : Int) (M3 : ZM) => (∀ b, b ≠ 134 → M3 b = M2 b) ∧ ∀ (n' : Nat) (q c' : Int), (n' : Int) ≤ K 179 → 0 ≤ q → q < K 182 → 0 ≤ c' → c' ≤ 1 → (n' < n ∨ n' = n ∧ (q < p ∨ q = p ∧ c' < c)) → M3 134 ((16 * (K 179 - n') + q) * 2 + c') = PV K E ru n' q c'
        have f115 : ∀ M3 : ZM, (∀ b, b ≠ 134 → M3 b = M2 b) → M3 115 = K := fun M3 h => by rw [h 115 (by decide), r2 115 (by decide) (by decide)]; exact hK
        have lp194 : ∀ (n : Nat) (p : Int), (n : Int) ≤ K 179 → 0 ≤ p → p < K 182 → (∀ M3, Inv n (p + 1) 0 M3 → wX10_pocket (d + 45) 182 [(0, zA 113), (1, zI ((PB (bP K) 12 : Nat) : Int)), (2, zI (uS K)), (3, zJ x), (5, zI (r : Int)), (7, zI (K 179 - n)), (8, zI (p + 1))] M3 Q) → ∀ (m c : Nat) (M3 : ZM), c + m = 2 → Inv n p c M3 → wX10_pocket (d + 45) 194 [(0, zA 113), (1, zI ((PB (bP K) 12 : Nat) : Int)), (2, zI (uS K)), (3, zJ x), (5, zI (r : Int)), (7, zI (K 179 - n)), (8, zI p), (9, zI (c : Int))] M3 Q := by
          intro n p hn p0 p1 nxt m
          induction m with
          | zero =>
            intro c M3 hc hI
            apply vX10_pocket_194
            exact ⟨fun _ => ⟨⟨by omega, by omega⟩, nxt M3 ⟨hI.1, fun n' q c' y1 y2 y3 y4 y5 y6 => hI.2 n' q c' y1 y2 y3 y4 y5 (by omega)⟩⟩, fun z => by omega⟩
          | succ m ihm =>
            intro c M3 hc hI
            have e3 := f115 M3 hI.1
            have e133 : M3 133 = ru := by rw [hI.1 133 (by decide)]; exact hru
            apply vX10_pocket_194
            refine ⟨fun z => by omega, fun _ => ⟨⟨by omega, by omega⟩, ⟨by omega, by omega⟩, ⟨by omega, by omega⟩, ⟨by omega, by omega⟩, m_pocket0 (E := E) (n := n) (by rw [e3]; exact hW) (by rw [e3]; exact hE) (by rw [e3, e133]; exact V2) p0 (by rw [e3]; exact p1) (by omega) (by omega) (by rw [e3]) (by omega) (fun k3 => ?_) (fun n' q c' hn' q0 q1 c0 c1 => ?_) ⟨by omega, zset ⟨⟨by omega, by omega⟩, ihm (c + 1) _ (by omega) ⟨fun b hb => by rw [zup_row hb, hI.1 b hb], fun n' q c' y1 y2 y3 y4 y5 y6 => ?_⟩⟩⟩⟩⟩
            · rw [e3] at k3
              rw [hI.1 126 (by decide), r2 126 (by decide) (by decide)]
              exact hw p _ p0 p1 (by omega) (by omega) k3
            · subst hn'
              rw [e3] at q1
              rw [e3, e133]
              have := hI.2 n' q c' (by omega) q0 q1 c0 c1 (by omega)
              rw [show K 179 - ((n' + 1 : Nat) : Int) + 1 = K 179 - (n' : Int) by omega]
              exact this
            · rw [zup_at, e3, e133]
              by_cases hq : (16 * (K 179 - (n' : Int)) + q) * 2 + c' = (16 * (K 179 - (n : Int)) + p) * 2 + c
              · have z1 : n' = n := by omega
                have z2 : q = p := by omega
                have z3 : c' = c := by omega
                subst z1 z2 z3
                rw [if_pos rfl]
              · rw [if_neg hq]
                refine hI.2 n' q c' y1 y2 y3 y4 y5 ?_
                by_cases z1 : n' = n
                · by_cases z2 : q = p
                  · subst z1 z2; omega
                  · omega
                · omega
        have lp182 : ∀ (n : Nat), (n : Int) ≤ K 179 → (∀ M3, Inv (n + 1) 0 0 M3 → wX10_pocket (d + 45) 174 [(0, zA 113), (1, zI ((PB (bP K) 12 : Nat) : Int)), (2, zI (uS K)), (3, zJ x), (5, zI (r : Int)), (7, zI (K 179 - n + (-1)))] M3 Q) → ∀ (m p : Nat) (M3 : ZM), (p : Int) + m = K 182 → Inv n p 0 M3 → wX10_pocket (d + 45) 182 [(0, zA 113), (1, zI ((PB (bP K) 12 : Nat) : Int)), (2, zI (uS K)), (3, zJ x), (5, zI (r : Int)), (7, zI (K 179 - n)), (8, zI (p : Int))] M3 Q := by
          intro n hn nxt m
          induction m with
          | zero =>
            intro p M3 hp hI
            have e3 := f115 M3 hI.1
            apply vX10_pocket_182
            refine m_places ?_
            rw [e3]
            exact ⟨fun _ => ⟨⟨by omega, by omega⟩, nxt M3 ⟨hI.1, fun n' q c' y1 y2 y3 y4 y5 y6 => hI.2 n' q c' y1 y2 y3 y4 y5 (by omega)⟩⟩, fun z => by omega⟩
          | succ m ihm =>
            intro p M3 hp hI
            have e3 := f115 M3 hI.1
            apply vX10_pocket_182
            refine m_places ?_
            rw [e3]
            exact ⟨fun z => by omega, fun _ => lp194 n p hn (by omega) (by omega) (fun M4 hI4 => ihm (p + 1) M4 (by omega) hI4) 2 0 M3 (by omega) hI⟩
        have lp174 : ∀ (m n : Nat) (M3 : ZM) (y : Int), (n : Int) + m = K 179 + 1 → y = K 179 - n → Inv n 0 0 M3 → wX10_pocket (d + 45) 174 [(0, zA 113), (1, zI ((PB (bP K) 12 : Nat) : Int)), (2, zI (uS K)), (3, zJ x), (5, zI (r : Int)), (7, zI y)] M3 Q := by
          intro m
          induction m with
          | zero =>
            intro n M3 y hm' hy hI
            have e3 := f115 M3 hI.1
            apply vX10_pocket_174
            rw [e3]
            refine ⟨fun _ => ⟨by omega, m_pocketAt (E := E) (ru := ru) (n := (K 179).toNat) (by rw [e3]; exact hW) hst.1 hst.2 (by omega) (by omega) (by rw [e3]; omega) (by omega) (fun q => ?_) ?_⟩, fun z => by omega⟩
            · rw [e3] at q ⊢
              have := hI.2 (K 179).toNat (K 178) 0 (by omega) hst.1 q (by omega) (by omega) (by omega)
              rw [show K 179 - ((K 179).toNat : Int) = 0 by omega] at this
              exact this
            · rw [e3]
              have rows : ∀ b, b ≠ 133 → b ≠ 134 → M3 b = M b := fun b h1 h2 => by rw [hI.1 b h2, r2 b h1 h2]
              have vb := scale_bd (n := (K 179).toNat) (by omega) (PV_bd hW hE V2.ru (K 179).toNat (K 178) 0 hst.1 (by omega) (by omega))
              have eqv : ∀ ru', AGR r ru' → pW K E ru' = pW K E ru := fun ru' ha => PV_cg hW V2 (fun l b l0 l1 b0 b1 lm => by
                obtain ⟨l, rfl⟩ : ∃ m : Nat, l = m := ⟨l.toNat, by omega⟩
                obtain ⟨b, rfl⟩ : ∃ m : Nat, b = m := ⟨b.toNat, by omega⟩
                have hb := (mR_used hW (l := (l : Int)) (by omega)).mp lm
                rw [ha l b (by omega) (by omega) hb, ag2 l b (by omega) (by omega) hb]) _ _ _ hst.1 (by omega) (by omega)
              have bn := PV_bd hW hE V2.ru (K 179).toNat (K 178) 0 hst.1 (by omega) (by omega)
              have bl := BD_le (K 179).toNat (by omega)
              refine ⟨fun z => ⟨⟨by omega, by omega⟩, ih (r + 1) x M3 (by omega) rows ?_ (fun r' ru' hr' ha => ?_)⟩, fun z => ⟨⟨by omega, by omega⟩, ih (r + 1) _ M3 (by omega) rows (Or.inr ⟨ru, V2, rfl⟩) (fun r' ru' hr' ha => ?_)⟩⟩
              · rw [cmp_le] at z
                rcases hx with ⟨a, b⟩ | hx
                · unfold NOTH at b; omega
                · exact Or.inr hx
              · rw [cmp_le] at z
                by_cases e : r' = r
                · subst e
                  rw [eqv ru' ha]; exact z
                · exact hm r' ru' (by omega) ha
              · rw [cmp_le] at z
                by_cases e : r' = r
                · subst e
                  rw [eqv ru' ha]; exact Int.le_refl _
                · have := hm r' ru' (by omega) ha
                  have : pW K E ru' ≤ PV K E ru (K 179).toNat (K 178) 0 := by omega
                  exact this
          | succ m ihm =>
            intro n M3 y hm' hy hI
            subst hy
            apply vX10_pocket_174
            exact ⟨fun z => by omega, fun _ => lp182 n (by omega) (fun M4 hI4 => ihm (n + 1) M4 _ (by omega) (by omega) hI4) (K 182).toNat 0 M3 (by omega) hI⟩
        exact lp174 (K 179 + 1).toNat 0 M2 _ (by omega) (by omega) ⟨fun _ _ => rfl, fun n' q c' y1 y2 y3 y4 y5 y6 => by omega⟩
      -- the digits
      have key : ∀ (m k : Nat) (M2 : ZM), k + m = 12 → (∀ b, b ≠ 133 → b ≠ 134 → M2 b = M b) → (∀ i : Nat, i < k → bt (uS K) ((i / 2 : Nat) : Int) = true → M2 133 i = (dgt r i : Nat)) → (k % 2 = 0 → wX10_pocket (d + 45) 95 [(0, zA 113), (1, zI ((PB (bP K) 12 : Nat) : Int)), (2, zI (uS K)), (3, zJ x), (5, zI (r : Int)), (6, zI ((r / PB (bP K) k : Nat) : Int)), (7, zI ((k / 2 : Nat) : Int))] M2 Q) ∧ (k < 12 → bt (uS K) ((k / 2 : Nat) : Int) = true → wX10_pocket (d + 45) 105 [(0, zA 113), (1, zI ((PB (bP K) 12 : Nat) : Int)), (2, zI (uS K)), (3, zJ x), (5, zI (r : Int)), (6, zI ((r / PB (bP K) k : Nat) : Int)), (7, zI ((k / 2 : Nat) : Int)), (8, zI ((k % 2 : Nat) : Int))] M2 Q) := by
        intro m
        induction m using Nat.strongRecOn with
        | ind m ihm =>
          intro k M2 hk r2 o2
          have e2 : M2 115 = K := by rw [r2 115 (by decide) (by decide)]; exact hK
          have W2 : WF (M2 115) := by rw [e2]; exact hW
          have in105 : k < 12 → bt (uS K) ((k / 2 : Nat) : Int) = true → wX10_pocket (d + 45) 105 [(0, zA 113), (1, zI ((PB (bP K) 12 : Nat) : Int)), (2, zI (uS K)), (3, zJ x), (5, zI (r : Int)), (6, zI ((r / PB (bP K) k : Nat) : Int)), (7, zI ((k / 2 : Nat) : Int)), (8, zI ((k % 2 : Nat) : Int))] M2 Q := by
            intro k12 hb
            have nv := NP_v hW (k / 2)
            have bp : bP K k = 2 * NP K (k / 2) := by unfold bP; rw [if_pos hb]
            have ebp : 2 * max 1 (mR K ((k / 2 : Nat) : Int)) = ((bP K k : Nat) : Int) := by rw [← nv.1, bp]; omega
            have em : Int.tmod ((r / PB (bP K) k : Nat) : Int) ((bP K k : Nat) : Int) = (dgt r k : Nat) := rfl
            have ed : Int.tdiv ((r / PB (bP K) k : Nat) : Int) ((bP K k : Nat) : Int) = ((r / PB (bP K) (k + 1) : Nat) : Int) := by
              show ((r / PB (bP K) k / bP K k : Nat) : Int) = _
              rw [Nat.div_div_eq_div_mul]
              rfl
            have b1 := bP_pos hW k
            have le := Int.ofNat_le.mpr (Nat.div_le_self r (PB (bP K) (k + 1)))
            have ge := Int.natCast_nonneg (r / PB (bP K) (k + 1))
            have p12 := pbk 12 (by omega)
            apply vX10_pocket_105
            refine ⟨fun z => by omega, fun _ => m_isIn ur.1 ur.2 (by omega) (by omega) (fun _ => ⟨fun z => by omega, fun _ => ⟨⟨by omega, by omega⟩, ⟨by omega, by omega⟩, m_most W2 ?_⟩⟩) (fun z => by rw [hb] at z; cases z)⟩
            rw [e2, ebp, em]
            refine ⟨⟨by omega, by omega⟩, by omega, by omega, zset ?_⟩
            refine m_most (by rw [zup_row (by decide)]; exact W2) ?_
            rw [zup_row (by decide), e2, ebp, ed]
            refine ⟨⟨by omega, by omega⟩, by omega, ⟨Int.le_trans (by decide) ge, Int.le_trans le (by omega)⟩, ⟨by omega, by omega⟩, ?_⟩
            have nx := ihm (m - 1) (by omega) (k + 1) (zup M2 133 (2 * ((k / 2 : Nat) : Int) + ((k % 2 : Nat) : Int)) (dgt r k : Nat)) (by omega) (fun b h1 h2 => by rw [zup_row h1, r2 b h1 h2]) (fun i hi hu => by
              rw [zup_at]
              by_cases e : i = k
              · rw [if_pos (by omega), e]
              · rw [if_neg (by omega)]; exact o2 i (by omega) hu)
            by_cases e : k % 2 = 1
            · apply vX10_pocket_105
              refine ⟨fun _ => ⟨⟨by omega, by omega⟩, ?_⟩, fun z => by omega⟩
              have := nx.1 (by omega)
              rw [show (((k + 1) / 2 : Nat) : Int) = ((k / 2 : Nat) : Int) + 1 by omega] at this
              exact this
            · have e1 : (k + 1) / 2 = k / 2 := by omega
              have e3 : (((k + 1) % 2 : Nat) : Int) = ((k % 2 : Nat) : Int) + 1 := by omega
              have := nx.2 (by omega) (by rw [e1]; exact hb)
              rw [e1, e3] at this
              exact this
          refine ⟨fun ev => ?_, in105⟩
          by_cases k12 : k = 12
          · subst k12
            apply vX10_pocket_95
            refine ⟨fun _ => m_day ?_, fun z => by omega⟩
            rw [e2]
            refine wgh M2 r2 (fun l b hl hb hu => ?_)
            have := o2 (2 * l + b) (by omega) (by rw [show (2 * l + b) / 2 = l by omega]; exact hu)
            rw [show ((2 * l + b : Nat) : Int) = 2 * (l : Int) + (b : Int) by omega] at this
            exact this
          · apply vX10_pocket_95
            refine ⟨fun z => by omega, fun _ => ?_⟩
            by_cases hb : bt (uS K) ((k / 2 : Nat) : Int) = true
            · have := in105 (by omega) hb
              rw [show ((k % 2 : Nat) : Int) = 0 by omega] at this
              exact this
            · have hf : bt (uS K) ((k / 2 : Nat) : Int) = false := by
                cases hq : bt (uS K) ((k / 2 : Nat) : Int) with
                | false => rfl
                | true => exact absurd hq hb
              have x1 : bP K k = 1 := by unfold bP; rw [if_neg hb]
              have x2 : bP K (k + 1) = 1 := by unfold bP; rw [show (k + 1) / 2 = k / 2 by omega, if_neg hb]
              have ep : PB (bP K) (k + 2) = PB (bP K) k := by
                show PB (bP K) k * bP K k * bP K (k + 1) = _
                rw [x1, x2, Nat.mul_one, Nat.mul_one]
              have nx := ihm (m - 2) (by omega) (k + 2) M2 (by omega) r2 (fun i hi hu => by
                by_cases e : i < k
                · exact o2 i e hu
                · rw [show i / 2 = k / 2 by omega] at hu
                  exact absurd hu hb)
              have := nx.1 (by omega)
              rw [ep, show (((k + 2) / 2 : Nat) : Int) = ((k / 2 : Nat) : Int) + 1 by omega] at this
              apply vX10_pocket_105
              exact ⟨fun z => by omega, fun _ => m_isIn ur.1 ur.2 (by omega) (by omega) (fun z => by rw [hf] at z; cases z) (fun _ => ⟨fun _ => ⟨⟨by omega, by omega⟩, this⟩, fun z => absurd rfl z⟩)⟩
      have := (key 12 0 M1 (by omega) r1 (fun i hi => by omega)).1 rfl
      rw [show r / PB (bP K) 0 = r from Nat.div_one r] at this
      exact this
  have lp35 : ∀ (m l : Nat), l + m = 6 → wX10_pocket (d + 45) 35 [(0, zA 113), (1, zI ((PB (bP K) (2 * l) : Nat) : Int)), (2, zI (uS K)), (3, zI (l : Int))] M Q := by
    intro m
    induction m with
    | zero =>
      intro l hl
      obtain rfl : l = 6 := by omega
      apply vX10_pocket_35
      exact ⟨fun _ => lp82 (PB (bP K) 12) 0 _ M (by omega) (fun _ _ _ => rfl) (Or.inl ⟨rfl, rfl⟩) (fun r' ru hr => by omega), fun z => by omega⟩
    | succ m ih =>
      intro l hl
      have nx := ih (l + 1) (by omega)
      have b1 := pb12 (l + 1) (by omega)
      have e : PB (bP K) (2 * (l + 1)) = PB (bP K) (2 * l) * bP K (2 * l) * bP K (2 * l + 1) := rfl
      have x1 : bP K (2 * l + 1) = bP K (2 * l) := by unfold bP; rw [show (2 * l + 1) / 2 = l by omega, show 2 * l / 2 = l by omega]
      apply vX10_pocket_35
      refine ⟨fun z => by omega, fun _ => m_isIn ur.1 ur.2 (by omega) (by omega) (fun hb => ⟨fun z => by omega, fun _ => m_most (by rw [hK]; exact hW) ?_⟩) (fun hb => ⟨fun _ => ?_, fun z => absurd rfl z⟩)⟩
      · have nv := NP_v hW l
        have bp : bP K (2 * l) = 2 * NP K l := by unfold bP; rw [show 2 * l / 2 = l by omega, if_pos hb]
        rw [hK]
        refine ⟨⟨by omega, by omega⟩, m_most (by rw [hK]; exact hW) ?_⟩
        rw [hK]
        have ev : ((PB (bP K) (2 * (l + 1)) : Nat) : Int) = (PB (bP K) (2 * l) : Nat) * (4 * max 1 (mR K l) * max 1 (mR K l)) := by
          rw [e, x1, bp, ← nv.1, Int.natCast_mul, Int.natCast_mul, Int.natCast_mul, Int.mul_assoc]
          congr 1
          rw [show (4 : Int) * (NP K l : Nat) * (NP K l : Nat) = 2 * (NP K l : Nat) * (2 * (NP K l : Nat)) by
            rw [Int.mul_assoc, Int.mul_assoc, Int.mul_left_comm ((NP K l : Nat) : Int) 2, ← Int.mul_assoc 2 2]
            rfl]
          rfl
        rw [← ev]
        have m4 : 4 * max 1 (mR K l) * max 1 (mR K l) ≤ 12 * 3 ∧ 0 ≤ 4 * max 1 (mR K l) * max 1 (mR K l) := ⟨Int.mul_le_mul (by omega) (by omega) (by omega) (by omega), Int.mul_nonneg (by omega) (by omega)⟩
        exact ⟨⟨by omega, by omega⟩, ⟨by omega, by omega⟩, ⟨by omega, by omega⟩, nx⟩
      · have z1 : bP K (2 * l) = 1 := by unfold bP; rw [show 2 * l / 2 = l by omega, if_neg (by rw [hb]; decide)]
        rw [e, x1, z1, Nat.mul_one, Nat.mul_one] at nx
        rw [e, x1, z1, Nat.mul_one, Nat.mul_one] at b1
        rw [Int.mul_one]
        exact ⟨⟨by omega, by omega⟩, ⟨by omega, by omega⟩, nx⟩
  exact lp35 6 0 (by omega)
theorem s_pocket {d t : Nat} {M : ZM} (h : J t M) : zcL (d + 46) 122 [zA 29] M (fun x M1 => zcL (d + 46) 224 [zA 113] M1 (fun y M2 => x = y ∧ J (t + 1) M2)) := by
  have hs := h.size
  have hW := h.wf
  have hpl := h.pl
  have ub := hW.us
  have ur := ub.r (by decide)
  have no : (M 115 182 = 0 ∨ 3 < bC (uS (M 115))) → zcL (d + 46) 224 [zA 113] M (fun y M2 => -1000000000000000000 = y ∧ J (t + 1) M2) := by
    intro hn
    apply vX10_pocket
    exact m_places ⟨fun _ => ⟨rfl, h.idle⟩, fun z => m_used hpl (m_ones ur.1 ur.2 ⟨fun y => by omega, fun _ => ⟨rfl, h.idle⟩⟩)⟩
  apply vX9_pocket
  refine c_noPlaces (fun q => ⟨fun _ => no (by omega), fun z => by omega⟩) (fun q => ⟨fun z => absurd rfl z, fun _ => c_used h (c_bitCount ub ⟨fun b3 => c_lay h (Or.inl rfl) (fun ML rs l _ => c_pSeek (EB_ew M) l.ch (fun MC x rC px => ?_)), fun b3 => no (by omega)⟩)⟩)
  have rows : ∀ b, (b < 87 ∨ 105 < b) → MC b = M b := fun b hb => by rw [rC b (by omega), l.1 b (by omega)]
  have fc : frc M MC := frc.of (fun b hb => rows b (by omega))
  have h1 := h.frc fc (h.jf.fr (rows 106 (by decide)))
  have e115 : MC 115 = M 115 := rows 115 (by decide)
  have U : bs 6 (uS (MC 115)) := by rw [e115]; exact ub
  apply vX10_pocket
  refine m_places ⟨fun z => by rw [e115] at z; omega, fun _ => m_used h1.pl (m_ones (by rw [e115]; exact ur.1) (by rw [e115]; exact ur.2) ⟨fun _ => m_looks h1 (fun M2 lk => m_used ?_ ?_), fun z => by rw [e115] at z; omega⟩)⟩
  · rw [lk.2.2.1 115 (by decide) (by decide) (by decide), e115]; exact hpl
  · have e2 : M2 115 = M 115 := by rw [lk.2.2.1 115 (by decide) (by decide) (by decide), e115]
    refine m_pocketLoop (E := EW M) (by rw [e2]; exact hW) (by rw [e2]; exact EB_ew M) (fun p s p0 p1 s0 s1 k3 => ?_) (by rw [e2]; exact b3) (fun M3 y r3 py => ⟨?_, ?_⟩)
    · rw [e2] at p1 k3
      rw [lk.2.2.2 p s p0 (by rw [e115]; exact p1) s0 s1, if_pos (by rw [e115]; exact k3), fc.1.ew]
    · rw [e2] at py ⊢
      rw [PX_one px py]
    · have f3 : frm M2 M3 := frm.of (fun b b1 b2 => r3 b (by omega) (by omega)) (fun k _ => by rw [r3 113 (by decide) (by decide)])
      have V2 := lk.jv h1
      exact h.frame (fc.1.tr (lk.1.1.tr f3.1)) (h.jf.fr (by rw [r3 106 (by decide) (by decide), lk.1.2 106 (by decide), rows 106 (by decide)])) (V2.cg (by rw [r3 113 (by decide) (by decide)]) (by rw [r3 113 (by decide) (by decide)]) (r3 115 (by decide) (by decide)) (r3 126 (by decide) (by decide)) (fun b b1 b2 => r3 b (by omega) (by omega)))
