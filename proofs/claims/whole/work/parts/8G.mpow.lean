/-! the reference's power -/
theorem pw30 : ∀ n : Nat, n ≤ 9 → (30 : Int) ^ n ≤ 20000000000000 := by decide +kernel
theorem pw30_pos (n : Nat) : 1 ≤ (30 : Int) ^ n := by
  induction n with
  | zero => decide
  | succ n ih => rw [Int.pow_succ]; omega
theorem pw_10_30 (n : Nat) : (10 : Int) ^ n ≤ 30 ^ n := by
  induction n with
  | zero => decide
  | succ n ih => rw [Int.pow_succ, Int.pow_succ]; have := pow10_pos n; omega
theorem PW_bd {K : Int → Int} {E : Int → Int → Int} {lk : Int} (hW : WF K) (hE : EB K E) : ∀ (n : Nat) (p j : Int), 0 ≤ p → -(1989 * 30 ^ n) ≤ PW K E lk n p j ∧ PW K E lk n p j ≤ 1989 * 30 ^ n := by
  obtain ⟨a1, a2, a3, a4, a5, a6, a7, a8⟩ := id hW
  intro n
  induction n with
  | zero =>
    intro p j p0
    have := hE p (K 179)
    rw [Int.pow_zero]
    unfold PW
    split
    · split
      · split <;> omega
      · omega
    · omega
  | succ n ih =>
    intro p j p0
    have hp := pow10_pos (n + 1)
    have h3 := pw_10_30 (n + 1)
    have h4 := pw30_pos n
    have h5 : (30 : Int) ^ (n + 1) = 30 ^ n * 30 := Int.pow_succ ..
    unfold PW
    by_cases hpl : p < K 182
    · rw [if_pos hpl]
      have hw := a8 p p0 hpl
      by_cases k3 : K (10 * p) = 3
      · rw [if_pos k3]
        have := wone (T := 10 ^ (n + 1)) (by omega) (hE p (K 179 - ((n + 1 : Nat) : Int)))
        split <;> omega
      rw [if_neg k3]
      have rn : ∀ k, 0 ≤ k → 0 ≤ rdc K p k := fun k k0 => (rdc_nn hW p0 hpl k3 k0).1
      by_cases k2 : K (10 * p) = 2
      · rw [if_pos k2]
        have i0 := ih _ j (rn 0 (by omega))
        have := wone (B := 99) (x := K (10 * p + 1)) (T := 10 ^ (n + 1)) (by omega) (by have := hw.2.2.2.1 k2; omega)
        have h6 : (10 : Int) ^ (n + 1) = 10 ^ n * 10 := Int.pow_succ ..
        have h7 := pw_10_30 n
        split <;> omega
      rw [if_neg k2]
      by_cases ko : OPN K lk p
      · rw [if_pos ko]
        have x1 := ih _ (j - 1) (rn 0 (by omega))
        have x2 := ih _ j (rn 1 (by omega))
        have x3 := ih _ (j - 1) (rn 1 (by omega))
        omega
      · rw [if_neg ko]
        obtain ⟨n6, n7, n8, t3⟩ := wO_sum hW p0 hpl k3
        have := wsum n6 n7 n8 t3 (ih _ j (rn 0 (by omega))) (ih _ j (rn 1 (by omega))) (ih _ j (rn 2 (by omega)))
        omega
    · rw [if_neg hpl]
      have := wone (T := 10 ^ (n + 1)) (by omega) a5
      split <;> omega
theorem m_powerAt {d : Nat} {M : ZM} {E : Int → Int → Int} {lk : Int} {n : Nat} {p s j : Int} {Q : Int → ZM → Prop} (hW : WF (M 115)) (p0 : 0 ≤ p) (p1 : p ≤ 15) (j1 : j ≤ 10) (hs : s = M 115 179 - n) (s0 : 0 ≤ s) (hT : p < M 115 182 → 0 ≤ j → M 132 ((16 * s + p) * 11 + j) = PW (M 115) E lk n p j) (hQ : Q (PW (M 115) E lk n p j) M) : zcL (d + 2) 219 [zA 113, zI p, zI s, zI j] M Q := by
  obtain ⟨a1, a2, a3, a4, a5, a6, a7, a8⟩ := hW
  have t1 := ten_le n (by omega)
  have t0 := pow10_pos n
  apply vX10_powerAt
  refine ⟨fun j0 => m_places ⟨fun q => ?_, fun q => ⟨⟨by omega, by omega⟩, ⟨by omega, by omega⟩, ⟨by omega, by omega⟩, ⟨by omega, by omega⟩, by omega, ?_⟩⟩, fun j0 => ?_⟩
  · have e : PW (M 115) E lk n p j = if j = 0 then M 115 181 * 10 ^ n else 0 := by
      cases n with
      | zero => unfold PW; rw [if_neg (show ¬ p < M 115 182 by omega), Int.pow_zero, Int.mul_one]
      | succ n => unfold PW; rw [if_neg (by omega)]
    rw [e] at hQ
    refine ⟨fun z => ?_, fun z => ⟨by omega, m_day ⟨⟨by omega, by omega⟩, m_ten (n := n) (by omega) (by omega) ?_⟩⟩⟩
    · rw [if_neg z] at hQ; exact hQ
    · have := wone (T := 10 ^ n) (by omega) a5
      rw [if_pos z] at hQ
      exact ⟨⟨by omega, by omega⟩, hQ⟩
  · rw [hT (by omega) j0]; exact hQ
  · rw [PW_neg n p j (by omega)] at hQ; exact hQ
theorem m_power0 {d : Nat} {M : ZM} {E : Int → Int → Int} {lk : Int} {n : Nat} {p s j : Int} {Q : Int → ZM → Prop} (hW : WF (M 115)) (hE : EB (M 115) E) (p0 : 0 ≤ p) (p1 : p < M 115 182) (j0 : 0 ≤ j) (j1 : j ≤ 10) (hs : s = M 115 179 - n) (s0 : 0 ≤ s) (hw : M 115 (10 * p) = 3 → M 126 (11 * p + s) = E p s) (hT : ∀ n' q c, n = n' + 1 → 0 ≤ q → q < M 115 182 → 0 ≤ c → c ≤ 10 → M 132 ((16 * (s + 1) + q) * 11 + c) = PW (M 115) E lk n' q c) (hQ : Q (PW (M 115) E lk n p j) M) : zcL (d + 3) 220 [zA 113, zI p, zI s, zI j, zI lk] M Q := by
  obtain ⟨a1, a2, a3, a4, a5, a6, a7, a8⟩ := id hW
  have t1 := ten_le n (by omega)
  have t0 := pow10_pos n
  have hwp := a8 p p0 p1
  have hr := hwp.rc
  obtain ⟨w1, w2, w3, w4, w5, w6⟩ := id hwp
  apply vX10_power0
  refine m_kind (by omega) (m_day ⟨⟨by omega, by omega⟩, m_ten (n := n) (by omega) (by omega) ⟨fun k3 => m_day ⟨fun q => ?_, fun q => ?_⟩, fun k3 => ?_⟩⟩)
  · obtain ⟨n', rfl⟩ : ∃ n', n = n' + 1 := ⟨n - 1, by omega⟩
    have vb : ∀ q c, 0 ≤ q → -40000000000000000 ≤ PW (M 115) E lk n' q c ∧ PW (M 115) E lk n' q c ≤ 40000000000000000 := fun q c q0 => by
      have := PW_bd (lk := lk) hW hE n' q c q0
      have := pw30 n' (by omega)
      omega
    have nxt : ∀ {q c : Int} {Q : Int → ZM → Prop}, 0 ≤ q → q ≤ 15 → c ≤ 10 → Q (PW (M 115) E lk n' q c) M → zcL (d + 2) 219 [zA 113, zI q, zI (s + 1), zI c] M Q := fun {q c Q} q0 q1 c1 hQ => m_powerAt hW q0 q1 c1 (by omega) (by omega) (fun q2 c0 => hT n' q c rfl q0 q2 c0 c1) hQ
    have rk : ∀ k, 0 ≤ k → k < M 115 (10 * p + 2) → rdc (M 115) p k = M 115 (10 * p + 3 + k) := fun k k0 k1 => by unfold rdc; rw [if_pos k1]
    have rl : ∀ k, M 115 (10 * p + 2) ≤ k → rdc (M 115) p k = M 115 (10 * p + 3 + (M 115 (10 * p + 2) - 1)) := fun k k1 => by unfold rdc; rw [if_neg (by omega)]
    unfold PW at hQ
    rw [if_pos p1, if_neg k3] at hQ
    refine ⟨fun k2 => m_fld (by omega) (by omega) ?_, fun k2 => ?_⟩
    · rw [if_neg k2] at hQ
      have lp : ¬ OPN (M 115) lk p → wX10_power0 (d + 2) 216 [(0, zA 113), (1, zI p), (2, zI s), (3, zI j), (5, zI (M 115 (10 * p))), (8, zI (M 115 (10 * p + 2))), (9, zJ 0), (11, zI 0)] M Q := by
        intro ho
        rw [if_neg ho] at hQ
        obtain ⟨n6, n7, n8, t3⟩ := wO_sum hW p0 p1 k3
        have go : ∀ {j9 i11 : Int} {Q : Int → ZM → Prop}, 0 ≤ i11 → i11 < 3 → (M 115 (10 * p) = 1 → i11 < M 115 (10 * p + 2)) → (0 ≤ wO (M 115) p i11 ∧ wO (M 115) p i11 ≤ 10) → (-1300000000000000000 ≤ j9 ∧ j9 ≤ 1300000000000000000) → wX10_power0 (d + 2) 216 [(0, zA 113), (1, zI p), (2, zI s), (3, zI j), (5, zI (M 115 (10 * p))), (8, zI (M 115 (10 * p + 2))), (9, zJ (j9 + wO (M 115) p i11 * PW (M 115) E lk n' (rdc (M 115) p i11) j)), (11, zI (i11 + 1))] M Q → wX10_power0 (d + 2) 216 [(0, zA 113), (1, zI p), (2, zI s), (3, zI j), (5, zI (M 115 (10 * p))), (8, zI (M 115 (10 * p + 2))), (9, zJ j9), (11, zI i11)] M Q := by
          intro j9 i11 Q i0 i3 i1 wr jb nx
          have rb := rdc_nn hW p0 p1 k3 (k := i11) i0
          have vb1 := vb (rdc (M 115) p i11) j rb.1
          have wb := wsum (B := 40000000000000000) (S := 10) (a := wO (M 115) p i11) (b := 10 - wO (M 115) p i11) (c := 0) (z := 0) (y := 0) (by omega) (by omega) (by omega) (by omega) vb1 (by omega) (by omega)
          rw [Int.mul_zero, Int.mul_zero] at wb
          apply vX10_power0_216
          by_cases k1 : M 115 (10 * p) = 1
          · have e : wO (M 115) p i11 = M 115 (10 * p + 6 + i11) := by unfold wO tnO; rw [if_neg k2, if_pos k1]
            have i1' := i1 k1
            rw [e] at wb nx
            rw [rk i11 i0 i1'] at nx wb rb
            exact ⟨fun z => absurd k1 z, fun _ => ⟨fun z => by omega, fun _ => ⟨fun z => absurd k1 z, fun _ => ⟨⟨by omega, by omega⟩, m_fldk (by omega) (by omega) ⟨fun z => by omega, fun z => ⟨⟨by omega, by omega⟩, m_fldk (by omega) (by omega) ⟨⟨by omega, by omega⟩, nxt rb.1 rb.2 j1 ⟨⟨by omega, by omega⟩, ⟨by omega, by omega⟩, ⟨by omega, by omega⟩, nx⟩⟩⟩⟩⟩⟩⟩⟩
          · have k0 : M 115 (10 * p) = 0 := by omega
            have e : wO (M 115) p i11 = M 115 (160 + 3 * M 115 (10 * p + 1) + i11) := by unfold wO tnO; rw [if_neg k2, if_neg k1]
            obtain ⟨⟨l0, l1⟩, c0, c1⟩ := w2 k0
            rw [e] at wb nx
            refine ⟨fun _ => ⟨fun z => by omega, fun _ => ⟨fun _ => m_fld (by omega) (by omega) ⟨⟨by omega, by omega⟩, ⟨by omega, by omega⟩, ⟨by omega, by omega⟩, by omega, fun z => ?_, fun z => ?_⟩, fun z => absurd z k1⟩⟩, fun z => absurd z k1⟩
            · rw [rl i11 z] at nx wb rb
              exact ⟨⟨by omega, by omega⟩, ⟨by omega, by omega⟩, m_fldk (by omega) (by omega) ⟨⟨by omega, by omega⟩, nxt rb.1 rb.2 j1 ⟨⟨by omega, by omega⟩, ⟨by omega, by omega⟩, ⟨by omega, by omega⟩, nx⟩⟩⟩
            · rw [rk i11 i0 (by omega)] at nx wb rb
              exact ⟨⟨by omega, by omega⟩, m_fldk (by omega) (by omega) ⟨⟨by omega, by omega⟩, nxt rb.1 rb.2 j1 ⟨⟨by omega, by omega⟩, ⟨by omega, by omega⟩, ⟨by omega, by omega⟩, nx⟩⟩⟩
        have en : ∀ {j9 i11 : Int}, (M 115 (10 * p) = 1 → M 115 (10 * p + 2) ≤ i11) → (M 115 (10 * p) ≠ 1 → 3 ≤ i11) → Q j9 M → wX10_power0 (d + 2) 216 [(0, zA 113), (1, zI p), (2, zI s), (3, zI j), (5, zI (M 115 (10 * p))), (8, zI (M 115 (10 * p + 2))), (9, zJ j9), (11, zI i11)] M Q := by
          intro j9 i11 x y hq
          apply vX10_power0_216
          by_cases k1 : M 115 (10 * p) = 1
          · have := x k1
            exact ⟨fun z => absurd k1 z, fun _ => ⟨fun _ => hq, fun z => by omega⟩⟩
          · have := y k1
            exact ⟨fun _ => ⟨fun _ => hq, fun z => by omega⟩, fun z => absurd z k1⟩
        have b0 := wsum n6 n7 n8 t3 (vb (rdc (M 115) p 0) j (rdc_nn hW p0 p1 k3 (by omega)).1) (y := 0) (z := 0) (by omega) (by omega)
        have b1 := wsum n6 n7 n8 t3 (vb (rdc (M 115) p 0) j (rdc_nn hW p0 p1 k3 (by omega)).1) (vb (rdc (M 115) p 1) j (rdc_nn hW p0 p1 k3 (by omega)).1) (z := 0) (by omega)
        rw [Int.mul_zero, Int.mul_zero] at b0
        rw [Int.mul_zero] at b1
        have tz : M 115 (10 * p) = 1 → (M 115 (10 * p + 2) ≤ 1 → wO (M 115) p 1 = 0) ∧ (M 115 (10 * p + 2) ≤ 2 → wO (M 115) p 2 = 0) := by
          intro k1
          obtain ⟨c, u2, u3, u4, u5⟩ := w3 k1
          refine ⟨fun z => ?_, fun z => ?_⟩
          · have := u4 z
            unfold wO tnO
            rw [if_neg k2, if_pos k1, show 10 * p + 6 + 1 = 10 * p + 7 by omega]; exact this
          · have := u5 z
            unfold wO tnO
            rw [if_neg k2, if_pos k1, show 10 * p + 6 + 2 = 10 * p + 8 by omega]; exact this
        refine go (by omega) (by omega) (by omega) (by omega) (by omega) ?_
        rw [Int.zero_add, show (0 : Int) + 1 = 1 by omega]
        by_cases c2 : M 115 (10 * p) = 1 ∧ M 115 (10 * p + 2) ≤ 1
        · refine en (fun _ => c2.2) (fun z => absurd c2.1 z) ?_
          rw [(tz c2.1).1 c2.2, (tz c2.1).2 (by omega), Int.zero_mul, Int.zero_mul, Int.add_zero, Int.add_zero] at hQ
          exact hQ
        · refine go (by omega) (by omega) (fun z => by omega) (by omega) (by omega) ?_
          rw [show (1 : Int) + 1 = 2 by omega]
          by_cases c3 : M 115 (10 * p) = 1 ∧ M 115 (10 * p + 2) ≤ 2
          · refine en (fun _ => c3.2) (fun z => absurd c3.1 z) ?_
            rw [(tz c3.1).2 c3.2, Int.zero_mul, Int.add_zero] at hQ
            exact hQ
          · refine go (by omega) (by omega) (fun z => by omega) (by omega) (by omega) ?_
            rw [show (2 : Int) + 1 = 3 by omega]
            exact en (fun _ => by omega) (fun _ => by omega) hQ
      refine ⟨fun k0 => lp (fun ho => k0 ho.1), fun k0 => m_fld (by omega) (by omega) ⟨fun hl => lp (fun ho => hl ho.2), fun hl => m_fld (by omega) (by omega) ?_⟩⟩
      have ho : OPN (M 115) lk p := ⟨k0, hl⟩
      rw [if_pos ho] at hQ
      obtain ⟨⟨l0, l1⟩, c0, c1⟩ := w2 k0
      have r0 := rdc_nn hW p0 p1 k3 (k := 0) (by omega)
      have r1 := rdc_nn hW p0 p1 k3 (k := 1) (by omega)
      have x1 := vb (rdc (M 115) p 0) (j - 1) r0.1
      have x2 := vb (rdc (M 115) p 1) j r1.1
      have x3 := vb (rdc (M 115) p 1) (j - 1) r1.1
      have k172 : wX10_power0 (d + 2) 172 [(0, zA 113), (2, zI s), (3, zI j), (11, zI (rdc (M 115) p 0)), (12, zI (rdc (M 115) p 1))] M Q := by
        apply vX10_power0_172
        exact ⟨⟨by omega, by omega⟩, ⟨by omega, by omega⟩, nxt r0.1 r0.2 (by omega) ⟨⟨by omega, by omega⟩, nxt r1.1 r1.2 j1 ⟨⟨by omega, by omega⟩, ⟨by omega, by omega⟩, ⟨by omega, by omega⟩, nxt r1.1 r1.2 (by omega) ⟨⟨by omega, by omega⟩, ⟨by omega, by omega⟩, hQ⟩⟩⟩⟩
      have e0 : rdc (M 115) p 0 = M 115 (10 * p + 3) := by rw [rk 0 (by omega) (by omega), Int.add_zero]
      refine ⟨fun z => m_fld (by omega) (by omega) ?_, fun z => m_fld (by omega) (by omega) ?_⟩
      · rw [e0, rl 1 (by omega), show M 115 (10 * p + 2) - 1 = 0 by omega, Int.add_zero] at k172
        exact k172
      · rw [e0, rk 1 (by omega) (by omega), show 10 * p + 3 + 1 = 10 * p + 4 by omega] at k172
        exact k172
    · rw [if_pos k2] at hQ
      obtain ⟨x1, x2⟩ := w4 k2
      have hd' := w6 0 (by omega) (by omega)
      rw [rk 0 (by omega) (by omega)] at hQ
      rw [Int.add_zero] at hd' hQ
      have vb1 := vb _ j hd'.1
      have tb := wone (B := 99) (x := M 115 (10 * p + 1)) (T := 10 ^ (n' + 1)) (by omega) (by omega)
      refine m_fld (by omega) (by omega) ⟨⟨by omega, by omega⟩, nxt hd'.1 hd'.2 j1 ⟨⟨by omega, by omega⟩, fun z => ⟨⟨by omega, by omega⟩, ?_⟩, fun z => m_fld (by omega) (by omega) ⟨⟨by omega, by omega⟩, ⟨by omega, by omega⟩, ?_⟩⟩⟩
      · rw [if_neg z] at hQ; exact hQ
      · rw [if_pos z] at hQ; exact hQ
  · obtain rfl : n = 0 := by omega
    unfold PW at hQ
    rw [if_pos p1, if_neg k3] at hQ
    refine ⟨fun z => ?_, fun z => ⟨by omega, ?_⟩⟩
    · rw [if_neg z] at hQ; exact hQ
    · rw [if_pos z] at hQ; exact hQ
  · have eb := hE p s
    have tb := wone (B := 999) (x := E p s) (T := 10 ^ n) (by omega) eb
    have e : PW (M 115) E lk n p j = if j = 0 then E p s * 10 ^ n else 0 := by
      cases n with
      | zero =>
        unfold PW
        rw [if_pos p1, if_pos k3, show s = M 115 179 by omega, Int.pow_zero, Int.mul_one]
      | succ n =>
        unfold PW
        rw [if_pos p1, if_pos k3, hs]
    rw [e] at hQ
    refine ⟨fun z => ?_, fun z => ⟨⟨by omega, by omega⟩, ⟨by omega, by omega⟩, by omega, ?_⟩⟩
    · rw [if_neg z] at hQ; exact hQ
    · rw [if_pos z] at hQ
      rw [hw k3]
      exact ⟨⟨by omega, by omega⟩, hQ⟩
theorem m_powerLoop {d k : Nat} {M : ZM} {E : Int → Int → Int} {lk : Int} {Q : Int → ZM → Prop} (hW : WF (M 115)) (hE : EB (M 115) E) (hw : ∀ p s, 0 ≤ p → p < M 115 182 → 0 ≤ s → s ≤ 10 → M 115 (10 * p) = 3 → M 126 (11 * p + s) = E p s) (hk : k ≤ 10) (hb : -9000000000000000000 ≤ PW (M 115) E lk (M 115 179).toNat (M 115 178) k * 10 ^ (10 - (M 115 179).toNat) ∧ PW (M 115) E lk (M 115 179).toNat (M 115 178) k * 10 ^ (10 - (M 115 179).toNat) ≤ 9000000000000000000) (hQ : ∀ M', (∀ b, b ≠ 132 → M' b = M b) → Q (PW (M 115) E lk (M 115 179).toNat (M 115 178) k * 10 ^ (10 - (M 115 179).toNat)) M') : wX10_power (d + 3) 37 [(0, zA 113), (1, zI lk), (2, zI (k : Int)), (3, zI (M 115 179))] M Q := by
  have hpl := hW.1
  have hst := hW.2.1
  have hday := hW.2.2.1
  generalize hK : M 115 = K at *
  let Inv := fun (n : Nat) (p c : Int) (M3 : ZM) => (∀ b, b ≠ 132 → M3 b = M b) ∧ ∀ (n' : Nat) (q c' : Int), (n' : Int) ≤ K 179 → 0 ≤ q → q < K 182 → 0 ≤ c' → c' ≤ 10 → (n' < n ∨ n' = n ∧ (q < p ∨ q = p ∧ c' < c)) → M3 132 ((16 * (K 179 - n') + q) * 11 + c') = PW K E lk n' q c'
  have f115 : ∀ M3 : ZM, (∀ b, b ≠ 132 → M3 b = M b) → M3 115 = K := fun M3 h => by rw [h 115 (by decide)]; exact hK
  have lp56 : ∀ (n : Nat) (p : Int), (n : Int) ≤ K 179 → 0 ≤ p → p < K 182 → (∀ M3, Inv n (p + 1) 0 M3 → wX10_power (d + 3) 44 [(0, zA 113), (1, zI lk), (2, zI (k : Int)), (3, zI (K 179 - n)), (4, zI (p + 1))] M3 Q) → ∀ (m c : Nat) (M3 : ZM), c + m = 11 → Inv n p c M3 → wX10_power (d + 3) 56 [(0, zA 113), (1, zI lk), (2, zI (k : Int)), (3, zI (K 179 - n)), (4, zI p), (5, zI (c : Int))] M3 Q := by
    intro n p hn p0 p1 nxt m
    induction m with
    | zero =>
      intro c M3 hc hI
      apply vX10_power_56
      exact ⟨fun _ => ⟨⟨by omega, by omega⟩, nxt M3 ⟨hI.1, fun n' q c' y1 y2 y3 y4 y5 y6 => hI.2 n' q c' y1 y2 y3 y4 y5 (by omega)⟩⟩, fun z => by omega⟩
    | succ m ihm =>
      intro c M3 hc hI
      have e3 := f115 M3 hI.1
      apply vX10_power_56
      refine ⟨fun z => by omega, fun _ => ⟨⟨by omega, by omega⟩, ⟨by omega, by omega⟩, ⟨by omega, by omega⟩, ⟨by omega, by omega⟩, m_power0 (E := E) (n := n) (by rw [e3]; exact hW) (by rw [e3]; exact hE) p0 (by rw [e3]; exact p1) (by omega) (by omega) (by rw [e3]) (by omega) (fun k3 => ?_) (fun n' q c' hn' q0 q1 c0 c1 => ?_) ⟨by omega, zset ⟨⟨by omega, by omega⟩, ihm (c + 1) _ (by omega) ⟨fun b hb => by rw [zup_row hb, hI.1 b hb], fun n' q c' y1 y2 y3 y4 y5 y6 => ?_⟩⟩⟩⟩⟩
      · rw [e3] at k3
        rw [hI.1 126 (by decide)]
        exact hw p _ p0 p1 (by omega) (by omega) k3
      · subst hn'
        rw [e3] at q1
        rw [e3]
        have := hI.2 n' q c' (by omega) q0 q1 c0 c1 (by omega)
        rw [show K 179 - ((n' + 1 : Nat) : Int) + 1 = K 179 - (n' : Int) by omega]
        exact this
      · rw [zup_at, e3]
        by_cases hq : (16 * (K 179 - (n' : Int)) + q) * 11 + c' = (16 * (K 179 - (n : Int)) + p) * 11 + c
        · have z1 : n' = n := by omega
          have z2 : q = p := by omega
          have z3 : c' = c := by omega
          subst z1 z2 z3
          rw [if_pos rfl]
        · rw [if_neg hq]
          refine hI.2 n' q c' y1 y2 y3 y4 y5 ?_
          by_cases z1 : n' = n
          · by_cases z2 : q = p
            · subst z1 z2; omega
            · omega
          · omega
  have lp44 : ∀ (n : Nat), (n : Int) ≤ K 179 → (∀ M3, Inv (n + 1) 0 0 M3 → wX10_power (d + 3) 37 [(0, zA 113), (1, zI lk), (2, zI (k : Int)), (3, zI (K 179 - n + (-1)))] M3 Q) → ∀ (m p : Nat) (M3 : ZM), (p : Int) + m = K 182 → Inv n p 0 M3 → wX10_power (d + 3) 44 [(0, zA 113), (1, zI lk), (2, zI (k : Int)), (3, zI (K 179 - n)), (4, zI (p : Int))] M3 Q := by
    intro n hn nxt m
    induction m with
    | zero =>
      intro p M3 hp hI
      have e3 := f115 M3 hI.1
      apply vX10_power_44
      refine m_places ?_
      rw [e3]
      exact ⟨fun _ => ⟨⟨by omega, by omega⟩, nxt M3 ⟨hI.1, fun n' q c' y1 y2 y3 y4 y5 y6 => hI.2 n' q c' y1 y2 y3 y4 y5 (by omega)⟩⟩, fun z => by omega⟩
    | succ m ihm =>
      intro p M3 hp hI
      have e3 := f115 M3 hI.1
      apply vX10_power_44
      refine m_places ?_
      rw [e3]
      exact ⟨fun z => by omega, fun _ => lp56 n p hn (by omega) (by omega) (fun M4 hI4 => ihm (p + 1) M4 (by omega) hI4) 11 0 M3 (by omega) hI⟩
  have lp37 : ∀ (m n : Nat) (M3 : ZM) (y : Int), (n : Int) + m = K 179 + 1 → y = K 179 - n → Inv n 0 0 M3 → wX10_power (d + 3) 37 [(0, zA 113), (1, zI lk), (2, zI (k : Int)), (3, zI y)] M3 Q := by
    intro m
    induction m with
    | zero =>
      intro n M3 y hm' hy hI
      have e3 := f115 M3 hI.1
      apply vX10_power_37
      rw [e3]
      refine ⟨fun _ => ⟨by omega, m_powerAt (E := E) (lk := lk) (n := (K 179).toNat) (by rw [e3]; exact hW) hst.1 hst.2 (by omega) (by rw [e3]; omega) (by omega) (fun q j0 => ?_) ?_⟩, fun z => by omega⟩
      · rw [e3] at q ⊢
        have := hI.2 (K 179).toNat (K 178) k (by omega) hst.1 q (by omega) (by omega) (by omega)
        rw [show K 179 - ((K 179).toNat : Int) = 0 by omega] at this
        exact this
      · rw [e3]
        refine m_day ?_
        rw [e3]
        exact ⟨⟨by omega, by omega⟩, m_ten (n := 10 - (K 179).toNat) (by omega) (by omega) ⟨⟨by omega, by omega⟩, hQ M3 hI.1⟩⟩
    | succ m ihm =>
      intro n M3 y hm' hy hI
      subst hy
      apply vX10_power_37
      exact ⟨fun z => by omega, fun _ => lp44 n (by omega) (fun M4 hI4 => ihm (n + 1) M4 _ (by omega) (by omega) hI4) (K 182).toNat 0 M3 (by omega) hI⟩
  exact lp37 (K 179 + 1).toNat 0 M _ (by omega) (by omega) ⟨fun _ _ => rfl, fun n' q c' y1 y2 y3 y4 y5 y6 => by omega⟩
theorem PW_scale {K : Int → Int} {E : Int → Int → Int} {lk : Int} (hW : WF K) (hE : EB K E) {p j : Int} (p0 : 0 ≤ p) : -9000000000000000000 ≤ PW K E lk (K 179).toNat p j * 10 ^ (10 - (K 179).toNat) ∧ PW K E lk (K 179).toNat p j * 10 ^ (10 - (K 179).toNat) ≤ 9000000000000000000 := by
  have hday := hW.2.2.1
  have u0 := pow10_pos (10 - (K 179).toNat)
  have x := scl (u := 10 ^ (10 - (K 179).toNat)) (by omega) (PW_bd (lk := lk) hW hE (K 179).toNat p j p0)
  have y := pow30 (K 179).toNat (by omega)
  rw [Int.mul_assoc] at x
  omega
theorem s_power {d t : Nat} {M : ZM} (h : J t M) {l k : Int} : zcL (d + 46) 121 [zA 29, zI l, zI k] M (fun x M1 => zcL (d + 46) 221 [zA 113, zI l, zI k] M1 (fun y M2 => x = y ∧ J (t + 1) M2)) := by
  have hs := h.size
  have hW := h.wf
  have hpl := h.pl
  have no : ¬ (0 ≤ l ∧ l ≤ 5 ∧ 0 ≤ k ∧ k ≤ 10 ∧ M 115 182 ≠ 0) → zcL (d + 46) 221 [zA 113, zI l, zI k] M (fun y M2 => -1000000000000000000 = y ∧ J (t + 1) M2) := by
    intro hn
    apply vX10_power
    exact m_isLook (fun l0 l1 => ⟨fun z => by omega, fun _ => m_lies (fun k0 k1 => ⟨fun z => by omega, fun _ => m_places ⟨fun z => by omega, fun _ => ⟨rfl, h.idle⟩⟩⟩) (fun _ => ⟨fun _ => ⟨rfl, h.idle⟩, fun z => absurd rfl z⟩)⟩) (fun _ => ⟨fun _ => ⟨rfl, h.idle⟩, fun z => absurd rfl z⟩)
  apply vX9_power
  refine c_isLook (fun l0 l1 => ⟨fun z => by omega, fun _ => ⟨fun _ => no (by omega), fun k0 => ⟨fun _ => no (by omega), fun k1 => c_noPlaces (fun q => ⟨fun z => by omega, fun _ => no (by omega)⟩) (fun q => ⟨fun _ => c_lay h (Or.inl rfl) (fun ML rs la _ => zcall_rg (fun RL => ?_)), fun z => absurd rfl z⟩)⟩⟩⟩) (fun _ => ⟨fun _ => no (by omega), fun z => absurd rfl z⟩)
  have hp1 : M 115 182 ≠ 0 := by omega
  obtain ⟨kn, rfl⟩ : ∃ m : Nat, k = m := ⟨k.toNat, by omega⟩
  obtain ⟨a, b, hx⟩ := NX.of (h.jf.fr (la.1 106 (by decide)))
  refine c_factor (E := EW M) RL (EB_ew M) la.ch hx la.2.2.2.2.2.2.2.1 (by omega) (fun MC rC jC => ?_)
  have rows : ∀ b, (b < 87 ∨ 108 < b) → MC b = M b := fun b hb => by rw [rC b (by omega) (by omega) (by omega) (by omega), la.1 b (by omega)]
  have fc : frc M MC := frc.of (fun b hb => rows b (by omega))
  have h1 := h.frc fc jC
  have e115 : MC 115 = M 115 := rows 115 (by decide)
  apply vX10_power
  refine m_isLook (fun _ _ => ⟨fun z => by omega, fun _ => m_lies (fun _ _ => ⟨fun z => by omega, fun _ => m_places ⟨fun _ => m_looks h1 (fun M2 lk => m_day ?_), fun z => by rw [e115] at z; omega⟩⟩) (fun z => by omega)⟩) (fun z => by omega)
  have e2 : M2 115 = M 115 := by rw [lk.2.2.1 115 (by decide) (by decide) (by decide), e115]
  refine m_powerLoop (E := EW M) (by rw [e2]; exact hW) (by rw [e2]; exact EB_ew M) (fun p s p0 p1 s0 s1 k3 => ?_) (by omega) (by rw [e2]; exact PW_scale hW (EB_ew M) hW.2.1.1) (fun M3 r3 => ⟨?_, ?_⟩)
  · rw [e2] at p1 k3
    rw [lk.2.2.2 p s p0 (by rw [e115]; exact p1) s0 s1, if_pos (by rw [e115]; exact k3), fc.1.ew]
  · rw [e2]
  · have f3 : frm M2 M3 := frm.of (fun b b1 b2 => r3 b (by omega)) (fun k _ => by rw [r3 113 (by decide)])
    have V2 := lk.jv h1
    exact h.frame (fc.1.tr (lk.1.1.tr f3.1)) (jC.fr (by rw [r3 106 (by decide), lk.1.2 106 (by decide)])) (V2.cg (by rw [r3 113 (by decide)]) (by rw [r3 113 (by decide)]) (r3 115 (by decide)) (r3 126 (by decide)) (fun b b1 b2 => r3 b (by omega)))
