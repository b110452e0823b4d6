/-! the reference weighs -/
theorem m_ten {d : Nat} {M : ZM} {n : Nat} {x : Int} {K : Int → ZM → Prop} (hx : x = n) (hn : n ≤ 18) (hK : K (10 ^ n) M) : zcL (d + 1) 149 [zI x] M K := by
  subst hx
  have b : ∀ k, k ≤ 18 → (10 : Int) ^ k ≤ 1000000000000000000 := by decide +kernel
  have lp : ∀ k i : Nat, i + k = n → wX10_ten d 4 [(0, zI n), (1, zJ (10 ^ i)), (3, zI i)] M K := by
    intro k
    induction k with
    | zero =>
      intro i hi
      apply vX10_ten_4
      rw [show i = n by omega]
      exact ⟨fun _ => hK, fun q => by omega⟩
    | succ k ih =>
      intro i hi
      have nx := ih (i + 1) (by omega)
      have b1 := b (i + 1) (by omega)
      have b0 := pow10_pos (i + 1)
      rw [Int.pow_succ] at nx b1 b0
      apply vX10_ten_4
      exact ⟨fun q => by omega, fun _ => ⟨⟨by omega, by omega⟩, ⟨by omega, by omega⟩, nx⟩⟩
  exact vX10_ten _ _ _ _ (lp n 0 (by omega))
section MW
variable {d : Nat} {M : ZM} {E : Int → Int → Int} {fr : Int → Bool}
theorem m_next {n : Nat} {p s : Int} {K : Int → ZM → Prop} (hW : WF (M 115)) (p0 : 0 ≤ p) (p1 : p ≤ 15) (hs : s = M 115 179 - n) (s0 : 0 ≤ s) (hT : p < M 115 182 → M 128 (16 * s + p) = VV (M 115) E (M 127) fr n p) (hK : K (VV (M 115) E (M 127) fr n p) M) : zcL (d + 2) 201 [zA 113, zI p, zI s] M K := by
  obtain ⟨a1, a2, a3, a4, a5, a6, a7, a8⟩ := hW
  have t1 := ten_le n (by omega)
  have t0 := pow10_pos n
  apply vX10_next
  refine m_places ⟨fun q => ⟨by omega, m_day ⟨⟨by omega, by omega⟩, m_ten (n := n) (by omega) (by omega) ?_⟩⟩, fun q => ⟨⟨by omega, by omega⟩, ⟨by omega, by omega⟩, by omega, ?_⟩⟩
  · have := wone (T := 10 ^ n) (by omega) a5
    refine ⟨⟨by omega, by omega⟩, ?_⟩
    have e : VV (M 115) E (M 127) fr n p = M 115 181 * 10 ^ n := by
      cases n with
      | zero => unfold VV; rw [if_neg (by omega)]; omega
      | succ n => unfold VV; rw [if_neg (by omega)]
    rw [e] at hK
    exact hK
  · rw [hT (by omega)]; exact hK
theorem m_weigh {n : Nat} {p s : Int} {K : Int → ZM → Prop} (hW : WF (M 115)) (hE : EB (M 115) E) (hH : HD (M 127)) (p0 : 0 ≤ p) (p1 : p < M 115 182) (hs : s = M 115 179 - n) (s0 : 0 ≤ s) (hw : M 115 (10 * p) = 3 → M 126 (11 * p + s) = E p s) (hT : ∀ n' q, n = n' + 1 → 0 ≤ q → q < M 115 182 → M 128 (16 * (s + 1) + q) = VV (M 115) E (M 127) fr n' q) (hk : (M 113 29 = 0 ∧ ∀ l, fr l = false) ∨ (M 113 29 ≠ 0 ∧ ∀ l, fr l = true)) (hK : K (VV (M 115) E (M 127) fr n p) M) : zcL (d + 3) 203 [zA 113, zI p, zI s] M K := by
  have hW' := hW
  obtain ⟨a1, a2, a3, a4, a5, a6, a7, a8⟩ := hW
  have t1 := ten_le n (by omega)
  have t0 := pow10_pos n
  have hwp := a8 p p0 p1
  have hr := hwp.rc
  obtain ⟨w1, w2, w3, w4, w5, w6⟩ := id hwp
  apply vX10_weigh
  refine m_kind (by omega) (m_day ⟨⟨by omega, by omega⟩, m_ten (n := n) (by omega) (by omega) ⟨fun k3 => m_day ⟨fun q => ?_, fun q => ?_⟩, fun k3 => ?_⟩⟩)
  · obtain ⟨n', rfl⟩ : ∃ n', n = n' + 1 := ⟨n - 1, by omega⟩
    have rk : ∀ k, 0 ≤ k → k < M 115 (10 * p + 2) → rdc (M 115) p k = M 115 (10 * p + 3 + k) := fun k k0 k1 => by unfold rdc; rw [if_pos k1]
    have rl : ∀ k, M 115 (10 * p + 2) ≤ k → rdc (M 115) p k = M 115 (10 * p + 3 + (M 115 (10 * p + 2) - 1)) := fun k k1 => by unfold rdc; rw [if_neg (by omega)]
    have vb : ∀ q, 0 ≤ q → -19890000000000 ≤ VV (M 115) E (M 127) fr n' q ∧ VV (M 115) E (M 127) fr n' q ≤ 19890000000000 := fun q q0 => by
      have := VV_bd (fr := fr) hW' hE hH n' q q0
      have := BD_le n' (by omega)
      omega
    have nxt : ∀ {q : Int} {K : Int → ZM → Prop}, 0 ≤ q → q ≤ 15 → K (VV (M 115) E (M 127) fr n' q) M → zcL (d + 2) 201 [zA 113, zI q, zI (s + 1)] M K := fun {q K} q0 q1 hK => m_next hW' q0 q1 (by omega) (by omega) (fun q2 => hT n' q rfl q0 q2) hK
    unfold VV at hK
    rw [if_pos p1, if_neg k3] at hK
    refine ⟨fun k2 => m_fld (by omega) (by omega) ⟨fun k1 => ?_, fun k1 => ?_⟩, fun k2 => ?_⟩
    · rw [if_neg k2, if_neg k1] at hK
      have hk0 : M 115 (10 * p) = 0 := by omega
      obtain ⟨⟨l0, l1⟩, c0, c1⟩ := w2 hk0
      have hl := hH (M 115 (10 * p + 1)) l0 (by omega)
      have rd : ∀ k, 0 ≤ k → k < M 115 (10 * p + 2) → 0 ≤ M 115 (10 * p + 3 + k) ∧ M 115 (10 * p + 3 + k) ≤ 15 := w6
      have go : ∀ {j7 j9 i11 : Int} {K : Int → ZM → Prop}, 0 ≤ i11 → i11 < 3 → (-400000000000000 ≤ j7 ∧ j7 ≤ 400000000000000) → wX10_weigh (d + 2) 167 [(0, zA 113), (1, zI p), (2, zI s), (6, zI (M 115 (10 * p + 2))), (7, zJ (j7 + M 127 (3 * M 115 (10 * p + 1) + i11) * VV (M 115) E (M 127) fr n' (rdc (M 115) p i11))), (9, zJ (max j9 (VV (M 115) E (M 127) fr n' (rdc (M 115) p i11)))), (11, zI (i11 + 1))] M K → wX10_weigh (d + 2) 167 [(0, zA 113), (1, zI p), (2, zI s), (6, zI (M 115 (10 * p + 2))), (7, zJ j7), (9, zJ j9), (11, zI i11)] M K := by
        intro j7 j9 i11 K i0 i1 jb nx
        have hh : 0 ≤ M 127 (3 * M 115 (10 * p + 1) + i11) ∧ M 127 (3 * M 115 (10 * p + 1) + i11) ≤ 10 := by
          rcases (by omega : i11 = 0 ∨ i11 = 1 ∨ i11 = 2) with rfl | rfl | rfl
          · rw [Int.add_zero]; omega
          · omega
          · omega
        have rd0 : 0 ≤ rdc (M 115) p i11 ∧ rdc (M 115) p i11 ≤ 15 := by
          unfold rdc
          split
          · exact rd _ (by omega) (by omega)
          · exact rd _ (by omega) (by omega)
        have vb1 := vb _ rd0.1
        have k205 : wX10_weigh (d + 2) 205 [(0, zA 113), (1, zI p), (2, zI s), (6, zI (M 115 (10 * p + 2))), (7, zJ j7), (9, zJ j9), (11, zI i11), (12, zJ (VV (M 115) E (M 127) fr n' (rdc (M 115) p i11)))] M K := by
          apply vX10_weigh_205
          have wb := wsum (B := 19890000000000) (S := 10) (a := M 127 (3 * M 115 (10 * p + 1) + i11)) (b := 10 - M 127 (3 * M 115 (10 * p + 1) + i11)) (c := 0) (z := 0) (y := 0) hh.1 (by omega) (by omega) (by omega) vb1 (by omega) (by omega)
          rw [Int.mul_zero, Int.mul_zero] at wb
          refine m_fld (by omega) (by omega) ⟨⟨by omega, by omega⟩, ⟨by omega, by omega⟩, by omega, ⟨by omega, by omega⟩, ⟨by omega, by omega⟩, fun z => ⟨⟨by omega, by omega⟩, ?_⟩, fun z => ⟨⟨by omega, by omega⟩, ?_⟩⟩
          · rw [show max j9 (VV (M 115) E (M 127) fr n' (rdc (M 115) p i11)) = j9 by omega] at nx; exact nx
          · rw [show max j9 (VV (M 115) E (M 127) fr n' (rdc (M 115) p i11)) = VV (M 115) E (M 127) fr n' (rdc (M 115) p i11) by omega] at nx; exact nx
        apply vX10_weigh_167
        refine ⟨fun z => by omega, fun _ => ⟨fun z => ⟨⟨by omega, by omega⟩, ⟨by omega, by omega⟩, m_fldk (by omega) (by omega) ⟨⟨by omega, by omega⟩, ?_⟩⟩, fun z => ⟨⟨by omega, by omega⟩, m_fldk (by omega) (by omega) ⟨⟨by omega, by omega⟩, ?_⟩⟩⟩⟩
        · rw [← rl i11 z]; exact nxt rd0.1 rd0.2 k205
        · rw [← rk i11 i0 (by omega)]; exact nxt rd0.1 rd0.2 k205
      have rdb : ∀ k, 0 ≤ k → 0 ≤ rdc (M 115) p k := by
        intro k k0
        unfold rdc
        split
        · exact (rd _ (by omega) (by omega)).1
        · exact (rd _ (by omega) (by omega)).1
      have v0 := vb (rdc (M 115) p 0) (rdb 0 (by omega))
      have v1 := vb (rdc (M 115) p 1) (rdb 1 (by omega))
      have v2 := vb (rdc (M 115) p 2) (rdb 2 (by omega))
      have b0 := wsum (B := 19890000000000) (S := 10) hl.1 hl.2.1 hl.2.2.1 hl.2.2.2 v0 (y := 0) (z := 0) (by omega) (by omega)
      have b1 := wsum (B := 19890000000000) (S := 10) hl.1 hl.2.1 hl.2.2.1 hl.2.2.2 v0 v1 (z := 0) (by omega)
      rw [Int.mul_zero, Int.mul_zero] at b0
      rw [Int.mul_zero] at b1
      refine go (by omega) (by omega) (by omega) (go (by omega) (by omega) ?_ (go (by omega) (by omega) ?_ ?_))
      · rw [Int.add_zero]; omega
      · rw [Int.add_zero, Int.zero_add, show (0 : Int) + 1 = 1 by omega]; omega
      · rw [Int.add_zero, Int.zero_add, show (0 : Int) + 1 = 1 by omega, show (1 : Int) + 1 = 2 by omega, show (2 : Int) + 1 = 3 by omega]
        apply vX10_weigh_167
        refine ⟨fun _ => ⟨fun z => ?_, fun z => ?_⟩, fun z => by omega⟩
        · rw [if_neg (by
            rcases hk with hk | hk
            · rw [hk.2]; decide
            · exact absurd z hk.1)] at hK
          exact hK
        · rw [if_pos (by
            rcases hk with hk | hk
            · exact absurd hk.1 z
            · rw [hk.2])] at hK
          rw [show max (max (max (-1000000000000000000) (VV (M 115) E (M 127) fr n' (rdc (M 115) p 0))) (VV (M 115) E (M 127) fr n' (rdc (M 115) p 1))) (VV (M 115) E (M 127) fr n' (rdc (M 115) p 2)) = mx3 (VV (M 115) E (M 127) fr n' (rdc (M 115) p 0)) (VV (M 115) E (M 127) fr n' (rdc (M 115) p 1)) (VV (M 115) E (M 127) fr n' (rdc (M 115) p 2)) by unfold mx3; omega]
          refine ⟨⟨by unfold mx3; omega, by unfold mx3; omega⟩, hK⟩
    · rw [if_neg k2, if_pos k1] at hK
      obtain ⟨⟨c0, c1⟩, u2, u3, u4, u5⟩ := w3 k1
      have go : ∀ {j7 i9 : Int} {K : Int → ZM → Prop}, 0 ≤ i9 → i9 < M 115 (10 * p + 2) → (-400000000000000 ≤ j7 ∧ j7 ≤ 400000000000000) → wX10_weigh (d + 2) 110 [(0, zA 113), (1, zI p), (2, zI s), (6, zI (M 115 (10 * p + 2))), (7, zJ (j7 + M 115 (10 * p + 6 + i9) * VV (M 115) E (M 127) fr n' (rdc (M 115) p i9))), (9, zI (i9 + 1))] M K → wX10_weigh (d + 2) 110 [(0, zA 113), (1, zI p), (2, zI s), (6, zI (M 115 (10 * p + 2))), (7, zJ j7), (9, zI i9)] M K := by
        intro j7 i9 K i0 i1 jb nx
        have hu := u2 i9 i0 i1
        have hd' := w6 i9 i0 i1
        rw [rk i9 i0 i1] at nx
        have vb1 := vb _ hd'.1
        have wb := wsum (B := 19890000000000) (S := 10) (a := M 115 (10 * p + 6 + i9)) (b := 10 - M 115 (10 * p + 6 + i9)) (c := 0) (z := 0) (y := 0) (by omega) (by omega) (by omega) (by omega) vb1 (by omega) (by omega)
        rw [Int.mul_zero, Int.mul_zero] at wb
        apply vX10_weigh_110
        exact ⟨fun z => by omega, fun _ => ⟨⟨by omega, by omega⟩, m_fldk (by omega) (by omega) ⟨⟨by omega, by omega⟩, m_fldk (by omega) (by omega) ⟨⟨by omega, by omega⟩, nxt hd'.1 hd'.2 ⟨⟨by omega, by omega⟩, ⟨by omega, by omega⟩, ⟨by omega, by omega⟩, nx⟩⟩⟩⟩⟩
      have en : ∀ {j7 i9 : Int}, M 115 (10 * p + 2) ≤ i9 → K j7 M → wX10_weigh (d + 2) 110 [(0, zA 113), (1, zI p), (2, zI s), (6, zI (M 115 (10 * p + 2))), (7, zJ j7), (9, zI i9)] M K := fun {j7 i9} a b => vX10_weigh_110 _ _ _ _ _ _ _ _ ⟨fun _ => b, fun q => by omega⟩
      have x6 := u2 0 (by omega) (by omega)
      rw [Int.add_zero] at x6
      have v0 := vb (rdc (M 115) p 0) (by rw [rk 0 (by omega) (by omega)]; exact (w6 0 (by omega) (by omega)).1)
      have b0 := wsum (B := 19890000000000) (S := 10) (a := M 115 (10 * p + 6)) (b := 10 - M 115 (10 * p + 6)) (c := 0) (z := 0) (y := 0) (by omega) (by omega) (by omega) (by omega) v0 (by omega) (by omega)
      rw [Int.mul_zero, Int.mul_zero] at b0
      refine go (by omega) (by omega) (by omega) ?_
      rw [Int.add_zero, Int.zero_add, show (0 : Int) + 1 = 1 by omega]
      by_cases c2 : M 115 (10 * p + 2) ≤ 1
      · refine en c2 ?_
        rw [u4 c2, u5 (by omega)] at hK
        rw [Int.zero_mul, Int.zero_mul, Int.add_zero, Int.add_zero] at hK
        exact hK
      · have x7 := u2 1 (by omega) (by omega)
        rw [show 10 * p + 6 + 1 = 10 * p + 7 by omega] at x7
        have v1 := vb (rdc (M 115) p 1) (by rw [rk 1 (by omega) (by omega)]; exact (w6 1 (by omega) (by omega)).1)
        have b1 := wsum (B := 19890000000000) (S := 10) (a := M 115 (10 * p + 7)) (b := 10 - M 115 (10 * p + 7)) (c := 0) (z := 0) (y := 0) (by omega) (by omega) (by omega) (by omega) v1 (by omega) (by omega)
        rw [Int.mul_zero, Int.mul_zero] at b1
        refine go (by omega) (by omega) (by omega) ?_
        rw [show 10 * p + 6 + 1 = 10 * p + 7 by omega, show (1 : Int) + 1 = 2 by omega]
        by_cases c3 : M 115 (10 * p + 2) ≤ 2
        · refine en c3 ?_
          rw [u5 c3, Int.zero_mul, Int.add_zero] at hK
          exact hK
        · refine go (by omega) (by omega) (by omega) ?_
          rw [show 10 * p + 6 + 2 = 10 * p + 8 by omega]
          exact en (by omega) hK
    · rw [if_pos k2] at hK
      obtain ⟨x1, x2⟩ := w4 k2
      have hd' := w6 0 (by omega) (by omega)
      rw [rk 0 (by omega) (by omega)] at hK
      rw [Int.add_zero] at hd' hK
      have vb1 := vb _ hd'.1
      have tb := wone (B := 99) (x := M 115 (10 * p + 1)) (T := 10 ^ (n' + 1)) (by omega) (by omega)
      exact m_fld (by omega) (by omega) ⟨⟨by omega, by omega⟩, nxt hd'.1 hd'.2 ⟨⟨by omega, by omega⟩, m_fld (by omega) (by omega) ⟨⟨by omega, by omega⟩, ⟨by omega, by omega⟩, hK⟩⟩⟩
  · obtain rfl : n = 0 := by omega
    unfold VV at hK
    rw [if_pos p1, if_neg k3] at hK
    exact ⟨by omega, hK⟩
  · have e := hw k3
    have eb := hE p s
    have tb := wone (B := 999) (x := E p s) (T := 10 ^ n) (by omega) eb
    rw [e]
    refine ⟨⟨by omega, by omega⟩, ⟨by omega, by omega⟩, by omega, ⟨by omega, by omega⟩, ?_⟩
    cases n with
    | zero =>
      unfold VV at hK
      rw [if_pos p1, if_pos k3] at hK
      rw [show s = M 115 179 by omega, Int.pow_zero, Int.mul_one]
      exact hK
    | succ n =>
      unfold VV at hK
      rw [if_pos p1, if_pos k3] at hK
      rw [hs]
      exact hK
end MW
