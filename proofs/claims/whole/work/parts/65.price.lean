theorem m_price {d : Nat} {MC : ZM} {p r : Int} {Q : Int → ZM → Prop} (hW : WF (MC 115)) (p0 : 0 ≤ p) (p1 : p < MC 115 182) (pk : MC 115 (10 * p) = 0) (r0 : 0 ≤ r) (r1 : r ≤ 100) (hr : r * sN (AL (MC 115) (MC 115 (10 * p + 1))) (MC 115 182).toNat ≤ 100 * VS (MC 115) ((MC 115 179).toNat + 1) p) (hk : ∀ k, r < k → k ≤ 100 → 100 * VS (MC 115) ((MC 115 179).toNat + 1) p < k * sN (AL (MC 115) (MC 115 (10 * p + 1))) (MC 115 182).toNat) (hQ : ∀ M', SPF (MC 115) MC M' → Q r M') : zcI (d + 9) 246 [zA 113, zI p] MC Q := by
  have hpl := hW.1
  have lp : ∀ m : Nat, ∀ M1 : ZM, r + m ≤ 100 → (∀ x, x ≠ 135 → x ≠ 136 → M1 x = MC x) → wX10_price (d + 8) 13 [(0, zA 113), (1, zI p), (2, zI (r + m))] M1 Q := by
    intro m
    induction m with
    | zero =>
      intro M1 hm st
      have e : M1 115 = MC 115 := st 115 (by decide) (by decide)
      apply vX10_price_13
      refine m_bet (by rw [e]; exact hW) p0 (by rw [e]; exact p1) (by rw [e]; exact pk) (by omega) (by omega) (fun M2 g => ?_)
      rw [e] at g ⊢
      have g' : SPF (MC 115) MC M2 := ⟨fun x a b => (g.1 x a b).trans (st x a b), g.2⟩
      rw [show r + ((0 : Nat) : Int) = r by omega]
      refine ⟨fun _ => hQ M2 g', fun z => ?_⟩
      exfalso
      apply z
      split
      · decide
      · split
        · decide
        · omega
    | succ m ih =>
      intro M1 hm st
      have e : M1 115 = MC 115 := st 115 (by decide) (by decide)
      apply vX10_price_13
      refine m_bet (by rw [e]; exact hW) p0 (by rw [e]; exact p1) (by rw [e]; exact pk) (by omega) (by omega) (fun M2 g => ?_)
      rw [e] at g ⊢
      have lt := hk (r + ((m + 1 : Nat) : Int)) (by omega) (by omega)
      refine ⟨fun z => ?_, fun _ => ⟨⟨by omega, by omega⟩, ?_⟩⟩
      · exfalso
        rw [if_neg (by omega), if_neg (by omega)] at z
        omega
      · rw [show r + ((m + 1 : Nat) : Int) + -1 = r + (m : Int) by omega]
        exact ih M2 (by omega) (fun x a b => (g.1 x a b).trans (st x a b))
  apply vX10_price
  refine m_isFork hpl (fun a b c => ⟨fun _ => ?_, fun z => by omega⟩) (fun z => by omega)
  have l := lp (100 - r).toNat MC (by omega) (fun _ _ _ => rfl)
  rw [show r + ((100 - r).toNat : Int) = 100 by omega] at l
  exact l
theorem s_price {d t : Nat} {M : ZM} (h : J t M) {p : Int} : zcI (d + 47) 132 [zA 29, zI p] M (fun x M1 => zcI (d + 47) 246 [zA 113, zI p] M1 (fun y M2 => x = y ∧ J (t + 1) M2)) := by
  have hW := h.wf
  have hs := h.size
  have hpl := h.pl
  have hday := hW.2.2.1
  apply vX9_price
  refine c_isKind (by omega) (fun p0 p1 pk => ⟨fun _ => c_cv h (fun MC fc jf e5 e6 e9 e90 => ?_), fun z => by omega⟩) (fun z => ⟨fun y => by omega, fun _ => ?_⟩)
  · rw [hs] at p1
    rw [h.kind p0 p1] at pk
    have vb := VS_bd hW ((M 115 179).toNat + 1) (by omega) p p0 (by omega)
    have ab := AL_sum hW (l := M 115 (10 * p + 1)) (M 115 182).toNat (by omega)
    have e115 : MC 115 = M 115 := fc.2 115 (by decide)
    have va : VS (M 115) ((M 115 179).toNat + 1) p ≤ sN (AL (M 115) (M 115 (10 * p + 1))) (M 115 182).toNat := by
      have le := sN_le (f := AL (M 115) (M 115 (10 * p + 1))) (n := (M 115 182).toNat) (fun q a b => (AL_bd hW (by omega) (by omega)).1) p0 (by omega)
      have a1 : AL (M 115) (M 115 (10 * p + 1)) p = VS (M 115) ((M 115 179).toNat + 1) p := by unfold AL; rw [if_pos ⟨pk, rfl⟩]
      omega
    have pr : ∀ r : Int, 0 ≤ r → r ≤ 100 → r * sN (AL (M 115) (M 115 (10 * p + 1))) (M 115 182).toNat ≤ 100 * VS (M 115) ((M 115 179).toNat + 1) p → (∀ k, r < k → k ≤ 100 → 100 * VS (M 115) ((M 115 179).toNat + 1) p < k * sN (AL (M 115) (M 115 (10 * p + 1))) (M 115 182).toNat) → zcI (d + 47) 246 [zA 113, zI p] MC (fun y M2 => r = y ∧ J (t + 1) M2) := by
      intro r r0 r1 hr hk
      exact m_price (by rw [e115]; exact hW) p0 (by rw [e115]; exact p1) (by rw [e115]; exact pk) r0 r1 (by rw [e115]; exact hr) (by rw [e115]; exact hk) (fun M2 g => ⟨rfl, g.jn h fc jf⟩)
    refine c_seenAlike h fc e9 e90 p0 p1 pk ?_
    rw [e9 p p0 (by omega)]
    generalize sN (AL (M 115) (M 115 (10 * p + 1))) (M 115 182).toNat = A at *
    generalize VS (M 115) ((M 115 179).toNat + 1) p = v at *
    refine ⟨fun z => ?_, fun z => ?_⟩
    · have hA : 0 < A := by
        by_cases hA : A = 0
        · rw [hA] at z; exact absurd rfl z
        · omega
      have d0 : 0 ≤ 100 * v / A := Int.ediv_nonneg (by omega) (by omega)
      have d1 : 100 * v / A * A ≤ 100 * v := Int.ediv_mul_le _ (by omega)
      have d2 : 100 * v < (100 * v / A + 1) * A := Int.lt_ediv_add_one_mul_self _ hA
      have d3 : 100 * v / A ≤ 100 := by
        have : 100 * v / A ≤ 100 * A / A := Int.ediv_le_ediv hA (by omega)
        rw [Int.mul_ediv_cancel _ (by omega)] at this
        exact this
      rw [Int.tdiv_eq_ediv_of_nonneg (by omega)]
      refine ⟨by omega, ⟨by omega, by omega⟩, by omega, ⟨by omega, by omega⟩, ⟨by omega, by omega⟩, pr _ d0 d3 d1 (fun k k0 k1 => ?_)⟩
      have := Int.mul_le_mul_of_nonneg_right (show 100 * v / A + 1 ≤ k by omega) (show 0 ≤ A by omega)
      omega
    · have hA : A = 0 := by
        by_cases h0 : 0 < A
        · rw [if_pos h0] at z; omega
        · omega
      exact pr 100 (by omega) (by omega) (by rw [hA]; omega) (fun k k0 k1 => by omega)
  · apply vX10_price
    exact m_isFork hpl (fun a b c => absurd ⟨a, by omega, by rw [h.kind a b]; exact c⟩ z) (fun _ => ⟨fun y => by omega, fun _ => ⟨rfl, h.idle⟩⟩)
