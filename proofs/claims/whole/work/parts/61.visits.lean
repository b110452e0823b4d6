/-! spreads whole, visitsOf, visits, ends -/
theorem SP.next {K : Int → Int} {M M' : ZM} {s : Nat} (hW : WF K) (h : SP K M M' s (K 182).toNat) (hs : ((s + 1 : Nat) : Int) ≤ K 179) : SP K M M' (s + 1) 0 := by
  have hpl := hW.1
  have hday := hW.2.2.1
  obtain ⟨i1, i2, i3, i4, i5⟩ := h
  refine ⟨i1, fun t q q0 q1 => ⟨fun ht => ?_, fun ht _ => ?_, fun h1 h2 => ?_⟩, ?_, ?_, fun q q0 q1 k3 => ?_⟩
  · obtain ⟨j1, j2, j3⟩ := i2 t q q0 q1
    by_cases he : t = s + 1
    · rw [j2 he (by omega), he]; rfl
    · exact j1 (by omega)
  · rw [(i2 t q q0 q1).2.2 (by omega) (by omega)]; rfl
  · exact (i2 t q q0 q1).2.2 (by omega) h2
  · rw [i3, if_pos (by omega)]
    have z : (if ((s + 1 : Nat) : Int) < K 179 then sN (lsF K (FP K (FW K (s + 1)) 0)) 16 * 10 ^ (10 - (s + 1 + 1)) else 0) = 0 := by
      rw [sN_zero 16 (fun q _ _ => by unfold lsF FP; split <;> rfl), Int.zero_mul]
      split <;> rfl
    rw [z, ← ls_mul, Int.add_zero]
    rfl
  · rw [i4, if_neg (by omega)]
    split <;> rfl
  · rw [i5 q q0 q1 k3, if_pos (by omega), if_neg (by omega), Int.add_zero]
    rfl
theorem SP.fin {K : Int → Int} {M M' : ZM} {s : Nat} (hW : WF K) (h : SP K M M' s (K 182).toNat) (hs : (s : Int) = K 179) : SPF K M M' := by
  have hpl := hW.1
  obtain ⟨i1, i2, i3, i4, i5⟩ := h
  obtain rfl : s = (K 179).toNat := by omega
  refine ⟨i1, fun t q q0 q1 ht => (i2 t q q0 q1).1 (by omega), ?_, ?_, fun q q0 q1 k3 => ?_⟩
  · rw [i3, if_neg (by omega), Int.add_zero]
  · rw [i4, if_pos hs]
    unfold TS
    rw [ts_all (m := (K 182).toNat) (by omega) 16 (by omega)]
  · rw [i5 q q0 q1 k3, if_pos (by omega)]
    rfl
theorem LST_one {K : Int → Int} (hW : WF K) : LST K (0 + 1) = (if K 178 < K 182 then 0 else 1) * 10 ^ (10 - 0) := by
  have hst := hW.2.1
  have e : fS K 0 = fun q => FW K 0 q * 10 ^ (10 - 0) := rfl
  have e2 : lsF K (FW K 0) = fun q => if K 178 = q then (if K 178 < K 182 then 0 else 1) else 0 := by
    funext q
    unfold lsF FW
    by_cases h : q = K 178
    · rw [if_pos h, if_pos h.symm, h]
    · rw [if_neg h, if_neg (show ¬ K 178 = q from fun z => h z.symm)]; split <;> rfl
  have z : LST K 0 = 0 := rfl
  have y : LST K (0 + 1) = LST K 0 + sN (lsF K (fS K 0)) 16 := rfl
  rw [y, z, e, ls_mul, e2, sN_ind hst.1, if_pos (show K 178 < ((16 : Nat) : Int) by omega), Int.zero_add]
theorem m_spreads {d : Nat} {M : ZM} {Q : ZM → Prop} (hW : WF (M 115)) (hQ : ∀ M', SPF (M 115) M M' → Q M') : zcV (d + 4) 231 [zA 113] M Q := by
  have hpl := hW.1
  have hst := hW.2.1
  have hday := hW.2.2.1
  generalize hK : M 115 = K at *
  have lp : ∀ m s : Nat, ∀ M1 : ZM, ((s + m : Nat) : Int) = K 179 → SP K M M1 s 0 → wX10_spreads (d + 3) 59 [(0, zA 113), (1, zI (s : Int))] M1 Q := by
    intro m
    induction m with
    | zero =>
      intro s M1 hs i
      have e : M1 115 = K := by rw [i.1 115 (by decide) (by decide)]; exact hK
      apply vX10_spreads_59
      refine m_day ?_
      rw [e]
      refine ⟨fun z => by omega, fun _ => m_spRow (M := M) (by rw [hK]; exact hW) (by rw [hK]; omega) (fun M' i' => ?_) (K 182).toNat 0 M1 (by rw [hK]; omega) (by rw [hK]; exact i)⟩
      rw [hK] at i'
      have e' : M' 115 = K := by rw [i'.1 115 (by decide) (by decide)]; exact hK
      apply vX10_spreads_59
      refine m_day ?_
      rw [e']
      exact ⟨fun _ => hQ M' (i'.fin hW (by omega)), fun z => by omega⟩
    | succ m ih =>
      intro s M1 hs i
      have e : M1 115 = K := by rw [i.1 115 (by decide) (by decide)]; exact hK
      apply vX10_spreads_59
      refine m_day ?_
      rw [e]
      refine ⟨fun z => by omega, fun _ => m_spRow (M := M) (by rw [hK]; exact hW) (by rw [hK]; omega) (fun M' i' => ?_) (K 182).toNat 0 M1 (by rw [hK]; omega) (by rw [hK]; exact i)⟩
      rw [hK] at i'
      exact ih (s + 1) M' (by omega) (i'.next hW (by omega))
  have l24 : ∀ m k : Nat, ∀ M1 : ZM, k + m = 18 → (∀ x, x ≠ 135 → x ≠ 136 → M1 x = M x) → (∀ j, 0 ≤ j → j < 176 → M1 135 j = 0) → (∀ j, 0 ≤ j → j < (k : Int) → M1 136 j = 0) → wX10_spreads (d + 3) 24 [(0, zA 113), (1, zI (k : Int))] M1 Q := by
    intro m
    induction m with
    | zero =>
      intro k M1 hk r1 z5 z6
      obtain rfl : k = 18 := by omega
      have e : M1 115 = K := by rw [r1 115 (by decide) (by decide)]; exact hK
      apply vX10_spreads_24
      rw [e]
      have y6 := z6 17 (by omega) (by omega)
      refine ⟨fun _ => ⟨by omega, m_comes (s := 0) (by rw [e]; exact hW) (by omega) hst.1 (by omega) (by omega) (by decide) (fun _ => by rw [z5 _ (by omega) (by omega)]; omega) (by omega) (fun M3 a => ?_)⟩, fun z => by omega⟩
      rw [e] at a
      obtain ⟨a1, a2, a3, a4, a5⟩ := a
      refine lp (K 179).toNat 0 M3 (by omega) ⟨fun x h1 h2 => by rw [a1 x h1 h2, r1 x h1 h2], fun t q q0 q1 => ⟨fun ht => ?_, fun ht _ => ?_, fun h1 h2 => ?_⟩, ?_, ?_, fun q q0 q1 k3 => ?_⟩
      · obtain rfl : t = 0 := by omega
        rw [a3 q q0 q1, z5 _ (by omega) (by omega)]
        unfold FW
        dsimp only
        by_cases h : q = K 178
        · rw [if_pos h, if_pos h.symm]; rfl
        · rw [if_neg h, if_neg (fun z => h z.symm)]; rfl
      · rw [a4 _ (by omega), z5 _ (by omega) (by omega)]; rfl
      · rw [a4 _ (by omega), z5 _ (by omega) (by omega)]
      · have z : (if ((0 : Nat) : Int) < K 179 then sN (lsF K (FP K (FW K 0) 0)) 16 * 10 ^ (10 - (0 + 1)) else 0) = 0 := by
          rw [sN_zero 16 (fun q _ _ => by unfold lsF FP; split <;> rfl), Int.zero_mul]
          split <;> rfl
        rw [a5, y6, z, LST_one hW, Int.zero_add, Int.add_zero]
      · rw [a2 16 (by omega), z6 16 (by omega) (by omega)]
        split <;> rfl
      · rw [a2 q (by omega), z6 q q0 (by omega), if_neg (by omega)]; rfl
    | succ m ih =>
      intro k M1 hk r1 z5 z6
      apply vX10_spreads_24
      refine ⟨fun z => by omega, fun _ => ⟨by omega, zset ⟨⟨by omega, by omega⟩, ih (k + 1) _ (by omega) (fun x h1 h2 => by rw [zup_row h2, r1 x h1 h2]) (fun j j0 j1 => by rw [zup_row (by decide)]; exact z5 j j0 j1) (fun j j0 j1 => ?_)⟩⟩⟩
      rw [zup_at]
      by_cases h : j = k
      · rw [if_pos h]
      · rw [if_neg h]; exact z6 j j0 (by omega)
  have l2 : ∀ m k : Nat, ∀ M1 : ZM, k + m = 176 → (∀ x, x ≠ 135 → M1 x = M x) → (∀ j, 0 ≤ j → j < (k : Int) → M1 135 j = 0) → wX10_spreads (d + 3) 2 [(0, zA 113), (1, zI (k : Int))] M1 Q := by
    intro m
    induction m with
    | zero =>
      intro k M1 hk r1 z5
      obtain rfl : k = 176 := by omega
      apply vX10_spreads_2
      exact ⟨fun _ => l24 18 0 M1 (by omega) (fun x a _ => r1 x a) z5 (fun j j0 j1 => by omega), fun z => by omega⟩
    | succ m ih =>
      intro k M1 hk r1 z5
      apply vX10_spreads_2
      refine ⟨fun z => by omega, fun _ => ⟨by omega, zset ⟨⟨by omega, by omega⟩, ih (k + 1) _ (by omega) (fun x h1 => by rw [zup_row h1, r1 x h1]) (fun j j0 j1 => ?_)⟩⟩⟩
      rw [zup_at]
      by_cases h : j = k
      · rw [if_pos h]
      · rw [if_neg h]; exact z5 j j0 (by omega)
  apply vX10_spreads
  exact l2 176 0 M (by omega) (fun _ _ => rfl) (fun j j0 j1 => by omega)
theorem m_visitsOf {d : Nat} {M M' : ZM} {p : Int} {Q : Int → ZM → Prop} (hW : WF (M 115)) (g : SPF (M 115) M M') (p0 : 0 ≤ p) (p1 : p < M 115 182) (hQ : Q (VS (M 115) ((M 115 179).toNat + 1) p) M') : zcL (d + 2) 235 [zA 113, zI p] M' Q := by
  have hpl := hW.1
  have hday := hW.2.2.1
  have e : M' 115 = M 115 := g.1 115 (by decide) (by decide)
  generalize M 115 = K at *
  have lp : ∀ m s : Nat, s + m = (K 179).toNat + 1 → wX10_visitsOf (d + 1) 5 [(0, zA 113), (1, zI p), (2, zJ (VS K s p)), (4, zI (s : Int))] M' Q := by
    intro m
    induction m with
    | zero =>
      intro s hs
      obtain rfl : s = (K 179).toNat + 1 := by omega
      apply vX10_visitsOf_5
      refine m_day ?_
      rw [e]
      exact ⟨fun _ => hQ, fun z => by omega⟩
    | succ m ih =>
      intro s hs
      have fb := fS_bd hW (s := s) (by omega) p0 (show p < 16 by omega)
      have vb := VS_bd hW s (by omega) p p0 (by omega)
      have hf : FW K s p * 10 ^ (10 - s) = fS K s p := rfl
      apply vX10_visitsOf_5
      refine m_day ?_
      rw [e]
      refine ⟨fun z => by omega, fun _ => ⟨⟨by omega, by omega⟩, ⟨by omega, by omega⟩, by omega, ⟨by omega, by omega⟩, m_ten (n := 10 - s) (by omega) (by omega) ?_⟩⟩
      rw [g.2.1 s p p0 p1 (by omega), hf]
      exact ⟨⟨by omega, by omega⟩, ⟨by omega, by omega⟩, ⟨by omega, by omega⟩, ih (s + 1) (by omega)⟩
  apply vX10_visitsOf
  exact lp ((K 179).toNat + 1) 0 (by omega)
