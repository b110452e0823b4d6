/-! the reference's chances: comes, goesOn -/
theorem m_wO {d : Nat} {M : ZM} {p k : Int} {Q : Int → ZM → Prop} (hW : WF (M 115)) (p0 : 0 ≤ p) (p1 : p < M 115 182) (k3 : M 115 (10 * p) ≠ 3) (k0 : 0 ≤ k) (k1 : k ≤ 2) (hQ : Q (wO (M 115) p k) M) : zcI (d + 2) 232 [zA 113, zI p, zI k] M Q := by
  have hpl := hW.1
  unfold wO at hQ
  by_cases k2 : M 115 (10 * p) = 2
  · rw [if_pos k2] at hQ
    apply vX10_tenthsOf
    refine m_kind (by omega) ⟨fun z => absurd k2 z, fun _ => ⟨fun z => ?_, fun z => ?_⟩⟩
    · rw [if_neg z] at hQ; exact hQ
    · rw [if_pos z] at hQ; exact hQ
  · rw [if_neg k2] at hQ
    exact m_tenthsOf hW p0 p1 k2 k3 k0 k1 hQ
def AR (K : Int → Int) (M M' : ZM) (s : Nat) (c : Int → Int) (l : Int) : Prop := (∀ x, x ≠ 135 → x ≠ 136 → M' x = M x) ∧ (∀ k, k ≠ 17 → M' 136 k = M 136 k) ∧ (∀ q, 0 ≤ q → q < K 182 → M' 135 (16 * s + q) = M 135 (16 * s + q) + c q) ∧ (∀ j, ¬ (16 * (s : Int) ≤ j ∧ j < 16 * s + 16) → M' 135 j = M 135 j) ∧ M' 136 17 = M 136 17 + l * 10 ^ (10 - s)
theorem AR.refl {K : Int → Int} {M : ZM} {s : Nat} : AR K M M s (fun _ => 0) 0 := ⟨fun _ _ _ => rfl, fun _ _ => rfl, fun _ _ _ => by dsimp only; omega, fun _ _ => rfl, by rw [Int.zero_mul]; omega⟩
theorem AR.trans {K : Int → Int} {M M1 M2 : ZM} {s : Nat} {c e : Int → Int} {l k : Int} (h : AR K M M1 s c l) (g : AR K M1 M2 s e k) : AR K M M2 s (fun q => c q + e q) (l + k) := by
  obtain ⟨h1, h2, h3, h4, h5⟩ := h
  obtain ⟨g1, g2, g3, g4, g5⟩ := g
  refine ⟨fun x a b => by rw [g1 x a b, h1 x a b], fun k a => by rw [g2 k a, h2 k a], fun q a b => by rw [g3 q a b, h3 q a b]; dsimp only; omega, fun j a => by rw [g4 j a, h4 j a], by rw [g5, h5, Int.add_mul]; omega⟩
theorem AR.cast {K : Int → Int} {M M1 : ZM} {s : Nat} {c e : Int → Int} {l k : Int} (h : AR K M M1 s c l) (hc : ∀ q, 0 ≤ q → q < K 182 → e q = c q) (hl : k = l) : AR K M M1 s e k := by
  obtain ⟨h1, h2, h3, h4, h5⟩ := h
  exact ⟨h1, h2, fun q a b => by rw [hc q a b]; exact h3 q a b, h4, by rw [hl]; exact h5⟩
theorem m_comes {d s : Nat} {M : ZM} {r v : Int} {Q : ZM → Prop} (hW : WF (M 115)) (hs : s ≤ 10) (r0 : 0 ≤ r) (r1 : r < 16) (v0 : 0 ≤ v) (v1 : v ≤ 10 ^ s) (b5 : r < M 115 182 → 0 ≤ M 135 (16 * s + r) ∧ M 135 (16 * s + r) ≤ 10000000000000) (b6 : 0 ≤ M 136 17 ∧ M 136 17 ≤ 10000000000000) (hQ : ∀ M', AR (M 115) M M' s (fun q => if r = q then v else 0) (if r < M 115 182 then 0 else v) → Q M') : zcV (d + 2) 230 [zA 113, zI r, zI (s : Int), zJ v] M Q := by
  have hpl := hW.1
  have ps : (10 : Int) ^ s * 10 ^ (10 - s) = 10000000000 := by
    rw [← Int.pow_add, show s + (10 - s) = 10 by omega]
    decide
  have u0 := pow10_pos (10 - s)
  have cb := Int.mul_le_mul_of_nonneg_right v1 (show 0 ≤ (10 : Int) ^ (10 - s) by omega)
  have cb0 := Int.mul_nonneg v0 (show 0 ≤ (10 : Int) ^ (10 - s) by omega)
  have vv : v ≤ 10000000000 := by
    have := Int.mul_le_mul_of_nonneg_left (show (1 : Int) ≤ 10 ^ (10 - s) by omega) v0
    omega
  apply vX10_comes
  refine m_places ⟨fun hr => ⟨by omega, ⟨by omega, by omega⟩, m_ten (n := 10 - s) (by omega) (by omega) ⟨⟨by omega, by omega⟩, ⟨by omega, by omega⟩, by omega, zset (hQ _ ?_)⟩⟩, fun hr => ⟨⟨by omega, by omega⟩, ⟨by omega, by omega⟩, ⟨by omega, by omega⟩, ?_, by omega, zset (hQ _ ?_)⟩⟩
  · rw [if_neg (show ¬ r < M 115 182 by omega)]
    refine ⟨fun x a b => zup_row b, fun k a => by rw [zup_at, if_neg a], fun q a b => by rw [zup_row (by decide)]; dsimp only; rw [if_neg (by omega)]; omega, fun j a => by rw [zup_row (by decide)], by rw [zup_at, if_pos rfl]⟩
  · have := b5 (by omega)
    exact ⟨by omega, by omega⟩
  · rw [if_pos (show r < M 115 182 by omega)]
    refine ⟨fun x a b => zup_row a, fun k a => by rw [zup_row (by decide)], fun q a b => ?_, fun j a => by rw [zup_at, if_neg (by omega)], by rw [zup_row (by decide)]; omega⟩
    rw [zup_at]
    dsimp only
    by_cases h : r = q
    · rw [if_pos (by omega), if_pos h, h]
    · rw [if_neg (by omega), if_neg h]; omega
theorem lsN_cn {K : Int → Int} (hW : WF K) {p : Int} (p0 : 0 ≤ p) (p1 : p < K 182) (k3 : K (10 * p) ≠ 3) : sN (lsF K (cn K p)) 16 = (if rdc K p 0 < K 182 then 0 else wO K p 0) + (if rdc K p 1 < K 182 then 0 else wO K p 1) + (if rdc K p 2 < K 182 then 0 else wO K p 2) := by
  have e : lsF K (cn K p) = fun q => (fun q => (if rdc K p 0 = q then (if rdc K p 0 < K 182 then 0 else wO K p 0) else 0) + (if rdc K p 1 = q then (if rdc K p 1 < K 182 then 0 else wO K p 1) else 0)) q + (if rdc K p 2 = q then (if rdc K p 2 < K 182 then 0 else wO K p 2) else 0) := by
    funext q
    unfold lsF cn
    rw [if_neg k3]
    by_cases hq : q < K 182
    · rw [if_pos hq]
      dsimp only
      split <;> split <;> split <;> simp_all
    · rw [if_neg hq]
      dsimp only
      have g : ∀ k, (if rdc K p k = q then (if rdc K p k < K 182 then 0 else wO K p k) else 0) = if rdc K p k = q then wO K p k else 0 := fun k => by
        by_cases h : rdc K p k = q
        · rw [if_pos h, if_pos h, if_neg (by omega)]
        · rw [if_neg h, if_neg h]
      rw [g, g, g]
  rw [e, sN_add, sN_add, sN_ind (rdc_rg hW p0 p1 k3 (by omega)).1, sN_ind (rdc_rg hW p0 p1 k3 (by omega)).1, sN_ind (rdc_rg hW p0 p1 k3 (by omega)).1, if_pos (show rdc K p 0 < (16 : Nat) by have := (rdc_rg hW p0 p1 k3 (k := 0) (by omega)).2; omega), if_pos (show rdc K p 1 < (16 : Nat) by have := (rdc_rg hW p0 p1 k3 (k := 1) (by omega)).2; omega), if_pos (show rdc K p 2 < (16 : Nat) by have := (rdc_rg hW p0 p1 k3 (k := 2) (by omega)).2; omega)]
theorem m_goesOn {d s : Nat} {M : ZM} {p v : Int} {Q : ZM → Prop} (hW : WF (M 115)) (hs : s ≤ 9) (p0 : 0 ≤ p) (p1 : p < M 115 182) (k3 : M 115 (10 * p) ≠ 3) (v0 : 0 ≤ v) (v1 : v ≤ 10 ^ s) (b5 : ∀ q, 0 ≤ q → q < M 115 182 → 0 ≤ M 135 (16 * ((s + 1 : Nat) : Int) + q) ∧ M 135 (16 * ((s + 1 : Nat) : Int) + q) ≤ 1000000000000) (b6 : 0 ≤ M 136 17 ∧ M 136 17 ≤ 5000000000000) (hQ : ∀ M', AR (M 115) M M' (s + 1) (fun q => cn (M 115) p q * v) (sN (lsF (M 115) (cn (M 115) p)) 16 * v) → Q M') : zcV (d + 3) 234 [zA 113, zI p, zI (M 115 (10 * p)), zI (s : Int), zJ v] M Q := by
  have hpl := hW.1
  generalize hK : M 115 = K at *
  have ws := wO_sum hW p0 p1 k3
  have wk : ∀ k, 0 ≤ k → k ≤ 2 → 0 ≤ wO K p k ∧ wO K p k ≤ 10 := fun k a b => by
    rcases (by omega : k = 0 ∨ k = 1 ∨ k = 2) with rfl | rfl | rfl <;> omega
  have vm : ∀ k, 0 ≤ k → k ≤ 2 → 0 ≤ v * wO K p k ∧ v * wO K p k ≤ 10 ^ (s + 1) := fun k a b => by
    have w := wk k a b
    refine ⟨Int.mul_nonneg v0 w.1, ?_⟩
    have h1 := Int.mul_le_mul_of_nonneg_left w.2 v0
    have h2 := Int.mul_le_mul_of_nonneg_right v1 (show (0 : Int) ≤ 10 by omega)
    rw [Int.pow_succ]
    omega
  have p10 : (10 : Int) ^ (s + 1) ≤ 10000000000 := by
    have ps : (10 : Int) ^ (s + 1) * 10 ^ (9 - s) = 10000000000 := by
      rw [← Int.pow_add, show s + 1 + (9 - s) = 10 by omega]
      decide
    have := Int.mul_le_mul_of_nonneg_left (pow10_pos (9 - s)) (show (0 : Int) ≤ 10 ^ (s + 1) by have := pow10_pos (s + 1); omega)
    omega
  -- one road
  have st : ∀ {k : Int} {M1 : ZM} {Q : ZM → Prop}, M1 115 = K → 0 ≤ k → k ≤ 2 → (K (10 * p) = 0 ∨ k < K (10 * p + 2)) → (∀ q, 0 ≤ q → q < K 182 → 0 ≤ M1 135 (16 * ((s + 1 : Nat) : Int) + q) ∧ M1 135 (16 * ((s + 1 : Nat) : Int) + q) ≤ 10000000000000) → (0 ≤ M1 136 17 ∧ M1 136 17 ≤ 10000000000000) → (∀ M2, AR K M1 M2 (s + 1) (fun q => if rdc K p k = q then v * wO K p k else 0) (if rdc K p k < K 182 then 0 else v * wO K p k) → wX10_goesOn (d + 2) 3 [(0, zA 113), (1, zI p), (2, zI (K (10 * p))), (3, zI (s : Int)), (4, zJ v), (6, zI (k + 1))] M2 Q) → wX10_goesOn (d + 2) 3 [(0, zA 113), (1, zI p), (2, zI (K (10 * p))), (3, zI (s : Int)), (4, zJ v), (6, zI k)] M1 Q := by
    intro k M1 Q e k0 k2 hk c5 c6 nx
    have hW1 : WF (M1 115) := by rw [e]; exact hW
    have p1' : p < M1 115 182 := by rw [e]; exact p1
    have k3' : M1 115 (10 * p) ≠ 3 := by rw [e]; exact k3
    have rg := rdc_rg hW p0 p1 k3 k0
    have w := wk k k0 k2
    have vk := vm k k0 k2
    have body : ∀ {Q2 : ZM → Prop}, (∀ M2, AR K M1 M2 (s + 1) (fun q => if rdc K p k = q then v * wO K p k else 0) (if rdc K p k < K 182 then 0 else v * wO K p k) → Q2 M2) → zcI (d + 2) 232 [zA 113, zI p, zI k] M1 (fun x4 M3 => (x4 ≤ 0 → Q2 M3) ∧ (¬ x4 ≤ 0 → zcI (d + 2) 233 [zA 113, zI p, zI k] M3 (fun x6 M5 => r32 ((s : Int) + 1) ∧ zcI (d + 2) 232 [zA 113, zI p, zI k] M5 (fun x8 M7 => r64 (v * x8) ∧ zcV (d + 2) 230 [zA 113, zI x6, zI ((s : Int) + 1), zJ (v * x8)] M7 Q2)))) := by
      intro Q2 h2
      refine m_wO hW1 p0 p1' k3' k0 k2 ?_
      rw [e]
      refine ⟨fun z => h2 M1 (AR.refl.cast (fun q _ _ => ?_) ?_), fun z => m_roadOf hW1 p0 p1' k3' k0 k2 ⟨⟨by omega, by omega⟩, m_wO hW1 p0 p1' k3' k0 k2 ?_⟩⟩
      · rw [show wO K p k = 0 by omega, Int.mul_zero]; split <;> rfl
      · rw [show wO K p k = 0 by omega, Int.mul_zero]; split <;> rfl
      rw [e]
      refine ⟨⟨by omega, by omega⟩, m_comes (s := s + 1) hW1 (by omega) rg.1 (by omega) vk.1 vk.2 (fun h => c5 _ rg.1 (by rw [e] at h; exact h)) c6 (fun M' h' => ?_)⟩
      rw [e] at h'
      exact h2 M' h'
    apply vX10_goesOn_3
    refine ⟨fun kn => m_fld (by omega) (by omega) ⟨fun z => ?_, fun _ => ?_⟩, fun kz => ⟨fun z => by omega, fun _ => ?_⟩⟩
    · rw [e] at z
      omega
    · have b := body (Q2 := fun M2 => r32 (k + 1) ∧ wX10_goesOn (d + 2) 3 [(0, zA 113), (1, zI p), (2, zI (K (10 * p))), (3, zI (s : Int)), (4, zJ v), (6, zI (k + 1))] M2 Q) (fun M2 h2 => ⟨⟨by omega, by omega⟩, nx M2 h2⟩)
      exact b
    · have b := body (Q2 := fun M2 => r32 (k + 1) ∧ wX10_goesOn (d + 2) 3 [(0, zA 113), (1, zI p), (2, zI (K (10 * p))), (3, zI (s : Int)), (4, zJ v), (6, zI (k + 1))] M2 Q) (fun M2 h2 => ⟨⟨by omega, by omega⟩, nx M2 h2⟩)
      exact b
  have hwp := hW.2.2.2.2.2.2.2 p p0 p1
  have hr := hwp.rc
  obtain ⟨w1, w2, w3, w4, w5, w6⟩ := hwp
  have h1 : 1 ≤ K (10 * p + 2) := by
    rcases (by omega : K (10 * p) = 0 ∨ K (10 * p) = 1 ∨ K (10 * p) = 2) with q | q | q
    · have := w2 q; omega
    · have := w3 q; omega
    · have := w4 q; omega
  have wz : ∀ k, 0 ≤ k → k ≤ 2 → K (10 * p) ≠ 0 → K (10 * p + 2) ≤ k → wO K p k = 0 := by
    intro k k0 k2 kz hk
    rcases (by omega : K (10 * p) = 1 ∨ K (10 * p) = 2) with q | q
    · unfold wO tnO
      rw [if_neg (by omega), if_pos q]
      have t := w3 q
      rcases (by omega : k = 1 ∨ k = 2) with rfl | rfl
      · rw [show 10 * p + 6 + 1 = 10 * p + 7 by omega]; exact t.2.2.2.1 hk
      · rw [show 10 * p + 6 + 2 = 10 * p + 8 by omega]; exact t.2.2.2.2 hk
    · unfold wO
      rw [if_pos q, if_neg (by omega)]
  have en : ∀ {k : Int} {M1 : ZM}, M1 115 = K → (K (10 * p) ≠ 0 ∧ K (10 * p + 2) ≤ k ∨ 3 ≤ k) → Q M1 → wX10_goesOn (d + 2) 3 [(0, zA 113), (1, zI p), (2, zI (K (10 * p))), (3, zI (s : Int)), (4, zJ v), (6, zI k)] M1 Q := by
    intro k M1 e hk hq
    apply vX10_goesOn_3
    refine ⟨fun kn => m_fld (by omega) (by omega) ⟨fun _ => hq, fun z => ?_⟩, fun kz => ⟨fun _ => hq, fun z => by omega⟩⟩
    rw [e] at z
    omega
  have fin : ∀ {M1 : ZM} {c : Int → Int} {l : Int}, AR K M M1 (s + 1) c l → (∀ q, c q = (if rdc K p 0 = q then v * wO K p 0 else 0) + (if rdc K p 1 = q then v * wO K p 1 else 0) + (if rdc K p 2 = q then v * wO K p 2 else 0)) → l = (if rdc K p 0 < K 182 then 0 else v * wO K p 0) + (if rdc K p 1 < K 182 then 0 else v * wO K p 1) + (if rdc K p 2 < K 182 then 0 else v * wO K p 2) → Q M1 := by
    intro M1 c l ha hc hl
    have dist : ∀ (P : Prop) [Decidable P] (x : Int), (if P then v * x else 0) = (if P then x else 0) * v := by
      intro P _ x
      split
      · rw [Int.mul_comm]
      · omega
    have dis2 : ∀ (P : Prop) [Decidable P] (x : Int), (if P then 0 else v * x) = (if P then 0 else x) * v := by
      intro P _ x
      split
      · omega
      · rw [Int.mul_comm]
    refine hQ M1 (ha.cast (fun q _ _ => ?_) ?_)
    · rw [hc q, dist, dist, dist, ← Int.add_mul, ← Int.add_mul]
      unfold cn
      rw [if_neg k3]
    · rw [hl, lsN_cn hW p0 p1 k3, dis2, dis2, dis2, ← Int.add_mul, ← Int.add_mul]
  have bb : ∀ {k : Int} {M1 M2 : ZM} {B C : Int}, 0 ≤ k → k ≤ 2 → AR K M1 M2 (s + 1) (fun q => if rdc K p k = q then v * wO K p k else 0) (if rdc K p k < K 182 then 0 else v * wO K p k) → ((∀ q, 0 ≤ q → q < K 182 → 0 ≤ M1 135 (16 * ((s + 1 : Nat) : Int) + q) ∧ M1 135 (16 * ((s + 1 : Nat) : Int) + q) ≤ B) ∧ (0 ≤ M1 136 17 ∧ M1 136 17 ≤ C)) → ((∀ q, 0 ≤ q → q < K 182 → 0 ≤ M2 135 (16 * ((s + 1 : Nat) : Int) + q) ∧ M2 135 (16 * ((s + 1 : Nat) : Int) + q) ≤ B + 10000000000) ∧ (0 ≤ M2 136 17 ∧ M2 136 17 ≤ C + 10000000000)) := by
    intro k M1 M2 B C k0 k2 ⟨g1, g2, g3, g4, g5⟩ ⟨i1, i2⟩
    have vk := vm k k0 k2
    refine ⟨fun q q0 q1 => ?_, ?_⟩
    · have := i1 q q0 q1
      rw [g3 q q0 q1]
      dsimp only
      split <;> omega
    · rw [g5]
      have ps : (10 : Int) ^ (s + 1) * 10 ^ (10 - (s + 1)) = 10000000000 := by
        rw [← Int.pow_add, show s + 1 + (10 - (s + 1)) = 10 by omega]
        decide
      have u0 := pow10_pos (10 - (s + 1))
      have cb := Int.mul_le_mul_of_nonneg_right vk.2 (show 0 ≤ (10 : Int) ^ (10 - (s + 1)) by omega)
      have cb0 := Int.mul_nonneg vk.1 (show 0 ≤ (10 : Int) ^ (10 - (s + 1)) by omega)
      split
      · rw [Int.zero_mul]; omega
      · omega
  have e15 : ∀ {M1 M2 : ZM} {c : Int → Int} {l : Int}, AR K M1 M2 (s + 1) c l → M1 115 = K → M2 115 = K := fun h e => by rw [h.1 115 (by decide) (by decide)]; exact e
  apply vX10_goesOn
  refine st hK (k := 0) (by omega) (by omega) (by omega) (fun q a b => by have := b5 q a b; omega) (by omega) (fun M1 a1 => ?_)
  have d1 := bb (by omega) (by omega) a1 ⟨b5, b6⟩
  have f1 := e15 a1 hK
  rw [show (0 : Int) + 1 = 1 by omega]
  by_cases c1 : K (10 * p) ≠ 0 ∧ K (10 * p + 2) ≤ 1
  · refine en f1 (Or.inl c1) (fin a1 (fun q => ?_) ?_)
    · rw [wz 1 (by omega) (by omega) c1.1 c1.2, wz 2 (by omega) (by omega) c1.1 (by omega), Int.mul_zero]
      split <;> split <;> split <;> omega
    · rw [wz 1 (by omega) (by omega) c1.1 c1.2, wz 2 (by omega) (by omega) c1.1 (by omega), Int.mul_zero]
      split <;> split <;> split <;> omega
  · refine st f1 (k := 1) (by omega) (by omega) (by omega) (fun q a b => by have := d1.1 q a b; omega) (by omega) (fun M2 a2 => ?_)
    have d2 := bb (by omega) (by omega) a2 d1
    have f2 := e15 a2 f1
    rw [show (1 : Int) + 1 = 2 by omega]
    by_cases c2 : K (10 * p) ≠ 0 ∧ K (10 * p + 2) ≤ 2
    · refine en f2 (Or.inl c2) (fin (a1.trans a2) (fun q => ?_) ?_)
      · rw [wz 2 (by omega) (by omega) c2.1 (by omega), Int.mul_zero]
        split <;> split <;> split <;> omega
      · rw [wz 2 (by omega) (by omega) c2.1 (by omega), Int.mul_zero]
        split <;> split <;> split <;> omega
    · refine st f2 (k := 2) (by omega) (by omega) (by omega) (fun q a b => by have := d2.1 q a b; omega) (by omega) (fun M3 a3 => ?_)
      have f3 := e15 a3 f2
      rw [show (2 : Int) + 1 = 3 by omega]
      exact en f3 (Or.inr (by omega)) (fin ((a1.trans a2).trans a3) (fun q => rfl) rfl)
