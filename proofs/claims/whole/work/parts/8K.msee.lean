/-! the reference's second: over, comesSeeing, the ROADS of a PLACE -/
def AS2 (K : Int → Int) (M M' : ZM) (c : Int → Int → Int → Int) (α β : Int) : Prop := (∀ x, x ≠ 113 → x ≠ 138 → M' x = M x) ∧ (∀ k, k ≠ 43 → k ≠ 44 → M' 113 k = M 113 k) ∧ (∀ q i j, 0 ≤ q → q < K 182 → 0 ≤ i → i < 12 → 0 ≤ j → j < 12 → M' 138 ((q * 12 + i) * 12 + j) = M 138 ((q * 12 + i) * 12 + j) + c q i j) ∧ M' 113 44 = M 113 44 + α ∧ M' 113 43 = M 113 43 + β
theorem AS2.refl {K : Int → Int} {M : ZM} : AS2 K M M (fun _ _ _ => 0) 0 0 := ⟨fun _ _ _ => rfl, fun _ _ _ => rfl, fun _ _ _ _ _ _ _ _ _ => (Int.add_zero _).symm, (Int.add_zero _).symm, (Int.add_zero _).symm⟩
theorem AS2.trans {K : Int → Int} {M M1 M2 : ZM} {c e : Int → Int → Int → Int} {α β γ δ : Int} (h : AS2 K M M1 c α β) (g : AS2 K M1 M2 e γ δ) : AS2 K M M2 (fun q i j => c q i j + e q i j) (α + γ) (β + δ) := by
  obtain ⟨h1, h2, h3, h4, h5⟩ := h
  obtain ⟨g1, g2, g3, g4, g5⟩ := g
  exact ⟨fun x a b => by rw [g1 x a b, h1 x a b], fun k a b => by rw [g2 k a b, h2 k a b], fun q i j a b a' b' a'' b'' => by rw [g3 q i j a b a' b' a'' b'', h3 q i j a b a' b' a'' b'', Int.add_assoc], by rw [g4, h4, Int.add_assoc], by rw [g5, h5, Int.add_assoc]⟩
theorem AS2.cast {K : Int → Int} {M M1 : ZM} {c e : Int → Int → Int → Int} {α β γ δ : Int} (h : AS2 K M M1 c α β) (hc : ∀ q i j, 0 ≤ q → q < K 182 → 0 ≤ i → i < 12 → 0 ≤ j → j < 12 → e q i j = c q i j) (ha : γ = α) (hb : δ = β) : AS2 K M M1 e γ δ := by
  obtain ⟨h1, h2, h3, h4, h5⟩ := h
  exact ⟨h1, h2, fun q i j a b a' b' a'' b'' => by rw [hc q i j a b a' b' a'' b'']; exact h3 q i j a b a' b' a'' b'', by rw [ha]; exact h4, by rw [hb]; exact h5⟩
theorem m_over {d : Nat} {M : ZM} {K : Int → Int} {i j v : Int} {Q : ZM → Prop} (i0 : 0 ≤ i) (ij : i ≤ j) (j1 : j ≤ 11) (v0 : 0 ≤ v) (v1 : v ≤ 10000000000) (b4 : 0 ≤ M 113 44 ∧ M 113 44 ≤ 10000000000000) (b3 : 0 ≤ M 113 43 ∧ M 113 43 ≤ 1000000000000000000) (hQ : ∀ M', AS2 K M M' (fun _ _ _ => 0) (gA i j * v) (gB i j * v) → Q M') : zcV (d + 1) 241 [zA 113, zI i, zI j, zJ v] M Q := by
  have gb := gB_le i0 ij j1
  unfold gA gB at hQ gb
  apply vX10_over
  refine ⟨fun z => ?_, fun z => ?_⟩
  · rw [if_neg z, if_neg z] at hQ
    rw [if_neg z, if_neg z] at gb
    have td := td_le (j := j) (by omega) j1
    have tu : Int.tdiv 27720 j ≤ 27720 := by
      have := Int.mul_le_mul_of_nonneg_left (show (1 : Int) ≤ j by omega) (show 0 ≤ Int.tdiv 27720 j by omega)
      omega
    have m1 := Int.mul_nonneg v0 gb.1
    have m2 := Int.mul_le_mul v1 gb.2 gb.1 (show (0 : Int) ≤ 10000000000 by omega)
    refine ⟨⟨by omega, by omega⟩, ?_⟩
    intro M1 hM1
    have e1 : M1 113 43 = M 113 43 := by rw [hM1, zup_at, if_neg (by omega)]
    rw [e1]
    refine ⟨z, ⟨by omega, by omega⟩, ⟨by omega, by omega⟩, ⟨by omega, by omega⟩, ⟨by omega, by omega⟩, zset (hQ _ ⟨fun x h1 h2 => ?_, fun k h1 h2 => ?_, fun q i j _ _ _ _ _ _ => ?_, ?_, ?_⟩)⟩
    · rw [zup_row h1, hM1, zup_row h1]
    · rw [zup_at, if_neg h1, hM1, zup_at, if_neg h2]
    · rw [zup_row (by decide), hM1, zup_row (by decide), Int.add_zero]
    · rw [zup_at, if_neg (by omega), hM1, zup_eq, Int.one_mul]
    · rw [zup_eq, Int.mul_comm v]
  · rw [if_pos z, if_pos z, Int.zero_mul] at hQ
    exact hQ M AS2.refl
theorem m_sees {d s : Nat} {M : ZM} {K : Int → Int} {P r i j v : Int} {Q : ZM → Prop} (hK : M 115 = K) (hW : WF K) (hP : FKP K P) (hs : s ≤ 10) (r0 : 0 ≤ r) (r1 : r < 16) (i0 : 0 ≤ i) (ij : i ≤ j) (j1 : j ≤ 10) (v0 : 0 ≤ v) (v1 : v ≤ 10 ^ s) (b8 : ∀ q i j, 0 ≤ q → q < K 182 → 0 ≤ i → i < 12 → 0 ≤ j → j < 12 → 0 ≤ M 138 ((q * 12 + i) * 12 + j) ∧ M 138 ((q * 12 + i) * 12 + j) ≤ 10000000000000) (b4 : 0 ≤ M 113 44 ∧ M 113 44 ≤ 10000000000000) (b3 : 0 ≤ M 113 43 ∧ M 113 43 ≤ 1000000000000000000) (hQ : ∀ M', AS2 K M M' (fun q i' j' => if r = q ∧ i' = i + mE P q ∧ j' = j + lQ K P q then v else 0) (if r < K 182 then 0 else gA i j * (v * 10 ^ (10 - s))) (if r < K 182 then 0 else gB i j * (v * 10 ^ (10 - s))) → Q M') : zcV (d + 4) 242 [zA 113, zI r, zI P, zI (s : Int), zI i, zI j, zJ v] M Q := by
  have hpl := hW.1
  have ps := p10s hs
  have u0 := pow10_pos (10 - s)
  have cb := Int.mul_le_mul_of_nonneg_right v1 (show 0 ≤ (10 : Int) ^ (10 - s) by omega)
  have cb0 := Int.mul_nonneg v0 (show 0 ≤ (10 : Int) ^ (10 - s) by omega)
  have vv : v ≤ 10000000000 := by
    have := Int.mul_le_mul_of_nonneg_left (show (1 : Int) ≤ 10 ^ (10 - s) by omega) v0
    omega
  have put : ∀ m l : Int, r < K 182 → m = mE P r → l = lQ K P r → ∀ (hr : True), (0 ≤ (r * 12 + (i + m)) * 12 + (j + l) ∧ (r * 12 + (i + m)) * 12 + (j + l) < 2304) ∧ r64 (M 138 ((r * 12 + (i + m)) * 12 + (j + l)) + v) ∧ (0 ≤ (r * 12 + (i + m)) * 12 + (j + l) ∧ (r * 12 + (i + m)) * 12 + (j + l) < 2304) ∧ ∀ M3, M3 = zup M 138 ((r * 12 + (i + m)) * 12 + (j + l)) (M 138 ((r * 12 + (i + m)) * 12 + (j + l)) + v) → Q M3 := by
    intro m l hr hm hl _
    have h1 := mE_rg P r
    have h2 := lQ_rg K P r
    have b := b8 r (i + m) (j + l) r0 hr (by omega) (by omega) (by omega) (by omega)
    refine ⟨⟨by omega, by omega⟩, ⟨by omega, by omega⟩, ⟨by omega, by omega⟩, ?_⟩
    intro M3 hM3
    rw [if_pos hr, if_pos hr] at hQ
    refine hQ M3 ⟨fun x _ x2 => by rw [hM3, zup_row x2], fun k _ _ => by rw [hM3, zup_row (by decide)], fun q i' j' q0 q1 y0 y1 y2 y3 => ?_, by rw [hM3, zup_row (by decide), Int.add_zero], by rw [hM3, zup_row (by decide), Int.add_zero]⟩
    rw [hM3, zup_at]
    dsimp only
    by_cases e : r = q ∧ i' = i + mE P q ∧ j' = j + lQ K P q
    · rw [if_pos e]
      obtain ⟨rfl, rfl, rfl⟩ := e
      rw [if_pos (by rw [hm, hl]), hm, hl]
    · rw [if_neg e, Int.add_zero]
      rw [if_neg]
      intro z
      have e1 : q = r := by omega
      subst e1
      exact e ⟨rfl, by omega, by omega⟩
  have k57 : ∀ l : Int, r < K 182 → l = lQ K P r → wX10_comesSeeing (d + 3) 57 [(0, zA 113), (1, zI r), (2, zI P), (4, zI i), (5, zI j), (6, zJ v), (8, zI l)] M Q := by
    intro l hr hl
    have h2 := lQ_rg K P r
    apply vX10_comesSeeing_57
    refine ⟨fun ne => ⟨⟨by omega, by omega⟩, fun z => ⟨⟨by omega, by omega⟩, ?_⟩, fun z => ⟨⟨by omega, by omega⟩, ?_⟩⟩, fun e => ⟨⟨by omega, by omega⟩, fun z => ⟨⟨by omega, by omega⟩, ?_⟩, fun z => ⟨⟨by omega, by omega⟩, ?_⟩⟩⟩
    · apply vX10_at
      exact ⟨⟨by omega, by omega⟩, ⟨by omega, by omega⟩, ⟨by omega, by omega⟩, ⟨by omega, by omega⟩, put 0 0 hr (by unfold mE; rw [if_neg ne]) (by omega) trivial⟩
    · apply vX10_at
      exact ⟨⟨by omega, by omega⟩, ⟨by omega, by omega⟩, ⟨by omega, by omega⟩, ⟨by omega, by omega⟩, put 0 1 hr (by unfold mE; rw [if_neg ne]) (by omega) trivial⟩
    · apply vX10_at
      exact ⟨⟨by omega, by omega⟩, ⟨by omega, by omega⟩, ⟨by omega, by omega⟩, ⟨by omega, by omega⟩, put 1 0 hr (by unfold mE; rw [if_pos e]) (by omega) trivial⟩
    · apply vX10_at
      exact ⟨⟨by omega, by omega⟩, ⟨by omega, by omega⟩, ⟨by omega, by omega⟩, ⟨by omega, by omega⟩, put 1 1 hr (by unfold mE; rw [if_pos e]) (by omega) trivial⟩
  apply vX10_comesSeeing
  refine m_places ?_
  rw [hK]
  refine ⟨fun hr => ?_, fun hr => ⟨⟨by omega, by omega⟩, m_ten (n := 10 - s) (by omega) (by omega) ⟨⟨by omega, by omega⟩, m_over (K := K) i0 ij (by omega) cb0 (by omega) b4 b3 (fun M' h' => hQ M' (h'.cast (fun q _ _ _ q1 _ _ _ _ => ?_) ?_ ?_))⟩⟩⟩
  · refine m_isFork (by rw [hK]; exact hpl) (fun a b c => ⟨fun z => by omega, fun _ => m_fld (by omega) (by omega) (m_fld (by have := hP.1; have := hP.2.1; omega) (by omega) ?_)⟩) (fun no => ⟨fun _ => k57 0 hr ?_, fun z => absurd rfl z⟩)
    · rw [hK] at c ⊢
      refine ⟨fun z => k57 0 hr ?_, fun z => k57 1 hr ?_⟩
      · unfold lQ; rw [if_neg (fun y => z y.2.2)]
      · unfold lQ; rw [if_pos ⟨hr, c, z⟩]
    · rw [hK] at no
      unfold lQ; rw [if_neg (fun y => no ⟨r0, y.1, y.2.1⟩)]
  · rw [if_neg (by omega)]
  · rw [if_neg hr]
  · rw [if_neg hr]
/-- all ROADS -/
theorem m_see196 {d s : Nat} {M : ZM} {K : Int → Int} {P p i j v : Int} {Q : Int → ZM → Prop} (hK : M 115 = K) (hW : WF K) (hP : FKP K P) (hs : s ≤ 9) (p0 : 0 ≤ p) (p1 : p < K 182) (k3 : K (10 * p) ≠ 3) (i0 : 0 ≤ i) (ij : i ≤ j) (j1 : j ≤ 10) (v0 : 0 ≤ v) (v1 : v ≤ 10 ^ s) (b8 : ∀ q i j, 0 ≤ q → q < K 182 → 0 ≤ i → i < 12 → 0 ≤ j → j < 12 → 0 ≤ M 138 ((q * 12 + i) * 12 + j) ∧ M 138 ((q * 12 + i) * 12 + j) ≤ 1000000000000) (b4 : 0 ≤ M 113 44 ∧ M 113 44 ≤ 1000000000000) (b3 : 0 ≤ M 113 43 ∧ M 113 43 ≤ 100000000000000000) (nx : ∀ M', AS2 K M M' (fun q i' j' => if i' = i + mE P q ∧ j' = j + lQ K P q then cn K p q * v else 0) (gA i j * (sN (lsF K (cn K p)) 16 * v * 10 ^ (10 - (s + 1)))) (gB i j * (sN (lsF K (cn K p)) 16 * v * 10 ^ (10 - (s + 1)))) → r32 (j + 1) ∧ wX10_second (d + 4) 117 [(0, zA 113), (1, zI P), (2, zI (s : Int)), (3, zI p), (4, zI i), (5, zI (j + 1))] M' Q) : wX10_second (d + 4) 196 [(0, zA 113), (1, zI P), (2, zI (s : Int)), (3, zI p), (4, zI i), (5, zI j), (6, zJ v), (8, zI (K (10 * p))), (9, zI 0)] M Q := by
  have hpl := hW.1
  have ws := wO_sum hW p0 p1 k3
  have gb := gB_le i0 ij (show j ≤ 11 by omega)
  have ga : gA i j = 0 ∨ gA i j = 1 := by unfold gA; split <;> omega
  have wk : ∀ k, 0 ≤ k → k ≤ 2 → 0 ≤ wO K p k ∧ wO K p k ≤ 10 := fun k a b => by
    rcases (by omega : k = 0 ∨ k = 1 ∨ k = 2) with rfl | rfl | rfl <;> omega
  have ps := p10s (s := s + 1) (by omega)
  have u0 := pow10_pos (10 - (s + 1))
  have vm : ∀ k, 0 ≤ k → k ≤ 2 → 0 ≤ v * wO K p k ∧ v * wO K p k ≤ 10 ^ (s + 1) ∧ 0 ≤ v * wO K p k * 10 ^ (10 - (s + 1)) ∧ v * wO K p k * 10 ^ (10 - (s + 1)) ≤ 10000000000 := fun k a b => by
    have w := wk k a b
    have n0 := Int.mul_nonneg v0 w.1
    have h1 := Int.mul_le_mul_of_nonneg_left w.2 v0
    have h2 := Int.mul_le_mul_of_nonneg_right v1 (show (0 : Int) ≤ 10 by omega)
    have h3 : v * wO K p k ≤ 10 ^ (s + 1) := by rw [Int.pow_succ]; omega
    have h4 := Int.mul_le_mul_of_nonneg_right h3 (show (0 : Int) ≤ 10 ^ (10 - (s + 1)) by omega)
    have h5 := Int.mul_nonneg n0 (show (0 : Int) ≤ 10 ^ (10 - (s + 1)) by omega)
    omega
  have p10 : (10 : Int) ^ (s + 1) ≤ 10000000000 := by
    have := Int.mul_le_mul_of_nonneg_left (show (1 : Int) ≤ 10 ^ (10 - (s + 1)) by omega) (show (0 : Int) ≤ 10 ^ (s + 1) by have := pow10_pos (s + 1); omega)
    omega
  let ST := fun (k : Int) (M1 M2 : ZM) => AS2 K M1 M2 (fun q i' j' => if rdc K p k = q ∧ i' = i + mE P q ∧ j' = j + lQ K P q then v * wO K p k else 0) (if rdc K p k < K 182 then 0 else gA i j * (v * wO K p k * 10 ^ (10 - (s + 1)))) (if rdc K p k < K 182 then 0 else gB i j * (v * wO K p k * 10 ^ (10 - (s + 1))))
  let BB := fun (M1 : ZM) (n : Int) => M1 115 = K ∧ (∀ q i j, 0 ≤ q → q < K 182 → 0 ≤ i → i < 12 → 0 ≤ j → j < 12 → 0 ≤ M1 138 ((q * 12 + i) * 12 + j) ∧ M1 138 ((q * 12 + i) * 12 + j) ≤ 1000000000000 + n * 10000000000) ∧ (0 ≤ M1 113 44 ∧ M1 113 44 ≤ 1000000000000 + n * 10000000000) ∧ (0 ≤ M1 113 43 ∧ M1 113 43 ≤ 100000000000000000 + n * 277200000000000)
  have bb : ∀ (k n : Int) (M1 M2 : ZM), 0 ≤ k → k ≤ 2 → ST k M1 M2 → BB M1 n → BB M2 (n + 1) := by
    intro k n M1 M2 k0 k2 ⟨g1, g2, g3, g4, g5⟩ ⟨x1, x2, x3, x4⟩
    have vk := vm k k0 k2
    refine ⟨by rw [g1 115 (by decide) (by decide)]; exact x1, fun q i j a b a' b' a'' b'' => ?_, ?_, ?_⟩
    · have := x2 q i j a b a' b' a'' b''
      rw [g3 q i j a b a' b' a'' b'']
      dsimp only
      split <;> omega
    · rw [g4]
      split
      · omega
      · rcases ga with e | e <;> rw [e] <;> omega
    · rw [g5]
      split
      · omega
      · have m1 := Int.mul_nonneg gb.1 vk.2.2.1
        have m2 := Int.mul_le_mul (show gB i j ≤ 27720 by omega) vk.2.2.2 vk.2.2.1 (show (0 : Int) ≤ 27720 by omega)
        omega
  have st : ∀ {k n : Int} {M1 : ZM} {Q : Int → ZM → Prop}, BB M1 n → 0 ≤ n → n ≤ 2 → 0 ≤ k → k ≤ 2 → (K (10 * p) = 0 ∨ k < K (10 * p + 2)) → (∀ M2, ST k M1 M2 → wX10_second (d + 4) 196 [(0, zA 113), (1, zI P), (2, zI (s : Int)), (3, zI p), (4, zI i), (5, zI j), (6, zJ v), (8, zI (K (10 * p))), (9, zI (k + 1))] M2 Q) → wX10_second (d + 4) 196 [(0, zA 113), (1, zI P), (2, zI (s : Int)), (3, zI p), (4, zI i), (5, zI j), (6, zJ v), (8, zI (K (10 * p))), (9, zI k)] M1 Q := by
    intro k n M1 Q hB n0 n1 k0 k2 hk nx
    obtain ⟨e, x2, x3, x4⟩ := hB
    have hW1 : WF (M1 115) := by rw [e]; exact hW
    have p1' : p < M1 115 182 := by rw [e]; exact p1
    have k3' : M1 115 (10 * p) ≠ 3 := by rw [e]; exact k3
    have rg := rdc_rg hW p0 p1 k3 k0
    have vk := vm k k0 k2
    have body : ∀ {Q2 : ZM → Prop}, (∀ M2, ST k M1 M2 → Q2 M2) → zcI (d + 4) 232 [zA 113, zI p, zI k] M1 (fun x4 M3 => (x4 ≤ 0 → Q2 M3) ∧ (¬ x4 ≤ 0 → zcI (d + 4) 233 [zA 113, zI p, zI k] M3 (fun x6 M5 => r32 ((s : Int) + 1) ∧ zcI (d + 4) 232 [zA 113, zI p, zI k] M5 (fun x8 M7 => r64 (v * x8) ∧ zcV (d + 4) 242 [zA 113, zI x6, zI P, zI ((s : Int) + 1), zI i, zI j, zJ (v * x8)] M7 Q2)))) := by
      intro Q2 h2
      refine m_wO hW1 p0 p1' k3' k0 k2 ?_
      rw [e]
      refine ⟨fun z => h2 M1 (AS2.refl.cast (fun q _ _ _ _ _ _ _ _ => ?_) ?_ ?_), fun z => m_roadOf hW1 p0 p1' k3' k0 k2 ⟨⟨by omega, by omega⟩, m_wO hW1 p0 p1' k3' k0 k2 ?_⟩⟩
      · have := wk k k0 k2
        rw [show wO K p k = 0 by omega, Int.mul_zero]; split <;> rfl
      · have := wk k k0 k2
        rw [show wO K p k = 0 by omega, Int.mul_zero, Int.zero_mul, Int.mul_zero]; split <;> rfl
      · have := wk k k0 k2
        rw [show wO K p k = 0 by omega, Int.mul_zero, Int.zero_mul, Int.mul_zero]; split <;> rfl
      rw [e]
      exact ⟨⟨by omega, by omega⟩, m_sees (s := s + 1) e hW hP (by omega) rg.1 (by omega) i0 ij j1 vk.1 vk.2.1 (fun q i j a b a' b' a'' b'' => by have := x2 q i j a b a' b' a'' b''; omega) (by omega) (by omega) (fun M' h' => h2 M' h')⟩
    apply vX10_second_196
    refine ⟨fun kn => m_fld (by omega) (by omega) ⟨fun z => ?_, fun _ => ?_⟩, fun kz => ⟨fun z => by omega, fun _ => ?_⟩⟩
    · rw [e] at z
      omega
    · exact body (Q2 := fun M2 => r32 (k + 1) ∧ wX10_second (d + 4) 196 [(0, zA 113), (1, zI P), (2, zI (s : Int)), (3, zI p), (4, zI i), (5, zI j), (6, zJ v), (8, zI (K (10 * p))), (9, zI (k + 1))] M2 Q) (fun M2 h2 => ⟨⟨by omega, by omega⟩, nx M2 h2⟩)
    · exact body (Q2 := fun M2 => r32 (k + 1) ∧ wX10_second (d + 4) 196 [(0, zA 113), (1, zI P), (2, zI (s : Int)), (3, zI p), (4, zI i), (5, zI j), (6, zJ v), (8, zI (K (10 * p))), (9, zI (k + 1))] M2 Q) (fun M2 h2 => ⟨⟨by omega, by omega⟩, nx M2 h2⟩)
  have hwp := hW.2.2.2.2.2.2.2 p p0 p1
  have hr := hwp.rc
  obtain ⟨w1, w2, w3, w4, w5, w6⟩ := hwp
  have h1 : 1 ≤ K (10 * p + 2) := by
    rcases (by omega : K (10 * p) = 0 ∨ K (10 * p) = 1 ∨ K (10 * p) = 2) with q | q | q
    · have := w2 q; omega
    · have := w3 q; omega
    · have := w4 q; omega
  have wz : ∀ k, 0 ≤ k → k ≤ 2 → K (10 * p) ≠ 0 → K (10 * p + 2) ≤ k → wO K p k = 0 := by
    intro k k0 k2 kz hk
    rcases (by omega : K (10 * p) = 1 ∨ K (10 * p) = 2) with q | q
    · unfold wO tnO
      rw [if_neg (by omega), if_pos q]
      have t := w3 q
      rcases (by omega : k = 1 ∨ k = 2) with rfl | rfl
      · rw [show 10 * p + 6 + 1 = 10 * p + 7 by omega]; exact t.2.2.2.1 hk
      · rw [show 10 * p + 6 + 2 = 10 * p + 8 by omega]; exact t.2.2.2.2 hk
    · unfold wO
      rw [if_pos q, if_neg (by omega)]
  have en : ∀ {k : Int} {M1 : ZM}, M1 115 = K → (K (10 * p) ≠ 0 ∧ K (10 * p + 2) ≤ k ∨ 3 ≤ k) → (r32 (j + 1) ∧ wX10_second (d + 4) 117 [(0, zA 113), (1, zI P), (2, zI (s : Int)), (3, zI p), (4, zI i), (5, zI (j + 1))] M1 Q) → wX10_second (d + 4) 196 [(0, zA 113), (1, zI P), (2, zI (s : Int)), (3, zI p), (4, zI i), (5, zI j), (6, zJ v), (8, zI (K (10 * p))), (9, zI k)] M1 Q := by
    intro k M1 e hk hq
    apply vX10_second_196
    refine ⟨fun kn => m_fld (by omega) (by omega) ⟨fun _ => hq, fun z => ?_⟩, fun kz => ⟨fun _ => hq, fun z => by omega⟩⟩
    rw [e] at z
    omega
  have skip : ∀ (k : Int) (M1 : ZM), 0 ≤ k → k ≤ 2 → K (10 * p) ≠ 0 → K (10 * p + 2) ≤ k → ST k M1 M1 := by
    intro k M1 k0 k2 kz hk
    have z := wz k k0 k2 kz hk
    refine AS2.refl.cast (fun q _ _ _ _ _ _ _ _ => ?_) ?_ ?_
    · rw [z, Int.mul_zero]; split <;> rfl
    · rw [z, Int.mul_zero, Int.zero_mul, Int.mul_zero]; split <;> rfl
    · rw [z, Int.mul_zero, Int.zero_mul, Int.mul_zero]; split <;> rfl
  have fin : ∀ {M1 M2 M3 : ZM}, ST 0 M M1 → ST 1 M1 M2 → ST 2 M2 M3 → r32 (j + 1) ∧ wX10_second (d + 4) 117 [(0, zA 113), (1, zI P), (2, zI (s : Int)), (3, zI p), (4, zI i), (5, zI (j + 1))] M3 Q := by
    intro M1 M2 M3 a1 a2 a3
    have dis3 : ∀ (R : Prop) [Decidable R] (g x : Int), (if R then 0 else g * (v * x * 10 ^ (10 - (s + 1)))) = g * ((if R then 0 else x) * v * 10 ^ (10 - (s + 1))) := by
      intro R _ g x
      split
      · rw [Int.zero_mul, Int.zero_mul, Int.mul_zero]
      · rw [Int.mul_comm v x]
    refine nx M3 (((a1.trans a2).trans a3).cast (fun q i' j' _ _ _ _ _ _ => ?_) ?_ ?_)
    · by_cases c : i' = i + mE P q ∧ j' = j + lQ K P q
      · have d3 : ∀ k : Int, (if rdc K p k = q ∧ i' = i + mE P q ∧ j' = j + lQ K P q then v * wO K p k else 0) = (if rdc K p k = q then wO K p k else 0) * v := by
          intro k
          by_cases e : rdc K p k = q
          · rw [if_pos ⟨e, c⟩, if_pos e, Int.mul_comm]
          · rw [if_neg (fun z => e z.1), if_neg e, Int.zero_mul]
        rw [if_pos c, d3, d3, d3, ← Int.add_mul, ← Int.add_mul]
        unfold cn
        rw [if_neg k3]
      · have d3 : ∀ k : Int, (if rdc K p k = q ∧ i' = i + mE P q ∧ j' = j + lQ K P q then v * wO K p k else 0) = 0 := fun k => if_neg (fun z => c z.2)
        rw [if_neg c, d3, d3, d3]
        rfl
    · rw [lsN_cn hW p0 p1 k3, dis3, dis3, dis3, ← Int.mul_add, ← Int.mul_add, ← Int.add_mul, ← Int.add_mul, ← Int.add_mul, ← Int.add_mul]
    · rw [lsN_cn hW p0 p1 k3, dis3, dis3, dis3, ← Int.mul_add, ← Int.mul_add, ← Int.add_mul, ← Int.add_mul, ← Int.add_mul, ← Int.add_mul]
  have B0 : BB M 0 := ⟨hK, fun q i j a b a' b' a'' b'' => by have := b8 q i j a b a' b' a'' b''; omega, by omega, by omega⟩
  refine st B0 (by omega) (by omega) (by omega) (by omega) (by omega) (fun M1 a1 => ?_)
  have B1 := bb 0 0 M M1 (by omega) (by omega) a1 B0
  rw [show (0 : Int) + 1 = 1 by omega] at B1 ⊢
  by_cases c1 : K (10 * p) ≠ 0 ∧ K (10 * p + 2) ≤ 1
  · exact en B1.1 (Or.inl c1) (fin a1 (skip 1 M1 (by omega) (by omega) c1.1 c1.2) (skip 2 M1 (by omega) (by omega) c1.1 (by omega)))
  · refine st B1 (by omega) (by omega) (by omega) (by omega) (by omega) (fun M2 a2 => ?_)
    have B2 := bb 1 1 M1 M2 (by omega) (by omega) a2 B1
    rw [show (1 : Int) + 1 = 2 by omega] at B2 ⊢
    by_cases c2 : K (10 * p) ≠ 0 ∧ K (10 * p + 2) ≤ 2
    · exact en B2.1 (Or.inl c2) (fin a1 a2 (skip 2 M2 (by omega) (by omega) c2.1 c2.2))
    · refine st B2 (by omega) (by omega) (by omega) (by omega) (by omega) (fun M3 a3 => ?_)
      have B3 := bb 2 2 M2 M3 (by omega) (by omega) a3 B2
      exact en B3.1 (Or.inr (by omega)) (fin a1 a2 a3)
