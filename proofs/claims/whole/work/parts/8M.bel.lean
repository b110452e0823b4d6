/-! the reference's second, worked off -/
theorem CC_leA {K : Int → Int} {P : Int} (hW : WF K) (h : FKP K P) {s : Nat} (hs : s ≤ 10) {q : Int} (q0 : 0 ≤ q) (q1 : q < 16) (i j : Int) : CC K P s q i j ≤ FW K s q := by
  by_cases c : i < 0 ∨ j < i ∨ (s : Int) + 1 < j
  · rw [CC_sup h s q i j c]; exact (FW_bd hW s).1 q
  · exact CC_le hW h s q0 q1 (by omega) (by omega) (by omega) (by omega)
/-- the row of the next STEP, PLACES before p worked off, and of p what is before (i, j) -/
def NR (K : Int → Int) (P : Int) (s p : Nat) (i j : Int) (q x y : Int) : Int := FP K (fun r => CC K P s r (x - mE P q) (y - lQ K P q)) p q + (if x - mE P q < i ∨ (x - mE P q = i ∧ y - lQ K P q < j) then cn K p q * CC K P s p (x - mE P q) (y - lQ K P q) else 0)
theorem NR_rg {K : Int → Int} {P : Int} (hW : WF K) (h : FKP K P) {s p : Nat} (hs : s ≤ 9) (hp : (p : Int) < K 182) (i j : Int) {q : Int} (q0 : 0 ≤ q) (q1 : q < 16) (x y : Int) : 0 ≤ NR K P s p i j q x y ∧ NR K P s p i j q x y ≤ 10 ^ (s + 1) := by
  have hpl := hW.1
  have a0 := FP_nn hW (f := fun r => CC K P s r (x - mE P q) (y - lQ K P q)) (fun r _ _ => CC_nn hW s r _ _) p (by omega) q
  have a1 := FP_leq (q := q) hW (f := fun r => CC K P s r (x - mE P q) (y - lQ K P q)) (g := FW K s) (p + 1) (by omega) (fun r r0 r1 => CC_leA hW h (by omega) r0 (by omega) _ _)
  have a2 := ((FP_le hW (s := s) (p := p + 1) hs (by omega)).1 q q0 q1).2
  have a3 : FP K (fun r => CC K P s r (x - mE P q) (y - lQ K P q)) (p + 1) q = FP K (fun r => CC K P s r (x - mE P q) (y - lQ K P q)) p q + cn K p q * CC K P s p (x - mE P q) (y - lQ K P q) := rfl
  have a4 := Int.mul_nonneg (cn_nn hW (p := p) (by omega) hp q).1 (CC_nn (P := P) hW s p (x - mE P q) (y - lQ K P q))
  unfold NR
  split <;> omega
theorem NR_j {K : Int → Int} {P : Int} {s p : Nat} {i j q x y : Int} : NR K P s p i (j + 1) q x y = NR K P s p i j q x y + (if x = i + mE P q ∧ y = j + lQ K P q then cn K p q * CC K P s p i j else 0) := by
  unfold NR
  by_cases c : x = i + mE P q ∧ y = j + lQ K P q
  · have e1 : x - mE P q = i := by omega
    have e2 : y - lQ K P q = j := by omega
    rw [if_pos c, e1, e2, if_pos (by omega), if_neg (by omega)]; omega
  · rw [if_neg c]
    by_cases d : x - mE P q < i ∨ (x - mE P q = i ∧ y - lQ K P q < j)
    · rw [if_pos d, if_pos (by omega)]; omega
    · rw [if_neg d, if_neg (by omega)]; omega
theorem NR_i {K : Int → Int} {P : Int} (h : FKP K P) {s p : Nat} {i q x y : Int} (y1 : y < 12) : NR K P s p (i + 1) (i + 1) q x y = NR K P s p i 12 q x y := by
  have l := lQ_rg K P q
  unfold NR
  by_cases d : x - mE P q < i ∨ (x - mE P q = i ∧ y - lQ K P q < 12)
  · rw [if_pos d, if_pos (by omega)]
  · rw [if_neg d]
    by_cases e : x - mE P q < i + 1 ∨ x - mE P q = i + 1 ∧ y - lQ K P q < i + 1
    · rw [if_pos e, CC_sup h s p _ _ (by omega), Int.mul_zero]
    · rw [if_neg e]
theorem NR_0 {K : Int → Int} {P : Int} (h : FKP K P) {s p : Nat} {q x y : Int} : NR K P s p 0 0 q x y = FP K (fun r => CC K P s r (x - mE P q) (y - lQ K P q)) p q := by
  unfold NR
  by_cases e : x - mE P q < 0 ∨ x - mE P q = 0 ∧ y - lQ K P q < 0
  · rw [if_pos e, CC_sup h s p _ _ (by omega), Int.mul_zero, Int.add_zero]
  · rw [if_neg e, Int.add_zero]
theorem NR_12 {K : Int → Int} {P : Int} {s p : Nat} {q x y : Int} (x1 : x < 12) : NR K P s p 12 12 q x y = FP K (fun r => CC K P s r (x - mE P q) (y - lQ K P q)) (p + 1) q := by
  have m := mE_rg P q
  unfold NR
  rw [if_pos (by omega)]
  rfl
theorem m_second {d : Nat} {M : ZM} {K : Int → Int} {P : Int} {Q : Int → ZM → Prop} (hK : M 115 = K) (hW : WF K) (hP : FKP K P) (hQ : ∀ M', (∀ x, x ≠ 113 → x ≠ 137 → x ≠ 138 → M' x = M x) → (∀ k, k ≠ 43 → k ≠ 44 → M' 113 k = M 113 k) → (TT2 K P gA ((K 179).toNat + 1) ≠ 0 → zcI (d + 4) 239 [zJ (TT2 K P gB ((K 179).toNat + 1)), zJ (TT2 K P gA ((K 179).toNat + 1) * 27720)] M' Q) ∧ (TT2 K P gA ((K 179).toNat + 1) = 0 → Q (-1) M')) : zcI (d + 5) 243 [zA 113, zI P] M Q := by
  have hday := hW.2.2.1
  have hpl := hW.1
  have hst := hW.2.1
  have hP' := hP
  obtain ⟨P0, P1, Pk⟩ := hP'
  obtain ⟨D, hD'⟩ : ∃ D : Nat, (D : Int) = K 179 := ⟨(K 179).toNat, by omega⟩
  have eD : (K 179).toNat = D := by omega
  rw [eD] at hQ
  have gAk := GOK_A hW hP
  have gBk := GOK_B hW hP
  let FR := fun (M1 : ZM) => (∀ x, x ≠ 113 → x ≠ 137 → x ≠ 138 → M1 x = M x) ∧ (∀ k, k ≠ 43 → k ≠ 44 → M1 113 k = M 113 k)
  have f115 : ∀ M1, FR M1 → M1 115 = K := fun M1 h => by rw [h.1 115 (by decide) (by decide) (by decide)]; exact hK
  let V := fun (g : Int → Int → Int) (s p i j : Nat) => BSv K P g s p + PTv K P g s p i j * cO K s p
  let IV := fun (s p i j : Nat) (M1 : ZM) => FR M1 ∧ (∀ q x y, 0 ≤ q → q < K 182 → 0 ≤ x → x < 12 → 0 ≤ y → y < 12 → M1 137 ((q * 12 + x) * 12 + y) = CC K P s q x y) ∧ ((s : Int) < K 179 → ∀ q x y, 0 ≤ q → q < K 182 → 0 ≤ x → x < 12 → 0 ≤ y → y < 12 → M1 138 ((q * 12 + x) * 12 + y) = NR K P s p i j q x y) ∧ M1 113 44 = V gA s p i j ∧ M1 113 43 = V gB s p i j
  -- one step of the innermost loop
  have l117 : ∀ (s p i : Nat), (s : Int) ≤ K 179 → (p : Int) < K 182 → i < 12 → (∀ M1, IV s p i 12 M1 → wX10_second (d + 4) 117 [(0, zA 113), (1, zI P), (2, zI (s : Int)), (3, zI (p : Int)), (4, zI (i : Int)), (5, zI ((12 : Nat) : Int))] M1 Q) → ∀ (m j : Nat) (M1 : ZM), j + m = 12 → i ≤ j → IV s p i j M1 → wX10_second (d + 4) 117 [(0, zA 113), (1, zI P), (2, zI (s : Int)), (3, zI (p : Int)), (4, zI (i : Int)), (5, zI (j : Int))] M1 Q := by
    intro s p i hs hp hi nxt m
    induction m with
    | zero =>
      intro j M1 hj ij hI
      obtain rfl : j = 12 := by omega
      exact nxt M1 hI
    | succ m ih =>
      intro j M1 hj ij hI
      obtain ⟨i1, i2, i3, i4, i5⟩ := id hI
      have e115 := f115 M1 i1
      have hs10 : s ≤ 10 := by omega
      have cc := i2 p i j (by omega) hp (by omega) (by omega) (by omega) (by omega)
      have c0 := CC_nn (P := P) hW s p i j
      have c1 := CC_leA hW hP hs10 (q := p) (by omega) (by omega) i j
      have c2 := (FW_le hW s (q := p) (by omega) (by omega)).2
      have vA := V_bd (i := i) (j := j) hW hP gAk hs hp hi (by omega)
      have vB := V_bd (i := i) (j := j) hW hP gBk hs hp hi (by omega)
      have vA : 0 ≤ V gA s p i j ∧ V gA s p i j ≤ 1 * 150000000000 := vA
      have vB : 0 ≤ V gB s p i j ∧ V gB s p i j ≤ 27720 * 150000000000 := vB
      have b4 : 0 ≤ M1 113 44 ∧ M1 113 44 ≤ 1000000000000 := by rw [i4]; omega
      have b3 : 0 ≤ M1 113 43 ∧ M1 113 43 ≤ 100000000000000000 := by rw [i5]; omega
      have e1 : ((j + 1 : Nat) : Int) = (j : Int) + 1 := by omega
      -- behind it
      have aft : ∀ (M2 : ZM) (cq : Int → Int → Int → Int) (w : Int), AS2 K M1 M2 cq (gA i j * w) (gB i j * w) → w = CC K P s p i j * cO K s p → ((s : Int) < K 179 → ∀ q x y, 0 ≤ q → q < K 182 → 0 ≤ x → x < 12 → 0 ≤ y → y < 12 → cq q x y = if x = i + mE P q ∧ y = j + lQ K P q then cn K p q * CC K P s p i j else 0) → r32 ((j : Int) + 1) ∧ wX10_second (d + 4) 117 [(0, zA 113), (1, zI P), (2, zI (s : Int)), (3, zI (p : Int)), (4, zI (i : Int)), (5, zI ((j : Int) + 1))] M2 Q := by
        intro M2 cq w ⟨g1, g2, g3, g4, g5⟩ hw hcq
        refine ⟨⟨by omega, by omega⟩, ?_⟩
        have vs : ∀ g : Int → Int → Int, V g s p i (j + 1) = V g s p i j + g i j * w := by
          intro g
          show BSv K P g s p + PTv K P g s p i (j + 1) * cO K s p = BSv K P g s p + PTv K P g s p i j * cO K s p + g i j * w
          rw [PT_j, Int.add_mul, hw, Int.mul_assoc]
          omega
        have := ih (j + 1) M2 (by omega) (by omega) ⟨⟨fun x h1 h2 h3 => ?_, fun k h1 h2 => ?_⟩, fun q x y a b a' b' a'' b'' => ?_, fun hd q x y a b a' b' a'' b'' => ?_, ?_, ?_⟩
        · rw [e1] at this; exact this
        · rw [g1 x h1 h3, i1.1 x h1 h2 h3]
        · rw [g2 k h1 h2, i1.2 k h1 h2]
        · rw [g1 137 (by decide) (by decide)]; exact i2 q x y a b a' b' a'' b''
        · rw [g3 q x y a b a' b' a'' b'', i3 hd q x y a b a' b' a'' b'', hcq hd q x y a b a' b' a'' b'', e1, NR_j]
        · rw [g4, i4, vs]
        · rw [g5, i5, vs]
      have u0 := pow10_pos (10 - s)
      have ps := p10s hs10
      have cs := Int.mul_le_mul_of_nonneg_right (Int.le_trans c1 c2) (show (0 : Int) ≤ 10 ^ (10 - s) by omega)
      have cs0 := Int.mul_nonneg c0 (show (0 : Int) ≤ 10 ^ (10 - s) by omega)
      have cl : CC K P s p i j ≤ 10000000000 := by
        have := Int.mul_le_mul_of_nonneg_left (show (1 : Int) ≤ 10 ^ (10 - s) by omega) c0
        omega
      apply vX10_second_117
      refine ⟨fun z => by omega, fun _ => ?_⟩
      apply vX10_at
      refine ⟨⟨by omega, by omega⟩, ⟨by omega, by omega⟩, ⟨by omega, by omega⟩, ⟨by omega, by omega⟩, ⟨by omega, by omega⟩, ?_⟩
      rw [cc]
      by_cases vz : CC K P s p i j = 0
      · refine ⟨fun z => absurd (by rw [vz]; rfl) z, fun _ => aft M1 (fun _ _ _ => 0) 0 (AS2.refl.cast (fun _ _ _ _ _ _ _ _ _ => rfl) (Int.mul_zero _) (Int.mul_zero _)) (by rw [vz, Int.zero_mul]) (fun _ q x y _ _ _ _ _ _ => by rw [vz, Int.mul_zero]; split <;> rfl)⟩
      have jle : (j : Int) ≤ s + 1 := by
        by_cases hh : (j : Int) ≤ s + 1
        · exact hh
        · exact absurd (CC_sup hP s p i j (by omega)) vz
      have ended : ¬ GO K s p → r32 (10 - (s : Int)) ∧ zcL (d + 4) 149 [zI (10 - (s : Int))] M1 (fun x6 M5 => r64 (CC K P s p i j * x6) ∧ zcV (d + 4) 241 [zA 113, zI (i : Int), zI (j : Int), zJ (CC K P s p i j * x6)] M5 (fun M7 => r32 ((j : Int) + 1) ∧ wX10_second (d + 4) 117 [(0, zA 113), (1, zI P), (2, zI (s : Int)), (3, zI (p : Int)), (4, zI (i : Int)), (5, zI ((j : Int) + 1))] M7 Q)) := by
        intro hg
        refine ⟨⟨by omega, by omega⟩, m_ten (n := 10 - s) (by omega) (by omega) ⟨⟨by omega, by omega⟩, m_over (K := K) (by omega) (by omega) (by omega) cs0 (by omega) (by omega) (by omega) (fun M2 h2 => aft M2 _ _ h2 ?_ (fun hd q x y _ _ _ _ _ _ => ?_))⟩⟩
        · unfold cO; rw [if_neg hg]
        · have k3 : K (10 * p) = 3 := by
            by_cases hh : K (10 * p) = 3
            · exact hh
            · exact absurd ⟨hp, hh, hd⟩ hg
          have cz : cn K p q = 0 := by unfold cn; rw [if_pos k3]
          rw [cz, Int.zero_mul]; split <;> rfl
      refine ⟨fun _ => m_kind (by omega) ⟨fun k3 => ?_, fun k3 => m_day ⟨fun nd => ?_, fun ed => ?_⟩⟩, fun z => absurd z (by rw [if_pos (by omega)]; decide)⟩
      · rw [e115] at k3
        exact ended (fun z => z.2.1 k3)
      · rw [e115] at k3 nd
        have hd : (s : Int) < K 179 := by omega
        have hgo : GO K s p := ⟨hp, k3, hd⟩
        rw [e115]
        refine m_see196 e115 hW hP (by omega) (by omega) hp k3 (by omega) (by omega) (by omega) c0 (by omega) (fun q x y a b a' b' a'' b'' => ?_) b4 b3 (fun M2 h2 => aft M2 _ _ h2 ?_ (fun _ q x y _ _ _ _ _ _ => rfl))
        · rw [i3 hd q x y a b a' b' a'' b'']
          have r := NR_rg (i := i) (j := j) hW hP (s := s) (p := p) (by omega) hp a (by omega) x y
          have := p10s (s := s + 1) (by omega)
          have := pow10_pos (10 - (s + 1))
          have := Int.mul_le_mul_of_nonneg_left (show (1 : Int) ≤ 10 ^ (10 - (s + 1)) by omega) (show (0 : Int) ≤ 10 ^ (s + 1) by have := pow10_pos (s + 1); omega)
          omega
        · unfold cO
          rw [if_pos hgo, Int.mul_comm (sN (lsF K (cn K p)) 16), Int.mul_assoc]
      · rw [e115] at ed
        exact ended (fun z => by have := z.2.2; omega)
  have l106 : ∀ (s p : Nat), (s : Int) ≤ K 179 → (p : Int) < K 182 → (∀ M1, IV s p 12 12 M1 → wX10_second (d + 4) 95 [(0, zA 113), (1, zI P), (2, zI (s : Int)), (3, zI ((p : Int) + 1))] M1 Q) → ∀ (m i : Nat) (M1 : ZM), i + m = 12 → IV s p i i M1 → wX10_second (d + 4) 106 [(0, zA 113), (1, zI P), (2, zI (s : Int)), (3, zI (p : Int)), (4, zI (i : Int))] M1 Q := by
    intro s p hs hp nxt m
    induction m with
    | zero =>
      intro i M1 hi hI
      obtain rfl : i = 12 := by omega
      apply vX10_second_106
      exact ⟨fun _ => ⟨⟨by omega, by omega⟩, nxt M1 hI⟩, fun z => by omega⟩
    | succ m ih =>
      intro i M1 hi hI
      apply vX10_second_106
      refine ⟨fun z => by omega, fun _ => l117 s p i hs hp (by omega) (fun M2 h2 => ?_) (12 - i) i M1 (by omega) (by omega) hI⟩
      apply vX10_second_117
      refine ⟨fun _ => ⟨⟨by omega, by omega⟩, ?_⟩, fun z => by omega⟩
      obtain ⟨i1, i2, i3, i4, i5⟩ := h2
      have := ih (i + 1) M2 (by omega) ⟨i1, i2, fun hd q x y a b a' b' a'' b'' => ?_, ?_, ?_⟩
      · rw [show ((i + 1 : Nat) : Int) = (i : Int) + 1 by omega] at this; exact this
      · rw [show ((i + 1 : Nat) : Int) = (i : Int) + 1 by omega, NR_i hP b'']
        exact i3 hd q x y a b a' b' a'' b''
      · rw [i4]
        show _ = BSv K P gA s p + PTv K P gA s p (i + 1) (i + 1) * cO K s p
        rw [PT_i hP]
      · rw [i5]
        show _ = BSv K P gB s p + PTv K P gB s p (i + 1) (i + 1) * cO K s p
        rw [PT_i hP]
  let IP := fun (s p : Nat) (M1 : ZM) => FR M1 ∧ (∀ q x y, 0 ≤ q → q < K 182 → 0 ≤ x → x < 12 → 0 ≤ y → y < 12 → M1 137 ((q * 12 + x) * 12 + y) = CC K P s q x y) ∧ ((s : Int) < K 179 → ∀ q x y, 0 ≤ q → q < K 182 → 0 ≤ x → x < 12 → 0 ≤ y → y < 12 → M1 138 ((q * 12 + x) * 12 + y) = FP K (fun r => CC K P s r (x - mE P q) (y - lQ K P q)) p q) ∧ M1 113 44 = BSv K P gA s p ∧ M1 113 43 = BSv K P gB s p
  have l95 : ∀ (s : Nat), (s : Int) ≤ K 179 → (∀ M1, IP s (K 182).toNat M1 → wX10_second (d + 4) 51 [(0, zA 113), (1, zI P), (2, zI ((s : Int) + 1))] M1 Q) → ∀ (m p : Nat) (M1 : ZM), (p : Int) + m = K 182 → IP s p M1 → wX10_second (d + 4) 95 [(0, zA 113), (1, zI P), (2, zI (s : Int)), (3, zI (p : Int))] M1 Q := by
    intro s hs nxt m
    induction m with
    | zero =>
      intro p M1 hp hI
      obtain rfl : p = (K 182).toNat := by omega
      apply vX10_second_95
      refine m_places ?_
      rw [f115 M1 hI.1]
      exact ⟨fun _ => ⟨⟨by omega, by omega⟩, nxt M1 hI⟩, fun z => by omega⟩
    | succ m ih =>
      intro p M1 hp hI
      apply vX10_second_95
      refine m_places ?_
      rw [f115 M1 hI.1]
      obtain ⟨i1, i2, i3, i4, i5⟩ := hI
      have pt0 : ∀ g : Int → Int → Int, PTv K P g s p 0 0 = 0 := fun g => rfl
      refine ⟨fun z => by omega, fun _ => l106 s p hs (by omega) (fun M2 h2 => ?_) 12 0 M1 (by omega) ⟨i1, i2, fun hd q x y a b a' b' a'' b'' => ?_, ?_, ?_⟩⟩
      · obtain ⟨j1, j2, j3, j4, j5⟩ := h2
        have := ih (p + 1) M2 (by omega) ⟨j1, j2, fun hd q x y a b a' b' a'' b'' => ?_, ?_, ?_⟩
        · rw [show ((p + 1 : Nat) : Int) = (p : Int) + 1 by omega] at this; exact this
        · have e := j3 hd q x y a b a' b' a'' b''
          rw [show ((12 : Nat) : Int) = 12 from rfl, NR_12 b'] at e
          exact e
        · rw [j4, BS_p (by omega)]
          show BSv K P gA s p + PTv K P gA s p 12 12 * cO K s p = _
          rw [PT_end hP]
        · rw [j5, BS_p (by omega)]
          show BSv K P gB s p + PTv K P gB s p 12 12 * cO K s p = _
          rw [PT_end hP]
      · rw [show ((0 : Nat) : Int) = 0 from rfl, NR_0 hP]
        exact i3 hd q x y a b a' b' a'' b''
      · rw [i4]
        show _ = BSv K P gA s p + PTv K P gA s p 0 0 * cO K s p
        rw [pt0, Int.zero_mul, Int.add_zero]
      · rw [i5]
        show _ = BSv K P gB s p + PTv K P gB s p 0 0 * cO K s p
        rw [pt0, Int.zero_mul, Int.add_zero]
  let IS := fun (s : Nat) (M1 : ZM) => FR M1 ∧ ((s : Int) ≤ K 179 → (∀ q x y, 0 ≤ q → q < K 182 → 0 ≤ x → x < 12 → 0 ≤ y → y < 12 → M1 138 ((q * 12 + x) * 12 + y) = CC K P s q x y) ∧ M1 113 44 = BSv K P gA s 0 ∧ M1 113 43 = BSv K P gB s 0) ∧ (K 179 < (s : Int) → M1 113 44 = TT2 K P gA s ∧ M1 113 43 = TT2 K P gB s)
  have l51 : ∀ (m s : Nat) (M1 : ZM), s + m = D + 1 → IS s M1 → wX10_second (d + 4) 51 [(0, zA 113), (1, zI P), (2, zI (s : Int))] M1 Q := by
    intro m
    induction m with
    | zero =>
      intro s M1 hs hI
      obtain rfl : s = D + 1 := by omega
      obtain ⟨v4, v3⟩ := hI.2.2 (by omega)
      have t := TT2_le hW hP (D + 1) (by omega)
      have q := hQ M1 hI.1.1 hI.1.2
      apply vX10_second_51
      refine m_day ?_
      rw [f115 M1 hI.1, v4, v3]
      refine ⟨fun _ => ⟨fun z => ⟨⟨by omega, by omega⟩, q.1 (fun e => z (by rw [e]; rfl))⟩, fun z => q.2 ?_⟩, fun z => by omega⟩
      by_cases e : 0 < TT2 K P gA (D + 1)
      · rw [if_pos e] at z; omega
      · omega
    | succ m ih =>
      intro s M1 hs hI
      have hsd : (s : Int) ≤ K 179 := by omega
      obtain ⟨v8, v4, v3⟩ := hI.2.1 hsd
      have cp : ∀ (n x : Nat) (M2 : ZM), x + n = 2304 → (∀ b, b ≠ 137 → b ≠ 138 → M2 b = M1 b) → (∀ y : Int, 0 ≤ y → y < x → M2 137 y = M1 138 y ∧ M2 138 y = 0) → (∀ y : Int, x ≤ y → M2 138 y = M1 138 y) → wX10_second (d + 4) 61 [(0, zA 113), (1, zI P), (2, zI (s : Int)), (3, zI (x : Int))] M2 Q := by
        intro n
        induction n with
        | zero =>
          intro x M2 hx r2 a2 b2
          obtain rfl : x = 2304 := by omega
          apply vX10_second_61
          refine ⟨fun _ => ?_, fun z => by omega⟩
          refine l95 s hsd (fun M3 h3 => ?_) (K 182).toNat 0 M2 (by omega) ⟨⟨fun x h1 h2 h3 => by rw [r2 x h2 h3, hI.1.1 x h1 h2 h3], fun k h1 h2 => by rw [r2 113 (by decide) (by decide), hI.1.2 k h1 h2]⟩, fun q x y a b a' b' a'' b'' => ?_, fun _ q x y a b a' b' a'' b'' => ?_, ?_, ?_⟩
          · obtain ⟨j1, j2, j3, j4, j5⟩ := h3
            rw [BS_s hW hP] at j4 j5
            have := ih (s + 1) M3 (by omega) ⟨j1, fun hd => ⟨fun q x y a b a' b' a'' b'' => ?_, ?_, ?_⟩, fun hd => ⟨?_, ?_⟩⟩
            · rw [show ((s + 1 : Nat) : Int) = (s : Int) + 1 by omega] at this; exact this
            · exact j3 (by omega) q x y a b a' b' a'' b''
            · rw [if_pos (by omega)] at j4; exact j4
            · rw [if_pos (by omega)] at j5; exact j5
            · rw [if_neg (by omega)] at j4; exact j4
            · rw [if_neg (by omega)] at j5; exact j5
          · rw [(a2 _ (by omega) (by omega)).1]; exact v8 q x y a b a' b' a'' b''
          · rw [(a2 _ (by omega) (by omega)).2]; rfl
          · rw [r2 113 (by decide) (by decide)]; exact v4
          · rw [r2 113 (by decide) (by decide)]; exact v3
        | succ n ihn =>
          intro x M2 hx r2 a2 b2
          apply vX10_second_61
          refine ⟨fun z => by omega, fun _ => ⟨⟨by omega, by omega⟩, ⟨by omega, by omega⟩, zset ⟨⟨by omega, by omega⟩, zset ⟨⟨by omega, by omega⟩, ?_⟩⟩⟩⟩
          have := ihn (x + 1) (zup (zup M2 137 (x : Int) (M2 138 (x : Int))) 138 (x : Int) 0) (by omega) (fun b h1 h2 => by rw [zup_row h2, zup_row h1, r2 b h1 h2]) (fun y y0 y1 => ⟨?_, ?_⟩) (fun y hy => ?_)
          · rw [show ((x + 1 : Nat) : Int) = (x : Int) + 1 by omega] at this; exact this
          · rw [zup_row (by decide), zup_at]
            by_cases e : y = x
            · rw [if_pos e, e, b2 x (by omega)]
            · rw [if_neg e, (a2 y y0 (by omega)).1]
          · rw [zup_at]
            by_cases e : y = x
            · rw [if_pos e]
            · rw [if_neg e, zup_row (by decide), (a2 y y0 (by omega)).2]
          · rw [zup_at, if_neg (by omega), zup_row (by decide), b2 y (by omega)]
      apply vX10_second_51
      refine m_day ?_
      rw [f115 M1 hI.1]
      exact ⟨fun z => by omega, fun _ => cp 2304 0 M1 (by omega) (fun _ _ _ => rfl) (fun y y0 y1 => by omega) (fun _ _ => rfl)⟩
  apply vX10_second
  refine zset (zset ?_)
  have l12 : ∀ (n x : Nat) (M2 : ZM), x + n = 2304 → FR M2 → M2 113 43 = 0 → M2 113 44 = 0 → (∀ y : Int, 0 ≤ y → y < x → M2 138 y = 0) → wX10_second (d + 4) 12 [(0, zA 113), (1, zI P), (2, zI (x : Int))] M2 Q := by
    intro n
    induction n with
    | zero =>
      intro x M2 hx hF z3 z4 a2
      obtain rfl : x = 2304 := by omega
      have e115 := f115 M2 hF
      apply vX10_second_12
      refine ⟨fun _ => ⟨by omega, ?_⟩, fun z => by omega⟩
      rw [e115]
      refine m_sees (s := 0) (v := 1) e115 hW hP (by omega) hst.1 (by omega) (by omega) (by omega) (by omega) (by omega) (by decide) (fun q i j a b a' b' a'' b'' => by rw [a2 _ (by omega) (by omega)]; omega) (by rw [z4]; omega) (by rw [z3]; omega) (fun M3 h3 => ?_)
      obtain ⟨g1, g2, g3, g4, g5⟩ := h3
      have gz : gA 0 0 = 0 := rfl
      have hz : gB 0 0 = 0 := rfl
      rw [gz, Int.zero_mul] at g4
      rw [hz, Int.zero_mul] at g5
      refine l51 (D + 1) 0 M3 (by omega) ⟨⟨fun x h1 h2 h3 => by rw [g1 x h1 h3, hF.1 x h1 h2 h3], fun k h1 h2 => by rw [g2 k h1 h2, hF.2 k h1 h2]⟩, fun _ => ⟨fun q x y a b a' b' a'' b'' => ?_, ?_, ?_⟩, fun z => by omega⟩
      · rw [g3 q x y a b a' b' a'' b'', a2 _ (by omega) (by omega)]
        unfold CC
        dsimp only
        by_cases c : q = K 178 ∧ x = mE P q ∧ y = lQ K P q
        · rw [if_pos c, if_pos ⟨c.1.symm, by omega, by omega⟩]; rfl
        · rw [if_neg c, if_neg (fun z => c ⟨z.1.symm, by omega, by omega⟩)]; rfl
      · rw [g4, z4, BS_0 hP (fun _ => rfl)]; split <;> rfl
      · rw [g5, z3, BS_0 hP (fun _ => rfl)]; split <;> rfl
    | succ n ih =>
      intro x M2 hx hF z3 z4 a2
      apply vX10_second_12
      refine ⟨fun z => by omega, fun _ => ⟨⟨by omega, by omega⟩, zset ⟨⟨by omega, by omega⟩, ?_⟩⟩⟩
      have := ih (x + 1) (zup M2 138 (x : Int) 0) (by omega) ⟨fun b h1 h2 h3 => by rw [zup_row h3, hF.1 b h1 h2 h3], fun k h1 h2 => by rw [zup_row (by decide), hF.2 k h1 h2]⟩ (by rw [zup_row (by decide)]; exact z3) (by rw [zup_row (by decide)]; exact z4) (fun y y0 y1 => by
        rw [zup_at]
        by_cases e : y = x
        · rw [if_pos e]
        · rw [if_neg e]; exact a2 y y0 (by omega))
      rw [show ((x + 1 : Nat) : Int) = (x : Int) + 1 by omega] at this
      exact this
  exact l12 2304 0 _ (by omega) ⟨fun b h1 h2 h3 => by rw [zup_row h1, zup_row h1], fun k h1 h2 => by rw [zup_at, if_neg h2, zup_at, if_neg h1]⟩ (by rw [zup_at, if_neg (by omega), zup_eq]) zup_eq (fun y y0 y1 => by omega)
theorem s_belief {d t : Nat} {M : ZM} (h : J t M) {p i : Int} : zcI (d + 47) 130 [zA 29, zI p, zI i] M (fun x M1 => zcI (d + 47) 244 [zA 113, zI p, zI i] M1 (fun y M2 => x = y ∧ J (t + 1) M2)) := by
  by_cases hi : i = 1
  · subst hi
    have hW := h.wf
    have hs := h.size
    have hpl := h.pl
    have no : ¬ (0 ≤ p ∧ p < M 115 182 ∧ M 115 (10 * p) = 0) → zcI (d + 47) 244 [zA 113, zI p, zI 1] M (fun y M2 => -1 = y ∧ J (t + 1) M2) := by
      intro hn
      apply vX10_belief
      exact m_isFork hpl (fun a b c => absurd ⟨a, b, c⟩ hn) (fun z => ⟨fun _ => ⟨rfl, h.idle⟩, fun y => by omega⟩)
    apply vX9_belief
    refine c_isKind (by omega) (fun p0 p1 pk => ⟨fun z => by omega, fun _ => ⟨fun z => by omega, fun i0 => ⟨fun i1 => ?_, fun z => by omega⟩⟩⟩) (fun z => ⟨fun _ => no (fun y => z ⟨y.1, by omega, by rw [h.kind y.1 y.2.1]; exact y.2.2⟩), fun y => by omega⟩)
    rw [hs] at p1
    rw [h.kind p0 p1] at pk
    have hP : FKP (M 115) p := ⟨p0, p1, pk⟩
    refine c_lay h (Or.inl rfl) (fun ML rs la _ => ⟨fun z => absurd rfl z, fun _ => ?_⟩)
    obtain ⟨a, b, hx⟩ := NX.of (h.jf.fr (la.1 106 (by decide)))
    refine c_second la.2.1 la.2.2.1 hx la.2.2.2.2.2.2.2.1 hP (fun MC rC jC => ?_)
    have rows : ∀ b, (b < 87 ∨ 108 < b) → MC b = M b := fun b hb => by rw [rC b (by omega) (by omega) (by omega) (by omega), la.1 b (by omega)]
    have fc : frc M MC := frc.of (fun b hb => rows b (by omega))
    have h1 := h.frc fc jC
    have e115 : MC 115 = M 115 := rows 115 (by decide)
    have hday := hW.2.2.1
    have T := TT2_le hW hP ((M 115 179).toNat + 1) (by omega)
    have ref : ∀ x : Int, (∀ M2, J (t + 1) M2 → (TT2 (M 115) p gA ((M 115 179).toNat + 1) ≠ 0 → zcI (d + 45) 239 [zJ (TT2 (M 115) p gB ((M 115 179).toNat + 1)), zJ (TT2 (M 115) p gA ((M 115 179).toNat + 1) * 27720)] M2 (fun y M2 => x = y ∧ J (t + 1) M2)) ∧ (TT2 (M 115) p gA ((M 115 179).toNat + 1) = 0 → x = -1)) → zcI (d + 47) 244 [zA 113, zI p, zI 1] MC (fun y M2 => x = y ∧ J (t + 1) M2) := by
      intro x hx
      apply vX10_belief
      refine m_isFork (by rw [e115]; exact hpl) (fun _ _ _ => ⟨fun z => by omega, fun _ => m_lies (fun _ _ => ⟨fun _ => ⟨fun z => absurd rfl z, fun _ => m_second (d := d + 41) e115 hW hP (fun M2 r2 k2 => ?_)⟩, fun z => by omega⟩) (fun z => by omega)⟩) (fun z => by rw [e115] at z; omega)
      have f3 : frm MC M2 := frm.of (fun b b1 b2 => r2 b b1 (by omega) (by omega)) (fun k hk => k2 k (by omega) (by omega))
      have jn : J (t + 1) M2 := h.frame (fc.1.tr f3.1) (jC.fr (r2 106 (by decide) (by decide) (by decide))) (h1.jv.cg (k2 26 (by decide) (by decide)) (k2 1 (by decide) (by decide)) (r2 115 (by decide) (by decide) (by decide)) (r2 126 (by decide) (by decide) (by decide)) (fun b b1 b2 => r2 b (by omega) (by omega) (by omega)))
      exact ⟨fun z => (hx M2 jn).1 z, fun z => ⟨(hx M2 jn).2 z, jn⟩⟩
    generalize TT2 (M 115) p gA ((M 115 179).toNat + 1) = A at *
    generalize TT2 (M 115) p gB ((M 115 179).toNat + 1) = B at *
    by_cases hA : A = 0
    · subst hA
      apply vX2_millionths
      exact ⟨fun z => absurd rfl z, fun _ => ref _ (fun M2 g => ⟨fun z => absurd rfl z, fun _ => rfl⟩)⟩
    · exact c_millionths (by omega) (by omega) T.1 (by omega) (ref _ (fun M2 g => ⟨fun _ => m_millionths (by omega) (by omega) T.1 (by omega) ⟨rfl, g⟩, fun z => absurd z hA⟩))
  · exact s_belief0 h hi
