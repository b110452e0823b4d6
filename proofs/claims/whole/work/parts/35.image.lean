/-! image, back -/
section Image
variable {d t : Nat} {M : ZM}
def imR (M : ZM) (k : Int) (n : Nat) : Int → Int := fun j => if 984 * k ≤ j ∧ j < 984 * k + n then M 115 (j - 984 * k) else M 116 j
theorem m_image {k : Int} (k0 : 0 ≤ k) (k1 : k ≤ 1) {K : Int → ZM → Prop} (hv : 0 ≤ M 113 1 ∧ M 113 1 ≤ 1000) (hK : K 0 (gdM (zup (zrow M 116 (imR M k 984)) 117 k 1))) : zcI (d + 2) 151 [zA 113, zI k] M K := by
  have lp : ∀ n p : Nat, p + n = 984 → wX10_image (d + 1) 17 [(0, zA 113), (1, zI k), (2, zI p)] (zrow M 116 (imR M k p)) K := by
    intro n
    induction n with
    | zero =>
      intro p hn
      have e : p = 984 := by omega
      subst e
      apply vX10_image_17
      refine ⟨fun _ => ⟨by omega, by omega, zset (m_good ?_ hK)⟩, fun q => by omega⟩
      simp only [zupE, zrowE, reduceIte, false_and, and_false, true_and, and_true, Nat.reduceEqDiff, Int.reduceEq]
      omega
    | succ n ih =>
      intro p hn
      have nx := ih (p + 1) (by omega)
      apply vX10_image_17
      refine ⟨fun q => by omega, fun _ => ⟨⟨by omega, by omega⟩, ⟨by omega, by omega⟩, by omega, by omega, zset ⟨⟨by omega, by omega⟩, ?_⟩⟩⟩
      rw [zrow_ne (by decide), zup_zrow]
      have e : kup (imR M k p) (984 * k + p) (M 115 p) = imR M k (p + 1) := by
        funext j
        unfold kup imR
        by_cases hj : j = 984 * k + p
        · rw [if_pos hj, if_pos (by omega), show j - 984 * k = p by omega]
        · rw [if_neg hj]
          by_cases h2 : 984 * k ≤ j ∧ j < 984 * k + p
          · rw [if_pos h2, if_pos (by omega)]
          · rw [if_neg h2, if_neg (by omega)]
      rw [e]
      exact nx
  have z : zrow M 116 (imR M k 0) = M := by
    have : imR M k 0 = M 116 := by
      funext j
      unfold imR
      rw [if_neg (by omega)]
    rw [this, zrow_self]
  have l0 := lp 984 0 (by omega)
  rw [z] at l0
  exact vX10_image _ _ _ _ (m_lies (fun _ _ => ⟨fun _ => l0, fun q => by omega⟩) (fun q => by omega))
def bkR (M : ZM) (k : Int) (n : Nat) : Int → Int := fun j => if 0 ≤ j ∧ j < n then M 116 (984 * k + j) else M 115 j
theorem m_back {k : Int} (k0 : 0 ≤ k) (k1 : k ≤ 1) {K : Int → ZM → Prop} (hk : M 117 k = 1) (hv : 0 ≤ M 113 1 ∧ M 113 1 ≤ 1000) (hK : K 0 (gdM (zrow M 115 (bkR M k 984)))) : zcI (d + 2) 152 [zA 113, zI k] M K := by
  have lp : ∀ n p : Nat, p + n = 984 → wX10_back (d + 1) 33 [(0, zA 113), (1, zI k), (2, zI p)] (zrow M 115 (bkR M k p)) K := by
    intro n
    induction n with
    | zero =>
      intro p hn
      have e : p = 984 := by omega
      subst e
      apply vX10_back_33
      refine ⟨fun _ => m_good ?_ hK, fun q => by omega⟩
      simp only [zupE, zrowE, reduceIte, false_and, and_false, true_and, and_true, Nat.reduceEqDiff, Int.reduceEq]
      omega
    | succ n ih =>
      intro p hn
      have nx := ih (p + 1) (by omega)
      apply vX10_back_33
      refine ⟨fun q => by omega, fun _ => ⟨⟨by omega, by omega⟩, ⟨by omega, by omega⟩, by omega, by omega, zset ⟨⟨by omega, by omega⟩, ?_⟩⟩⟩
      rw [zrow_ne (by decide), zup_zrow]
      have e : kup (bkR M k p) p (M 116 (984 * k + p)) = bkR M k (p + 1) := by
        funext j
        unfold kup bkR
        by_cases hj : j = p
        · rw [if_pos hj, if_pos (by omega), hj]
        · rw [if_neg hj]
          by_cases h2 : 0 ≤ j ∧ j < p
          · rw [if_pos h2, if_pos (by omega)]
          · rw [if_neg h2, if_neg (by omega)]
      rw [e]
      exact nx
  have z : zrow M 115 (bkR M k 0) = M := by
    have : bkR M k 0 = M 115 := by
      funext j
      unfold bkR
      rw [if_neg (by omega)]
    rw [this, zrow_self]
  have l0 := lp 984 0 (by omega)
  rw [z] at l0
  exact vX10_back _ _ _ _ (m_lies (fun _ _ => ⟨fun _ => ⟨by omega, fun _ => l0, fun q => by omega⟩, fun q => by omega⟩) (fun q => by omega))
theorem J.image0 (h : J t M) (ht : t < 512) {M1 M' : ZM} (f1 : ∀ b, (b < 59 ∨ 71 < b) → M1 b = M b) (g1 : ∀ j i, j ≤ 12 → 0 ≤ i → i < lenL j → M1 (59 + j) i = M (44 + j) i) (hM : M' = gdM (zup (zrow (gdC (zup M1 86 0 1)) 116 (imR (gdC (zup M1 86 0 1)) 0 984)) 117 0 1)) : J (t + 1) M' := by
  obtain ⟨h1, h2, h3, h4, h5, h6, h7, h8⟩ := id h
  have row : ∀ b, b ≠ 29 → b ≠ 86 → b ≠ 113 → b ≠ 116 → b ≠ 117 → (b < 59 ∨ 71 < b) → M' b = M b := by
    intro b b1 b2 b3 b4 b5 b6
    subst hM
    unfold gdM gdC
    rw [zup_row b3, zup_row b3, zup_row b5, zrow_ne b4, zup_row b1, zup_row b2, f1 b b6]
  have rowa : ∀ b, 59 ≤ b → b ≤ 71 → M' b = M1 b := by
    intro b b1 b2
    subst hM
    unfold gdM gdC
    rw [zup_row (by omega), zup_row (by omega), zup_row (by omega), zrow_ne (by omega), zup_row (by omega), zup_row (by omega)]
  have r29 : ∀ i, i ≠ 15 → M' 29 i = M 29 i := by
    intro i hi
    subst hM
    unfold gdM gdC
    simp only [zupE, zrowE, reduceIte, false_and, and_false, true_and, and_true, Nat.reduceEqDiff, Int.reduceEq]
    rw [if_neg hi, f1 29 (by decide)]
  have r113 : ∀ i, i ≠ 0 → i ≠ 1 → M' 113 i = M 113 i := by
    intro i i0 i1
    subst hM
    unfold gdM gdC
    simp only [zupE, zrowE, reduceIte, false_and, and_false, true_and, and_true, Nat.reduceEqDiff, Int.reduceEq]
    rw [if_neg i1, if_neg i0, f1 113 (by decide)]
  have e86 : ∀ i, M' 86 i = if i = 0 then 1 else M 86 i := by
    intro i
    subst hM
    unfold gdM gdC
    simp only [zupE, zrowE, reduceIte, false_and, and_false, true_and, and_true, Nat.reduceEqDiff, Int.reduceEq]
    rw [f1 86 (by decide)]
  have e117 : ∀ i, M' 117 i = if i = 0 then 1 else M 117 i := by
    intro i
    subst hM
    unfold gdM gdC
    simp only [zupE, zrowE, reduceIte, false_and, and_false, true_and, and_true, Nat.reduceEqDiff, Int.reduceEq]
    rw [f1 117 (by decide)]
  have e116 : ∀ j, M' 116 j = if 0 ≤ j ∧ j < 984 then M 115 (j - 0) else M 116 j := by
    intro j
    subst hM
    unfold gdM gdC imR
    simp only [zupE, zrowE, reduceIte, false_and, and_false, true_and, and_true, Nat.reduceEqDiff, Int.reduceEq]
    rw [f1 115 (by decide), f1 116 (by decide)]
    rfl
  refine h.grant ht ?_ ?_ ?_ (row 112 (by decide) (by decide) (by decide) (by decide) (by decide) (by decide)) (row 114 (by decide) (by decide) (by decide) (by decide) (by decide) (by decide)) (r113 26 (by decide) (by decide)) (h1.fr (r29 1 (by decide)) (r29 2 (by decide)) (r113 9 (by decide) (by decide)) (r113 10 (by decide) (by decide)) (row 30 (by decide) (by decide) (by decide) (by decide) (by decide) (by decide)) (row 119 (by decide) (by decide) (by decide) (by decide) (by decide) (by decide))) ?_ ?_ (h5.fr (row 110 (by decide) (by decide) (by decide) (by decide) (by decide) (by decide)) (row 111 (by decide) (by decide) (by decide) (by decide) (by decide) (by decide)) (row 139 (by decide) (by decide) (by decide) (by decide) (by decide) (by decide)) (r113 46 (by decide) (by decide)) (r113 47 (by decide) (by decide))) (h7.fr (row 118 (by decide) (by decide) (by decide) (by decide) (by decide) (by decide)) (r113 29 (by decide) (by decide))) (h8.fr (row 106 (by decide) (by decide) (by decide) (by decide) (by decide) (by decide)))
  · subst hM
    unfold gdM gdC
    simp only [zupE, zrowE, reduceIte, false_and, and_false, true_and, and_true, Nat.reduceEqDiff, Int.reduceEq]
  · subst hM
    unfold gdM gdC
    simp only [zupE, zrowE, reduceIte, false_and, and_false, true_and, and_true, Nat.reduceEqDiff, Int.reduceEq]
  · subst hM
    unfold gdM gdC
    simp only [zupE, zrowE, reduceIte, false_and, and_false, true_and, and_true, Nat.reduceEqDiff, Int.reduceEq]
    rw [f1 113 (by decide)]
  · rw [row 115 (by decide) (by decide) (by decide) (by decide) (by decide) (by decide)]
    exact h3.congr (fun j hj => row _ (by omega) (by omega) (by omega) (by omega) (by omega) (by omega))
  · unfold JI at *
    rw [e86, e86, e117, e117]
    refine ⟨?_, ?_, ?_, ?_⟩
    · exact ⟨rfl, Or.inr rfl⟩
    · exact h4.2.1
    · intro _
      refine h3.cong (fun i i0 i1 => ?_) (fun j i hj i0 i1 => ?_)
      · show M' 116 i = _
        rw [e116, if_pos (by omega), show i - 0 = i by omega]
      · show M' (59 + j) i = _
        rw [rowa _ (by omega) (by omega)]
        exact g1 j i hj i0 i1
    · intro q
      refine (h4.2.2.2 q).cong (fun i i0 i1 => ?_) (fun j i hj i0 i1 => ?_)
      · show M' 116 (984 + i) = _
        rw [e116, if_neg (by omega)]
      · show M' (73 + j) i = _
        rw [row _ (by omega) (by omega) (by omega) (by omega) (by omega) (by omega)]
theorem J.back0 (h : J t M) (ht : t < 512) (hk : M 117 0 = 1) {M1 M' : ZM} (f1 : ∀ b, (b < 44 ∨ 56 < b) → M1 b = M b) (g1 : ∀ j i, j ≤ 12 → 0 ≤ i → i < lenL j → M1 (44 + j) i = M (59 + j) i) (hM : M' = gdM (zrow (gdC M1) 115 (bkR (gdC M1) 0 984))) : J (t + 1) M' := by
  obtain ⟨h1, h2, h3, h4, h5, h6, h7, h8⟩ := id h
  have e115 : ∀ j, M' 115 j = if 0 ≤ j ∧ j < 984 then M 116 (0 + j) else M 115 j := by
    intro j
    subst hM
    unfold gdM gdC bkR
    simp only [zupE, zrowE, reduceIte, false_and, and_false, true_and, and_true, Nat.reduceEqDiff, Int.reduceEq]
    rw [f1 115 (by decide), f1 116 (by decide)]
    rfl
  have rowa : ∀ b, 44 ≤ b → b ≤ 56 → M' b = M1 b := by
    intro b b1 b2
    subst hM
    unfold gdM gdC
    rw [zup_row (by omega), zup_row (by omega), zrow_ne (by omega), zup_row (by omega)]
  refine h.book ht ?_ ?_ ?_ ?_ ?_ ?_ ?_
  · intro b b1 b2 b3 b4
    subst hM
    unfold gdM gdC
    rw [zup_row b2, zup_row b2, zrow_ne b3, zup_row b1, f1 b b4]
  · intro i hi
    subst hM
    unfold gdM gdC
    simp only [zupE, zrowE, reduceIte, false_and, and_false, true_and, and_true, Nat.reduceEqDiff, Int.reduceEq]
    rw [if_neg hi, f1 29 (by decide)]
  · intro i i0 i1
    subst hM
    unfold gdM gdC
    simp only [zupE, zrowE, reduceIte, false_and, and_false, true_and, and_true, Nat.reduceEqDiff, Int.reduceEq]
    rw [if_neg i1, if_neg i0, f1 113 (by decide)]
  · subst hM
    unfold gdM gdC
    simp only [zupE, zrowE, reduceIte, false_and, and_false, true_and, and_true, Nat.reduceEqDiff, Int.reduceEq]
  · subst hM
    unfold gdM gdC
    simp only [zupE, zrowE, reduceIte, false_and, and_false, true_and, and_true, Nat.reduceEqDiff, Int.reduceEq]
  · subst hM
    unfold gdM gdC
    simp only [zupE, zrowE, reduceIte, false_and, and_false, true_and, and_true, Nat.reduceEqDiff, Int.reduceEq]
    rw [f1 113 (by decide)]
  · refine (h4.2.2.1 hk).cong (fun i i0 i1 => ?_) (fun j i hj i0 i1 => ?_)
    · rw [e115, if_pos ⟨i0, i1⟩]
      show M 116 (0 + i) = M 116 i
      rw [Int.zero_add]
    · show M' (44 + j) i = _
      rw [rowa _ (by omega) (by omega)]
      exact g1 j i hj i0 i1
theorem J.image1 (h : J t M) (ht : t < 512) {M1 M' : ZM} (f1 : ∀ b, (b < 73 ∨ 85 < b) → M1 b = M b) (g1 : ∀ j i, j ≤ 12 → 0 ≤ i → i < lenL j → M1 (73 + j) i = M (44 + j) i) (hM : M' = gdM (zup (zrow (gdC (zup M1 86 1 1)) 116 (imR (gdC (zup M1 86 1 1)) 1 984)) 117 1 1)) : J (t + 1) M' := by
  obtain ⟨h1, h2, h3, h4, h5, h6, h7, h8⟩ := id h
  have row : ∀ b, b ≠ 29 → b ≠ 86 → b ≠ 113 → b ≠ 116 → b ≠ 117 → (b < 73 ∨ 85 < b) → M' b = M b := by
    intro b b1 b2 b3 b4 b5 b6
    subst hM
    unfold gdM gdC
    rw [zup_row b3, zup_row b3, zup_row b5, zrow_ne b4, zup_row b1, zup_row b2, f1 b b6]
  have rowa : ∀ b, 73 ≤ b → b ≤ 85 → M' b = M1 b := by
    intro b b1 b2
    subst hM
    unfold gdM gdC
    rw [zup_row (by omega), zup_row (by omega), zup_row (by omega), zrow_ne (by omega), zup_row (by omega), zup_row (by omega)]
  have r29 : ∀ i, i ≠ 15 → M' 29 i = M 29 i := by
    intro i hi
    subst hM
    unfold gdM gdC
    simp only [zupE, zrowE, reduceIte, false_and, and_false, true_and, and_true, Nat.reduceEqDiff, Int.reduceEq]
    rw [if_neg hi, f1 29 (by decide)]
  have r113 : ∀ i, i ≠ 0 → i ≠ 1 → M' 113 i = M 113 i := by
    intro i i0 i1
    subst hM
    unfold gdM gdC
    simp only [zupE, zrowE, reduceIte, false_and, and_false, true_and, and_true, Nat.reduceEqDiff, Int.reduceEq]
    rw [if_neg i1, if_neg i0, f1 113 (by decide)]
  have e86 : ∀ i, M' 86 i = if i = 1 then 1 else M 86 i := by
    intro i
    subst hM
    unfold gdM gdC
    simp only [zupE, zrowE, reduceIte, false_and, and_false, true_and, and_true, Nat.reduceEqDiff, Int.reduceEq]
    rw [f1 86 (by decide)]
  have e117 : ∀ i, M' 117 i = if i = 1 then 1 else M 117 i := by
    intro i
    subst hM
    unfold gdM gdC
    simp only [zupE, zrowE, reduceIte, false_and, and_false, true_and, and_true, Nat.reduceEqDiff, Int.reduceEq]
    rw [f1 117 (by decide)]
  have e116 : ∀ j, M' 116 j = if 984 ≤ j ∧ j < 1968 then M 115 (j - 984) else M 116 j := by
    intro j
    subst hM
    unfold gdM gdC imR
    simp only [zupE, zrowE, reduceIte, false_and, and_false, true_and, and_true, Nat.reduceEqDiff, Int.reduceEq]
    rw [f1 115 (by decide), f1 116 (by decide)]
    rfl
  refine h.grant ht ?_ ?_ ?_ (row 112 (by decide) (by decide) (by decide) (by decide) (by decide) (by decide)) (row 114 (by decide) (by decide) (by decide) (by decide) (by decide) (by decide)) (r113 26 (by decide) (by decide)) (h1.fr (r29 1 (by decide)) (r29 2 (by decide)) (r113 9 (by decide) (by decide)) (r113 10 (by decide) (by decide)) (row 30 (by decide) (by decide) (by decide) (by decide) (by decide) (by decide)) (row 119 (by decide) (by decide) (by decide) (by decide) (by decide) (by decide))) ?_ ?_ (h5.fr (row 110 (by decide) (by decide) (by decide) (by decide) (by decide) (by decide)) (row 111 (by decide) (by decide) (by decide) (by decide) (by decide) (by decide)) (row 139 (by decide) (by decide) (by decide) (by decide) (by decide) (by decide)) (r113 46 (by decide) (by decide)) (r113 47 (by decide) (by decide))) (h7.fr (row 118 (by decide) (by decide) (by decide) (by decide) (by decide) (by decide)) (r113 29 (by decide) (by decide))) (h8.fr (row 106 (by decide) (by decide) (by decide) (by decide) (by decide) (by decide)))
  · subst hM
    unfold gdM gdC
    simp only [zupE, zrowE, reduceIte, false_and, and_false, true_and, and_true, Nat.reduceEqDiff, Int.reduceEq]
  · subst hM
    unfold gdM gdC
    simp only [zupE, zrowE, reduceIte, false_and, and_false, true_and, and_true, Nat.reduceEqDiff, Int.reduceEq]
  · subst hM
    unfold gdM gdC
    simp only [zupE, zrowE, reduceIte, false_and, and_false, true_and, and_true, Nat.reduceEqDiff, Int.reduceEq]
    rw [f1 113 (by decide)]
  · rw [row 115 (by decide) (by decide) (by decide) (by decide) (by decide) (by decide)]
    exact h3.congr (fun j hj => row _ (by omega) (by omega) (by omega) (by omega) (by omega) (by omega))
  · unfold JI at *
    rw [e86, e86, e117, e117]
    refine ⟨?_, ?_, ?_, ?_⟩
    · exact h4.1
    · exact ⟨rfl, Or.inr rfl⟩
    · intro q
      refine (h4.2.2.1 q).cong (fun i i0 i1 => ?_) (fun j i hj i0 i1 => ?_)
      · show M' 116 i = _
        rw [e116, if_neg (by omega)]
      · show M' (59 + j) i = _
        rw [row _ (by omega) (by omega) (by omega) (by omega) (by omega) (by omega)]
    · intro _
      refine h3.cong (fun i i0 i1 => ?_) (fun j i hj i0 i1 => ?_)
      · show M' 116 (984 + i) = _
        rw [e116, if_pos (by omega), show 984 + i - 984 = i by omega]
      · show M' (73 + j) i = _
        rw [rowa _ (by omega) (by omega)]
        exact g1 j i hj i0 i1
theorem J.back1 (h : J t M) (ht : t < 512) (hk : M 117 1 = 1) {M1 M' : ZM} (f1 : ∀ b, (b < 44 ∨ 56 < b) → M1 b = M b) (g1 : ∀ j i, j ≤ 12 → 0 ≤ i → i < lenL j → M1 (44 + j) i = M (73 + j) i) (hM : M' = gdM (zrow (gdC M1) 115 (bkR (gdC M1) 1 984))) : J (t + 1) M' := by
  obtain ⟨h1, h2, h3, h4, h5, h6, h7, h8⟩ := id h
  have e115 : ∀ j, M' 115 j = if 0 ≤ j ∧ j < 984 then M 116 (984 + j) else M 115 j := by
    intro j
    subst hM
    unfold gdM gdC bkR
    simp only [zupE, zrowE, reduceIte, false_and, and_false, true_and, and_true, Nat.reduceEqDiff, Int.reduceEq]
    rw [f1 115 (by decide), f1 116 (by decide)]
    rfl
  have rowa : ∀ b, 44 ≤ b → b ≤ 56 → M' b = M1 b := by
    intro b b1 b2
    subst hM
    unfold gdM gdC
    rw [zup_row (by omega), zup_row (by omega), zrow_ne (by omega), zup_row (by omega)]
  refine h.book ht ?_ ?_ ?_ ?_ ?_ ?_ ?_
  · intro b b1 b2 b3 b4
    subst hM
    unfold gdM gdC
    rw [zup_row b2, zup_row b2, zrow_ne b3, zup_row b1, f1 b b4]
  · intro i hi
    subst hM
    unfold gdM gdC
    simp only [zupE, zrowE, reduceIte, false_and, and_false, true_and, and_true, Nat.reduceEqDiff, Int.reduceEq]
    rw [if_neg hi, f1 29 (by decide)]
  · intro i i0 i1
    subst hM
    unfold gdM gdC
    simp only [zupE, zrowE, reduceIte, false_and, and_false, true_and, and_true, Nat.reduceEqDiff, Int.reduceEq]
    rw [if_neg i1, if_neg i0, f1 113 (by decide)]
  · subst hM
    unfold gdM gdC
    simp only [zupE, zrowE, reduceIte, false_and, and_false, true_and, and_true, Nat.reduceEqDiff, Int.reduceEq]
  · subst hM
    unfold gdM gdC
    simp only [zupE, zrowE, reduceIte, false_and, and_false, true_and, and_true, Nat.reduceEqDiff, Int.reduceEq]
  · subst hM
    unfold gdM gdC
    simp only [zupE, zrowE, reduceIte, false_and, and_false, true_and, and_true, Nat.reduceEqDiff, Int.reduceEq]
    rw [f1 113 (by decide)]
  · refine (h4.2.2.2 hk).cong (fun i i0 i1 => ?_) (fun j i hj i0 i1 => ?_)
    · rw [e115, if_pos ⟨i0, i1⟩]
    · show M' (44 + j) i = _
      rw [rowa _ (by omega) (by omega)]
      exact g1 j i hj i0 i1
theorem s_image (ht : t < 512) (h : J t M) {k : Int} : zcI (d + 4) 135 [zA 29, zI k] M (fun x M1 => zcI (d + 4) 151 [zA 113, zI k] M1 (fun y M2 => x = y ∧ J (t + 1) M2)) := by
  have hv := h.2.2.2.2.2.1.1
  by_cases hk : 0 ≤ k ∧ k ≤ 1
  · rcases (by omega : k = 0 ∨ k = 1) with rfl | rfl
    · apply vX9_image_at29_0
      refine ⟨fun q => by omega, fun _ => ⟨fun _ => ⟨by omega, c_copyBook_59_44 (fun M1 f1 g1 => ⟨by omega, by omega, zset (c_grant (m_image (by omega) (by omega) ?_ ⟨rfl, h.image0 ht f1 g1 rfl⟩))⟩)⟩, fun q => by omega⟩⟩
      simp only [zupE, zrowE, reduceIte, false_and, and_false, true_and, and_true, Nat.reduceEqDiff, Int.reduceEq]
      rw [f1 113 (by decide)]
      omega
    · apply vX9_image_at29_1
      refine ⟨fun q => by omega, fun _ => ⟨fun _ => ⟨by omega, c_copyBook_73_44 (fun M1 f1 g1 => ⟨by omega, by omega, zset (c_grant (m_image (by omega) (by omega) ?_ ⟨rfl, h.image1 ht f1 g1 rfl⟩))⟩)⟩, fun q => by omega⟩⟩
      simp only [zupE, zrowE, reduceIte, false_and, and_false, true_and, and_true, Nat.reduceEqDiff, Int.reduceEq]
      rw [f1 113 (by decide)]
      omega
  · have no : zcI (d + 3) 139 [zA 29, zI (-1)] M (fun x M1 => zcI (d + 4) 151 [zA 113, zI k] M1 (fun y M2 => x = y ∧ J (t + 1) M2)) := by
      refine c_no ht h ?_
      apply vX10_image
      exact m_lies (fun _ _ => by omega) (fun _ => ⟨fun q => by omega, fun _ => m_no ht h (by omega) ⟨rfl, h.refuse (by omega)⟩⟩)
    apply vX9_image_at29
    exact ⟨fun _ => no, fun q => ⟨fun q2 => by omega, fun _ => no⟩⟩
theorem s_back (ht : t < 512) (h : J t M) {k : Int} : zcI (d + 4) 136 [zA 29, zI k] M (fun x M1 => zcI (d + 4) 152 [zA 113, zI k] M1 (fun y M2 => x = y ∧ J (t + 1) M2)) := by
  have hv := h.2.2.2.2.2.1.1
  have eC : ∀ k, rfC M k 117 = M 117 := fun k => by unfold rfC; rw [zup_row (by decide), zup_row (by decide)]
  obtain ⟨i0, i1, -, -⟩ := h.2.2.2.1
  by_cases hk : 0 ≤ k ∧ k ≤ 1
  · have no2 : M 117 k = 0 → zcI (d + 3) 139 [zA 29, zI (-2)] M (fun x M1 => zcI (d + 4) 152 [zA 113, zI k] M1 (fun y M2 => x = y ∧ J (t + 1) M2)) := by
      intro q0
      refine c_no ht h ?_
      apply vX10_back
      refine m_lies (fun _ _ => ⟨fun _ => ⟨by omega, fun q => ?_, fun _ => m_no ht h (by omega) ⟨rfl, h.refuse (by omega)⟩⟩, fun q => by omega⟩) (fun _ => by omega)
      exact absurd (by rw [eC]; exact q0) q
    rcases (by omega : k = 0 ∨ k = 1) with rfl | rfl
    · apply vX9_back_at29_0
      refine ⟨fun q => by omega, fun _ => ⟨fun _ => ⟨by omega, fun q => ⟨by omega, c_copyBook_44_59 (fun M1 f1 g1 => c_grant (m_back (by omega) (by omega) ?_ ?_ ⟨rfl, h.back0 ht (by omega) f1 g1 rfl⟩))⟩, fun q => no2 (by omega)⟩, fun q => by omega⟩⟩
      · simp only [zupE, zrowE, reduceIte, false_and, and_false, true_and, and_true, Nat.reduceEqDiff, Int.reduceEq]
        rw [f1 117 (by decide)]
        omega
      · simp only [zupE, zrowE, reduceIte, false_and, and_false, true_and, and_true, Nat.reduceEqDiff, Int.reduceEq]
        rw [f1 113 (by decide)]
        omega
    · apply vX9_back_at29_1
      refine ⟨fun q => by omega, fun _ => ⟨fun _ => ⟨by omega, fun q => ⟨by omega, c_copyBook_44_73 (fun M1 f1 g1 => c_grant (m_back (by omega) (by omega) ?_ ?_ ⟨rfl, h.back1 ht (by omega) f1 g1 rfl⟩))⟩, fun q => no2 (by omega)⟩, fun q => by omega⟩⟩
      · simp only [zupE, zrowE, reduceIte, false_and, and_false, true_and, and_true, Nat.reduceEqDiff, Int.reduceEq]
        rw [f1 117 (by decide)]
        omega
      · simp only [zupE, zrowE, reduceIte, false_and, and_false, true_and, and_true, Nat.reduceEqDiff, Int.reduceEq]
        rw [f1 113 (by decide)]
        omega
  · have no : zcI (d + 3) 139 [zA 29, zI (-1)] M (fun x M1 => zcI (d + 4) 152 [zA 113, zI k] M1 (fun y M2 => x = y ∧ J (t + 1) M2)) := by
      refine c_no ht h ?_
      apply vX10_back
      exact m_lies (fun _ _ => by omega) (fun _ => ⟨fun q => by omega, fun _ => m_no ht h (by omega) ⟨rfl, h.refuse (by omega)⟩⟩)
    apply vX9_back_at29
    exact ⟨fun _ => no, fun q => ⟨fun q2 => by omega, fun _ => no⟩⟩
end Image
