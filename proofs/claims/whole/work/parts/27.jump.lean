/-! what is between class and reference: piece by piece over a change -/
theorem JT.fr {M M' : ZM} (h : JT M) (e1 : M' 29 1 = M 29 1) (e2 : M' 29 2 = M 29 2) (e3 : M' 113 9 = M 113 9) (e4 : M' 113 10 = M 113 10) (e5 : M' 30 = M 30) (e6 : M' 119 = M 119) : JT M' := by
  unfold JT at *
  rw [e1, e2, e3, e4, e5, e6]
  exact h
theorem JI.fr {M M' : ZM} (h : JI M) (e1 : M' 86 = M 86) (e2 : M' 117 = M 117) (e3 : M' 116 = M 116) (e4 : ∀ b, 59 ≤ b → b ≤ 85 → M' b = M b) : JI M' := by
  unfold JI at *
  rw [e1, e2, e3]
  exact ⟨h.1, h.2.1, fun q => (h.2.2.1 q).congr (fun j hj => e4 _ (by omega) (by omega)), fun q => (h.2.2.2 q).congr (fun j hj => e4 _ (by omega) (by omega))⟩
theorem JP.fr {M M' : ZM} (h : JP M) (e1 : M' 110 = M 110) (e2 : M' 111 = M 111) (e3 : M' 139 = M 139) (e4 : M' 113 46 = M 113 46) (e5 : M' 113 47 = M 113 47) : JP M' := by
  unfold JP at *
  rw [e1, e2, e3, e4, e5]
  exact h
theorem JX.fr {M M' : ZM} (h : JX M) (e1 : M' 118 = M 118) (e2 : M' 113 29 = M 113 29) : JX M' := by
  unfold JX at *
  rw [e1, e2]
  exact h
theorem JR.k {t : Nat} {M : ZM} (h : JR t M) (ht : t < 512) : ∀ i, 0 ≤ i → i < 4 → 0 ≤ M 112 i ∧ M 112 i ≤ 1000 := by
  intro i h0 h1
  obtain ⟨a, b, c, d, e⟩ := h
  rcases (by omega : i = 0 ∨ i = 1 ∨ i = 2 ∨ i = 3) with rfl | rfl | rfl | rfl <;> omega
theorem EW.fr {M M' : ZM} (e1 : M' 51 = M 51) (e2 : M' 52 = M 52) (e3 : M' 53 = M 53) (e4 : M' 54 = M 54) (e5 : M' 115 179 = M 115 179) (p s : Int) : EW M' p s = EW M p s := by
  unfold EW tTell
  show (if M' 52 p < M' 53 p ∧ tRun (M' 54) (mEnv s p (M' 115 179)) (M' 53 p) 401 (M' 52 p) [] ≠ 1 then 0 else if tRun (M' 54) (mEnv s p (M' 115 179)) (M' 52 p) 401 (M' 51 p) [] = NOTH then 0 else max (-999) (min 999 (tRun (M' 54) (mEnv s p (M' 115 179)) (M' 52 p) 401 (M' 51 p) []))) = _
  rw [e1, e2, e3, e4, e5]
/-- a call that is refused by k: the class's part, then the reference's -/
abbrev rfC (M : ZM) (k : Int) : ZM := zup (zup M 29 15 k) 112 (rfx k) (M 112 (rfx k) + 1)
abbrev rfM (M : ZM) (k : Int) : ZM := zup (zup M 113 0 k) 114 (-k) (M 114 (-k) + 1)
theorem J.refuse {t : Nat} {M : ZM} (h : J t M) {k : Int} (hk : k = -1 ∨ k = -2 ∨ k = -3 ∨ k = -6) : J (t + 1) (rfM (rfC M k) k) := by
  obtain ⟨h1, h2, h3, h4, h5, h6, h7, h8⟩ := h
  have row : ∀ b, b ≠ 29 → b ≠ 112 → b ≠ 113 → b ≠ 114 → rfM (rfC M k) k b = M b := fun b b1 b2 b3 b4 => by
    unfold rfM rfC
    rw [zup_row b4, zup_row b3, zup_row b2, zup_row b1]
  have r29 : ∀ i, i ≠ 15 → rfM (rfC M k) k 29 i = M 29 i := fun i hi => by
    unfold rfM rfC
    rw [zup_row (by decide), zup_row (by decide), zup_row (by decide), zup_ne (fun q => hi q.2)]
  have r113 : ∀ i, i ≠ 0 → rfM (rfC M k) k 113 i = M 113 i := fun i hi => by
    unfold rfM rfC
    rw [zup_row (by decide), zup_ne (fun q => hi q.2), zup_row (by decide), zup_row (by decide)]
  have r112 : ∀ i, rfM (rfC M k) k 112 i = if i = rfx k then M 112 (rfx k) + 1 else M 112 i := fun i => by
    unfold rfM rfC
    rw [zup_row (by decide), zup_row (by decide)]
    unfold zup
    simp
  have r114 : ∀ i, rfM (rfC M k) k 114 i = if i = -k then M 114 (-k) + 1 else M 114 i := fun i => by
    have e : rfC M k 114 = M 114 := by unfold rfC; rw [zup_row (by decide), zup_row (by decide)]
    show (if 114 = 114 ∧ i = -k then rfC M k 114 (-k) + 1 else zup (rfC M k) 113 0 k 114 i) = _
    rw [zup_row (by decide), e]
    simp
  refine ⟨h1.fr (r29 1 (by decide)) (r29 2 (by decide)) (r113 9 (by decide)) (r113 10 (by decide)) (row 30 (by decide) (by decide) (by decide) (by decide)) (row 119 (by decide) (by decide) (by decide) (by decide)), ?_, ?_, h4.fr (row 86 (by decide) (by decide) (by decide) (by decide)) (row 117 (by decide) (by decide) (by decide) (by decide)) (row 116 (by decide) (by decide) (by decide) (by decide)) (fun b b1 b2 => row b (by omega) (by omega) (by omega) (by omega)), h5.fr (row 110 (by decide) (by decide) (by decide) (by decide)) (row 111 (by decide) (by decide) (by decide) (by decide)) (row 139 (by decide) (by decide) (by decide) (by decide)) (r113 46 (by decide)) (r113 47 (by decide)), ?_, h7.fr (row 118 (by decide) (by decide) (by decide) (by decide)) (r113 29 (by decide)), h8.fr (row 106 (by decide) (by decide) (by decide) (by decide))⟩
  · have e1 : rfM (rfC M k) k 29 15 = k := by
      unfold rfM rfC
      rw [zup_row (by decide), zup_row (by decide), zup_row (by decide), zup_eq]
    have e2 : rfM (rfC M k) k 113 0 = k := by
      unfold rfM rfC
      rw [zup_row (by decide), zup_eq]
    unfold JR at *
    rw [e1, e2, r112, r112, r112, r112, r114, r114, r114, r114]
    obtain ⟨a, b, c, d, e⟩ := h2
    rcases hk with rfl | rfl | rfl | rfl <;> simp only [rfx] <;> simp <;> omega
  · rw [row 115 (by decide) (by decide) (by decide) (by decide)]
    exact h3.congr (fun j hj => row _ (by omega) (by omega) (by omega) (by omega))
  · unfold JW at *
    rw [r113 1 (by decide), r113 26 (by decide), row 115 (by decide) (by decide) (by decide) (by decide), row 126 (by decide) (by decide) (by decide) (by decide)]
    refine ⟨by omega, h6.2.1, fun q p s a b c d => ?_⟩
    rw [h6.2.2 q p s a b c d, EW.fr (row 51 (by decide) (by decide) (by decide) (by decide)) (row 52 (by decide) (by decide) (by decide) (by decide)) (row 53 (by decide) (by decide) (by decide) (by decide)) (row 54 (by decide) (by decide) (by decide) (by decide)) (by rw [row 115 (by decide) (by decide) (by decide) (by decide)])]
theorem c_no {d t : Nat} {M : ZM} {k : Int} {K : Int → ZM → Prop} (ht : t < 512) (h : J t M) (hK : K k (rfC M k)) : zcI (d + 1) 139 [zA 29, zI k] M K := c_refuse (h.2.1.k ht) hK
theorem m_no {d t : Nat} {M : ZM} {k : Int} {K : Int → ZM → Prop} (ht : t < 512) (h : J t M) (hk : k = -1 ∨ k = -2 ∨ k = -3 ∨ k = -6) (hK : K k (rfM (rfC M k) k)) : zcI (d + 1) 145 [zA 113, zI k] (rfC M k) K := by
  have e : rfC M k 114 = M 114 := by unfold rfC; rw [zup_row (by decide), zup_row (by decide)]
  refine m_refuses (by omega) ?_ hK
  rw [e]
  obtain ⟨a, b, c, d, e⟩ := h.2.1
  rcases hk with rfl | rfl | rfl | rfl <;> simp <;> omega
/-- a call that is granted: all but the tape, images, trip, words as they were; the books are J's again -/
abbrev gdC (M : ZM) : ZM := zup M 29 15 0
abbrev gdM (M : ZM) : ZM := zup (zup M 113 0 0) 113 1 (M 113 1 + 1)
theorem J.grant {t : Nat} {M M' : ZM} (h : J t M) (ht : t < 512) (e0 : M' 29 15 = 0) (e1 : M' 113 0 = 0) (e2 : M' 113 1 = M 113 1 + 1) (e3 : M' 112 = M 112) (e4 : M' 114 = M 114) (e5 : M' 113 26 = M 113 26) (hT : JT M') (hB : BK (M' 115) (bL M' 44)) (hI : JI M') (hP : JP M') (hX : JX M') (hF : JF M') : J (t + 1) M' := by
  obtain ⟨h1, h2, h3, h4, h5, h6, h7, h8⟩ := h
  refine ⟨hT, ?_, hB, hI, hP, ?_, hX, hF⟩
  · unfold JR at *
    rw [e0, e1, e3, e4]
    omega
  · unfold JW at *
    rw [e2, e5]
    exact ⟨by omega, by omega, fun q => by omega⟩
