/-! calls that change the book: terms, rule, paint -/
theorem BK.upd {K K' : Int → Int} {L L' : LB} (h : BK K L) (hW : WF K') (e182 : K' 182 = K 182) (tok : ∀ i, 183 ≤ i → K' i = K i) (kd : ∀ p, 0 ≤ p → p < K 182 → K' (10 * p) = K (10 * p) ∧ K' (10 * p + 9) = K (10 * p + 9)) (pq : ∀ p, 0 ≤ p → p < K 182 → PQ K' L' p) (e0 : L' 0 = L 0) (e7 : L' 7 = L 7) (e8 : L' 8 = L 8) (e9 : L' 9 = L 9) (e10 : L' 10 = L 10) (tm : ∀ i, 0 ≤ i → i < 4 → L' 11 i = K' (178 + i)) (tt : ∀ i, 0 ≤ i → i < 18 → L' 12 i = K' (160 + i)) : BK K' L' := by
  obtain ⟨h1, h2, h3, h4, h5⟩ := h
  refine ⟨hW, by rw [e0, e182]; exact h2, fun p p0 p1 => ?_, tm, tt⟩
  rw [e182] at p1
  refine ⟨pq p p0 p1, fun hk => ?_⟩
  obtain ⟨k1, k2⟩ := kd p p0 p1
  rw [k1] at hk
  have := (h3 p p0 p1).2 hk
  have c1 : cTok K' = cTok K := by
    funext i
    unfold cTok
    rw [tok 183 (by omega)]
    by_cases hi : 0 ≤ i ∧ i < K 183
    · rw [if_pos hi, if_pos hi, tok _ (by omega)]
    · rw [if_neg hi, if_neg hi]
  have c2 : vTok K' = vTok K := by
    funext i
    unfold vTok
    rw [tok 183 (by omega)]
    by_cases hi : 0 ≤ i ∧ i < K 183
    · rw [if_pos hi, if_pos hi, tok _ (by omega)]
    · rw [if_neg hi, if_neg hi]
  unfold EQ tTell at *
  rw [e7, e8, e9, e10, c1, c2, k2]
  exact this
/-- J behind a granted call that changed book and kept row alone -/
theorem J.book {t : Nat} {M M' : ZM} (h : J t M) (ht : t < 512) (rest : ∀ b, b ≠ 29 → b ≠ 113 → b ≠ 115 → (b < 44 ∨ 56 < b) → M' b = M b) (r29 : ∀ i, i ≠ 15 → M' 29 i = M 29 i) (r113 : ∀ i, i ≠ 0 → i ≠ 1 → M' 113 i = M 113 i) (e0 : M' 29 15 = 0) (e1 : M' 113 0 = 0) (e2 : M' 113 1 = M 113 1 + 1) (hB : BK (M' 115) (bL M' 44)) : J (t + 1) M' := by
  obtain ⟨h1, h2, h3, h4, h5, h6, h7, h8⟩ := id h
  have row : ∀ b, b ≠ 29 → b ≠ 113 → b ≠ 115 → (b < 44 ∨ 56 < b) → M' b = M b := rest
  exact h.grant ht e0 e1 e2 (row 112 (by decide) (by decide) (by decide) (by decide)) (row 114 (by decide) (by decide) (by decide) (by decide)) (r113 26 (by decide) (by decide)) (h1.fr (r29 1 (by decide)) (r29 2 (by decide)) (r113 9 (by decide) (by decide)) (r113 10 (by decide) (by decide)) (row 30 (by decide) (by decide) (by decide) (by decide)) (row 119 (by decide) (by decide) (by decide) (by decide))) hB (h4.fr (row 86 (by decide) (by decide) (by decide) (by decide)) (row 117 (by decide) (by decide) (by decide) (by decide)) (row 116 (by decide) (by decide) (by decide) (by decide)) (fun b b1 b2 => row b (by omega) (by omega) (by omega) (by omega))) (h5.fr (row 110 (by decide) (by decide) (by decide) (by decide)) (row 111 (by decide) (by decide) (by decide) (by decide)) (row 139 (by decide) (by decide) (by decide) (by decide)) (r113 46 (by decide) (by decide)) (r113 47 (by decide) (by decide))) (h7.fr (row 118 (by decide) (by decide) (by decide) (by decide)) (r113 29 (by decide) (by decide))) (h8.fr (row 106 (by decide) (by decide) (by decide) (by decide)))
/-- kept[i] = x -/
def kup (K : Int → Int) (j x : Int) : Int → Int := fun i => if i = j then x else K i
theorem zup_kup (M : ZM) (a : Nat) (j x : Int) : zup M a j x a = kup (M a) j x := by
  funext i
  exact zup_at
theorem kup_ne {K : Int → Int} {j x i : Int} (h : i ≠ j) : kup K j x i = K i := if_neg h
theorem kup_eq {K : Int → Int} {j x : Int} : kup K j x j = x := if_pos rfl
theorem WP.congr {K K' : Int → Int} {p : Int} (h : WP K p) (e : ∀ i, 10 * p ≤ i → i ≤ 10 * p + 8 → K' i = K i) : WP K' p := by
  have hr := h.rc
  unfold WP at *
  rw [e (10 * p) (by omega) (by omega), e (10 * p + 1) (by omega) (by omega), e (10 * p + 2) (by omega) (by omega), e (10 * p + 6) (by omega) (by omega), e (10 * p + 7) (by omega) (by omega), e (10 * p + 8) (by omega) (by omega)]
  refine ⟨h.1, h.2.1, fun q => ⟨(h.2.2.1 q).1, fun k k0 k1 => ?_, (h.2.2.1 q).2.2⟩, h.2.2.2.1, h.2.2.2.2.1, fun k k0 k1 => ?_⟩
  · rw [e _ (by omega) (by omega)]; exact (h.2.2.1 q).2.1 k k0 k1
  · rw [e _ (by omega) (by omega)]; exact h.2.2.2.2.2 k k0 k1
theorem PQ.congr {K K' : Int → Int} {L L' : LB} {p : Int} (h : PQ K L p) (hr : K (10 * p + 2) ≤ 3) (e : ∀ i, 10 * p ≤ i → i ≤ 10 * p + 8 → K' i = K i) (e1 : L' 1 = L 1) (e2 : L' 2 p = L 2 p) (e3 : L' 3 = L 3) (e4 : L' 4 = L 4) (e5 : L' 5 = L 5) (e6 : L' 6 = L 6) : PQ K' L' p := by
  unfold PQ at *
  rw [e (10 * p) (by omega) (by omega), e (10 * p + 1) (by omega) (by omega), e (10 * p + 2) (by omega) (by omega), e1, e2, e3, e4, e5, e6]
  refine ⟨h.1, h.2.1, h.2.2.1, h.2.2.2.1, h.2.2.2.2.1, fun k k0 k1 => ?_, fun q k k0 k1 => ?_⟩
  · rw [e _ (by omega) (by omega)]; exact h.2.2.2.2.2.1 k k0 k1
  · rw [e _ (by omega) (by omega)]; exact h.2.2.2.2.2.2 q k k0 k1
theorem J.terms {t : Nat} {M : ZM} (h : J t M) (ht : t < 512) {w v : Int} (h0 : 0 ≤ w) (h1 : w ≤ 3) (hv : (w = 0 → 0 ≤ v ∧ v ≤ 15) ∧ (w = 1 → 1 ≤ v ∧ v ≤ 10) ∧ (2 ≤ w → -999 ≤ v ∧ v ≤ 999)) : J (t + 1) (gdM (zup (gdC (zup M 55 w v)) 115 (178 + w) v)) := by
  have hpl := h.pl
  refine h.book ht ?_ ?_ ?_ ?_ ?_ ?_ ?_
  · intro b b1 b2 b3 b4
    unfold gdM gdC
    rw [zup_row b2, zup_row b2, zup_row b3, zup_row b1, zup_row (by omega)]
  · intro i hi
    unfold gdM gdC
    rw [zup_row (by decide), zup_row (by decide), zup_row (by decide), zup_ne (fun q => hi q.2), zup_row (by decide)]
  · intro i i0 i1
    unfold gdM gdC
    rw [zup_ne (fun q => i1 q.2), zup_ne (fun q => i0 q.2), zup_row (by decide), zup_row (by decide), zup_row (by decide)]
  · unfold gdM gdC
    rw [zup_row (by decide), zup_row (by decide), zup_row (by decide), zup_eq]
  · unfold gdM gdC
    rw [zup_ne (by omega), zup_eq]
  · unfold gdM gdC
    rw [zup_eq, zup_row (by decide), zup_row (by decide), zup_row (by decide)]
  · have eK : gdM (zup (gdC (zup M 55 w v)) 115 (178 + w) v) 115 = kup (M 115) (178 + w) v := by
      unfold gdM gdC
      rw [zup_row (by decide), zup_row (by decide), zup_kup, zup_row (by decide), zup_row (by decide)]
    have eL : ∀ b, 44 ≤ b → b ≤ 54 → gdM (zup (gdC (zup M 55 w v)) 115 (178 + w) v) b = M b := fun b b1 b2 => by
      unfold gdM gdC
      rw [zup_row (by omega), zup_row (by omega), zup_row (by omega), zup_row (by omega), zup_row (by omega)]
    rw [eK]
    have hW := h.wf
    refine h.2.2.1.upd ?_ (kup_ne (by omega)) (fun i hi => kup_ne (by omega)) (fun p p0 p1 => ⟨kup_ne (by omega), kup_ne (by omega)⟩) (fun p p0 p1 => ?_) (eL 44 (by decide) (by decide)) (eL 51 (by decide) (by decide)) (eL 52 (by decide) (by decide)) (eL 53 (by decide) (by decide)) (eL 54 (by decide) (by decide)) (fun i i0 i1 => ?_) (fun i i0 i1 => ?_)
    · obtain ⟨a1, a2, a3, a4, a5, a6, a7, a8⟩ := hW
      unfold WF
      rw [show kup (M 115) (178 + w) v 182 = M 115 182 from kup_ne (by omega), show kup (M 115) (178 + w) v 183 = M 115 183 from kup_ne (by omega)]
      refine ⟨a1, ?_, ?_, ?_, ?_, fun l l0 l1 => ?_, a7, fun p p0 p1 => (a8 p p0 p1).congr (fun i i0 i1 => kup_ne (by omega))⟩
      · unfold kup; split <;> omega
      · unfold kup; split <;> omega
      · unfold kup; split <;> omega
      · unfold kup; split <;> omega
      · rw [kup_ne (by omega), kup_ne (by omega), kup_ne (by omega)]; exact a6 l l0 l1
    · exact (h.pq p0 p1).congr (h.wp p0 p1).rc.2 (fun i i0 i1 => kup_ne (by omega)) (eL 45 (by decide) (by decide)) (congrFun (eL 46 (by decide) (by decide)) p) (eL 47 (by decide) (by decide)) (eL 48 (by decide) (by decide)) (eL 49 (by decide) (by decide)) (eL 50 (by decide) (by decide))
    · show gdM (zup (gdC (zup M 55 w v)) 115 (178 + w) v) 55 i = _
      unfold gdM gdC
      rw [zup_row (by decide), zup_row (by decide), zup_row (by decide), zup_row (by decide), zup_kup]
      unfold kup
      have := h.term i0 i1
      split <;> split <;> first | rfl | omega | exact this
    · show gdM (zup (gdC (zup M 55 w v)) 115 (178 + w) v) 56 i = _
      unfold gdM gdC
      rw [zup_row (by decide), zup_row (by decide), zup_row (by decide), zup_row (by decide), zup_row (by decide), kup_ne (by omega)]
      exact h.rl i0 i1
theorem RG.old {M : ZM} (R : RG M) : (M 26 0 = 0 ∧ M 26 1 = 1 ∧ M 26 2 = -999 ∧ M 26 3 = -999) ∧ (M 27 0 = 15 ∧ M 27 1 = 10 ∧ M 27 2 = 999 ∧ M 27 3 = 999) := by
  refine ⟨⟨(R 26 0 (by decide) (by decide)).2 (by decide), (R 26 1 (by decide) (by decide)).2 (by decide), (R 26 2 (by decide) (by decide)).2 (by decide), (R 26 3 (by decide) (by decide)).2 (by decide)⟩, (R 27 0 (by decide) (by decide)).2 (by decide), (R 27 1 (by decide) (by decide)).2 (by decide), (R 27 2 (by decide) (by decide)).2 (by decide), (R 27 3 (by decide) (by decide)).2 (by decide)⟩
theorem s_terms {d t : Nat} {M : ZM} (ht : t < 512) (R : RG M) (h : J t M) {w v : Int} : zcI (d + 3) 107 [zA 29, zI w, zI v] M (fun x M1 => zcI (d + 3) 193 [zA 113, zI w, zI v] M1 (fun y M2 => x = y ∧ J (t + 1) M2)) := by
  obtain ⟨⟨a0, a1, a2, a3⟩, b0, b1, b2, b3⟩ := R.old
  have hv := h.2.2.2.2.2.1.1
  have no : ¬ (0 ≤ w ∧ w ≤ 3 ∧ (w = 0 → 0 ≤ v ∧ v ≤ 15) ∧ (w = 1 → 1 ≤ v ∧ v ≤ 10) ∧ (2 ≤ w → -999 ≤ v ∧ v ≤ 999)) → zcI (d + 2) 139 [zA 29, zI (-1)] M (fun x M1 => zcI (d + 3) 193 [zA 113, zI w, zI v] M1 (fun y M2 => x = y ∧ J (t + 1) M2)) := by
    intro hn
    refine c_no ht h ?_
    apply vX10_terms
    repeat' (first | omega | apply m_lies | exact m_no ht h (by omega) ⟨rfl, h.refuse (by omega)⟩ | refine zset ?_ | (simp only [zupE, zcpE, reduceIte, false_and, and_false, true_and, and_true, true_or, or_true, not_true_eq_false, not_false_eq_true, true_implies, false_implies]) | refine And.intro ?_ ?_ | intro _)
  apply vX9_terms
  refine ⟨fun a => no (by omega), fun a => ⟨fun b => no (by omega), fun b => ?_⟩⟩
  have hw : w = 0 ∨ w = 1 ∨ w = 2 ∨ w = 3 := by omega
  refine ⟨by omega, fun c => no (by rcases hw with rfl | rfl | rfl | rfl <;> omega), fun c => ⟨by omega, fun e => ?_, fun e => no (by rcases hw with rfl | rfl | rfl | rfl <;> omega)⟩⟩
  have hin : (w = 0 → 0 ≤ v ∧ v ≤ 15) ∧ (w = 1 → 1 ≤ v ∧ v ≤ 10) ∧ (2 ≤ w → -999 ≤ v ∧ v ≤ 999) := by rcases hw with rfl | rfl | rfl | rfl <;> omega
  refine ⟨by omega, by omega, zset (c_grant ?_)⟩
  apply vX10_terms
  have fin : wX10_terms (d + 2) 63 [(0, zA 113), (1, zI w), (2, zI v)] (gdC (zup M 55 w v)) (fun y M2 => M 55 w = y ∧ J (t + 1) M2) := by
    apply vX10_terms_63
    refine ⟨⟨by omega, by omega⟩, by omega, ⟨by omega, by omega⟩, by omega, zset (m_good ?_ ⟨?_, h.terms ht (by omega) (by omega) hin⟩)⟩
    · unfold gdC
      simp only [zupE, reduceIte, false_and, and_false, true_and, and_true, Nat.reduceEqDiff]
      omega
    · unfold gdC
      rw [zup_row (by decide), zup_row (by decide)]
      exact h.term (by omega) (by omega)
  repeat' (first | omega | apply m_lies | exact fin | refine zset ?_ | (simp only [zupE, zcpE, reduceIte, false_and, and_false, true_and, and_true, true_or, or_true, not_true_eq_false, not_false_eq_true, true_implies, false_implies]) | refine And.intro ?_ ?_ | intro _)
/-- 9 rule -/
theorem J.rule {t : Nat} {M : ZM} (h : J t M) (ht : t < 512) {l a b : Int} (l0 : 0 ≤ l) (l1 : l ≤ 5) (a0 : 0 ≤ a) (b0 : 0 ≤ b) (ab : a + b ≤ 10) {M' : ZM} (hM : M' = gdM (zup (zup (zup (gdC (zup (zup (zup M 56 (l * 3) a) 56 (l * 3 + 1) b) 56 (l * 3 + 2) (10 - a - b))) 115 (160 + 3 * l) a) 115 (160 + 3 * l + 1) b) 115 (160 + 3 * l + 2) (10 - a - b))) : J (t + 1) M' := by
  have hpl := h.pl
  have rows : ∀ b', b' ≠ 29 → b' ≠ 113 → b' ≠ 115 → b' ≠ 56 → M' b' = M b' := by
    intro b b1 b2 b3 b4
    subst hM
    unfold gdM gdC
    rw [zup_row b2, zup_row b2, zup_row b3, zup_row b3, zup_row b3, zup_row b1, zup_row b4, zup_row b4, zup_row b4]
  refine h.book ht (fun b b1 b2 b3 b4 => rows b b1 b2 b3 (by omega)) ?_ ?_ ?_ ?_ ?_ ?_
  · intro i hi
    subst hM
    unfold gdM gdC
    simp only [zupE, reduceIte, false_and, and_false, true_and, and_true, Nat.reduceEqDiff]
    rw [if_neg hi]
  · intro i i0 i1
    subst hM
    unfold gdM gdC
    simp only [zupE, reduceIte, false_and, and_false, true_and, and_true, Nat.reduceEqDiff]
    rw [if_neg i1, if_neg i0]
  · subst hM
    unfold gdM gdC
    simp only [zupE, reduceIte, false_and, and_false, true_and, and_true, Nat.reduceEqDiff]
  · subst hM
    unfold gdM gdC
    simp only [zupE, reduceIte, false_and, and_false, true_and, and_true, Nat.reduceEqDiff, Int.reduceEq]
  · subst hM
    unfold gdM gdC
    simp only [zupE, reduceIte, false_and, and_false, true_and, and_true, Nat.reduceEqDiff, Int.reduceEq]
  · have eK : ∀ i, M' 115 i = if i = 160 + 3 * l + 2 then 10 - a - b else if i = 160 + 3 * l + 1 then b else if i = 160 + 3 * l then a else M 115 i := by
      intro i
      subst hM
      unfold gdM gdC
      simp only [zupE, reduceIte, false_and, and_false, true_and, and_true, Nat.reduceEqDiff, Int.reduceEq]
    have eT : ∀ i, M' 56 i = if i = l * 3 + 2 then 10 - a - b else if i = l * 3 + 1 then b else if i = l * 3 then a else M 56 i := by
      intro i
      subst hM
      unfold gdM gdC
      simp only [zupE, reduceIte, false_and, and_false, true_and, and_true, Nat.reduceEqDiff, Int.reduceEq]
    have eo : ∀ i, i < 160 ∨ 178 ≤ i → M' 115 i = M 115 i := fun i hi => by
      rw [eK, if_neg (by omega), if_neg (by omega), if_neg (by omega)]
    have eL : ∀ b, 44 ≤ b → b ≤ 55 → M' b = M b := fun b b1 b2 => rows b (by omega) (by omega) (by omega) (by omega)
    have hW := h.wf
    refine h.2.2.1.upd ?_ (eo _ (by omega)) (fun i hi => eo _ (by omega)) (fun p p0 p1 => ⟨eo _ (by omega), eo _ (by omega)⟩) (fun p p0 p1 => ?_) (eL 44 (by decide) (by decide)) (eL 51 (by decide) (by decide)) (eL 52 (by decide) (by decide)) (eL 53 (by decide) (by decide)) (eL 54 (by decide) (by decide)) (fun i i0 i1 => ?_) (fun i i0 i1 => ?_)
    · obtain ⟨a1, a2, a3, a4, a5, a6, a7, a8⟩ := hW
      unfold WF
      rw [eo 182 (by omega), eo 183 (by omega), eo 178 (by omega), eo 179 (by omega), eo 180 (by omega), eo 181 (by omega)]
      refine ⟨a1, a2, a3, a4, a5, fun l' l0' l1' => ?_, a7, fun p p0 p1 => (a8 p p0 p1).congr (fun i i0 i1 => eo _ (by omega))⟩
      have := a6 l' l0' l1'
      rw [eK, eK, eK]
      by_cases hl : l' = l
      · subst hl
        rw [if_neg (by omega), if_neg (by omega), if_pos rfl, if_neg (by omega), if_pos (by omega), if_pos (by omega)]
        omega
      · rw [if_neg (by omega), if_neg (by omega), if_neg (by omega), if_neg (by omega), if_neg (by omega), if_neg (by omega), if_neg (by omega), if_neg (by omega), if_neg (by omega)]
        exact this
    · exact (h.pq p0 p1).congr (h.wp p0 p1).rc.2 (fun i i0 i1 => eo _ (by omega)) (eL 45 (by decide) (by decide)) (congrFun (eL 46 (by decide) (by decide)) p) (eL 47 (by decide) (by decide)) (eL 48 (by decide) (by decide)) (eL 49 (by decide) (by decide)) (eL 50 (by decide) (by decide))
    · show M' 55 i = _
      rw [eL 55 (by decide) (by decide), eo _ (by omega)]
      exact h.term i0 i1
    · show M' 56 i = _
      rw [eT, eK]
      have := h.rl i0 i1
      by_cases q1 : i = l * 3 + 2
      · rw [if_pos q1, if_pos (show 160 + i = 160 + 3 * l + 2 by omega)]
      · rw [if_neg q1, if_neg (show ¬ 160 + i = 160 + 3 * l + 2 by omega)]
        by_cases q2 : i = l * 3 + 1
        · rw [if_pos q2, if_pos (show 160 + i = 160 + 3 * l + 1 by omega)]
        · rw [if_neg q2, if_neg (show ¬ 160 + i = 160 + 3 * l + 1 by omega)]
          by_cases q3 : i = l * 3
          · rw [if_pos q3, if_pos (show 160 + i = 160 + 3 * l by omega)]
          · rw [if_neg q3, if_neg (show ¬ 160 + i = 160 + 3 * l by omega)]
            exact this
theorem s_rule {d t : Nat} {M : ZM} (ht : t < 512) (h : J t M) {l a b : Int} : zcI (d + 3) 112 [zA 29, zI l, zI a, zI b] M (fun x M1 => zcI (d + 3) 198 [zA 113, zI l, zI a, zI b] M1 (fun y M2 => x = y ∧ J (t + 1) M2)) := by
  have hv := h.2.2.2.2.2.1.1
  have no : ¬ (0 ≤ l ∧ l ≤ 5 ∧ 0 ≤ a ∧ a ≤ 10 ∧ 0 ≤ b ∧ b ≤ 10 - a) → wX9_rule (d + 2) 29 [(0, zA 29)] M (fun x M1 => zcI (d + 3) 198 [zA 113, zI l, zI a, zI b] M1 (fun y M2 => x = y ∧ J (t + 1) M2)) := by
    intro hn
    apply vX9_rule_29
    refine c_no ht h ?_
    apply vX10_rule
    repeat' (first | omega | apply m_isLook | apply m_lies | exact m_no ht h (by omega) ⟨rfl, h.refuse (by omega)⟩ | refine zset ?_ | (simp only [zupE, zcpE, reduceIte, false_and, and_false, true_and, and_true, true_or, or_true, not_true_eq_false, not_false_eq_true, true_implies, false_implies]) | refine And.intro ?_ ?_ | intro _)
  apply vX9_rule
  refine c_isLook (fun x y => ⟨fun q => by omega, fun _ => ⟨fun q => no (by omega), fun q1 => ⟨fun q => no (by omega), fun q2 => ⟨fun q => no (by omega), fun q3 => ⟨⟨by omega, by omega⟩, fun q4 => ?_, fun q => no (by omega)⟩⟩⟩⟩⟩) (fun q => ⟨fun _ => no (by omega), fun q => by omega⟩)
  refine ⟨⟨by omega, by omega⟩, by omega, zset ⟨⟨by omega, by omega⟩, ⟨by omega, by omega⟩, by omega, zset ⟨⟨by omega, by omega⟩, ⟨by omega, by omega⟩, ⟨by omega, by omega⟩, ⟨by omega, by omega⟩, by omega, zset (c_grant ?_)⟩⟩⟩
  apply vX10_rule
  refine m_isLook (fun _ _ => ⟨fun q => by omega, fun _ => m_lies (fun _ _ => ⟨fun q => by omega, fun _ => ⟨⟨by omega, by omega⟩, m_lies (fun _ _ => ⟨fun _ => ?_, fun q => by omega⟩) (fun q => by omega)⟩⟩) (fun q => by omega)⟩) (fun q => by omega)
  refine ⟨⟨by omega, by omega⟩, ⟨by omega, by omega⟩, by omega, zset ⟨⟨by omega, by omega⟩, ⟨by omega, by omega⟩, ⟨by omega, by omega⟩, by omega, zset ⟨⟨by omega, by omega⟩, ⟨by omega, by omega⟩, ⟨by omega, by omega⟩, ⟨by omega, by omega⟩, ⟨by omega, by omega⟩, by omega, zset (m_good ?_ ⟨rfl, h.rule ht x y (by omega) (by omega) (by omega) rfl⟩)⟩⟩⟩
  simp only [zupE, reduceIte, false_and, and_false, true_and, and_true, Nat.reduceEqDiff]
  omega
/-- 7 paint -/
theorem J.paint {t : Nat} {M : ZM} (h : J t M) (ht : t < 512) {p l : Int} (l0 : 0 ≤ l) (l1 : l ≤ 5) (p0 : 0 ≤ p) (p1 : p < M 115 182) (hk : M 115 (10 * p) = 0) {M' : ZM} (hM : M' = gdM (zup (gdC (zup M 46 p l)) 115 (10 * p + 1) l)) : J (t + 1) M' := by
  have hpl := h.pl
  have rows : ∀ b', b' ≠ 29 → b' ≠ 113 → b' ≠ 115 → b' ≠ 46 → M' b' = M b' := by
    intro b b1 b2 b3 b4
    subst hM
    unfold gdM gdC
    rw [zup_row b2, zup_row b2, zup_row b3, zup_row b1, zup_row b4]
  refine h.book ht (fun b b1 b2 b3 b4 => rows b b1 b2 b3 (by omega)) ?_ ?_ ?_ ?_ ?_ ?_
  · intro i hi
    subst hM
    unfold gdM gdC
    simp only [zupE, reduceIte, false_and, and_false, true_and, and_true, Nat.reduceEqDiff]
    rw [if_neg hi]
  · intro i i0 i1
    subst hM
    unfold gdM gdC
    simp only [zupE, reduceIte, false_and, and_false, true_and, and_true, Nat.reduceEqDiff]
    rw [if_neg i1, if_neg i0]
  · subst hM
    unfold gdM gdC
    simp only [zupE, reduceIte, false_and, and_false, true_and, and_true, Nat.reduceEqDiff]
  · subst hM
    unfold gdM gdC
    simp only [zupE, reduceIte, false_and, and_false, true_and, and_true, Nat.reduceEqDiff, Int.reduceEq]
  · subst hM
    unfold gdM gdC
    simp only [zupE, reduceIte, false_and, and_false, true_and, and_true, Nat.reduceEqDiff, Int.reduceEq]
  · have eK : ∀ i, M' 115 i = if i = 10 * p + 1 then l else M 115 i := by
      intro i
      subst hM
      unfold gdM gdC
      simp only [zupE, reduceIte, false_and, and_false, true_and, and_true, Nat.reduceEqDiff, Int.reduceEq]
    have eT : ∀ i, M' 46 i = if i = p then l else M 46 i := by
      intro i
      subst hM
      unfold gdM gdC
      simp only [zupE, reduceIte, false_and, and_false, true_and, and_true, Nat.reduceEqDiff, Int.reduceEq]
    have eo : ∀ i, i ≠ 10 * p + 1 → M' 115 i = M 115 i := fun i hi => by rw [eK, if_neg hi]
    have eL : ∀ b, 44 ≤ b → b ≤ 56 → b ≠ 46 → M' b = M b := fun b b1 b2 b3 => rows b (by omega) (by omega) (by omega) (by omega)
    have hW := h.wf
    refine h.2.2.1.upd ?_ (eo _ (by omega)) (fun i hi => eo _ (by omega)) (fun p p0 p1 => ⟨eo _ (by omega), eo _ (by omega)⟩) (fun q q0 q1 => ?_) (eL 44 (by decide) (by decide) (by decide)) (eL 51 (by decide) (by decide) (by decide)) (eL 52 (by decide) (by decide) (by decide)) (eL 53 (by decide) (by decide) (by decide)) (eL 54 (by decide) (by decide) (by decide)) (fun i i0 i1 => ?_) (fun i i0 i1 => ?_)
    · obtain ⟨a1, a2, a3, a4, a5, a6, a7, a8⟩ := hW
      unfold WF
      rw [eo 182 (by omega), eo 183 (by omega), eo 178 (by omega), eo 179 (by omega), eo 180 (by omega), eo 181 (by omega)]
      refine ⟨a1, a2, a3, a4, a5, fun l' l0' l1' => ?_, a7, fun q q0 q1 => ?_⟩
      · rw [eo _ (by omega), eo _ (by omega), eo _ (by omega)]; exact a6 l' l0' l1'
      · by_cases hq : q = p
        · subst hq
          have hw := a8 q q0 q1
          have hr := hw.rc
          unfold WP at *
          rw [eo (10 * q) (by omega), eo (10 * q + 2) (by omega), eo (10 * q + 6) (by omega), eo (10 * q + 7) (by omega), eo (10 * q + 8) (by omega)]
          refine ⟨hw.1, fun z => ⟨by rw [eK, if_pos rfl]; omega, (hw.2.1 z).2⟩, fun z => by omega, fun z => by omega, fun z => by omega, fun k k0 k1 => ?_⟩
          rw [eo _ (by omega)]; exact hw.2.2.2.2.2 k k0 k1
        · exact (a8 q q0 q1).congr (fun i i0 i1 => eo _ (by omega))
    · by_cases hq : q = p
      · subst hq
        have hw := h.pq q0 q1
        have hr := (h.wp q0 q1).rc
        unfold PQ at *
        have f1 : bL M' 44 1 = M 45 := eL 45 (by decide) (by decide) (by decide)
        have f3 : bL M' 44 3 = M 47 := eL 47 (by decide) (by decide) (by decide)
        have f4 : bL M' 44 4 = M 48 := eL 48 (by decide) (by decide) (by decide)
        have f5 : bL M' 44 5 = M 49 := eL 49 (by decide) (by decide) (by decide)
        have f6 : bL M' 44 6 = M 50 := eL 50 (by decide) (by decide) (by decide)
        rw [f1, f3, f4, f5, f6, eo (10 * q) (by omega), eo (10 * q + 2) (by omega)]
        refine ⟨hw.1, fun z => ?_, fun z => by omega, hw.2.2.2.1, hw.2.2.2.2.1, fun k k0 k1 => ?_, fun z => by omega⟩
        · show M' 46 q = _
          rw [eT, if_pos rfl, eK, if_pos rfl]
        · rw [eo _ (by omega)]; exact hw.2.2.2.2.2.1 k k0 k1
      · exact (h.pq q0 q1).congr (h.wp q0 q1).rc.2 (fun i i0 i1 => eo _ (by omega)) (eL 45 (by decide) (by decide) (by decide)) (by show M' 46 q = M 46 q; rw [eT, if_neg hq]) (eL 47 (by decide) (by decide) (by decide)) (eL 48 (by decide) (by decide) (by decide)) (eL 49 (by decide) (by decide) (by decide)) (eL 50 (by decide) (by decide) (by decide))
    · show M' 55 i = _
      rw [eL 55 (by decide) (by decide) (by decide), eo _ (by omega)]
      exact h.term i0 i1
    · show M' 56 i = _
      rw [eL 56 (by decide) (by decide) (by decide), eo _ (by omega)]
      exact h.rl i0 i1
theorem s_paint {d t : Nat} {M : ZM} (ht : t < 512) (h : J t M) {p l : Int} : zcI (d + 4) 110 [zA 29, zI p, zI l] M (fun x M1 => zcI (d + 4) 196 [zA 113, zI p, zI l] M1 (fun y M2 => x = y ∧ J (t + 1) M2)) := by
  have hv := h.2.2.2.2.2.1.1
  have hW := h.pl
  have hs := h.size
  have eC : ∀ k, rfC M k 115 = M 115 := fun k => by unfold rfC; rw [zup_row (by decide), zup_row (by decide)]
  have hW' : ∀ k, 0 ≤ rfC M k 115 182 ∧ rfC M k 115 182 ≤ 16 := fun k => by rw [eC]; exact hW
  apply vX9_paint
  refine c_isLook (fun l0 l1 => ⟨fun _ => c_has (fun p0 p1 => ⟨fun _ => c_isKind (by omega) (fun _ _ hk => ⟨fun _ => ?_, fun q => by omega⟩) (fun hk => ⟨fun q => by omega, fun _ => c_no ht h ?_⟩), fun q => by omega⟩) (fun q => ⟨fun q => by omega, fun _ => c_no ht h ?_⟩), fun q => by omega⟩) (fun q => ⟨fun q => by omega, fun _ => c_no ht h ?_⟩)
  · have ek := h.kind p0 (by omega)
    refine ⟨by omega, by omega, zset (c_grant ?_)⟩
    have e115 : zup (zup M 46 p l) 29 15 0 115 = M 115 := by rw [zup_row (by decide), zup_row (by decide)]
    apply vX10_paint
    refine m_isLook (fun _ _ => ⟨fun _ => m_isPlace (by rw [e115]; exact hW) (fun _ _ => ⟨fun _ => m_isFork (by rw [e115]; exact hW) (fun _ _ hk' => ⟨fun _ => m_fld (by omega) (by omega) ?_, fun q => by omega⟩) (fun q => ?_), fun q => by omega⟩) (fun q => ?_), fun q => by omega⟩) (fun q => by omega)
    · rw [Int.zero_add]
      refine ⟨⟨by omega, by omega⟩, ⟨by omega, by omega⟩, ⟨by omega, by omega⟩, by omega, zset (m_good ?_ ⟨?_, h.paint ht l0 l1 p0 (by omega) (by omega) rfl⟩)⟩
      · simp only [zupE, reduceIte, false_and, and_false, true_and, and_true, Nat.reduceEqDiff]
        omega
      · rw [e115]; exact h.look p0 (by omega) (by omega)
    · rw [e115] at q; omega
    · rw [e115] at q; omega
  · apply vX10_paint
    have ek := h.kind p0 (by omega)
    refine m_isLook (fun _ _ => ⟨fun _ => m_isPlace (hW' _) (fun _ _ => ⟨fun _ => m_isFork (hW' _) (fun _ _ hk' => ?_) (fun _ => ⟨fun q => by omega, fun _ => m_no ht h (by omega) ⟨rfl, h.refuse (by omega)⟩⟩), fun q => by omega⟩) (fun q => ?_), fun q => by omega⟩) (fun q => by omega)
    · rw [eC] at hk'; omega
    · rw [eC] at q; omega
  · apply vX10_paint
    refine m_isLook (fun _ _ => ⟨fun _ => m_isPlace (hW' _) (fun a b => ?_) (fun _ => ⟨fun q => by omega, fun _ => m_no ht h (by omega) ⟨rfl, h.refuse (by omega)⟩⟩), fun q => by omega⟩) (fun q => by omega)
    rw [eC] at b; omega
  · apply vX10_paint
    exact m_isLook (fun _ _ => by omega) (fun _ => ⟨fun q => by omega, fun _ => m_no ht h (by omega) ⟨rfl, h.refuse (by omega)⟩⟩)
