/-! rows copied: Land, Book; image, back -/
def lenL (j : Nat) : Int := if j = 0 then 1 else if j = 5 ∨ j = 6 then 48 else if j = 10 then 400 else if j = 11 then 4 else if j = 12 then 18 else 16
theorem c_copyRow {d a b n : Nat} {M : ZM} {K : ZM → Prop} (ha : zt a = (100, n)) (hb : zt b = (100, n)) (ho : Nat.ble 29 b = true) (h : K (zcp M a 0 b 0 n)) : zcV (d + 1) 30 [zA a, zA b] M K := by
  refine vX3_copyRow d a b M K ?_
  have a1 : zk a = 100 := by unfold zk; rw [ha]
  have b1 : zk b = 100 := by unfold zk; rw [hb]
  have a2 : zn a = n := by unfold zn; rw [ha]
  have b2 : zn b = n := by unfold zn; rw [hb]
  rw [a1, b1, a2, b2, ho, show min (n : Int) (n : Int) = n by omega]
  exact ⟨by omega, zset h⟩
theorem tRun_congr {co co' : Int → Int} (e : ∀ i, 0 ≤ i → i < 400 → co' i = co i) (ev : Int → Int) (to : Int) : ∀ (n : Nat) (i : Int) (st : List Int), 0 ≤ i → tRun co' ev to n i st = tRun co ev to n i st := by
  intro n
  induction n with
  | zero => intro i st _; rfl
  | succ n ih =>
    intro i st h0
    unfold tRun
    by_cases hi : i < to ∧ i < 400
    · rw [if_pos hi, if_pos hi, e i h0 hi.2]
      simp only [ih _ _ (show 0 ≤ i + 1 by omega), ih _ _ (show 0 ≤ max i (co i / 16 - 1) + 1 by omega)]
    · rw [if_neg hi, if_neg hi]
theorem BK.cong {K K' : Int → Int} {L L' : LB} (h : BK K L) (eK : ∀ i, 0 ≤ i → i < 984 → K' i = K i) (eL : ∀ j i, j ≤ 12 → 0 ≤ i → i < lenL j → L' j i = L j i) : BK K' L' := by
  obtain ⟨h1, h2, h3, h4, h5⟩ := h
  have hW : WF K' := by
    obtain ⟨a1, a2, a3, a4, a5, a6, a7, a8⟩ := h1
    unfold WF
    rw [eK 182 (by omega) (by omega), eK 183 (by omega) (by omega), eK 178 (by omega) (by omega), eK 179 (by omega) (by omega), eK 180 (by omega) (by omega), eK 181 (by omega) (by omega)]
    refine ⟨a1, a2, a3, a4, a5, fun l l0 l1 => ?_, a7, fun p p0 p1 => (a8 p p0 p1).congr (fun i i0 i1 => eK i (by omega) (by omega))⟩
    rw [eK _ (by omega) (by omega), eK _ (by omega) (by omega), eK _ (by omega) (by omega)]
    exact a6 l l0 l1
  have hpl := h1.1
  refine ⟨hW, by rw [eK 182 (by omega) (by omega), eL 0 0 (by omega) (by omega) (by decide)]; exact h2, fun p p0 p1 => ?_, fun i i0 i1 => by rw [eK _ (by omega) (by omega), eL 11 i (by omega) i0 i1]; exact h4 i i0 i1, fun i i0 i1 => by rw [eK _ (by omega) (by omega), eL 12 i (by omega) i0 i1]; exact h5 i i0 i1⟩
  rw [eK 182 (by omega) (by omega)] at p1
  obtain ⟨q1, q2⟩ := h3 p p0 p1
  have hr := (h1.2.2.2.2.2.2.2 p p0 p1).rc
  have l16 : ∀ j, (j = 1 ∨ j = 2 ∨ j = 3 ∨ j = 4 ∨ j = 7 ∨ j = 8 ∨ j = 9) → L' j p = L j p := fun j hj => eL j p (by omega) p0 (by rcases hj with rfl | rfl | rfl | rfl | rfl | rfl | rfl <;> simp [lenL] <;> omega)
  constructor
  · unfold PQ at *
    rw [eK (10 * p) (by omega) (by omega), eK (10 * p + 1) (by omega) (by omega), eK (10 * p + 2) (by omega) (by omega), l16 1 (by omega), l16 2 (by omega), l16 3 (by omega), l16 4 (by omega)]
    refine ⟨q1.1, q1.2.1, q1.2.2.1, q1.2.2.2.1, q1.2.2.2.2.1, fun k k0 k1 => ?_, fun z k k0 k1 => ?_⟩
    · rw [eK _ (by omega) (by omega), eL 5 _ (by omega) (by omega) (by simp [lenL]; omega)]; exact q1.2.2.2.2.2.1 k k0 k1
    · rw [eK _ (by omega) (by omega), eL 6 _ (by omega) (by omega) (by simp [lenL]; omega)]; exact q1.2.2.2.2.2.2 z k k0 k1
  · intro hk
    rw [eK (10 * p) (by omega) (by omega)] at hk
    obtain ⟨⟨f0, f1, f2⟩, f, f3, f4⟩ := q2 hk
    have ht := h1.2.2.2.2.2.2.1
    have c1 : cTok K' = cTok K := by
      funext i
      unfold cTok
      rw [eK 183 (by omega) (by omega)]
      by_cases hi : 0 ≤ i ∧ i < K 183
      · rw [if_pos hi, if_pos hi, eK _ (by omega) (by omega)]
      · rw [if_neg hi, if_neg hi]
    have c2 : vTok K' = vTok K := by
      funext i
      unfold vTok
      rw [eK 183 (by omega) (by omega)]
      by_cases hi : 0 ≤ i ∧ i < K 183
      · rw [if_pos hi, if_pos hi, eK _ (by omega) (by omega)]
      · rw [if_neg hi, if_neg hi]
    unfold EQ
    rw [l16 7 (by omega), l16 8 (by omega), eK (10 * p + 9) (by omega) (by omega), c1, c2]
    refine ⟨⟨f0, f1, f2⟩, f, f3, fun s d s0 s1 d0 d1 => ?_⟩
    rw [← f4 s d s0 s1 d0 d1]
    unfold tTell
    have ec : ∀ i, 0 ≤ i → i < 400 → L' 10 i = L 10 i := fun i i0 i1 => eL 10 i (by omega) i0 (by simp [lenL]; omega)
    rw [l16 7 (by omega), l16 8 (by omega), l16 9 (by omega), tRun_congr ec _ _ _ _ _ f1, tRun_congr ec _ _ _ _ _ f0]
theorem c_copyLand_44_31 {d : Nat} {M : ZM} {K : ZM → Prop} (h : ∀ M', (∀ b, (b < 44 ∨ 54 < b) → M' b = M b) → (∀ j i, j ≤ 10 → 0 ≤ i → i < lenL j → M' (44 + j) i = M (31 + j) i) → K M') : zcV (d + 2) 29 [zA 44, zA 31] M K := by
  apply vX3_copyOf_at44_31
  refine zset ?_
  refine c_copyRow (n := 16) rfl rfl rfl ?_
  refine c_copyRow (n := 16) rfl rfl rfl ?_
  refine c_copyRow (n := 16) rfl rfl rfl ?_
  refine c_copyRow (n := 16) rfl rfl rfl ?_
  refine c_copyRow (n := 48) rfl rfl rfl ?_
  refine c_copyRow (n := 48) rfl rfl rfl ?_
  refine c_copyRow (n := 16) rfl rfl rfl ?_
  refine c_copyRow (n := 16) rfl rfl rfl ?_
  refine c_copyRow (n := 16) rfl rfl rfl ?_
  refine c_copyRow (n := 400) rfl rfl rfl ?_
  refine h _ (fun b hb => ?_) (fun j i hj i0 i1 => ?_)
  · rw [zcp_row (by omega), zcp_row (by omega), zcp_row (by omega), zcp_row (by omega), zcp_row (by omega), zcp_row (by omega), zcp_row (by omega), zcp_row (by omega), zcp_row (by omega), zcp_row (by omega), zup_row (by omega)]
  · rcases (by omega : j = 0 ∨ j = 1 ∨ j = 2 ∨ j = 3 ∨ j = 4 ∨ j = 5 ∨ j = 6 ∨ j = 7 ∨ j = 8 ∨ j = 9 ∨ j = 10) with rfl | rfl | rfl | rfl | rfl | rfl | rfl | rfl | rfl | rfl | rfl
    · have : i = 0 := by simp [lenL] at i1; omega
      subst this
      simp only [zcpE, zupE, Nat.reduceAdd, Nat.reduceEqDiff, false_and, reduceIte, true_and]
    · simp [lenL] at i1
      simp only [zcpE, zupE, Nat.reduceAdd, Nat.reduceEqDiff, false_and, reduceIte, true_and]
      rw [if_pos ⟨i0, by omega⟩, show 0 + (i - 0) = i by omega]
    · simp [lenL] at i1
      simp only [zcpE, zupE, Nat.reduceAdd, Nat.reduceEqDiff, false_and, reduceIte, true_and]
      rw [if_pos ⟨i0, by omega⟩, show 0 + (i - 0) = i by omega]
    · simp [lenL] at i1
      simp only [zcpE, zupE, Nat.reduceAdd, Nat.reduceEqDiff, false_and, reduceIte, true_and]
      rw [if_pos ⟨i0, by omega⟩, show 0 + (i - 0) = i by omega]
    · simp [lenL] at i1
      simp only [zcpE, zupE, Nat.reduceAdd, Nat.reduceEqDiff, false_and, reduceIte, true_and]
      rw [if_pos ⟨i0, by omega⟩, show 0 + (i - 0) = i by omega]
    · simp [lenL] at i1
      simp only [zcpE, zupE, Nat.reduceAdd, Nat.reduceEqDiff, false_and, reduceIte, true_and]
      rw [if_pos ⟨i0, by omega⟩, show 0 + (i - 0) = i by omega]
    · simp [lenL] at i1
      simp only [zcpE, zupE, Nat.reduceAdd, Nat.reduceEqDiff, false_and, reduceIte, true_and]
      rw [if_pos ⟨i0, by omega⟩, show 0 + (i - 0) = i by omega]
    · simp [lenL] at i1
      simp only [zcpE, zupE, Nat.reduceAdd, Nat.reduceEqDiff, false_and, reduceIte, true_and]
      rw [if_pos ⟨i0, by omega⟩, show 0 + (i - 0) = i by omega]
    · simp [lenL] at i1
      simp only [zcpE, zupE, Nat.reduceAdd, Nat.reduceEqDiff, false_and, reduceIte, true_and]
      rw [if_pos ⟨i0, by omega⟩, show 0 + (i - 0) = i by omega]
    · simp [lenL] at i1
      simp only [zcpE, zupE, Nat.reduceAdd, Nat.reduceEqDiff, false_and, reduceIte, true_and]
      rw [if_pos ⟨i0, by omega⟩, show 0 + (i - 0) = i by omega]
    · simp [lenL] at i1
      simp only [zcpE, zupE, Nat.reduceAdd, Nat.reduceEqDiff, false_and, reduceIte, true_and]
      rw [if_pos ⟨i0, by omega⟩, show 0 + (i - 0) = i by omega]
theorem c_copyLand_59_44 {d : Nat} {M : ZM} {K : ZM → Prop} (h : ∀ M', (∀ b, (b < 59 ∨ 69 < b) → M' b = M b) → (∀ j i, j ≤ 10 → 0 ≤ i → i < lenL j → M' (59 + j) i = M (44 + j) i) → K M') : zcV (d + 2) 29 [zA 59, zA 44] M K := by
  apply vX3_copyOf_at59_44
  refine zset ?_
  refine c_copyRow (n := 16) rfl rfl rfl ?_
  refine c_copyRow (n := 16) rfl rfl rfl ?_
  refine c_copyRow (n := 16) rfl rfl rfl ?_
  refine c_copyRow (n := 16) rfl rfl rfl ?_
  refine c_copyRow (n := 48) rfl rfl rfl ?_
  refine c_copyRow (n := 48) rfl rfl rfl ?_
  refine c_copyRow (n := 16) rfl rfl rfl ?_
  refine c_copyRow (n := 16) rfl rfl rfl ?_
  refine c_copyRow (n := 16) rfl rfl rfl ?_
  refine c_copyRow (n := 400) rfl rfl rfl ?_
  refine h _ (fun b hb => ?_) (fun j i hj i0 i1 => ?_)
  · rw [zcp_row (by omega), zcp_row (by omega), zcp_row (by omega), zcp_row (by omega), zcp_row (by omega), zcp_row (by omega), zcp_row (by omega), zcp_row (by omega), zcp_row (by omega), zcp_row (by omega), zup_row (by omega)]
  · rcases (by omega : j = 0 ∨ j = 1 ∨ j = 2 ∨ j = 3 ∨ j = 4 ∨ j = 5 ∨ j = 6 ∨ j = 7 ∨ j = 8 ∨ j = 9 ∨ j = 10) with rfl | rfl | rfl | rfl | rfl | rfl | rfl | rfl | rfl | rfl | rfl
    · have : i = 0 := by simp [lenL] at i1; omega
      subst this
      simp only [zcpE, zupE, Nat.reduceAdd, Nat.reduceEqDiff, false_and, reduceIte, true_and]
    · simp [lenL] at i1
      simp only [zcpE, zupE, Nat.reduceAdd, Nat.reduceEqDiff, false_and, reduceIte, true_and]
      rw [if_pos ⟨i0, by omega⟩, show 0 + (i - 0) = i by omega]
    · simp [lenL] at i1
      simp only [zcpE, zupE, Nat.reduceAdd, Nat.reduceEqDiff, false_and, reduceIte, true_and]
      rw [if_pos ⟨i0, by omega⟩, show 0 + (i - 0) = i by omega]
    · simp [lenL] at i1
      simp only [zcpE, zupE, Nat.reduceAdd, Nat.reduceEqDiff, false_and, reduceIte, true_and]
      rw [if_pos ⟨i0, by omega⟩, show 0 + (i - 0) = i by omega]
    · simp [lenL] at i1
      simp only [zcpE, zupE, Nat.reduceAdd, Nat.reduceEqDiff, false_and, reduceIte, true_and]
      rw [if_pos ⟨i0, by omega⟩, show 0 + (i - 0) = i by omega]
    · simp [lenL] at i1
      simp only [zcpE, zupE, Nat.reduceAdd, Nat.reduceEqDiff, false_and, reduceIte, true_and]
      rw [if_pos ⟨i0, by omega⟩, show 0 + (i - 0) = i by omega]
    · simp [lenL] at i1
      simp only [zcpE, zupE, Nat.reduceAdd, Nat.reduceEqDiff, false_and, reduceIte, true_and]
      rw [if_pos ⟨i0, by omega⟩, show 0 + (i - 0) = i by omega]
    · simp [lenL] at i1
      simp only [zcpE, zupE, Nat.reduceAdd, Nat.reduceEqDiff, false_and, reduceIte, true_and]
      rw [if_pos ⟨i0, by omega⟩, show 0 + (i - 0) = i by omega]
    · simp [lenL] at i1
      simp only [zcpE, zupE, Nat.reduceAdd, Nat.reduceEqDiff, false_and, reduceIte, true_and]
      rw [if_pos ⟨i0, by omega⟩, show 0 + (i - 0) = i by omega]
    · simp [lenL] at i1
      simp only [zcpE, zupE, Nat.reduceAdd, Nat.reduceEqDiff, false_and, reduceIte, true_and]
      rw [if_pos ⟨i0, by omega⟩, show 0 + (i - 0) = i by omega]
    · simp [lenL] at i1
      simp only [zcpE, zupE, Nat.reduceAdd, Nat.reduceEqDiff, false_and, reduceIte, true_and]
      rw [if_pos ⟨i0, by omega⟩, show 0 + (i - 0) = i by omega]
theorem c_copyLand_73_44 {d : Nat} {M : ZM} {K : ZM → Prop} (h : ∀ M', (∀ b, (b < 73 ∨ 83 < b) → M' b = M b) → (∀ j i, j ≤ 10 → 0 ≤ i → i < lenL j → M' (73 + j) i = M (44 + j) i) → K M') : zcV (d + 2) 29 [zA 73, zA 44] M K := by
  apply vX3_copyOf_at73_44
  refine zset ?_
  refine c_copyRow (n := 16) rfl rfl rfl ?_
  refine c_copyRow (n := 16) rfl rfl rfl ?_
  refine c_copyRow (n := 16) rfl rfl rfl ?_
  refine c_copyRow (n := 16) rfl rfl rfl ?_
  refine c_copyRow (n := 48) rfl rfl rfl ?_
  refine c_copyRow (n := 48) rfl rfl rfl ?_
  refine c_copyRow (n := 16) rfl rfl rfl ?_
  refine c_copyRow (n := 16) rfl rfl rfl ?_
  refine c_copyRow (n := 16) rfl rfl rfl ?_
  refine c_copyRow (n := 400) rfl rfl rfl ?_
  refine h _ (fun b hb => ?_) (fun j i hj i0 i1 => ?_)
  · rw [zcp_row (by omega), zcp_row (by omega), zcp_row (by omega), zcp_row (by omega), zcp_row (by omega), zcp_row (by omega), zcp_row (by omega), zcp_row (by omega), zcp_row (by omega), zcp_row (by omega), zup_row (by omega)]
  · rcases (by omega : j = 0 ∨ j = 1 ∨ j = 2 ∨ j = 3 ∨ j = 4 ∨ j = 5 ∨ j = 6 ∨ j = 7 ∨ j = 8 ∨ j = 9 ∨ j = 10) with rfl | rfl | rfl | rfl | rfl | rfl | rfl | rfl | rfl | rfl | rfl
    · have : i = 0 := by simp [lenL] at i1; omega
      subst this
      simp only [zcpE, zupE, Nat.reduceAdd, Nat.reduceEqDiff, false_and, reduceIte, true_and]
    · simp [lenL] at i1
      simp only [zcpE, zupE, Nat.reduceAdd, Nat.reduceEqDiff, false_and, reduceIte, true_and]
      rw [if_pos ⟨i0, by omega⟩, show 0 + (i - 0) = i by omega]
    · simp [lenL] at i1
      simp only [zcpE, zupE, Nat.reduceAdd, Nat.reduceEqDiff, false_and, reduceIte, true_and]
      rw [if_pos ⟨i0, by omega⟩, show 0 + (i - 0) = i by omega]
    · simp [lenL] at i1
      simp only [zcpE, zupE, Nat.reduceAdd, Nat.reduceEqDiff, false_and, reduceIte, true_and]
      rw [if_pos ⟨i0, by omega⟩, show 0 + (i - 0) = i by omega]
    · simp [lenL] at i1
      simp only [zcpE, zupE, Nat.reduceAdd, Nat.reduceEqDiff, false_and, reduceIte, true_and]
      rw [if_pos ⟨i0, by omega⟩, show 0 + (i - 0) = i by omega]
    · simp [lenL] at i1
      simp only [zcpE, zupE, Nat.reduceAdd, Nat.reduceEqDiff, false_and, reduceIte, true_and]
      rw [if_pos ⟨i0, by omega⟩, show 0 + (i - 0) = i by omega]
    · simp [lenL] at i1
      simp only [zcpE, zupE, Nat.reduceAdd, Nat.reduceEqDiff, false_and, reduceIte, true_and]
      rw [if_pos ⟨i0, by omega⟩, show 0 + (i - 0) = i by omega]
    · simp [lenL] at i1
      simp only [zcpE, zupE, Nat.reduceAdd, Nat.reduceEqDiff, false_and, reduceIte, true_and]
      rw [if_pos ⟨i0, by omega⟩, show 0 + (i - 0) = i by omega]
    · simp [lenL] at i1
      simp only [zcpE, zupE, Nat.reduceAdd, Nat.reduceEqDiff, false_and, reduceIte, true_and]
      rw [if_pos ⟨i0, by omega⟩, show 0 + (i - 0) = i by omega]
    · simp [lenL] at i1
      simp only [zcpE, zupE, Nat.reduceAdd, Nat.reduceEqDiff, false_and, reduceIte, true_and]
      rw [if_pos ⟨i0, by omega⟩, show 0 + (i - 0) = i by omega]
    · simp [lenL] at i1
      simp only [zcpE, zupE, Nat.reduceAdd, Nat.reduceEqDiff, false_and, reduceIte, true_and]
      rw [if_pos ⟨i0, by omega⟩, show 0 + (i - 0) = i by omega]
theorem c_copyLand_44_59 {d : Nat} {M : ZM} {K : ZM → Prop} (h : ∀ M', (∀ b, (b < 44 ∨ 54 < b) → M' b = M b) → (∀ j i, j ≤ 10 → 0 ≤ i → i < lenL j → M' (44 + j) i = M (59 + j) i) → K M') : zcV (d + 2) 29 [zA 44, zA 59] M K := by
  apply vX3_copyOf_at44_59
  refine zset ?_
  refine c_copyRow (n := 16) rfl rfl rfl ?_
  refine c_copyRow (n := 16) rfl rfl rfl ?_
  refine c_copyRow (n := 16) rfl rfl rfl ?_
  refine c_copyRow (n := 16) rfl rfl rfl ?_
  refine c_copyRow (n := 48) rfl rfl rfl ?_
  refine c_copyRow (n := 48) rfl rfl rfl ?_
  refine c_copyRow (n := 16) rfl rfl rfl ?_
  refine c_copyRow (n := 16) rfl rfl rfl ?_
  refine c_copyRow (n := 16) rfl rfl rfl ?_
  refine c_copyRow (n := 400) rfl rfl rfl ?_
  refine h _ (fun b hb => ?_) (fun j i hj i0 i1 => ?_)
  · rw [zcp_row (by omega), zcp_row (by omega), zcp_row (by omega), zcp_row (by omega), zcp_row (by omega), zcp_row (by omega), zcp_row (by omega), zcp_row (by omega), zcp_row (by omega), zcp_row (by omega), zup_row (by omega)]
  · rcases (by omega : j = 0 ∨ j = 1 ∨ j = 2 ∨ j = 3 ∨ j = 4 ∨ j = 5 ∨ j = 6 ∨ j = 7 ∨ j = 8 ∨ j = 9 ∨ j = 10) with rfl | rfl | rfl | rfl | rfl | rfl | rfl | rfl | rfl | rfl | rfl
    · have : i = 0 := by simp [lenL] at i1; omega
      subst this
      simp only [zcpE, zupE, Nat.reduceAdd, Nat.reduceEqDiff, false_and, reduceIte, true_and]
    · simp [lenL] at i1
      simp only [zcpE, zupE, Nat.reduceAdd, Nat.reduceEqDiff, false_and, reduceIte, true_and]
      rw [if_pos ⟨i0, by omega⟩, show 0 + (i - 0) = i by omega]
    · simp [lenL] at i1
      simp only [zcpE, zupE, Nat.reduceAdd, Nat.reduceEqDiff, false_and, reduceIte, true_and]
      rw [if_pos ⟨i0, by omega⟩, show 0 + (i - 0) = i by omega]
    · simp [lenL] at i1
      simp only [zcpE, zupE, Nat.reduceAdd, Nat.reduceEqDiff, false_and, reduceIte, true_and]
      rw [if_pos ⟨i0, by omega⟩, show 0 + (i - 0) = i by omega]
    · simp [lenL] at i1
      simp only [zcpE, zupE, Nat.reduceAdd, Nat.reduceEqDiff, false_and, reduceIte, true_and]
      rw [if_pos ⟨i0, by omega⟩, show 0 + (i - 0) = i by omega]
    · simp [lenL] at i1
      simp only [zcpE, zupE, Nat.reduceAdd, Nat.reduceEqDiff, false_and, reduceIte, true_and]
      rw [if_pos ⟨i0, by omega⟩, show 0 + (i - 0) = i by omega]
    · simp [lenL] at i1
      simp only [zcpE, zupE, Nat.reduceAdd, Nat.reduceEqDiff, false_and, reduceIte, true_and]
      rw [if_pos ⟨i0, by omega⟩, show 0 + (i - 0) = i by omega]
    · simp [lenL] at i1
      simp only [zcpE, zupE, Nat.reduceAdd, Nat.reduceEqDiff, false_and, reduceIte, true_and]
      rw [if_pos ⟨i0, by omega⟩, show 0 + (i - 0) = i by omega]
    · simp [lenL] at i1
      simp only [zcpE, zupE, Nat.reduceAdd, Nat.reduceEqDiff, false_and, reduceIte, true_and]
      rw [if_pos ⟨i0, by omega⟩, show 0 + (i - 0) = i by omega]
    · simp [lenL] at i1
      simp only [zcpE, zupE, Nat.reduceAdd, Nat.reduceEqDiff, false_and, reduceIte, true_and]
      rw [if_pos ⟨i0, by omega⟩, show 0 + (i - 0) = i by omega]
    · simp [lenL] at i1
      simp only [zcpE, zupE, Nat.reduceAdd, Nat.reduceEqDiff, false_and, reduceIte, true_and]
      rw [if_pos ⟨i0, by omega⟩, show 0 + (i - 0) = i by omega]
theorem c_copyLand_44_73 {d : Nat} {M : ZM} {K : ZM → Prop} (h : ∀ M', (∀ b, (b < 44 ∨ 54 < b) → M' b = M b) → (∀ j i, j ≤ 10 → 0 ≤ i → i < lenL j → M' (44 + j) i = M (73 + j) i) → K M') : zcV (d + 2) 29 [zA 44, zA 73] M K := by
  apply vX3_copyOf_at44_73
  refine zset ?_
  refine c_copyRow (n := 16) rfl rfl rfl ?_
  refine c_copyRow (n := 16) rfl rfl rfl ?_
  refine c_copyRow (n := 16) rfl rfl rfl ?_
  refine c_copyRow (n := 16) rfl rfl rfl ?_
  refine c_copyRow (n := 48) rfl rfl rfl ?_
  refine c_copyRow (n := 48) rfl rfl rfl ?_
  refine c_copyRow (n := 16) rfl rfl rfl ?_
  refine c_copyRow (n := 16) rfl rfl rfl ?_
  refine c_copyRow (n := 16) rfl rfl rfl ?_
  refine c_copyRow (n := 400) rfl rfl rfl ?_
  refine h _ (fun b hb => ?_) (fun j i hj i0 i1 => ?_)
  · rw [zcp_row (by omega), zcp_row (by omega), zcp_row (by omega), zcp_row (by omega), zcp_row (by omega), zcp_row (by omega), zcp_row (by omega), zcp_row (by omega), zcp_row (by omega), zcp_row (by omega), zup_row (by omega)]
  · rcases (by omega : j = 0 ∨ j = 1 ∨ j = 2 ∨ j = 3 ∨ j = 4 ∨ j = 5 ∨ j = 6 ∨ j = 7 ∨ j = 8 ∨ j = 9 ∨ j = 10) with rfl | rfl | rfl | rfl | rfl | rfl | rfl | rfl | rfl | rfl | rfl
    · have : i = 0 := by simp [lenL] at i1; omega
      subst this
      simp only [zcpE, zupE, Nat.reduceAdd, Nat.reduceEqDiff, false_and, reduceIte, true_and]
    · simp [lenL] at i1
      simp only [zcpE, zupE, Nat.reduceAdd, Nat.reduceEqDiff, false_and, reduceIte, true_and]
      rw [if_pos ⟨i0, by omega⟩, show 0 + (i - 0) = i by omega]
    · simp [lenL] at i1
      simp only [zcpE, zupE, Nat.reduceAdd, Nat.reduceEqDiff, false_and, reduceIte, true_and]
      rw [if_pos ⟨i0, by omega⟩, show 0 + (i - 0) = i by omega]
    · simp [lenL] at i1
      simp only [zcpE, zupE, Nat.reduceAdd, Nat.reduceEqDiff, false_and, reduceIte, true_and]
      rw [if_pos ⟨i0, by omega⟩, show 0 + (i - 0) = i by omega]
    · simp [lenL] at i1
      simp only [zcpE, zupE, Nat.reduceAdd, Nat.reduceEqDiff, false_and, reduceIte, true_and]
      rw [if_pos ⟨i0, by omega⟩, show 0 + (i - 0) = i by omega]
    · simp [lenL] at i1
      simp only [zcpE, zupE, Nat.reduceAdd, Nat.reduceEqDiff, false_and, reduceIte, true_and]
      rw [if_pos ⟨i0, by omega⟩, show 0 + (i - 0) = i by omega]
    · simp [lenL] at i1
      simp only [zcpE, zupE, Nat.reduceAdd, Nat.reduceEqDiff, false_and, reduceIte, true_and]
      rw [if_pos ⟨i0, by omega⟩, show 0 + (i - 0) = i by omega]
    · simp [lenL] at i1
      simp only [zcpE, zupE, Nat.reduceAdd, Nat.reduceEqDiff, false_and, reduceIte, true_and]
      rw [if_pos ⟨i0, by omega⟩, show 0 + (i - 0) = i by omega]
    · simp [lenL] at i1
      simp only [zcpE, zupE, Nat.reduceAdd, Nat.reduceEqDiff, false_and, reduceIte, true_and]
      rw [if_pos ⟨i0, by omega⟩, show 0 + (i - 0) = i by omega]
    · simp [lenL] at i1
      simp only [zcpE, zupE, Nat.reduceAdd, Nat.reduceEqDiff, false_and, reduceIte, true_and]
      rw [if_pos ⟨i0, by omega⟩, show 0 + (i - 0) = i by omega]
    · simp [lenL] at i1
      simp only [zcpE, zupE, Nat.reduceAdd, Nat.reduceEqDiff, false_and, reduceIte, true_and]
      rw [if_pos ⟨i0, by omega⟩, show 0 + (i - 0) = i by omega]
theorem c_copyBook_44_59 {d : Nat} {M : ZM} {K : ZM → Prop} (h : ∀ M', (∀ b, (b < 44 ∨ 56 < b) → M' b = M b) → (∀ j i, j ≤ 12 → 0 ≤ i → i < lenL j → M' (44 + j) i = M (59 + j) i) → K M') : zcV (d + 3) 1 [zA 43, zA 58] M K := by
  apply vX0_copyOf_at43_58
  refine c_copyLand_44_59 (fun M1 f1 g1 => ?_)
  refine c_copyRow (n := 4) rfl rfl rfl ?_
  refine c_copyRow (n := 18) rfl rfl rfl ?_
  refine h _ (fun b hb => ?_) (fun j i hj i0 i1 => ?_)
  · rw [zcp_row (by omega), zcp_row (by omega), f1 b (by omega)]
  · by_cases h11 : j = 11
    · subst h11
      simp [lenL] at i1
      simp only [zcpE, Nat.reduceAdd, Nat.reduceEqDiff, false_and, reduceIte, true_and]
      rw [if_pos ⟨i0, by omega⟩, show 0 + (i - 0) = i by omega, f1 70 (by omega)]
    · by_cases h12 : j = 12
      · subst h12
        simp [lenL] at i1
        simp only [zcpE, Nat.reduceAdd, Nat.reduceEqDiff, false_and, reduceIte, true_and]
        rw [if_pos ⟨i0, by omega⟩, show 0 + (i - 0) = i by omega, f1 71 (by omega)]
      · rw [zcp_row (by omega), zcp_row (by omega)]
        exact g1 j i (by omega) i0 i1
theorem c_copyBook_44_73 {d : Nat} {M : ZM} {K : ZM → Prop} (h : ∀ M', (∀ b, (b < 44 ∨ 56 < b) → M' b = M b) → (∀ j i, j ≤ 12 → 0 ≤ i → i < lenL j → M' (44 + j) i = M (73 + j) i) → K M') : zcV (d + 3) 1 [zA 43, zA 72] M K := by
  apply vX0_copyOf_at43_72
  refine c_copyLand_44_73 (fun M1 f1 g1 => ?_)
  refine c_copyRow (n := 4) rfl rfl rfl ?_
  refine c_copyRow (n := 18) rfl rfl rfl ?_
  refine h _ (fun b hb => ?_) (fun j i hj i0 i1 => ?_)
  · rw [zcp_row (by omega), zcp_row (by omega), f1 b (by omega)]
  · by_cases h11 : j = 11
    · subst h11
      simp [lenL] at i1
      simp only [zcpE, Nat.reduceAdd, Nat.reduceEqDiff, false_and, reduceIte, true_and]
      rw [if_pos ⟨i0, by omega⟩, show 0 + (i - 0) = i by omega, f1 84 (by omega)]
    · by_cases h12 : j = 12
      · subst h12
        simp [lenL] at i1
        simp only [zcpE, Nat.reduceAdd, Nat.reduceEqDiff, false_and, reduceIte, true_and]
        rw [if_pos ⟨i0, by omega⟩, show 0 + (i - 0) = i by omega, f1 85 (by omega)]
      · rw [zcp_row (by omega), zcp_row (by omega)]
        exact g1 j i (by omega) i0 i1
theorem c_copyBook_59_44 {d : Nat} {M : ZM} {K : ZM → Prop} (h : ∀ M', (∀ b, (b < 59 ∨ 71 < b) → M' b = M b) → (∀ j i, j ≤ 12 → 0 ≤ i → i < lenL j → M' (59 + j) i = M (44 + j) i) → K M') : zcV (d + 3) 1 [zA 58, zA 43] M K := by
  apply vX0_copyOf_at58_43
  refine c_copyLand_59_44 (fun M1 f1 g1 => ?_)
  refine c_copyRow (n := 4) rfl rfl rfl ?_
  refine c_copyRow (n := 18) rfl rfl rfl ?_
  refine h _ (fun b hb => ?_) (fun j i hj i0 i1 => ?_)
  · rw [zcp_row (by omega), zcp_row (by omega), f1 b (by omega)]
  · by_cases h11 : j = 11
    · subst h11
      simp [lenL] at i1
      simp only [zcpE, Nat.reduceAdd, Nat.reduceEqDiff, false_and, reduceIte, true_and]
      rw [if_pos ⟨i0, by omega⟩, show 0 + (i - 0) = i by omega, f1 55 (by omega)]
    · by_cases h12 : j = 12
      · subst h12
        simp [lenL] at i1
        simp only [zcpE, Nat.reduceAdd, Nat.reduceEqDiff, false_and, reduceIte, true_and]
        rw [if_pos ⟨i0, by omega⟩, show 0 + (i - 0) = i by omega, f1 56 (by omega)]
      · rw [zcp_row (by omega), zcp_row (by omega)]
        exact g1 j i (by omega) i0 i1
theorem c_copyBook_73_44 {d : Nat} {M : ZM} {K : ZM → Prop} (h : ∀ M', (∀ b, (b < 73 ∨ 85 < b) → M' b = M b) → (∀ j i, j ≤ 12 → 0 ≤ i → i < lenL j → M' (73 + j) i = M (44 + j) i) → K M') : zcV (d + 3) 1 [zA 72, zA 43] M K := by
  apply vX0_copyOf_at72_43
  refine c_copyLand_73_44 (fun M1 f1 g1 => ?_)
  refine c_copyRow (n := 4) rfl rfl rfl ?_
  refine c_copyRow (n := 18) rfl rfl rfl ?_
  refine h _ (fun b hb => ?_) (fun j i hj i0 i1 => ?_)
  · rw [zcp_row (by omega), zcp_row (by omega), f1 b (by omega)]
  · by_cases h11 : j = 11
    · subst h11
      simp [lenL] at i1
      simp only [zcpE, Nat.reduceAdd, Nat.reduceEqDiff, false_and, reduceIte, true_and]
      rw [if_pos ⟨i0, by omega⟩, show 0 + (i - 0) = i by omega, f1 55 (by omega)]
    · by_cases h12 : j = 12
      · subst h12
        simp [lenL] at i1
        simp only [zcpE, Nat.reduceAdd, Nat.reduceEqDiff, false_and, reduceIte, true_and]
        rw [if_pos ⟨i0, by omega⟩, show 0 + (i - 0) = i by omega, f1 56 (by omega)]
      · rw [zcp_row (by omega), zcp_row (by omega)]
        exact g1 j i (by omega) i0 i1
