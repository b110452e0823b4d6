/-! more easy calls: of, terms, rule, paint -/
section Easy2
variable {d t : Nat} {M : ZM}
/-- the book, as J has it -/
theorem J.wf {t : Nat} {M : ZM} (h : J t M) : WF (M 115) := h.2.2.1.1
theorem J.size {t : Nat} {M : ZM} (h : J t M) : M 44 0 = M 115 182 := h.2.2.1.2.1
theorem J.pl {t : Nat} {M : ZM} (h : J t M) : 0 ≤ M 115 182 ∧ M 115 182 ≤ 16 := h.wf.1
theorem J.pq {t : Nat} {M : ZM} (h : J t M) {p : Int} (h0 : 0 ≤ p) (h1 : p < M 115 182) : PQ (M 115) (bL M 44) p := (h.2.2.1.2.2.1 p h0 h1).1
theorem J.kind {t : Nat} {M : ZM} (h : J t M) {p : Int} (h0 : 0 ≤ p) (h1 : p < M 115 182) : M 45 p = M 115 (10 * p) := (h.pq h0 h1).1
theorem J.look {t : Nat} {M : ZM} (h : J t M) {p : Int} (h0 : 0 ≤ p) (h1 : p < M 115 182) (hk : M 115 (10 * p) = 0) : M 46 p = M 115 (10 * p + 1) := (h.pq h0 h1).2.1 hk
theorem J.toll {t : Nat} {M : ZM} (h : J t M) {p : Int} (h0 : 0 ≤ p) (h1 : p < M 115 182) (hk : M 115 (10 * p) = 2) : M 47 p = M 115 (10 * p + 1) := (h.pq h0 h1).2.2.1 hk
theorem J.toll0 {t : Nat} {M : ZM} (h : J t M) {p : Int} (h0 : 0 ≤ p) (h1 : p < M 115 182) (hk : M 115 (10 * p) ≠ 2) : M 47 p = 0 := (h.pq h0 h1).2.2.2.1 hk
theorem J.rc {t : Nat} {M : ZM} (h : J t M) {p : Int} (h0 : 0 ≤ p) (h1 : p < M 115 182) : M 48 p = M 115 (10 * p + 2) := (h.pq h0 h1).2.2.2.2.1
theorem J.rd {t : Nat} {M : ZM} (h : J t M) {p k : Int} (h0 : 0 ≤ p) (h1 : p < M 115 182) (k0 : 0 ≤ k) (k1 : k < M 115 (10 * p + 2)) : M 49 (p * 3 + k) = M 115 (10 * p + 3 + k) := (h.pq h0 h1).2.2.2.2.2.1 k k0 k1
theorem J.tn {t : Nat} {M : ZM} (h : J t M) {p k : Int} (h0 : 0 ≤ p) (h1 : p < M 115 182) (hk : M 115 (10 * p) = 1) (k0 : 0 ≤ k) (k1 : k < M 115 (10 * p + 2)) : M 50 (p * 3 + k) = M 115 (10 * p + 6 + k) := (h.pq h0 h1).2.2.2.2.2.2 hk k k0 k1
theorem J.term {t : Nat} {M : ZM} (h : J t M) {i : Int} (h0 : 0 ≤ i) (h1 : i < 4) : M 55 i = M 115 (178 + i) := h.2.2.1.2.2.2.1 i h0 h1
theorem J.rl {t : Nat} {M : ZM} (h : J t M) {i : Int} (h0 : 0 ≤ i) (h1 : i < 18) : M 56 i = M 115 (160 + i) := h.2.2.1.2.2.2.2 i h0 h1
theorem J.wp {t : Nat} {M : ZM} (h : J t M) {p : Int} (h0 : 0 ≤ p) (h1 : p < M 115 182) : WP (M 115) p := h.wf.2.2.2.2.2.2.2 p h0 h1
/-- how many ROADS -/
theorem WP.rc {K : Int → Int} {p : Int} (h : WP K p) : 0 ≤ K (10 * p + 2) ∧ K (10 * p + 2) ≤ 3 := by
  obtain ⟨h1, h2, h3, h4, h5, h6⟩ := h
  have : K (10 * p) = 0 ∨ K (10 * p) = 1 ∨ K (10 * p) = 2 ∨ K (10 * p) = 3 := by omega
  rcases this with q | q | q | q
  · have := h2 q; omega
  · have := h3 q; omega
  · have := h4 q; omega
  · have := h5 q; omega
/-- 5 of -/
def ofS (K : Int → Int) (p w : Int) : Int :=
  if ¬ (0 ≤ p ∧ p < K 182) then -1 else if w = 0 then K (10 * p) else if w = 1 then (if K (10 * p) = 0 then K (10 * p + 1) else -1) else if w = 2 then (if K (10 * p) = 2 then K (10 * p + 1) else -1)
  else if w = 3 then K (10 * p + 2) else if 4 ≤ w ∧ w < 7 ∧ w - 4 < K (10 * p + 2) then K (10 * p + 3 + (w - 4)) else if 7 ≤ w ∧ w < 10 ∧ K (10 * p) = 1 ∧ w - 7 < K (10 * p + 2) then K (10 * p + 6 + (w - 7)) else -1
theorem s_of (h : J t M) {p w : Int} (hw : r32 w) : zcI (d + 4) 108 [zA 29, zI p, zI w] M (fun x M1 => zcI (d + 4) 194 [zA 113, zI p, zI w] M1 (fun y M2 => x = y ∧ J (t + 1) M2)) := by
  have hm : zcI (d + 4) 194 [zA 113, zI p, zI w] M (fun y M2 => ofS (M 115) p w = y ∧ J (t + 1) M2) := by
    unfold ofS
    have hW := h.pl
    by_cases hp : 0 ≤ p ∧ p < M 115 182
    · have hr := (h.wp hp.1 hp.2).rc
      have h5 := (h.wp hp.1 hp.2).2.2.2.2.1
      apply vX10_of
      repeat' (first | omega | apply (m_isPlace hW) | apply m_lies | apply m_kind | apply m_fldk | apply m_fld | apply vX10_of_104 | apply vX10_of_133 | exact h.idle | refine zset ?_ | (simp only [zupE, zcpE, reduceIte, false_and, and_false, true_and, and_true, true_or, or_true, not_true_eq_false, not_false_eq_true, true_implies, false_implies]) | refine And.intro ?_ ?_ | intro _)
    · apply vX10_of
      repeat' (first | omega | apply (m_isPlace hW) | exact h.idle | refine zset ?_ | (simp only [zupE, zcpE, reduceIte, false_and, and_false, true_and, and_true, true_or, or_true, not_true_eq_false, not_false_eq_true, true_implies, false_implies]) | refine And.intro ?_ ?_ | intro _)
  have hW := h.size
  have hW2 := h.pl
  unfold r32 at hw
  unfold ofS at hm
  apply vX9_of
  by_cases hp : 0 ≤ p ∧ p < M 115 182
  · have hr := (h.wp hp.1 hp.2).rc
    have e1 := h.kind hp.1 hp.2
    have e2 := h.rc hp.1 hp.2
    rw [if_neg (fun q => q hp)] at hm
    refine c_has (fun a b => ⟨fun _ => ?_, fun q => by omega⟩) (fun a => by omega)
    apply vX3_told
    refine ⟨fun w0 => ⟨fun w1 => ⟨fun w2 => ⟨fun w3 => ?_, fun w3 => ?_⟩, fun w2 => ?_⟩, fun w1 => ?_⟩, fun w0 => ?_⟩
    · rw [if_neg w0, if_neg w1, if_neg w2, if_neg w3] at hm
      have nxt : ¬ (4 ≤ w ∧ w < 7 ∧ w - 4 < M 115 (10 * p + 2)) → wX3_told (d + 2) 104 [(0, zA 44), (1, zI p), (2, zI w)] M (fun x M1 => zcI (d + 4) 194 [zA 113, zI p, zI w] M1 (fun y M2 => x = y ∧ J (t + 1) M2)) := by
        intro hn
        rw [if_neg hn] at hm
        apply vX3_told_104
        refine ⟨by omega, fun k => ?_, fun k => ⟨fun a => ?_, fun a => ⟨⟨by omega, by omega⟩, by omega, fun b => ?_, fun b => ⟨⟨by omega, by omega⟩, ⟨by omega, by omega⟩, ⟨by omega, by omega⟩, by omega, ?_⟩⟩⟩⟩
        · rw [if_neg (by omega)] at hm; exact hm
        · rw [if_neg (by omega)] at hm; exact hm
        · rw [if_neg (by omega)] at hm; exact hm
        · rw [if_pos (by omega)] at hm
          rw [show p * 3 + w - 7 = p * 3 + (w - 7) by omega, h.tn hp.1 hp.2 (by omega) (by omega) (by omega)]
          exact hm
      refine ⟨fun a => nxt (by omega), fun a => ⟨⟨by omega, by omega⟩, by omega, fun b => nxt (by omega), fun b => ⟨⟨by omega, by omega⟩, ⟨by omega, by omega⟩, ⟨by omega, by omega⟩, by omega, ?_⟩⟩⟩
      rw [if_pos (by omega)] at hm
      rw [show p * 3 + w - 4 = p * 3 + (w - 4) by omega, h.rd hp.1 hp.2 (by omega) (by omega)]
      exact hm
    · rw [if_neg w0, if_neg w1, if_neg w2, if_pos w3] at hm
      rw [e2]; exact ⟨by omega, hm⟩
    · rw [if_neg w0, if_neg w1, if_pos w2] at hm
      refine ⟨by omega, fun k => ?_, fun k => ⟨by omega, ?_⟩⟩
      · rw [if_neg (by omega)] at hm; exact hm
      · rw [if_pos (by omega)] at hm
        rw [h.toll hp.1 hp.2 (by omega)]; exact hm
    · rw [if_neg w0, if_pos w1] at hm
      refine ⟨by omega, fun k => ?_, fun k => ⟨by omega, ?_⟩⟩
      · rw [if_neg (by omega)] at hm; exact hm
      · rw [if_pos (by omega)] at hm
        rw [h.look hp.1 hp.2 (by omega)]; exact hm
    · rw [if_pos w0] at hm
      rw [e1]; exact ⟨by omega, hm⟩
  · rw [if_pos hp] at hm
    exact c_has (fun a b => by omega) (fun a => ⟨fun q => by omega, fun _ => hm⟩)
end Easy2
