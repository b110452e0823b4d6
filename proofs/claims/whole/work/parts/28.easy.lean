/-! calls that ask or change little -/
/-- zup, read -/
theorem zup_at {M : ZM} {a : Nat} {j x i : Int} : zup M a j x a i = if i = j then x else M a i := by
  unfold zup
  simp
section Easy
variable {d t : Nat} {M : ZM} (ht : t < 512) (R : RG M) (h : J t M)
theorem J.idle {t : Nat} {M : ZM} (h : J t M) : J (t + 1) M := h.frame fr.rf h.jf h.jv
/-- 3 fault -/
theorem s_fault (h : J t M) : zcI (d + 1) 106 [zA 29] M (fun x M1 => zcI (d + 1) 180 [zA 113] M1 (fun y M2 => x = y ∧ J (t + 1) M2)) :=
  vX9_fault d M _ (vX10_fault d M _ ⟨h.1.2.1, h.idle⟩)
/-- 34 status -/
theorem s_status (h : J t M) : zcI (d + 1) 138 [zA 29] M (fun x M1 => zcI (d + 1) 251 [zA 113] M1 (fun y M2 => x = y ∧ J (t + 1) M2)) :=
  vX9_status d M _ (vX10_status d M _ ⟨h.2.1.1, h.idle⟩)
/-- 1 end -/
theorem J.taped {t : Nat} {M : ZM} (h : J t M) {n : Int} (h0 : 0 ≤ n) (h1 : n ≤ M 29 1) : J (t + 1) (zup (zup M 29 1 n) 113 9 n) := by
  obtain ⟨h1', h2, h3, h4, h5, h6, h7, h8⟩ := h.idle
  have row : ∀ b, b ≠ 29 → b ≠ 113 → zup (zup M 29 1 n) 113 9 n b = M b := fun b b1 b2 => by rw [zup_row b2, zup_row b1]
  have r29 : ∀ i, i ≠ 1 → zup (zup M 29 1 n) 113 9 n 29 i = M 29 i := fun i hi => by rw [zup_row (by decide), zup_ne (fun q => hi q.2)]
  have r113 : ∀ i, i ≠ 9 → zup (zup M 29 1 n) 113 9 n 113 i = M 113 i := fun i hi => by rw [zup_ne (fun q => hi q.2), zup_row (by decide)]
  refine ⟨?_, ?_, ?_, h4.fr (row 86 (by decide) (by decide)) (row 117 (by decide) (by decide)) (row 116 (by decide) (by decide)) (fun b b1 b2 => row b (by omega) (by omega)), h5.fr (row 110 (by decide) (by decide)) (row 111 (by decide) (by decide)) (row 139 (by decide) (by decide)) (r113 46 (by decide)) (r113 47 (by decide)), ?_, h7.fr (row 118 (by decide) (by decide)) (r113 29 (by decide)), h8.fr (row 106 (by decide) (by decide))⟩
  · unfold JT at *
    have e1 : zup (zup M 29 1 n) 113 9 n 29 1 = n := by rw [zup_row (by decide), zup_eq]
    have e2 : zup (zup M 29 1 n) 113 9 n 113 9 = n := zup_eq
    rw [e1, e2, r29 2 (by decide), r113 10 (by decide), row 30 (by decide) (by decide), row 119 (by decide) (by decide)]
    exact ⟨by omega, h1'.2.1, fun i i0 i1 => h1'.2.2 i i0 (by omega)⟩
  · unfold JR at *
    rw [r29 15 (by decide), r113 0 (by decide), row 112 (by decide) (by decide), row 114 (by decide) (by decide)]
    exact h2
  · rw [row 115 (by decide) (by decide)]
    exact h3.congr (fun j hj => row _ (by omega) (by omega))
  · unfold JW at *
    rw [r113 1 (by decide), r113 26 (by decide), row 115 (by decide) (by decide), row 126 (by decide) (by decide)]
    refine ⟨h6.1, h6.2.1, fun q p s a b c d => ?_⟩
    rw [h6.2.2 q p s a b c d, EW.fr (row 51 (by decide) (by decide)) (row 52 (by decide) (by decide)) (row 53 (by decide) (by decide)) (row 54 (by decide) (by decide)) (by rw [row 115 (by decide) (by decide)])]
theorem s_end (h : J t M) {n : Int} : zcI (d + 2) 104 [zA 29, zI n] M (fun x M1 => zcI (d + 2) 160 [zA 113, zI n] M1 (fun y M2 => x = y ∧ J (t + 1) M2)) := by
  have h1 := h.1.1
  apply vX9_end
  repeat' (first | omega | apply m_lies | apply vX10_end | exact h.idle | exact h.taped (by omega) (by omega) | refine zset ?_ | (simp only [zupE, zcpE, reduceIte, false_and, and_false, true_and, and_true, true_or, or_true, not_true_eq_false, not_false_eq_true, true_implies, false_implies]) | refine And.intro ?_ ?_ | intro _)
/-- 10 tenths -/
theorem s_tenths (h : J t M) {l k : Int} : zcI (d + 3) 113 [zA 29, zI l, zI k] M (fun x M1 => zcI (d + 3) 199 [zA 113, zI l, zI k] M1 (fun y M2 => x = y ∧ J (t + 1) M2)) := by
  have hm : zcI (d + 3) 199 [zA 113, zI l, zI k] M (fun y M2 => (if (0 ≤ l ∧ l ≤ 5) ∧ 0 ≤ k ∧ k ≤ 2 then M 115 (160 + 3 * l + k) else -1) = y ∧ J (t + 1) M2) := by
    refine vX10_tenths (d + 2) l k M _ (m_isLook (fun a b => ⟨fun q => by omega, fun _ => m_lies (fun a2 b2 => ⟨fun q => by omega, fun _ => ?_⟩) (fun a2 => ⟨fun _ => ⟨if_neg (by omega), h.idle⟩, fun q => by omega⟩)⟩) (fun a => ⟨fun _ => ⟨if_neg (by omega), h.idle⟩, fun q => by omega⟩))
    refine ⟨⟨by omega, by omega⟩, ⟨by omega, by omega⟩, ⟨by omega, by omega⟩, by omega, ?_, h.idle⟩
    rw [if_pos (by omega)]
  refine vX9_tenths (d + 2) l k M _ (c_isLook (fun a b => ⟨fun q => by omega, fun _ => ⟨fun c => ?_, fun c => ⟨fun e => ?_, fun e => ?_⟩⟩⟩) (fun a => ⟨fun _ => ?_, fun q => by omega⟩))
  · rw [if_neg (by omega)] at hm; exact hm
  · refine ⟨⟨by omega, by omega⟩, ⟨by omega, by omega⟩, by omega, ?_⟩
    rw [if_pos (by omega)] at hm
    have := h.2.2.1.2.2.2.2 (l * 3 + k) (by omega) (by omega)
    rw [show (160 : Int) + (l * 3 + k) = 160 + 3 * l + k by omega] at this
    rw [show M 56 (l * 3 + k) = M 115 (160 + 3 * l + k) from this]
    exact hm
  · rw [if_neg (by omega)] at hm; exact hm
  · rw [if_neg (by omega)] at hm; exact hm
/-- 30 rode -/
theorem s_rode (h : J t M) {s : Int} : zcL (d + 2) 134 [zA 29, zI s] M (fun x M1 => zcL (d + 2) 249 [zA 113, zI s] M1 (fun y M2 => x = y ∧ J (t + 1) M2)) := by
  obtain ⟨⟨p1, p2, p3⟩, p4, p5⟩ := h.2.2.2.2.1
  apply vX9_rode
  repeat' (first | omega | apply m_lies | apply vX10_rode | exact h.idle | exact p5 s (by omega) (by omega) | refine zset ?_ | (simp only [zupE, zcpE, reduceIte, false_and, and_false, true_and, and_true, true_or, or_true, not_true_eq_false, not_false_eq_true, true_implies, false_implies]) | refine And.intro ?_ ?_ | intro _)
end Easy
