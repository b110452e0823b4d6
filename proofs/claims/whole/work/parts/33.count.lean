/-! count -/
section Count
variable {d t : Nat} {M : ZM}
theorem s_count (h : J t M) {w : Int} : zcI (d + 5) 137 [zA 29, zI w] M (fun x M1 => zcI (d + 5) 250 [zA 113, zI w] M1 (fun y M2 => x = y ∧ J (t + 1) M2)) := by
  have hp := h.pl
  have hs := h.size
  have hu := h.wf.us
  have hur := hu.r (by decide)
  obtain ⟨r0, r1, r2, r3, r4⟩ := h.2.1
  obtain ⟨t0, -, -⟩ := h.1
  have lp : ∀ (x : Int), (w = 0 → x = M 115 182) → (w = 1 → x = fB (M 115) (M 115 182).toNat) → (w = 2 → x = bC (uS (M 115))) → (w = 3 → x = M 113 9) → (w = 4 → x = M 114 1) → (w = 5 → x = M 114 2) → (w = 6 → x = M 114 3) → (w = 7 → x = M 114 6) → (w = 8 → x = M 115 178) → (w = 9 → x = M 115 179) → (w = 10 → x = M 115 180) → (w = 11 → x = M 115 181) → (w < 0 ∨ 11 < w → x = -1000) → zcI (d + 5) 250 [zA 113, zI w] M (fun y M2 => x = y ∧ J (t + 1) M2) := by
    intro x w0 w1 w2 w3 w4 w5 w6 w7 w8 w9 w10 w11 w12
    have lp : ∀ n p : Nat, p + n = (M 115 182).toNat → wX10_count (d + 4) 4 [(0, zA 113), (1, zI w), (2, zI (fB (M 115) p)), (3, zI p)] M (fun y M2 => x = y ∧ J (t + 1) M2) := by
      intro n
      induction n with
      | zero =>
        intro p hn
        have e : p = (M 115 182).toNat := by omega
        apply vX10_count_4
        refine m_places ⟨fun _ => ?_, fun q => by omega⟩
        refine ⟨by omega, fun q => m_places ⟨w0 q, h.idle⟩, fun q0 => ⟨fun q => ⟨by rw [e]; exact w1 q, h.idle⟩, fun q1 => ⟨fun q => m_used hp (m_ones hur.1 hur.2 ⟨w2 q, h.idle⟩), fun q2 => ⟨fun q => ⟨w3 q, h.idle⟩, fun q3 => ⟨fun q => ⟨⟨by omega, by omega⟩, by omega, by rw [q]; exact w4 q, h.idle⟩, fun q4 => ⟨fun q => ⟨⟨by omega, by omega⟩, by omega, by rw [q]; exact w5 q, h.idle⟩, fun q5 => ⟨fun q => ⟨⟨by omega, by omega⟩, by omega, by rw [q]; exact w6 q, h.idle⟩, fun q6 => ⟨fun q => ⟨by omega, w7 q, h.idle⟩, fun q7 => ⟨fun q => ⟨⟨by omega, by omega⟩, ⟨by omega, by omega⟩, by omega, by rw [q]; exact w8 q, h.idle⟩, fun q8 => ⟨fun q => ⟨⟨by omega, by omega⟩, ⟨by omega, by omega⟩, by omega, by rw [q]; exact w9 q, h.idle⟩, fun q9 => ⟨fun q => ⟨⟨by omega, by omega⟩, ⟨by omega, by omega⟩, by omega, by rw [q]; exact w10 q, h.idle⟩, fun q10 => ⟨fun q => ⟨⟨by omega, by omega⟩, ⟨by omega, by omega⟩, by omega, by rw [q]; exact w11 q, h.idle⟩, fun q11 => ⟨w12 (by omega), h.idle⟩⟩⟩⟩⟩⟩⟩⟩⟩⟩⟩⟩⟩
      | succ n ih =>
        intro p hn
        have nx := ih (p + 1) (by omega)
        have rg := fB_rg (M 115) p
        unfold fB at nx
        apply vX10_count_4
        refine m_places ⟨fun q => by omega, fun _ => m_isFork hp (fun a b q => ⟨fun e => by omega, fun _ => ?_⟩) (fun q => ⟨fun _ => ?_, fun e => by omega⟩)⟩
        · rw [if_pos q] at nx
          exact ⟨⟨by omega, by omega⟩, ⟨by omega, by omega⟩, nx⟩
        · rw [if_neg (by omega)] at nx
          refine ⟨⟨by omega, by omega⟩, ⟨by omega, by omega⟩, ?_⟩
          rw [Int.add_zero]
          exact nx
    exact vX10_count _ _ _ _ (lp _ 0 (Nat.zero_add _))
  have k45 : ¬ (4 ≤ w ∧ w ≤ 11) → wX9_count (d + 4) 45 [(0, zA 29), (1, zI w)] M (fun x M1 => zcI (d + 5) 250 [zA 113, zI w] M1 (fun y M2 => x = y ∧ J (t + 1) M2)) := by
    intro hw
    apply vX9_count_45
    refine ⟨by omega, fun q => lp _ (fun _ => hs) (by omega) (by omega) (by omega) (by omega) (by omega) (by omega) (by omega) (by omega) (by omega) (by omega) (by omega) (by omega), fun q0 => ⟨fun q => c_forks h (lp _ (by omega) (fun _ => rfl) (by omega) (by omega) (by omega) (by omega) (by omega) (by omega) (by omega) (by omega) (by omega) (by omega) (by omega)), fun q1 => ⟨fun q => c_used h (c_bitCount hu (lp _ (by omega) (by omega) (fun _ => rfl) (by omega) (by omega) (by omega) (by omega) (by omega) (by omega) (by omega) (by omega) (by omega) (by omega))), fun q2 => ⟨fun q => lp _ (by omega) (by omega) (by omega) (fun _ => t0.1) (by omega) (by omega) (by omega) (by omega) (by omega) (by omega) (by omega) (by omega) (by omega), fun q3 => lp _ (by omega) (by omega) (by omega) (by omega) (by omega) (by omega) (by omega) (by omega) (by omega) (by omega) (by omega) (by omega) (fun _ => rfl)⟩⟩⟩⟩
  have k20 : ¬ (4 ≤ w ∧ w ≤ 7) → wX9_count (d + 4) 20 [(0, zA 29), (1, zI w)] M (fun x M1 => zcI (d + 5) 250 [zA 113, zI w] M1 (fun y M2 => x = y ∧ J (t + 1) M2)) := by
    intro hw
    apply vX9_count_20
    refine ⟨fun q => k45 (by omega), fun q1 => ⟨fun q => k45 (by omega), fun q2 => ⟨⟨by omega, by omega⟩, by omega, ?_⟩⟩⟩
    have e := h.term (i := w - 8) (by omega) (by omega)
    refine lp _ (by omega) (by omega) (by omega) (by omega) (by omega) (by omega) (by omega) (by omega) ?_ ?_ ?_ ?_ (by omega)
    · rintro rfl; exact e
    · rintro rfl; exact e
    · rintro rfl; exact e
    · rintro rfl; exact e
  apply vX9_count
  refine ⟨fun q => k20 (by omega), fun q1 => ⟨fun q => k20 (by omega), fun q2 => ⟨⟨by omega, by omega⟩, by omega, ?_⟩⟩⟩
  refine lp _ (by omega) (by omega) (by omega) (by omega) ?_ ?_ ?_ ?_ (by omega) (by omega) (by omega) (by omega) (by omega)
  · rintro rfl; exact r1.1
  · rintro rfl; exact r2.1
  · rintro rfl; exact r3.1
  · rintro rfl; exact r4.1
end Count
