/-- belief, but for school 1 -/
theorem s_belief0 {d t : Nat} {M : ZM} (h : J t M) {p i : Int} (hi : i ≠ 1) : zcI (d + 47) 130 [zA 29, zI p, zI i] M (fun x M1 => zcI (d + 47) 244 [zA 113, zI p, zI i] M1 (fun y M2 => x = y ∧ J (t + 1) M2)) := by
  have hW := h.wf
  have hs := h.size
  have hpl := h.pl
  have hday := hW.2.2.1
  have no : ¬ (0 ≤ p ∧ p < M 115 182 ∧ M 115 (10 * p) = 0 ∧ 0 ≤ i ∧ i ≤ 1) → zcI (d + 47) 244 [zA 113, zI p, zI i] M (fun y M2 => -1 = y ∧ J (t + 1) M2) := by
    intro hn
    apply vX10_belief
    exact m_isFork hpl (fun a b c => ⟨fun z => by omega, fun _ => m_lies (fun x y => by omega) (fun z => ⟨fun y => by omega, fun _ => ⟨rfl, h.idle⟩⟩)⟩) (fun z => ⟨fun _ => ⟨rfl, h.idle⟩, fun y => by omega⟩)
  apply vX9_belief
  refine c_isKind (by omega) (fun p0 p1 pk => ⟨fun z => by omega, fun _ => ⟨fun z => no (by omega), fun i0 => ⟨fun i1 => ?_, fun z => no (by omega)⟩⟩⟩) (fun z => ⟨fun _ => no (fun y => z ⟨y.1, by omega, by rw [h.kind y.1 y.2.1]; exact y.2.2.1⟩), fun y => by omega⟩)
  rw [hs] at p1
  rw [h.kind p0 p1] at pk
  have main : zcV (d + 46) 3 [zA 89, zI 0] M (fun M3 => zcV (d + 46) 21 [zA 106] M3 (fun M4 => (0 ≤ p ∧ p < 16) ∧ zcL (d + 46) 22 [zA 106, zI p] M4 (fun x6 M5 => zcI (d + 46) 26 [zJ (M4 109 p), zJ x6] M5 (fun x M1 => zcI (d + 47) 244 [zA 113, zI p, zI i] M1 (fun y M2 => x = y ∧ J (t + 1) M2))))) := by
    refine c_cv h (fun MC fc jf e5 e6 e9 e90 => ⟨⟨by omega, by omega⟩, c_seenAlike h fc e9 e90 p0 p1 pk ?_⟩)
    have vb := VS_bd hW ((M 115 179).toNat + 1) (by omega) p p0 (by omega)
    have ab := AL_sum hW (l := M 115 (10 * p + 1)) (M 115 182).toNat (by omega)
    have e115 : MC 115 = M 115 := fc.2 115 (by decide)
    have hWC : WF (MC 115) := by rw [e115]; exact hW
    have va : VS (M 115) ((M 115 179).toNat + 1) p ≤ sN (AL (M 115) (M 115 (10 * p + 1))) (M 115 182).toNat := by
      have le := sN_le (f := AL (M 115) (M 115 (10 * p + 1))) (n := (M 115 182).toNat) (fun q a b => (AL_bd hW (by omega) (by omega)).1) p0 (by omega)
      have a1 : AL (M 115) (M 115 (10 * p + 1)) p = VS (M 115) ((M 115 179).toNat + 1) p := by unfold AL; rw [if_pos ⟨pk, rfl⟩]
      omega
    rw [e9 p p0 (by omega)]
    have ref : ∀ x : Int, (∀ M2, SPF (MC 115) MC M2 → (¬ (if 0 < sN (AL (M 115) (M 115 (10 * p + 1))) (M 115 182).toNat then (1 : Int) else if sN (AL (M 115) (M 115 (10 * p + 1))) (M 115 182).toNat = 0 then 0 else -1) = 0 → zcI (d + 46) 239 [zJ (VS (M 115) ((M 115 179).toNat + 1) p), zJ (sN (AL (M 115) (M 115 (10 * p + 1))) (M 115 182).toNat)] M2 (fun y M2 => x = y ∧ J (t + 1) M2)) ∧ ((if 0 < sN (AL (M 115) (M 115 (10 * p + 1))) (M 115 182).toNat then (1 : Int) else if sN (AL (M 115) (M 115 (10 * p + 1))) (M 115 182).toNat = 0 then 0 else -1) = 0 → x = -1)) → zcI (d + 47) 244 [zA 113, zI p, zI i] MC (fun y M2 => x = y ∧ J (t + 1) M2) := by
      intro x hx
      apply vX10_belief
      refine m_isFork hWC.1 (fun a b c => ⟨fun z => by omega, fun _ => m_lies (fun _ _ => ⟨fun _ => ⟨fun _ => m_spreads hWC (fun M2 g => m_fld (by omega) (by omega) (m_visitsOfLook hWC g ?_)), fun z => absurd z hi⟩, fun z => by omega⟩) (fun z => by omega)⟩) (fun z => by rw [e115] at z; omega)
      have e2 : M2 115 = MC 115 := g.1 115 (by decide) (by decide)
      rw [e2, e115]
      refine ⟨fun z => m_visitsOf hWC g p0 (by rw [e115]; exact p1) ?_, fun z => ⟨(hx M2 g).2 z, g.jn h fc jf⟩⟩
      rw [e115]
      exact (hx M2 g).1 z
    generalize sN (AL (M 115) (M 115 (10 * p + 1))) (M 115 182).toNat = A at *
    generalize VS (M 115) ((M 115 179).toNat + 1) p = v at *
    by_cases hA : 0 < A
    · refine c_millionths hA (by omega) vb.1 va (ref _ (fun M2 g => ⟨fun _ => m_millionths hA (by omega) vb.1 va ⟨rfl, g.jn h fc jf⟩, fun z => ?_⟩))
      rw [if_pos hA] at z; omega
    · obtain rfl : A = 0 := by omega
      apply vX2_millionths
      exact ⟨fun z => absurd rfl z, fun _ => ref _ (fun M2 g => ⟨fun z => absurd rfl z, fun _ => rfl⟩)⟩
  exact zcV_mono main (fun M3 _ h3 => ⟨fun _ => h3, fun z => absurd z hi⟩)
