/-! pays -/
theorem LK.jv {t : Nat} {M M' : ZM} (h : J t M) (l : LK M M') : JV M' := by
  obtain ⟨f, e1, e2, e3⟩ := l
  have hv := h.2.2.2.2.2.1.1
  unfold JV
  rw [e1, f.1.f 1 rfl, f.1.row 115 rfl]
  refine ⟨by omega, fun _ p s a b c d => ?_⟩
  rw [e3 p s a b c d, f.1.ew]
theorem c_ew {d t : Nat} {M : ZM} {p s : Int} {K : Int → ZM → Prop} (R : RG M) (h : J t M) (p0 : 0 ≤ p) (p1 : p < M 115 182) (hk : M 115 (10 * p) = 3) (s0 : 0 ≤ s) (s1 : s ≤ 10) (hK : ∀ M', (∀ b, b ≠ 87 → b ≠ 88 → M' b = M b) → K (EW M p s) M') : zcI (d + 4) 92 [zA 87, zA 44, zI p, zI s, zI (M 115 179)] M K := by
  have hp := h.pl
  have hd := h.wf.2.2.1
  obtain ⟨⟨f0, f1, f2⟩, -⟩ := (h.2.2.1.2.2.1 p p0 p1).2 hk
  exact c_tell R ⟨p0, by omega⟩ ⟨s0, s1⟩ hd f0 f1 hK
theorem s_pays {d t : Nat} {M : ZM} (R : RG M) (h : J t M) {p s : Int} : zcL (d + 45) 109 [zA 29, zI p, zI s] M (fun x M1 => zcL (d + 45) 195 [zA 113, zI p, zI s] M1 (fun y M2 => x = y ∧ J (t + 1) M2)) := by
  have hW := h.pl
  have hs := h.size
  have hday := h.term (i := 1) (by omega) (by omega)
  have no : ¬ (0 ≤ p ∧ p < M 115 182 ∧ M 115 (10 * p) = 3 ∧ 0 ≤ s ∧ s ≤ 10) → zcL (d + 45) 195 [zA 113, zI p, zI s] M (fun y M2 => -1000000000000000000 = y ∧ J (t + 1) M2) := by
    intro hn
    apply vX10_pays
    repeat' (first | omega | apply (m_isPlace hW) | apply m_kind | apply m_lies | exact h.idle | refine zset ?_ | (simp only [zupE, zcpE, reduceIte, false_and, and_false, true_and, and_true, true_or, or_true, not_true_eq_false, not_false_eq_true, true_implies, false_implies]) | refine And.intro ?_ ?_ | intro _)
  apply vX9_pays
  refine c_isKind (by omega) (fun p0 p1 hk => ⟨fun q => by omega, fun _ => ⟨fun q => no (by omega), fun s0 => ⟨fun s1 => ?_, fun q => no (by omega)⟩⟩⟩) (fun hn => ⟨fun _ => no ?_, fun q => by omega⟩)
  · have ek := h.kind p0 (by omega)
    refine ⟨by omega, ?_⟩
    rw [show M 55 1 = M 115 179 from hday]
    refine c_ew R h p0 (by omega) (by omega) (by omega) (by omega) (fun M1 f1 => ?_)
    have fc : frc M M1 := frc.of (fun b hb => f1 b (by omega) (by omega))
    have h1 : J (t + 1) M1 := h.frc fc (h.jf.fr (f1 106 (by decide) (by decide)))
    have e115 : M1 115 = M 115 := f1 115 (by decide) (by decide)
    apply vX10_pays
    refine m_isPlace h1.pl (fun a b => ⟨fun q => by omega, fun _ => m_kind (by omega) ⟨fun q => ?_, fun q => m_lies (fun a b => ⟨fun _ => m_looks h1 (fun M2 l => ⟨⟨by omega, by omega⟩, ⟨by omega, by omega⟩, by omega, ?_, ?_⟩), fun q => by omega⟩) (fun q => by omega)⟩⟩) (fun q => ?_)
    · rw [e115] at q; omega
    · rw [l.2.2.2 p s p0 (by rw [e115]; omega) (by omega) (by omega), if_pos (by rw [e115]; omega), fc.1.ew]
    · exact h.frame (fc.1.tr l.1.1) (h.jf.fr (by rw [l.1.2 106 (by decide), f1 106 (by decide) (by decide)])) (l.jv h1)
    · rw [e115] at q; omega
  · intro hq
    have ek := h.kind hq.1 hq.2.1
    omega
