theorem m_bet {d : Nat} {M : ZM} {p i : Int} {Q : Int → ZM → Prop} (hW : WF (M 115)) (p0 : 0 ≤ p) (p1 : p < M 115 182) (pk : M 115 (10 * p) = 0) (i0 : 0 ≤ i) (i1 : i ≤ 100) (hQ : ∀ M', SPF (M 115) M M' → Q (100 * VS (M 115) ((M 115 179).toNat + 1) p - i * sN (AL (M 115) (M 115 (10 * p + 1))) (M 115 182).toNat) M') : zcL (d + 8) 245 [zA 113, zI p, zI i] M Q := by
  have hpl := hW.1
  have hday := hW.2.2.1
  have vb := VS_bd hW ((M 115 179).toNat + 1) (by omega) p p0 (by omega)
  have ab := AL_sum hW (l := M 115 (10 * p + 1)) (M 115 182).toNat (by omega)
  have m0 := Int.mul_nonneg i0 ab.1
  have m1 := Int.mul_le_mul_of_nonneg_right i1 ab.1
  apply vX10_bet
  refine m_isFork hpl (fun a b c => ⟨fun z => by omega, fun _ => m_lies (fun x y => ⟨fun _ => m_spreads hW (fun M2 g => m_visitsOf hW g p0 p1 ⟨⟨by omega, by omega⟩, m_fld (by omega) (by omega) (m_visitsOfLook hW g ?_)⟩), fun z => by omega⟩) (fun z => by omega)⟩) (fun z => by omega)
  have e : M2 115 = M 115 := g.1 115 (by decide) (by decide)
  rw [e]
  exact ⟨⟨by omega, by omega⟩, ⟨by omega, by omega⟩, hQ M2 g⟩
theorem s_bet {d t : Nat} {M : ZM} (h : J t M) {p i : Int} : zcL (d + 47) 131 [zA 29, zI p, zI i] M (fun x M1 => zcL (d + 47) 245 [zA 113, zI p, zI i] M1 (fun y M2 => x = y ∧ J (t + 1) M2)) := by
  have hW := h.wf
  have hs := h.size
  have hpl := h.pl
  have hday := hW.2.2.1
  have no : ¬ (0 ≤ p ∧ p < M 115 182 ∧ M 115 (10 * p) = 0 ∧ 0 ≤ i ∧ i ≤ 100) → zcL (d + 47) 245 [zA 113, zI p, zI i] M (fun y M2 => -1000000000000000000 = y ∧ J (t + 1) M2) := by
    intro hn
    apply vX10_bet
    exact m_isFork hpl (fun a b c => ⟨fun z => by omega, fun _ => m_lies (fun x y => by omega) (fun z => ⟨fun y => by omega, fun _ => ⟨rfl, h.idle⟩⟩)⟩) (fun z => ⟨fun _ => ⟨rfl, h.idle⟩, fun y => by omega⟩)
  apply vX9_bet
  refine c_isKind (by omega) (fun p0 p1 pk => ⟨fun z => by omega, fun _ => ⟨fun z => no (by omega), fun i0 => ⟨fun i1 => c_cv h (fun MC fc jf e5 e6 e9 e90 => ?_), fun z => no (by omega)⟩⟩⟩) (fun z => ⟨fun _ => no (fun y => z ⟨y.1, by omega, by rw [h.kind y.1 y.2.1]; exact y.2.2.1⟩), fun y => by omega⟩)
  rw [hs] at p1
  rw [h.kind p0 p1] at pk
  have vb := VS_bd hW ((M 115 179).toNat + 1) (by omega) p p0 (by omega)
  have ab := AL_sum hW (l := M 115 (10 * p + 1)) (M 115 182).toNat (by omega)
  have m0 := Int.mul_nonneg (show 0 ≤ i by omega) ab.1
  have m1 := Int.mul_le_mul_of_nonneg_right i1 ab.1
  have e115 : MC 115 = M 115 := fc.2 115 (by decide)
  rw [e9 p p0 (by omega)]
  refine ⟨⟨by omega, by omega⟩, ⟨by omega, by omega⟩, c_seenAlike h fc e9 e90 p0 p1 pk ⟨⟨by omega, by omega⟩, ⟨by omega, by omega⟩, ?_⟩⟩
  refine m_bet (by rw [e115]; exact hW) p0 (by rw [e115]; exact p1) (by rw [e115]; exact pk) (by omega) i1 (fun M2 g => ⟨?_, g.jn h fc jf⟩)
  rw [e115]
