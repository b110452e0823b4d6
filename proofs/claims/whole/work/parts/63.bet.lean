/-! bet -/
/-- VISITS of FORKS with LOOK l, of the first n PLACES -/
def AL (K : Int → Int) (l : Int) (q : Int) : Int := if K (10 * q) = 0 ∧ K (10 * q + 1) = l then VS K ((K 179).toNat + 1) q else 0
theorem AL_bd {K : Int → Int} (hW : WF K) {l q : Int} (q0 : 0 ≤ q) (q1 : q < 16) : 0 ≤ AL K l q ∧ AL K l q ≤ 110000000000 := by
  have hday := hW.2.2.1
  have := VS_bd hW ((K 179).toNat + 1) (by omega) q q0 q1
  unfold AL
  split <;> omega
theorem AL_sum {K : Int → Int} (hW : WF K) {l : Int} : ∀ n : Nat, n ≤ 16 → 0 ≤ sN (AL K l) n ∧ sN (AL K l) n ≤ n * 110000000000 := by
  intro n
  induction n with
  | zero => intro _; unfold sN; omega
  | succ n ih =>
    intro hn
    have := ih (by omega)
    have := AL_bd hW (l := l) (q := n) (by omega) (by omega)
    unfold sN
    omega
theorem c_seenAlike {d t : Nat} {M MC : ZM} {p : Int} {Q : Int → ZM → Prop} (h : J t M) (fc : frc M MC) (e9 : ∀ q, 0 ≤ q → q < 16 → MC 109 q = VS (M 115) ((M 115 179).toNat + 1) q) (e90 : ∀ j, 0 ≤ j → j < 16 → MC 90 j = M 46 j) (p0 : 0 ≤ p) (p1 : p < M 115 182) (pk : M 115 (10 * p) = 0) (hQ : Q (sN (AL (M 115) (M 115 (10 * p + 1))) (M 115 182).toNat) MC) : zcL (d + 4) 22 [zA 106, zI p] MC Q := by
  have hW := h.wf
  have hpl := h.pl
  have hs := h.size
  have e44 : MC 44 = M 44 := fc.1.row 44 (by decide)
  have e45 : MC 45 = M 45 := fc.1.row 45 (by decide)
  have lk : ∀ q, 0 ≤ q → q < M 115 182 → M 115 (10 * q) = 0 → M 46 q = M 115 (10 * q + 1) := fun q a b c => (h.pq a b).2.1 c
  have lp : ∀ m n : Nat, (n : Int) + m = M 115 182 → wX2_seenAlike (d + 3) 5 [(0, zA 106), (1, zI p), (2, zJ (sN (AL (M 115) (M 115 (10 * p + 1))) n)), (4, zI (n : Int))] MC Q := by
    intro m
    induction m with
    | zero =>
      intro n hn
      obtain rfl : n = (M 115 182).toNat := by omega
      apply vX2_seenAlike_5
      rw [e44, hs]
      exact ⟨fun _ => hQ, fun z => by omega⟩
    | succ m ih =>
      intro n hn
      have nx := ih (n + 1) (by omega)
      have sb := AL_sum hW (l := M 115 (10 * p + 1)) n (by omega)
      have ab := AL_bd hW (l := M 115 (10 * p + 1)) (q := n) (by omega) (by omega)
      have es : sN (AL (M 115) (M 115 (10 * p + 1))) (n + 1) = sN (AL (M 115) (M 115 (10 * p + 1))) n + AL (M 115) (M 115 (10 * p + 1)) n := rfl
      rw [es] at nx
      have kn := h.kind (p := n) (by omega) (by omega)
      have no : ¬ (M 115 (10 * n) = 0 ∧ M 115 (10 * n + 1) = M 115 (10 * p + 1)) → r32 ((n : Int) + 1) ∧ wX2_seenAlike (d + 3) 5 [(0, zA 106), (1, zI p), (2, zJ (sN (AL (M 115) (M 115 (10 * p + 1))) n)), (4, zI ((n : Int) + 1))] MC Q := by
        intro z
        have a0 : AL (M 115) (M 115 (10 * p + 1)) n = 0 := by unfold AL; rw [if_neg z]
        rw [a0, Int.add_zero] at nx
        exact ⟨⟨by omega, by omega⟩, nx⟩
      apply vX2_seenAlike_5
      rw [e44, hs]
      refine ⟨fun z => by omega, fun _ => ?_⟩
      apply vX2_looksLike
      refine c_isKind (by rw [e44, hs]; omega) (fun a b c => ⟨fun z => by omega, fun _ => ⟨by omega, by omega, ?_⟩⟩) (fun z => ⟨fun _ => ⟨Or.inl rfl, fun _ => no (fun y => z ⟨by omega, by rw [e44, hs]; omega, by rw [e45, kn]; exact y.1⟩), fun y => absurd rfl y⟩, fun y => absurd rfl y⟩)
      rw [e45, kn] at c
      rw [e90 n (by omega) (by omega), e90 p p0 (by omega), lk n (by omega) (by omega) c, lk p p0 p1 pk]
      refine ⟨fun z => ⟨Or.inl rfl, fun _ => no (fun y => z y.2), fun y => absurd rfl y⟩, fun z => ⟨Or.inr rfl, fun y => by omega, fun _ => ?_⟩⟩
      have a1 : AL (M 115) (M 115 (10 * p + 1)) n = VS (M 115) ((M 115 179).toNat + 1) n := by unfold AL; rw [if_pos ⟨c, z⟩]
      rw [e9 n (by omega) (by omega), ← a1]
      exact ⟨by omega, ⟨by omega, by omega⟩, ⟨by omega, by omega⟩, nx⟩
  apply vX2_seenAlike
  exact lp (M 115 182).toNat 0 (by omega)
theorem m_visitsOfLook {d : Nat} {M M' : ZM} {l : Int} {Q : Int → ZM → Prop} (hW : WF (M 115)) (g : SPF (M 115) M M') (hQ : Q (sN (AL (M 115) l) (M 115 182).toNat) M') : zcL (d + 4) 238 [zA 113, zI l] M' Q := by
  have hpl := hW.1
  have e : M' 115 = M 115 := g.1 115 (by decide) (by decide)
  have lp : ∀ m n : Nat, (n : Int) + m = M 115 182 → wX10_visitsOfLook (d + 3) 5 [(0, zA 113), (1, zI l), (2, zJ (sN (AL (M 115) l) n)), (4, zI (n : Int))] M' Q := by
    intro m
    induction m with
    | zero =>
      intro n hn
      obtain rfl : n = (M 115 182).toNat := by omega
      apply vX10_visitsOfLook_5
      refine m_places ?_
      rw [e]
      exact ⟨fun _ => hQ, fun z => by omega⟩
    | succ m ih =>
      intro n hn
      have nx := ih (n + 1) (by omega)
      have sb := AL_sum hW (l := l) n (by omega)
      have ab := AL_bd hW (l := l) (q := n) (by omega) (by omega)
      have es : sN (AL (M 115) l) (n + 1) = sN (AL (M 115) l) n + AL (M 115) l n := rfl
      rw [es] at nx
      have no : ¬ (M 115 (10 * n) = 0 ∧ M 115 (10 * n + 1) = l) → r64 (sN (AL (M 115) l) n + 0) ∧ r32 ((n : Int) + 1) ∧ wX10_visitsOfLook (d + 3) 5 [(0, zA 113), (1, zI l), (2, zJ (sN (AL (M 115) l) n + 0)), (4, zI ((n : Int) + 1))] M' Q := by
        intro z
        have a0 : AL (M 115) l n = 0 := by unfold AL; rw [if_neg z]
        rw [a0] at nx
        exact ⟨⟨by omega, by omega⟩, ⟨by omega, by omega⟩, nx⟩
      apply vX10_visitsOfLook_5
      refine m_places ?_
      rw [e]
      refine ⟨fun z => by omega, fun _ => m_isFork (by rw [e]; exact hpl) (fun a b c => ⟨fun z => by omega, fun _ => m_fld (by omega) (by omega) ?_⟩) (fun z => ⟨fun _ => no (fun y => z ⟨by omega, by rw [e]; omega, by rw [e]; exact y.1⟩), fun y => absurd rfl y⟩)⟩
      rw [e] at c
      rw [e]
      refine ⟨fun z => no (fun y => z y.2), fun z => m_visitsOf hW g (by omega) (by omega) ?_⟩
      have a1 : AL (M 115) l n = VS (M 115) ((M 115 179).toNat + 1) n := by unfold AL; rw [if_pos ⟨c, z⟩]
      rw [← a1]
      exact ⟨⟨by omega, by omega⟩, ⟨by omega, by omega⟩, nx⟩
  apply vX10_visitsOfLook
  exact lp (M 115 182).toNat 0 (by omega)
