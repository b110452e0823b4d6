/-! the reference rides -/
theorem m_tenthsOf {d : Nat} {M : ZM} {p k : Int} {Q : Int → ZM → Prop} (hW : WF (M 115)) (p0 : 0 ≤ p) (p1 : p < M 115 182) (k2 : M 115 (10 * p) ≠ 2) (k3 : M 115 (10 * p) ≠ 3) (k0 : 0 ≤ k) (k1 : k ≤ 2) (hQ : Q (tnO (M 115) p k) M) : zcI (d + 2) 232 [zA 113, zI p, zI k] M Q := by
  have hpl := hW.1
  obtain ⟨w1, w2, w3, w4, w5, w6⟩ := hW.2.2.2.2.2.2.2 p p0 p1
  unfold tnO at hQ
  apply vX10_tenthsOf
  refine m_kind (by omega) ⟨fun _ => m_kind (by omega) ⟨fun q => m_fld (by omega) (by omega) ?_, fun q => ⟨⟨by omega, by omega⟩, m_fldk (by omega) (by omega) ?_⟩⟩, fun q => absurd q k2⟩
  · rw [if_neg q] at hQ
    have hl := (w2 (by omega)).1
    exact ⟨⟨by omega, by omega⟩, ⟨by omega, by omega⟩, ⟨by omega, by omega⟩, by omega, hQ⟩
  · rw [if_pos q] at hQ; exact hQ
theorem m_roadOf {d : Nat} {M : ZM} {p k : Int} {Q : Int → ZM → Prop} (hW : WF (M 115)) (p0 : 0 ≤ p) (p1 : p < M 115 182) (k3 : M 115 (10 * p) ≠ 3) (k0 : 0 ≤ k) (k1 : k ≤ 2) (hQ : Q (rdc (M 115) p k) M) : zcI (d + 2) 233 [zA 113, zI p, zI k] M Q := by
  have hpl := hW.1
  have hwp := hW.2.2.2.2.2.2.2 p p0 p1
  have hr := hwp.rc
  obtain ⟨w1, w2, w3, w4, w5, w6⟩ := hwp
  have h1 : 1 ≤ M 115 (10 * p + 2) := by
    rcases (by omega : M 115 (10 * p) = 0 ∨ M 115 (10 * p) = 1 ∨ M 115 (10 * p) = 2) with q | q | q
    · have := w2 q; omega
    · have := w3 q; omega
    · have := w4 q; omega
  unfold rdc at hQ
  apply vX10_roadOf
  refine m_fld (by omega) (by omega) ⟨fun q => m_fld (by omega) (by omega) ⟨⟨by omega, by omega⟩, ⟨by omega, by omega⟩, m_fldk (by omega) (by omega) ?_⟩, fun q => ⟨⟨by omega, by omega⟩, m_fldk (by omega) (by omega) ?_⟩⟩
  · rw [if_neg (by omega)] at hQ; exact hQ
  · rw [if_pos (by omega)] at hQ; exact hQ
theorem m_draws {d : Nat} {M : ZM} {x : Int} {Q : Int → ZM → Prop} (hx : M 113 48 = x) (x0 : 0 ≤ x) (x1 : x ≤ 1000002) (hQ : Q (dr x % 10) (zup M 113 48 (dr x))) : zcI (d + 1) 247 [zA 113] M Q := by
  have ed : Int.tmod (1103 * x + 12345) 1000003 = dr x := by rw [Int.tmod_eq_emod_of_nonneg (by omega)]; unfold dr; rw [Int.mul_comm]
  have drg := dr_rg x
  have ed2 : Int.tmod (dr x) 10 = dr x % 10 := Int.tmod_eq_emod_of_nonneg drg.1
  apply vX10_draws
  rw [hx, ed]
  refine ⟨⟨by omega, by omega⟩, ⟨by omega, by omega⟩, by omega, ⟨by omega, by omega⟩, zset ⟨by omega, ?_⟩⟩
  rw [zup_eq, ed2]
  exact hQ
theorem m_ride {d t : Nat} {M : ZM} {seed : Int} {Q : Int → ZM → Prop} (h : J t M) (ht : t ≤ 900) (hp : M 115 182 ≠ 0) (s0 : 0 ≤ seed) (s1 : seed ≤ 1000000) (hQ : ∀ (M' : ZM) (l : Nat), rL (M 115) seed l → (∀ b, b ≠ 113 → b ≠ 125 → b ≠ 126 → b ≠ 139 → M' b = M b) → (∀ k, k ≠ 0 → k ≠ 1 → ¬ (21 ≤ k ∧ k ≤ 23) → k ≠ 26 → k ≠ 46 → k ≠ 47 → k ≠ 48 → M' 113 k = M 113 k) → M' 113 0 = 0 → M' 113 1 = M 113 1 + 1 → M' 113 26 = M 113 1 → M' 113 46 = (l : Int) → M' 113 47 = rF (M 115) (EW M) (rS (M 115) seed l).1 l - (rS (M 115) seed l).2.2 → (∀ j : Nat, j ≤ l → M' 139 j = (rS (M 115) seed j).1) → Q l M') : zcI (d + 46) 248 [zA 113, zI seed] M Q := by
  have hW := h.wf
  have hpl := h.pl
  have hday := hW.2.2.1
  have hv := h.2.2.2.2.2.1.1
  apply vX10_ride
  refine m_lies (fun _ _ => ⟨fun _ => m_places ⟨fun _ => m_looks h (fun ML l => zset ⟨by omega, by omega, zset ?_⟩), fun z => absurd z hp⟩, fun z => by omega⟩) (fun z => by omega)
  obtain ⟨l1, l2, l3, l4⟩ := l
  have lk : ∀ k, ¬ ((11 ≤ k ∧ k ≤ 26) ∨ (30 ≤ k ∧ k ≤ 45) ∨ 48 ≤ k) → ML 113 k = M 113 k := fun k hk => l1.1.fk hk
  sorry
