/-! the reference rides -/
theorem m_tenthsOf {d : Nat} {M : ZM} {p k : Int} {Q : Int → ZM → Prop} (hW : WF (M 115)) (p0 : 0 ≤ p) (p1 : p < M 115 182) (k2 : M 115 (10 * p) ≠ 2) (k3 : M 115 (10 * p) ≠ 3) (k0 : 0 ≤ k) (k1 : k ≤ 2) (hQ : Q (tnO (M 115) p k) M) : zcI (d + 2) 232 [zA 113, zI p, zI k] M Q := by
  have hpl := hW.1
  obtain ⟨w1, w2, w3, w4, w5, w6⟩ := hW.2.2.2.2.2.2.2 p p0 p1
  unfold tnO at hQ
  apply vX10_tenthsOf
  refine m_kind (by omega) ⟨fun _ => m_kind (by omega) ⟨fun q => m_fld (by omega) (by omega) ?_, fun q => ⟨⟨by omega, by omega⟩, m_fldk (by omega) (by omega) ?_⟩⟩, fun q => absurd q k2⟩
  · rw [if_neg q] at hQ
    have hl := (w2 (by omega)).1
    exact ⟨⟨by omega, by omega⟩, ⟨by omega, by omega⟩, ⟨by omega, by omega⟩, by omega, hQ⟩
  · rw [if_pos q] at hQ; exact hQ
theorem m_roadOf {d : Nat} {M : ZM} {p k : Int} {Q : Int → ZM → Prop} (hW : WF (M 115)) (p0 : 0 ≤ p) (p1 : p < M 115 182) (k3 : M 115 (10 * p) ≠ 3) (k0 : 0 ≤ k) (k1 : k ≤ 2) (hQ : Q (rdc (M 115) p k) M) : zcI (d + 2) 233 [zA 113, zI p, zI k] M Q := by
  have hpl := hW.1
  have hwp := hW.2.2.2.2.2.2.2 p p0 p1
  have hr := hwp.rc
  obtain ⟨w1, w2, w3, w4, w5, w6⟩ := hwp
  have h1 : 1 ≤ M 115 (10 * p + 2) := by
    rcases (by omega : M 115 (10 * p) = 0 ∨ M 115 (10 * p) = 1 ∨ M 115 (10 * p) = 2) with q | q | q
    · have := w2 q; omega
    · have := w3 q; omega
    · have := w4 q; omega
  unfold rdc at hQ
  apply vX10_roadOf
  refine m_fld (by omega) (by omega) ⟨fun q => m_fld (by omega) (by omega) ⟨⟨by omega, by omega⟩, ⟨by omega, by omega⟩, m_fldk (by omega) (by omega) ?_⟩, fun q => ⟨⟨by omega, by omega⟩, m_fldk (by omega) (by omega) ?_⟩⟩
  · rw [if_neg (by omega)] at hQ; exact hQ
  · rw [if_pos (by omega)] at hQ; exact hQ
theorem m_draws {d : Nat} {M : ZM} {x : Int} {Q : Int → ZM → Prop} (hx : M 113 48 = x) (x0 : 0 ≤ x) (x1 : x ≤ 1000002) (hQ : Q (dr x % 10) (zup M 113 48 (dr x))) : zcI (d + 1) 247 [zA 113] M Q := by
  have ed : Int.tmod (1103 * x + 12345) 1000003 = dr x := by rw [Int.tmod_eq_emod_of_nonneg (by omega)]; unfold dr; rw [Int.mul_comm]
  have drg := dr_rg x
  have ed2 : Int.tmod (dr x) 10 = dr x % 10 := Int.tmod_eq_emod_of_nonneg drg.1
  apply vX10_draws
  rw [hx, ed]
  refine ⟨⟨by omega, by omega⟩, ⟨by omega, by omega⟩, by omega, ⟨by omega, by omega⟩, zset ⟨by omega, ?_⟩⟩
  rw [zup_eq, ed2]
  exact hQ
theorem m_ride {d : Nat} {M : ZM} {seed : Int} {Q : Int → ZM → Prop} (h : BK (M 115) (bL M 44)) (hV : JV M) (hv : 0 ≤ M 113 1 ∧ M 113 1 ≤ 1000) (hp : M 115 182 ≠ 0) (s0 : 0 ≤ seed) (s1 : seed ≤ 1000000) (hQ : ∀ (M' : ZM) (l : Nat), rL (M 115) seed l → (∀ b, b ≠ 113 → b ≠ 125 → b ≠ 126 → b ≠ 139 → M' b = M b) → (∀ k, ¬ ((11 ≤ k ∧ k ≤ 26) ∨ (30 ≤ k ∧ k ≤ 45) ∨ 48 ≤ k) → k ≠ 0 → k ≠ 1 → k ≠ 46 → k ≠ 47 → M' 113 k = M 113 k) → M' 113 0 = 0 → M' 113 1 = M 113 1 + 1 → M' 113 26 = M 113 1 → M' 113 46 = (l : Int) → M' 113 47 = rF (M 115) (EW M) (rS (M 115) seed l).1 l - (rS (M 115) seed l).2.2 → (∀ j : Nat, j ≤ l → M' 139 j = (rS (M 115) seed j).1) → Q l M') : zcI (d + 46) 248 [zA 113, zI seed] M Q := by
  have hW := h.wf
  have hpl := h.pl
  have hday := hW.2.2.1
  apply vX10_ride
  refine m_lies (fun _ _ => ⟨fun _ => m_places ⟨fun _ => m_looksB h hV (fun ML l => zset ⟨by omega, by omega, zset ?_⟩), fun z => absurd z hp⟩, fun z => by omega⟩) (fun z => by omega)
  obtain ⟨l1, l2, l3, l4⟩ := l
  have lk : ∀ k, ¬ ((11 ≤ k ∧ k ≤ 26) ∨ (30 ≤ k ∧ k ≤ 45) ∨ 48 ≤ k) → ML 113 k = M 113 k := fun k hk => l1.1.fk hk
  have e115 : ML 115 = M 115 := l3 115 (by decide) (by decide) (by decide)
  rw [show zup ML 113 48 seed 115 178 = M 115 178 by rw [zup_row (by decide), e115]]
  let Inv := fun (i : Nat) (M1 : ZM) => (∀ b, b ≠ 113 → b ≠ 139 → M1 b = ML b) ∧ (∀ k, k ≠ 48 → M1 113 k = ML 113 k) ∧ M1 113 48 = (rS (M 115) seed i).2.1 ∧ (∀ j : Nat, j ≤ i → M1 139 j = (rS (M 115) seed j).1) ∧ ∀ j, j < i → ¬ rStop (M 115) seed j
  have fin : ∀ (i : Nat) (M1 : ZM), (i : Int) ≤ M 115 179 → Inv i M1 → rStop (M 115) seed i → wX10_ride (d + 45) 173 [(0, zA 113), (2, zI (rS (M 115) seed i).1), (3, zI (rS (M 115) seed i).2.2), (4, zI i)] M1 Q := by
    intro i M1 hi hI hs
    obtain ⟨i1, i2, i3, i4, i5⟩ := hI
    have rg := rS_rg hW s0 (by omega) i i5
    have f115 : M1 115 = M 115 := by rw [i1 115 (by decide) (by decide), e115]
    have out : ∀ x, x = rF (M 115) (EW M) (rS (M 115) seed i).1 i - (rS (M 115) seed i).2.2 → zcI (d + 45) 146 [zA 113, zI i] (zup (zup M1 113 46 i) 113 47 x) Q := by
      intro x hx
      have g1 : zup (zup M1 113 46 i) 113 47 x 113 1 = M 113 1 := by rw [zup_ne (by omega), zup_ne (by omega), i2 1 (by decide), lk 1 (by omega)]
      refine m_good (by rw [g1]; omega) ?_
      rw [g1]
      refine hQ _ i ⟨hs, i5⟩ (fun b b1 b2 b3 b4 => ?_) (fun k hk k0 k1 k2 k3 => ?_) ?_ ?_ ?_ ?_ ?_ (fun j hj => ?_)
      · rw [zup_row b1, zup_row b1, zup_row b1, zup_row b1, i1 b b1 b4, l3 b b1 b2 b3]
      · rw [zup_ne (by omega), zup_ne (by omega), zup_ne (by omega), zup_ne (by omega), i2 k (by omega), lk k hk]
      · rw [zup_ne (by omega), zup_eq]
      · exact zup_eq
      · rw [zup_ne (by omega), zup_ne (by omega), zup_ne (by omega), zup_ne (by omega), i2 26 (by decide), l2]
      · rw [zup_ne (by omega), zup_ne (by omega), zup_ne (by omega), zup_eq]
      · rw [zup_ne (by omega), zup_ne (by omega), zup_eq, hx]
      · rw [zup_row (by decide), zup_row (by decide), zup_row (by decide), zup_row (by decide), i4 j hj]
    generalize hq : rS (M 115) seed i = q at rg out ⊢
    obtain ⟨p, x, T⟩ := q
    dsimp only at rg out ⊢
    unfold rF at out
    have r46 : ∀ b, b ≠ 113 → zup M1 113 46 i b = M1 b := fun b hb => zup_row hb
    have late := hW.2.2.2.1
    have lost := hW.2.2.2.2.1
    apply vX10_ride_173
    refine zset (m_places ?_)
    rw [r46 115 (by decide), f115]
    refine ⟨fun z => m_kind (by omega) ?_, fun z => ?_⟩
    · rw [r46 115 (by decide), f115, r46 126 (by decide), i1 126 (by decide) (by decide)]
      refine ⟨fun k3 => ⟨by omega, ⟨by omega, by omega⟩, zset (out _ ?_)⟩, fun k3 => ?_⟩
      · rw [if_neg (by omega), if_neg k3]
      · have e := l4 p i rg.1.1 z (by omega) (by omega)
        rw [if_pos k3] at e
        have eb : -999 ≤ EW M p i ∧ EW M p i ≤ 999 := tTell_rg _ _ _ _
        rw [e]
        refine ⟨⟨by omega, by omega⟩, ⟨by omega, by omega⟩, by omega, ⟨by omega, by omega⟩, zset (out _ ?_)⟩
        rw [if_neg (by omega), if_pos k3]
    · refine ⟨by omega, ⟨by omega, by omega⟩, zset (out _ ?_)⟩
      rw [if_pos (by omega)]
  have lp : ∀ (n i : Nat) (M1 : ZM), (i : Int) + n = M 115 179 → Inv i M1 → wX10_ride (d + 45) 60 [(0, zA 113), (2, zI (rS (M 115) seed i).1), (3, zI (rS (M 115) seed i).2.2), (4, zI i)] M1 Q := by
    intro n
    induction n with
    | zero =>
      intro i M1 hn hI
      have f115 : M1 115 = M 115 := by rw [hI.1 115 (by decide) (by decide), e115]
      have rg := rS_rg hW s0 (by omega) i hI.2.2.2.2
      have f := fin i M1 (by omega) hI (Or.inl (by omega))
      apply vX10_ride_60
      refine m_places ?_
      rw [f115]
      refine ⟨fun _ => f, fun z => m_kind (by omega) ⟨fun _ => f, fun _ => m_day ?_⟩⟩
      rw [f115]
      exact ⟨fun _ => f, fun q => by omega⟩
    | succ n ih =>
      intro i M1 hn hI
      have fin' := fin i M1 (by omega) hI
      obtain ⟨i1, i2, i3, i4, i5⟩ := id hI
      have f115 : M1 115 = M 115 := by rw [i1 115 (by decide) (by decide), e115]
      have rg := rS_rg hW s0 (by omega) i i5
      have st : ∀ (M2 : ZM) (p' : Int), (∀ b, b ≠ 113 → b ≠ 139 → M2 b = M1 b) → (∀ k, k ≠ 48 → M2 113 k = M1 113 k) → M2 139 = M1 139 → M2 113 48 = (rS (M 115) seed (i + 1)).2.1 → ¬ rStop (M 115) seed i → p' = (rS (M 115) seed (i + 1)).1 → wX10_ride (d + 45) 60 [(0, zA 113), (2, zI p'), (3, zI (rS (M 115) seed (i + 1)).2.2), (4, zI ((i : Int) + 1))] (zup M2 139 ((i : Int) + 1) p') Q := by
        intro M2 p' r2 k2 t2 x2 hns hp
        have nx := ih (i + 1) (zup M2 139 ((i : Int) + 1) p') (by omega) ⟨fun b b1 b2 => by rw [zup_row b2, r2 b b1 b2, i1 b b1 b2], fun k hk => by rw [zup_row (by decide), k2 k hk, i2 k hk], by rw [zup_row (by decide)]; exact x2, fun j hj => ?_, fun j hj => ?_⟩
        · rw [hp] at nx ⊢; exact nx
        · rw [zup_at]
          by_cases hji : (j : Int) = (i : Int) + 1
          · rw [if_pos hji, hp, show j = i + 1 by omega]
          · rw [if_neg hji, t2, i4 j (by omega)]
        · by_cases hji : j = i
          · subst hji; exact hns
          · exact i5 j (by omega)
      have rs1 : rS (M 115) seed (i + 1) = if M 115 (10 * (rS (M 115) seed i).1) = 2 then (rdc (M 115) (rS (M 115) seed i).1 0, (rS (M 115) seed i).2.1, (rS (M 115) seed i).2.2 + M 115 (10 * (rS (M 115) seed i).1 + 1)) else (rdc (M 115) (rS (M 115) seed i).1 (pick (tnO (M 115) (rS (M 115) seed i).1 0) (tnO (M 115) (rS (M 115) seed i).1 1) (dr (rS (M 115) seed i).2.1 % 10)), dr (rS (M 115) seed i).2.1, (rS (M 115) seed i).2.2) := rfl
      unfold rStop at fin' st
      generalize hq : rS (M 115) seed i = q at rg fin' st rs1 i3 ⊢
      obtain ⟨p, x, T⟩ := q
      dsimp only at rg fin' st rs1 i3 ⊢
      apply vX10_ride_60
      refine m_places ?_
      rw [f115]
      refine ⟨fun z => fin' (by omega), fun z => m_kind (by omega) ?_⟩
      rw [f115]
      refine ⟨fun k3 => fin' (by omega), fun k3 => m_day ?_⟩
      rw [f115]
      refine ⟨fun z => by omega, fun _ => m_kind (by omega) ?_⟩
      rw [f115]
      obtain ⟨w1, w2, w3, w4, w5, w6⟩ := h.wp rg.1.1 (by omega)
      refine ⟨fun k2 => m_draws i3 rg.2.1.1 rg.2.1.2 ?_, fun k2 => m_fld (by omega) (by omega) ?_⟩
      · rw [if_neg k2] at rs1
        rw [rs1] at st
        have drg := dr_rg x
        have ts := tnO_sum hW rg.1.1 (by omega) (show M 115 (10 * p) = 0 ∨ M 115 (10 * p) = 1 by omega)
        have g115 : zup M1 113 48 (dr x) 115 = M 115 := by rw [zup_row (by decide), f115]
        have tO : ∀ (k : Int) (Q : Int → ZM → Prop), 0 ≤ k → k ≤ 2 → Q (tnO (M 115) p k) (zup M1 113 48 (dr x)) → zcI (d + 45) 232 [zA 113, zI p, zI k] (zup M1 113 48 (dr x)) Q := fun k Q a b c => m_tenthsOf (by rw [g115]; exact hW) rg.1.1 (by rw [g115]; omega) (by rw [g115]; exact k2) (by rw [g115]; exact k3) a b (by rw [g115]; exact c)
        have done : ∀ k : Int, 0 ≤ k → k ≤ 2 → k = pick (tnO (M 115) p 0) (tnO (M 115) p 1) (dr x % 10) → zcI (d + 45) 233 [zA 113, zI p, zI k] (zup M1 113 48 (dr x)) (fun x2 M3 => r32 ((i : Int) + 1) ∧ (0 ≤ (i : Int) + 1 ∧ (i : Int) + 1 < 11) ∧ ∀ M4, M4 = zup M3 139 ((i : Int) + 1) x2 → wX10_ride (d + 45) 60 [(0, zA 113), (2, zI x2), (3, zI T), (4, zI ((i : Int) + 1))] M4 Q) := by
          intro k a b c
          refine m_roadOf (by rw [g115]; exact hW) rg.1.1 (by rw [g115]; omega) (by rw [g115]; exact k3) a b ⟨⟨by omega, by omega⟩, by omega, zset ?_⟩
          rw [g115, c]
          exact st _ _ (fun b b1 b2 => zup_row b1) (fun k hk => zup_ne (fun z => hk z.2)) (zup_row (by decide)) zup_eq (by omega) rfl
        unfold pick at done
        refine tO 0 _ (by omega) (by omega) ?_
        apply vX10_ride_126
        refine ⟨fun z => done 0 (by omega) (by omega) (by rw [if_pos z]), fun z => ⟨⟨by omega, by omega⟩, tO _ _ (by omega) (by omega) ⟨⟨by rw [show (0 : Int) + 1 = 1 by omega]; omega, by rw [show (0 : Int) + 1 = 1 by omega]; omega⟩, ?_⟩⟩⟩
        rw [show (0 : Int) + 1 = 1 by omega]
        apply vX10_ride_126
        refine ⟨fun z2 => done 1 (by omega) (by omega) (by rw [if_neg z, if_pos z2]), fun z2 => ⟨⟨by omega, by omega⟩, tO _ _ (by omega) (by omega) ⟨⟨by rw [show (1 : Int) + 1 = 2 by omega]; omega, by rw [show (1 : Int) + 1 = 2 by omega]; omega⟩, ?_⟩⟩⟩
        rw [show (1 : Int) + 1 = 2 by omega]
        apply vX10_ride_126
        exact ⟨fun z3 => done 2 (by omega) (by omega) (by rw [if_neg z, if_neg z2]), fun z3 => by omega⟩
      · rw [if_pos k2] at rs1
        rw [rs1] at st
        have hx := (w4 k2).1
        rw [f115]
        refine ⟨⟨by omega, by omega⟩, m_roadOf (by rw [f115]; exact hW) rg.1.1 (by rw [f115]; omega) (by rw [f115]; exact k3) (by omega) (by omega) ⟨⟨by omega, by omega⟩, by omega, zset ?_⟩⟩
        rw [f115]
        exact st M1 _ (fun _ _ _ => rfl) (fun _ _ => rfl) rfl i3 (by omega) rfl
  refine lp (M 115 179).toNat 0 _ (by omega) ⟨fun b b1 b2 => by rw [zup_row b2, zup_row b1], fun k hk => by rw [zup_row (by decide), zup_ne (fun z => hk z.2)], ?_, fun j hj => ?_, fun j hj => by omega⟩
  · rw [zup_row (by decide), zup_eq]; rfl
  · obtain rfl : j = 0 := by omega
    exact zup_eq
theorem J.grant2 {t : Nat} {M M' : ZM} (h : J t M) (ht : t < 512) (e0 : M' 29 15 = 0) (e1 : M' 113 0 = 0) (e2 : M' 113 1 = M 113 1 + 1) (e3 : M' 112 = M 112) (e4 : M' 114 = M 114) (e5 : -1 ≤ M' 113 26 ∧ M' 113 26 ≤ M 113 1) (hT : JT M') (hB : BK (M' 115) (bL M' 44)) (hI : JI M') (hP : JP M') (hX : JX M') (hF : JF M') : J (t + 1) M' := by
  obtain ⟨h1, h2, h3, h4, h5, h6, h7, h8⟩ := h
  refine ⟨hT, ?_, hB, hI, hP, ?_, hX, hF⟩
  · unfold JR at *
    rw [e0, e1, e3, e4]
    omega
  · unfold JW at *
    rw [e2]
    exact ⟨by omega, by omega, fun q => by omega⟩
theorem s_ride {d t : Nat} {M : ZM} (ht : t < 512) (h : J t M) {seed : Int} : zcI (d + 46) 133 [zA 29, zI seed] M (fun x M1 => zcI (d + 46) 248 [zA 113, zI seed] M1 (fun y M2 => x = y ∧ J (t + 1) M2)) := by
  have hs := h.size
  have hv := h.2.2.2.2.2.1.1
  have eC : ∀ k, rfC M k 115 = M 115 := fun k => by unfold rfC; rw [zup_row (by decide), zup_row (by decide)]
  have no1 : ¬ (0 ≤ seed ∧ seed ≤ 1000000) → zcI (d + 45) 139 [zA 29, zI (-1)] M (fun x M1 => zcI (d + 46) 248 [zA 113, zI seed] M1 (fun y M2 => x = y ∧ J (t + 1) M2)) := by
    intro hn
    refine c_no ht h ?_
    apply vX10_ride
    exact m_lies (fun _ _ => by omega) (fun _ => ⟨fun z => by omega, fun _ => m_no ht h (by omega) ⟨rfl, h.refuse (by omega)⟩⟩)
  apply vX9_ride
  refine ⟨fun z => no1 (by omega), fun z0 => ⟨fun z1 => c_noPlaces (fun q => ⟨fun z => by omega, fun _ => c_no ht h ?_⟩) (fun q => ⟨fun _ => c_go h.2.2.1 (by omega) (by omega) (fun M1 l hl r1 l3 l4 l5 => c_grant ?_), fun z => by omega⟩), fun z => no1 (by omega)⟩⟩
  · apply vX10_ride
    refine m_lies (fun _ _ => ⟨fun _ => m_places ⟨fun z => ?_, fun _ => m_no ht h (by omega) ⟨rfl, h.refuse (by omega)⟩⟩, fun z => by omega⟩) (fun z => by omega)
    rw [eC] at z; omega
  · have rG : ∀ b, b ≠ 29 → b ≠ 87 → b ≠ 88 → b ≠ 110 → b ≠ 111 → zup M1 29 15 0 b = M b := fun b b0 b1 b2 b3 b4 => by rw [zup_row b0, r1 b b1 b2 b3 b4]
    have g115 : zup M1 29 15 0 115 = M 115 := rG 115 (by decide) (by decide) (by decide) (by decide) (by decide)
    have g113 : zup M1 29 15 0 113 = M 113 := rG 113 (by decide) (by decide) (by decide) (by decide) (by decide)
    have eE : ∀ p s, EW (zup M1 29 15 0) p s = EW M p s := EW.fr (rG 51 (by decide) (by decide) (by decide) (by decide) (by decide)) (rG 52 (by decide) (by decide) (by decide) (by decide) (by decide)) (rG 53 (by decide) (by decide) (by decide) (by decide) (by decide)) (rG 54 (by decide) (by decide) (by decide) (by decide) (by decide)) (by rw [g115])
    have hB : BK (zup M1 29 15 0 115) (bL (zup M1 29 15 0) 44) := by
      rw [g115]
      exact h.2.2.1.congr (fun j hj => rG _ (by omega) (by omega) (by omega) (by omega) (by omega))
    have hV : JV (zup M1 29 15 0) := by
      have := h.jv
      unfold JV at *
      rw [g113, g115, rG 126 (by decide) (by decide) (by decide) (by decide) (by decide)]
      refine ⟨this.1, fun q p s a b c e => ?_⟩
      rw [this.2 q p s a b c e, eE]
    refine m_ride hB hV (by rw [g113]; omega) (by rw [g115]; omega) (by omega) (by omega) (fun M2 l' hl' q1 q2 q3 q4 q5 q6 q7 q8 => ?_)
    rw [g115] at hl' q7 q8
    rw [g113] at q2 q4 q5
    have hll : l' = l := rL_uniq hl' hl
    subst hll
    have row : ∀ b, b ≠ 29 → b ≠ 87 → b ≠ 88 → b ≠ 110 → b ≠ 111 → b ≠ 113 → b ≠ 125 → b ≠ 126 → b ≠ 139 → M2 b = M b := fun b a1 a2 a3 a4 a5 a6 a7 a8 a9 => by rw [q1 b a6 a7 a8 a9, rG b a1 a2 a3 a4 a5]
    have r29 : ∀ i, M2 29 i = if i = 15 then 0 else M 29 i := fun i => by
      rw [q1 29 (by decide) (by decide) (by decide) (by decide), zup_at, r1 29 (by decide) (by decide) (by decide) (by decide)]
    obtain ⟨h1, h2, h3, h4, h5, h6, h7, h8⟩ := id h
    have hrg : (l' : Int) ≤ 10 := by
      have hday := h.wf.2.2.1
      by_cases hh : (l' : Int) ≤ M 115 179
      · omega
      · exact absurd (Or.inl (by omega)) (hl'.2 (M 115 179).toNat (by omega))
    refine ⟨l3, h.grant2 ht ?_ q3 q4 (row 112 (by decide) (by decide) (by decide) (by decide) (by decide) (by decide) (by decide) (by decide) (by decide)) (row 114 (by decide) (by decide) (by decide) (by decide) (by decide) (by decide) (by decide) (by decide) (by decide)) (by rw [q5]; omega) (h1.fr (by rw [r29, if_neg (by decide)]) (by rw [r29, if_neg (by decide)]) (q2 9 (by omega) (by decide) (by decide) (by decide) (by decide)) (q2 10 (by omega) (by decide) (by decide) (by decide) (by decide)) (row 30 (by decide) (by decide) (by decide) (by decide) (by decide) (by decide) (by decide) (by decide) (by decide)) (row 119 (by decide) (by decide) (by decide) (by decide) (by decide) (by decide) (by decide) (by decide) (by decide))) ?_ (h4.fr (row 86 (by decide) (by decide) (by decide) (by decide) (by decide) (by decide) (by decide) (by decide) (by decide)) (row 117 (by decide) (by decide) (by decide) (by decide) (by decide) (by decide) (by decide) (by decide) (by decide)) (row 116 (by decide) (by decide) (by decide) (by decide) (by decide) (by decide) (by decide) (by decide) (by decide)) (fun b b1 b2 => row b (by omega) (by omega) (by omega) (by omega) (by omega) (by omega) (by omega) (by omega) (by omega))) ?_ (h7.fr (row 118 (by decide) (by decide) (by decide) (by decide) (by decide) (by decide) (by decide) (by decide) (by decide)) (q2 29 (by omega) (by decide) (by decide) (by decide) (by decide))) (h8.fr (row 106 (by decide) (by decide) (by decide) (by decide) (by decide) (by decide) (by decide) (by decide) (by decide)))⟩
    · rw [r29, if_pos rfl]
    · rw [row 115 (by decide) (by decide) (by decide) (by decide) (by decide) (by decide) (by decide) (by decide) (by decide)]
      exact h3.congr (fun j hj => row _ (by omega) (by omega) (by omega) (by omega) (by omega) (by omega) (by omega) (by omega) (by omega))
    · have e110 : M2 110 = M1 110 := by rw [q1 110 (by decide) (by decide) (by decide) (by decide), zup_row (by decide)]
      have e111 : M2 111 = M1 111 := by rw [q1 111 (by decide) (by decide) (by decide) (by decide), zup_row (by decide)]
      unfold JP
      rw [e110, e111, l3, l4, q6, q7]
      refine ⟨by omega, ?_, fun i i0 i1 => ?_⟩
      · unfold rF
        rw [eE]
      · have := l5 i.toNat (by omega)
        have t2 := q8 i.toNat (by omega)
        rw [Int.toNat_of_nonneg i0] at this t2
        rw [this, t2]
