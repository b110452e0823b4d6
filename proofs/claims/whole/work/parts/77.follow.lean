/-! follow: the RULE is replaced -/
theorem J.rules {t : Nat} {M M' : ZM} (h : J t M) (ht : t < 512) {g : Int → Int} (hg : HD g) (rest : ∀ b, b ≠ 29 → b ≠ 56 → b ≠ 113 → b ≠ 115 → ¬ (31 ≤ b ∧ b ≤ 42) → ¬ (87 ≤ b ∧ b ≤ 109) → ¬ (120 ≤ b ∧ b ≤ 138) → M' b = M b) (r29 : ∀ i, i ≠ 15 → M' 29 i = M 29 i) (r113 : ∀ i, i ≠ 0 → i ≠ 1 → ¬ ((11 ≤ i ∧ i ≤ 26) ∨ (30 ≤ i ∧ i ≤ 45) ∨ 48 ≤ i) → M' 113 i = M 113 i) (e0 : M' 29 15 = 0) (e1 : M' 113 0 = 0) (e2 : M' 113 1 = M 113 1 + 1) (e26 : -1 ≤ M' 113 26 ∧ M' 113 26 ≤ M 113 1) (hF : JF M') (k : ∀ i, (i < 160 ∨ 178 ≤ i) → M' 115 i = M 115 i) (kg : ∀ i, 0 ≤ i → i < 18 → M' 115 (160 + i) = g i) (lg : ∀ i, 0 ≤ i → i < 18 → M' 56 i = g i) : J (t + 1) M' := by
  obtain ⟨h1, h2, h3, h4, h5, h6, h7, h8⟩ := id h
  have hW := h.wf
  have row : ∀ b, (b < 29 ∨ b = 30 ∨ (43 ≤ b ∧ b < 56) ∨ (57 ≤ b ∧ b < 87) ∨ (110 ≤ b ∧ b < 113) ∨ b = 114 ∨ (116 ≤ b ∧ b < 120) ∨ 138 < b) → M' b = M b := fun b hb => rest b (by omega) (by omega) (by omega) (by omega) (by omega) (by omega) (by omega)
  refine h.grant2 ht e0 e1 e2 (row 112 (by omega)) (row 114 (by omega)) e26 (h1.fr (r29 1 (by decide)) (r29 2 (by decide)) (r113 9 (by decide) (by decide) (by decide)) (r113 10 (by decide) (by decide) (by decide)) (row 30 (by omega)) (row 119 (by omega))) ?_ (h4.fr (row 86 (by omega)) (row 117 (by omega)) (row 116 (by omega)) (fun b b1 b2 => row b (by omega))) (h5.fr (row 110 (by omega)) (row 111 (by omega)) (row 139 (by omega)) (r113 46 (by decide) (by decide) (by decide)) (r113 47 (by decide) (by decide) (by decide))) (h7.fr (row 118 (by omega)) (r113 29 (by decide) (by decide) (by decide))) hF
  have hpl := hW.1
  refine h3.upd ?_ (k 182 (by omega)) (fun i hi => k i (by omega)) (fun p p0 p1 => ⟨k _ (by omega), k _ (by omega)⟩) (fun p p0 p1 => ?_) (row 44 (by omega)) (row 51 (by omega)) (row 52 (by omega)) (row 53 (by omega)) (row 54 (by omega)) (fun i i0 i1 => ?_) (fun i i0 i1 => ?_)
  · obtain ⟨a1, a2, a3, a4, a5, a6, a7, a8⟩ := id hW
    unfold WF
    rw [k 182 (by omega), k 183 (by omega), k 178 (by omega), k 179 (by omega), k 180 (by omega), k 181 (by omega)]
    refine ⟨a1, a2, a3, a4, a5, fun l l0 l1 => ?_, a7, fun q q0 q1 => (a8 q q0 q1).congr (fun i i0 i1 => k i (by omega))⟩
    have hl := hg l l0 l1
    rw [kg (3 * l) (by omega) (by omega), show 161 + 3 * l = 160 + (3 * l + 1) by omega, show 162 + 3 * l = 160 + (3 * l + 2) by omega, kg (3 * l + 1) (by omega) (by omega), kg (3 * l + 2) (by omega) (by omega)]
    exact hl
  · exact (h.pq p0 p1).congr (h.wp p0 p1).rc.2 (fun i i0 i1 => k i (by omega)) (row 45 (by omega)) (by show M' 46 p = M 46 p; rw [row 46 (by omega)]) (row 47 (by omega)) (row 48 (by omega)) (row 49 (by omega)) (row 50 (by omega))
  · show M' 55 i = _
    rw [row 55 (by omega), k _ (by omega)]
    exact h.term i0 i1
  · show M' 56 i = _
    rw [lg i i0 i1, kg i i0 i1]
/-- what the class leaves ahead of grant, with a new RULE g -/
theorem s_follow {d t : Nat} {M : ZM} (ht : t < 512) (h : J t M) : zcI (d + 48) 118 [zA 29] M (fun x M1 => zcI (d + 48) 213 [zA 113] M1 (fun y M2 => x = y ∧ J (t + 1) M2)) := by
  have hs := h.size
  have hW := h.wf
  have hv := h.2.2.2.2.2.1.1
  have eC : ∀ k, rfC M k 115 = M 115 := fun k => by unfold rfC; rw [zup_row (by decide), zup_row (by decide)]
  apply vX9_follow
  refine c_noPlaces (fun q => ⟨fun z => by omega, fun _ => c_no ht h ?_⟩) (fun q => ⟨fun _ => c_seekPlain h (fun MC rC w8 w9 w98 => ?_), fun z => by omega⟩)
  · apply vX10_follow
    exact m_places ⟨fun z => by rw [eC] at z; omega, fun _ => m_no ht h (by omega) ⟨rfl, h.refuse (by omega)⟩⟩
  · apply vX6_giveFirst
    refine c_copyRow (n := 18) rfl rfl rfl (c_grant ?_)
    generalize hM1 : zup (zcp MC 98 0 56 0 (18 : Nat)) 29 15 0 = M1
    have r1 : ∀ b, b ≠ 29 → b ≠ 56 → M1 b = MC b := fun b h1 h2 => by subst hM1; rw [zup_row h1, zcp_row h2]
    have k29 : ∀ i, i ≠ 15 → M1 29 i = M 29 i := fun i hi => by subst hM1; rw [zup_ne (fun z => hi z.2), zcp_row (by decide), rC 29 (by decide)]
    have k15 : M1 29 15 = 0 := by subst hM1; exact zup_eq
    have k56 : ∀ j, 0 ≤ j → j < 18 → M1 56 j = hP (M 115) (TP (M 115) (EW M)).2.2 j := fun j j0 j1 => by
      subst hM1
      rw [zup_row (by decide), zcp_eq j0 (by omega), show 0 + (j - 0) = j by omega]
      exact w98 j j0 j1
    have q1 : ∀ b, (b < 87 ∨ 98 < b) → b ≠ 29 → b ≠ 56 → M1 b = M b := fun b hb h1 h2 => by rw [r1 b h1 h2, rC b hb]
    have e115 : M1 115 = M 115 := q1 115 (by decide) (by decide) (by decide)
    have eE : EW M1 = EW M := by
      funext p s
      exact EW.fr (q1 51 (by decide) (by decide) (by decide)) (q1 52 (by decide) (by decide) (by decide)) (q1 53 (by decide) (by decide) (by decide)) (q1 54 (by decide) (by decide) (by decide)) (by rw [e115]) p s
    have V1 : JV M1 := h.jv.cg (by rw [q1 113 (by decide) (by decide) (by decide)]) (by rw [q1 113 (by decide) (by decide) (by decide)]) e115 (q1 126 (by decide) (by decide) (by decide)) (fun b h1 h2 => q1 b (by omega) (by omega) (by omega))
    have B1 : BKE (M1 115) (bL M1 44) := by
      rw [e115]
      refine ⟨hW, fun p a b c => ?_⟩
      have := h.2.2.1.e.2 p a b c
      unfold EQ tTell at *
      have e7 : bL M1 44 7 = bL M 44 7 := q1 51 (by decide) (by decide) (by decide)
      have e8 : bL M1 44 8 = bL M 44 8 := q1 52 (by decide) (by decide) (by decide)
      have e9 : bL M1 44 9 = bL M 44 9 := q1 53 (by decide) (by decide) (by decide)
      have e10 : bL M1 44 10 = bL M 44 10 := q1 54 (by decide) (by decide) (by decide)
      rw [e7, e8, e9, e10]
      exact this
    apply vX10_follow
    refine m_places ⟨fun z => m_plains B1 V1 (by rw [q1 113 (by decide) (by decide) (by decide)]; exact h.2.2.2.2.2.2.1.1) (fun M2 g => ?_), fun z => by rw [e115] at z; omega⟩
    obtain ⟨g1, g2, g3, g4, g5, g6, g7⟩ := g
    rw [e115, eE] at g7
    have hc : ∀ l : Nat, l < 6 → (TP (M 115) (EW M)).2.2 l < NP (M 115) l := fun l hl => TP_lt hW (EB_ew M) hl
    have eg : ∀ (l : Nat) (i : Int), l < 6 → 0 ≤ i → i ≤ 2 → hP (M 115) (TP (M 115) (EW M)).2.2 (3 * l + i) = if ((TP (M 115) (EW M)).2.2 l : Int) = i then 10 else 0 := fun l i hl i0 i1 => hP_v hW (hc l hl) i0 i1
    have hgd : HD (hP (M 115) (TP (M 115) (EW M)).2.2) := HH_hd b10_hd _
    generalize hP (M 115) (TP (M 115) (EW M)).2.2 = gg at *
    generalize (TP (M 115) (EW M)).2.2 = cc at *
    -- the reference writes it down
    have wr : ∀ (m i : Nat) (M3 : ZM), i + m = 18 → (∀ b, b ≠ 115 → M3 b = M2 b) → (∀ k, (k < 160 ∨ 160 + (i : Int) ≤ k) → M3 115 k = M2 115 k) → (∀ j, 0 ≤ j → j < (i : Int) → M3 115 (160 + j) = gg j) → (i % 3 = 0 → wX10_follow (d + 47) 20 [(0, zA 113), (1, zI ((i / 3 : Nat) : Int))] M3 (fun y M2 => 0 = y ∧ J (t + 1) M2)) ∧ (i < 18 → wX10_follow (d + 47) 28 [(0, zA 113), (1, zI ((i / 3 : Nat) : Int)), (2, zI ((i % 3 : Nat) : Int))] M3 (fun y M2 => 0 = y ∧ J (t + 1) M2)) := by
      intro m
      induction m with
      | zero =>
        intro i M3 hi r3 k3 w3
        obtain rfl : i = 18 := by omega
        refine ⟨fun _ => ?_, fun z => by omega⟩
        have f1 : M3 113 1 = M 113 1 := by rw [r3 113 (by decide), g1.1.fk (k := 1) (by omega), q1 113 (by decide) (by decide) (by decide)]
        apply vX10_follow_20
        refine ⟨fun _ => m_good (by rw [f1]; omega) ⟨rfl, ?_⟩, fun z => by omega⟩
        rw [f1]
        refine h.rules ht hgd (fun b h1 h2 h3 h4 h5 h6 h7 => ?_) (fun i hi => ?_) (fun i h1 h2 h3 => ?_) ?_ ?_ ?_ ?_ ?_ (fun i hi => ?_) (fun i i0 i1 => ?_) (fun i i0 i1 => ?_)
        · rw [zup_row h3, zup_row h3, r3 b h4, g3 b h3 (by omega) (by omega) (by omega) (by omega) (by omega) (by omega), q1 b (by omega) h1 h2]
        · rw [zup_row (by decide), zup_row (by decide), r3 29 (by decide), g3 29 (by decide) (by decide) (by decide) (by decide) (by decide) (by decide) (by decide), k29 i hi]
        · rw [zup_ne (fun z => h2 z.2), zup_ne (fun z => h1 z.2), r3 113 (by decide), g1.1.fk h3, q1 113 (by decide) (by decide) (by decide)]
        · rw [zup_row (by decide), zup_row (by decide), r3 29 (by decide), g3 29 (by decide) (by decide) (by decide) (by decide) (by decide) (by decide) (by decide)]; exact k15
        · rw [zup_ne (by omega), zup_eq]
        · rw [zup_eq]
        · rw [zup_ne (by omega), zup_ne (by omega), r3 113 (by decide)]
          have := g2.1
          rw [g1.1.fk (k := 1) (by omega), q1 113 (by decide) (by decide) (by decide)] at this
          exact this
        · refine h.jf.fr ?_
          rw [zup_row (by decide), zup_row (by decide), r3 106 (by decide), g3 106 (by decide) (by decide) (by decide) (by decide) (by decide) (by decide) (by decide), q1 106 (by decide) (by decide) (by decide)]
        · rw [zup_row (by decide), zup_row (by decide), k3 i (by omega), g3 115 (by decide) (by decide) (by decide) (by decide) (by decide) (by decide) (by decide), e115]
        · rw [zup_row (by decide), zup_row (by decide)]; exact w3 i i0 (by omega)
        · rw [zup_row (by decide), zup_row (by decide), r3 56 (by decide), g3 56 (by decide) (by decide) (by decide) (by decide) (by decide) (by decide) (by decide)]; exact k56 i i0 i1
      | succ m ih =>
        intro i M3 hi r3 k3 w3
        have in28 : wX10_follow (d + 47) 28 [(0, zA 113), (1, zI ((i / 3 : Nat) : Int)), (2, zI ((i % 3 : Nat) : Int))] M3 (fun y M2 => 0 = y ∧ J (t + 1) M2) := by
          have e130 : M3 130 ((i / 3 : Nat) : Int) = cc (i / 3) := by rw [r3 130 (by decide)]; exact g7 (i / 3) (by omega)
          have es := eg (i / 3) ((i % 3 : Nat) : Int) (by omega) (by omega) (by omega)
          rw [show 3 * ((i / 3 : Nat) : Int) + ((i % 3 : Nat) : Int) = i by omega] at es
          have st : ∀ x, x = gg i → r32 (((i % 3 : Nat) : Int) + 1) ∧ wX10_follow (d + 47) 28 [(0, zA 113), (1, zI ((i / 3 : Nat) : Int)), (2, zI (((i % 3 : Nat) : Int) + 1))] (zup M3 115 (160 + 3 * ((i / 3 : Nat) : Int) + ((i % 3 : Nat) : Int)) x) (fun y M2 => 0 = y ∧ J (t + 1) M2) := by
            intro x hx
            have nx := ih (i + 1) (zup M3 115 (160 + 3 * ((i / 3 : Nat) : Int) + ((i % 3 : Nat) : Int)) x) (by omega) (fun b hb => by rw [zup_row hb, r3 b hb]) (fun k hk => by rw [zup_ne (by omega), k3 k (by omega)]) (fun j j0 j1 => by
              rw [zup_at]
              by_cases e : j = i
              · rw [if_pos (by omega), hx, e]
              · rw [if_neg (by omega)]; exact w3 j j0 (by omega))
            refine ⟨⟨by omega, by omega⟩, ?_⟩
            by_cases e : i % 3 = 2
            · apply vX10_follow_28
              refine ⟨fun _ => ⟨⟨by omega, by omega⟩, ?_⟩, fun z => by omega⟩
              have := nx.1 (by omega)
              rw [show (((i + 1) / 3 : Nat) : Int) = ((i / 3 : Nat) : Int) + 1 by omega] at this
              exact this
            · have := nx.2 (by omega)
              rw [show (i + 1) / 3 = i / 3 by omega, show (((i + 1) % 3 : Nat) : Int) = ((i % 3 : Nat) : Int) + 1 by omega] at this
              exact this
          apply vX10_follow_28
          rw [e130]
          refine ⟨fun z => by omega, fun _ => ⟨⟨by omega, by omega⟩, ⟨by omega, by omega⟩, ⟨by omega, by omega⟩, by omega, fun z => ⟨by omega, zset (st 0 (by rw [es, if_neg z]))⟩, fun z => ⟨by omega, zset (st 10 (by rw [es, if_pos z]))⟩⟩⟩
        refine ⟨fun z => ?_, fun _ => in28⟩
        apply vX10_follow_20
        rw [show ((i % 3 : Nat) : Int) = 0 by omega] at in28
        exact ⟨fun y => by omega, fun _ => in28⟩
    exact (wr 18 0 M2 (by omega) (fun _ _ => rfl) (fun _ _ => rfl) (fun j a b => by omega)).1 rfl
