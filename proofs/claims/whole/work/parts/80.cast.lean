/-- what is between class and reference is so again, no call later -/
theorem J.keep {t : Nat} {M M' : ZM} (h : J t M) (f : fr M M') (hF : JF M') (hV : JV M') : J t M' := by
  obtain ⟨h1, h2, h3, h4, h5, h6, h7, h8⟩ := h
  refine ⟨?_, ?_, ?_, ?_, ?_, ?_, ?_, hF⟩
  · unfold JT at *
    rw [f.row 29 rfl, f.row 30 rfl, f.row 119 rfl, f.f 9 rfl, f.f 10 rfl]
    exact h1
  · unfold JR at *
    rw [f.row 29 rfl, f.row 112 rfl, f.row 114 rfl, f.f 0 rfl]
    exact h2
  · rw [f.row 115 rfl]
    exact f.bk (Or.inl rfl) h3
  · unfold JI at *
    rw [f.row 86 rfl, f.row 117 rfl, f.row 116 rfl]
    exact ⟨h4.1, h4.2.1, fun q => f.bk (Or.inr (Or.inl rfl)) (h4.2.2.1 q), fun q => f.bk (Or.inr (Or.inr rfl)) (h4.2.2.2 q)⟩
  · unfold JP at *
    rw [f.row 110 rfl, f.row 111 rfl, f.row 139 rfl, f.f 46 rfl, f.f 47 rfl]
    exact h5
  · unfold JW at *
    refine ⟨?_, hV⟩
    rw [f.f 1 rfl]
    exact h6.1
  · unfold JX at *
    rw [f.row 118 rfl, f.f 29 rfl]
    exact h7
theorem TD_hd {K : Int → Int} {E : Int → Int → Int} {x : Int} (hW : WF K) (hE : EB K E) (nn1 : ∀ l, 1 ≤ ND K x l) : HD (TD K E x).2.2 := by
  have e : TD K E x = mgf (bot (rlH K)) (fun r => lfH K E (fun l => bt x l) true (mR K) (rlH K) (dg (ND K x) 6 r (fun _ => 0))) (PN (ND K x) 6) := SUM_enum nn1 (lfH_v hW hE hW.hd) 6 (Nat.le_refl _) _
  rw [e]
  exact mgf_third (P := HD) hW.hd _ (fun i _ => HH_hd hW.hd _)
theorem s_cast {d t : Nat} {M : ZM} (ht : t < 512) (h : J t M) {bits : Int} : zcI (d + 48) 120 [zA 29, zI bits] M (fun x M1 => zcI (d + 48) 218 [zA 113, zI bits] M1 (fun y M2 => x = y ∧ J (t + 1) M2)) := by
  have hs := h.size
  have hW := h.wf
  have hpl := hW.1
  have hv := h.2.2.2.2.2.1.1
  have eC : ∀ k, rfC M k 115 = M 115 := fun k => by unfold rfC; rw [zup_row (by decide), zup_row (by decide)]
  apply vX9_cast
  refine c_isLooks (fun b0 b1 => ⟨fun _ => c_noPlaces (fun q => ⟨fun _ => c_no ht h ?_, fun z => by omega⟩) (fun q => ⟨fun z => absurd rfl z, fun _ => ?_⟩), fun z => by omega⟩) (fun hn => ⟨fun z => absurd rfl z, fun _ => c_no ht h ?_⟩)
  · apply vX10_cast
    refine m_lies (fun _ _ => ⟨fun _ => m_places ⟨fun _ => m_no ht h (by omega) ⟨rfl, h.refuse (by omega)⟩, fun z => ?_⟩, fun z => by omega⟩) (fun z => by omega)
    rw [eC] at z; omega
  · have hbits : bs 6 bits := ⟨b0, by show bits < 64; omega⟩
    have br := hbits.r (by decide)
    have ub := hW.us
    have ur := ub.r (by decide)
    refine c_seekDie h hbits (fun hz MC rC => ⟨fun z => absurd rfl z, fun _ => ?_⟩) (fun z1 z2 MC rC w8 w9 w98 => ⟨fun _ => ?_, fun z => ?_⟩)
    · have fc := rows_frc rC
      have h' : J t MC := h.keep fc.1 (h.jf.fr (rC 106 (by decide))) (h.jv.cg (by rw [rC 113 (by decide)]) (by rw [rC 113 (by decide)]) (rC 115 (by decide)) (rC 126 (by decide)) (fun b h1 h2 => rC b (by omega)))
      have e115 : MC 115 = M 115 := rC 115 (by decide)
      have eC' : rfC MC (-3) 115 = M 115 := by unfold rfC; rw [zup_row (by decide), zup_row (by decide), e115]
      refine c_no ht h' ?_
      have q1 : ∀ b, b ≠ 29 → b ≠ 112 → rfC MC (-3) b = MC b := fun b h1 h2 => by unfold rfC; rw [zup_row h2, zup_row h1]
      apply vX10_cast
      refine m_lies (fun _ _ => ⟨fun _ => m_places ⟨fun z => by rw [eC'] at z; omega, fun _ => m_dices ?_ ?_ ?_ hbits (fun z => ⟨fun y => absurd rfl y, fun _ => m_no ht h' (by omega) ⟨rfl, h'.refuse (by omega)⟩⟩) (fun y1 y2 => ?_)⟩, fun z => by omega⟩) (fun z => by omega)
      · rw [eC', ← e115]
        exact h'.2.2.1.e.congr (fun j hj => q1 _ (by omega) (by omega))
      · exact h'.jv.cg (by rw [q1 113 (by decide) (by decide)]) (by rw [q1 113 (by decide) (by decide)]) (q1 115 (by decide) (by decide)) (q1 126 (by decide) (by decide)) (fun b h1 h2 => q1 b (by omega) (by omega))
      · rw [q1 113 (by decide) (by decide)]; exact h'.2.2.2.2.2.2.1.1
      · rw [eC'] at y1 y2; omega
    · obtain ⟨x, hx⟩ : ∃ x, x = zand bits (uS (M 115)) := ⟨_, rfl⟩
      rw [← hx] at z1 z2 w8 w9 w98
      apply vX6_giveFirst
      refine c_copyRow (n := 18) rfl rfl rfl (c_grant ?_)
      generalize hM1 : zup (zcp MC 98 0 56 0 (18 : Nat)) 29 15 0 = M1
      have r1 : ∀ b, b ≠ 29 → b ≠ 56 → M1 b = MC b := fun b h1 h2 => by subst hM1; rw [zup_row h1, zcp_row h2]
      have k29 : ∀ i, i ≠ 15 → M1 29 i = M 29 i := fun i hi => by subst hM1; rw [zup_ne (fun z => hi z.2), zcp_row (by decide), rC 29 (by decide)]
      have k15 : M1 29 15 = 0 := by subst hM1; exact zup_eq
      have k56 : ∀ j, 0 ≤ j → j < 18 → M1 56 j = (TD (M 115) (EW M) x).2.2 j := fun j j0 j1 => by
        subst hM1
        rw [zup_row (by decide), zcp_eq j0 (by omega), show 0 + (j - 0) = j by omega]
        exact w98 j j0 j1
      have q1 : ∀ b, (b < 87 ∨ 98 < b) → b ≠ 29 → b ≠ 56 → M1 b = M b := fun b hb h1 h2 => by rw [r1 b h1 h2, rC b hb]
      have e115 : M1 115 = M 115 := q1 115 (by decide) (by decide) (by decide)
      have eE : EW M1 = EW M := by
        funext p s
        exact EW.fr (q1 51 (by decide) (by decide) (by decide)) (q1 52 (by decide) (by decide) (by decide)) (q1 53 (by decide) (by decide) (by decide)) (q1 54 (by decide) (by decide) (by decide)) (by rw [e115]) p s
      have V1 : JV M1 := h.jv.cg (by rw [q1 113 (by decide) (by decide) (by decide)]) (by rw [q1 113 (by decide) (by decide) (by decide)]) e115 (q1 126 (by decide) (by decide) (by decide)) (fun b h1 h2 => q1 b (by omega) (by omega) (by omega))
      have B1 : BKE (M1 115) (bL M1 44) := by
        rw [e115]
        refine ⟨hW, fun p a b c => ?_⟩
        have := h.2.2.1.e.2 p a b c
        unfold EQ tTell at *
        have e7 : bL M1 44 7 = bL M 44 7 := q1 51 (by decide) (by decide) (by decide)
        have e8 : bL M1 44 8 = bL M 44 8 := q1 52 (by decide) (by decide) (by decide)
        have e9 : bL M1 44 9 = bL M 44 9 := q1 53 (by decide) (by decide) (by decide)
        have e10 : bL M1 44 10 = bL M 44 10 := q1 54 (by decide) (by decide) (by decide)
        rw [e7, e8, e9, e10]
        exact this
      have nn1 : ∀ l, 1 ≤ ND (M 115) x l := by
        intro l
        show 1 ≤ nnS (fun l => bt x l) true (mR (M 115)) l
        unfold nnS
        by_cases hb : bt x l = true
        · rw [if_pos hb]
          rw [hx, bt_and br.1 br.2 ur.1 ur.2, Bool.and_eq_true] at hb
          have u := (mR_used hW (l := (l : Int)) (by omega)).mpr hb.2
          have rg : 0 ≤ mR (M 115) l ∧ mR (M 115) l ≤ 3 := mB_rg hW l (M 115 182).toNat (by omega)
          have := cho_rg (dc := true) ⟨show 1 ≤ mR (M 115) l by omega, rg.2⟩
          omega
        · rw [if_neg hb]; exact Nat.le_refl _
      have hgd := TD_hd (x := x) hW (EB_ew M) nn1
      apply vX10_cast
      refine m_lies (fun _ _ => ⟨fun _ => m_places ⟨fun z => by rw [e115] at z; omega, fun _ => m_dices B1 V1 (by rw [q1 113 (by decide) (by decide) (by decide)]; exact h.2.2.2.2.2.2.1.1) hbits (fun z => by rw [e115, ← hx] at z; omega) (fun y1 y2 M2 g => ⟨fun _ => ?_, fun z => by omega⟩)⟩, fun z => by omega⟩) (fun z => by omega)
      obtain ⟨g1, g2, g3, g4, g5, g6, g7⟩ := g
      rw [e115, eE, ← hx] at g7
      generalize (TD (M 115) (EW M) x).2.2 = gg at *
      have wr : ∀ (m i : Nat) (M3 : ZM), i + m = 18 → (∀ b, b ≠ 115 → M3 b = M2 b) → (∀ k, (k < 160 ∨ 160 + (i : Int) ≤ k) → M3 115 k = M2 115 k) → (∀ j, 0 ≤ j → j < (i : Int) → M3 115 (160 + j) = gg j) → wX10_cast (d + 47) 40 [(0, zA 113), (2, zI (i : Int))] M3 (fun y M2 => 0 = y ∧ J (t + 1) M2) := by
        intro m
        induction m with
        | zero =>
          intro i M3 hi r3 k3 w3
          obtain rfl : i = 18 := by omega
          have f1 : M3 113 1 = M 113 1 := by rw [r3 113 (by decide), g1.1.fk (k := 1) (by omega), q1 113 (by decide) (by decide) (by decide)]
          apply vX10_cast_40
          refine ⟨fun _ => m_good (by rw [f1]; omega) ⟨rfl, ?_⟩, fun z => by omega⟩
          rw [f1]
          refine h.rules ht hgd (fun b h1 h2 h3 h4 h5 h6 h7 => ?_) (fun i hi => ?_) (fun i h1 h2 h3 => ?_) ?_ ?_ ?_ ?_ ?_ (fun i hi => ?_) (fun i i0 i1 => ?_) (fun i i0 i1 => ?_)
          · rw [zup_row h3, zup_row h3, r3 b h4, g3 b h3 (by omega) (by omega) (by omega) (by omega) (by omega), q1 b (by omega) h1 h2]
          · rw [zup_row (by decide), zup_row (by decide), r3 29 (by decide), g3 29 (by decide) (by decide) (by decide) (by decide) (by decide) (by decide), k29 i hi]
          · rw [zup_ne (fun z => h2 z.2), zup_ne (fun z => h1 z.2), r3 113 (by decide), g1.1.fk h3, q1 113 (by decide) (by decide) (by decide)]
          · rw [zup_row (by decide), zup_row (by decide), r3 29 (by decide), g3 29 (by decide) (by decide) (by decide) (by decide) (by decide) (by decide)]; exact k15
          · rw [zup_ne (by omega), zup_eq]
          · rw [zup_eq]
          · rw [zup_ne (by omega), zup_ne (by omega), r3 113 (by decide)]
            have := g2.1
            rw [g1.1.fk (k := 1) (by omega), q1 113 (by decide) (by decide) (by decide)] at this
            exact this
          · refine h.jf.fr ?_
            rw [zup_row (by decide), zup_row (by decide), r3 106 (by decide), g3 106 (by decide) (by decide) (by decide) (by decide) (by decide) (by decide), q1 106 (by decide) (by decide) (by decide)]
          · rw [zup_row (by decide), zup_row (by decide), k3 i (by omega), g3 115 (by decide) (by decide) (by decide) (by decide) (by decide) (by decide), e115]
          · rw [zup_row (by decide), zup_row (by decide)]; exact w3 i i0 (by omega)
          · rw [zup_row (by decide), zup_row (by decide), r3 56 (by decide), g3 56 (by decide) (by decide) (by decide) (by decide) (by decide) (by decide)]; exact k56 i i0 i1
        | succ m ih =>
          intro i M3 hi r3 k3 w3
          apply vX10_cast_40
          refine ⟨fun z => by omega, fun _ => ⟨⟨by omega, by omega⟩, by omega, by omega, zset ⟨⟨by omega, by omega⟩, ih (i + 1) _ (by omega) (fun b hb => by rw [zup_row hb, r3 b hb]) (fun k hk => by rw [zup_ne (by omega), k3 k (by omega)]) (fun j j0 j1 => ?_)⟩⟩⟩
          rw [zup_at]
          by_cases e : j = i
          · rw [if_pos (by omega), r3 131 (by decide), e]; exact g7 i (by omega) (by omega)
          · rw [if_neg (by omega)]; exact w3 j j0 (by omega)
      exact wr 18 0 M2 (by omega) (fun _ _ => rfl) (fun _ _ => rfl) (fun j a b => by omega)
    · rw [if_pos (by omega)] at z; omega
  · apply vX10_cast
    exact m_lies (fun _ _ => by omega) (fun _ => ⟨fun z => absurd rfl z, fun _ => m_no ht h (by omega) ⟨rfl, h.refuse (by omega)⟩⟩)
