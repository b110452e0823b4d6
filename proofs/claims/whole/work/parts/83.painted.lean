/-! the reference: painted, signs, signed -/
theorem JV.pt {M M' : ZM} (h : JV M) (e1 : M' 113 26 = M 113 26) (e2 : M' 113 1 = M 113 1) (e3 : ∀ i, i % 10 ≠ 1 ∨ 160 ≤ i → M' 115 i = M 115 i) (e4 : M' 126 = M 126) (e5 : ∀ b, 51 ≤ b → b ≤ 54 → M' b = M b) : JV M' := by
  have ee : ∀ p s, EW M' p s = EW M p s := fun p s => EW.fr (e5 51 (by decide) (by decide)) (e5 52 (by decide) (by decide)) (e5 53 (by decide) (by decide)) (e5 54 (by decide) (by decide)) (e3 179 (by omega)) p s
  unfold JV at *
  rw [e1, e2, e4, e3 182 (by omega)]
  refine ⟨h.1, fun q p s a b c d => ?_⟩
  rw [h.2 q p s a b c d, ee, e3 (10 * p) (by omega)]
abbrev vS (K : Int → Int) (E : Int → Int → Int) (s : Int) : Int := (TP (pK K s) E).1
theorem m_painted {d : Nat} {M : ZM} {l s : Int} {Q : Int → ZM → Prop} (hB : BKE (M 115) (bL M 44)) (hV : JV M) (h29 : M 113 29 = 0) (hs : SB (M 115) l s) (hQ : ∀ M', frm M M' → JV M' → (∀ b, b ≠ 113 → b ≠ 125 → b ≠ 126 → b ≠ 127 → b ≠ 128 → b ≠ 129 → b ≠ 130 → M' b = M b) → Q (vS (M 115) (EW M) s) M') : zcL (d + 47) 227 [zA 113, zI s] M Q := by
  have hW := hB.1
  have hpl := hW.1
  have sr := hs.1.r (by decide)
  generalize hK : M 115 = K at *
  generalize hEE : EW M = E at *
  have l56 : ∀ (M3 : ZM), frm M M3 → JV M3 → (∀ b, b ≠ 113 → b ≠ 115 → b ≠ 125 → b ≠ 126 → b ≠ 127 → b ≠ 128 → b ≠ 129 → b ≠ 130 → M3 b = M b) → M3 113 32 = vS K E s → ∀ i2 : Int, ((∃ p : Int, 0 ≤ p ∧ bt s p = true) → i2 = l) → ∀ (m p : Nat) (M4 : ZM), (p : Int) + m = K 182 → (∀ b, b ≠ 115 → M4 b = M3 b) → (∀ i, M4 115 i = if 10 * (p : Int) ≤ i then pK K s i else K i) → wX10_painted (d + 46) 56 [(0, zA 113), (1, zI s), (2, zI i2), (3, zI (p : Int))] M4 Q := by
    intro M3 f3 V3 r3 v3 i2 h2 m
    induction m with
    | zero =>
      intro p M4 hp r4 o4
      have e115 : M4 115 = K := by
        funext i
        rw [o4]
        split
        · unfold pK
          rw [if_neg]
          rintro ⟨a, b, c, e⟩
          have := (hs.2 (i / 10) (by omega) e).1
          omega
        · rfl
      have r5 : ∀ b, b ≠ 113 → b ≠ 125 → b ≠ 126 → b ≠ 127 → b ≠ 128 → b ≠ 129 → b ≠ 130 → M4 b = M b := fun b h1 h3 h4 h5 h6 h7 h8 => by
        by_cases hb : b = 115
        · rw [hb, e115, hK]
        · rw [r4 b hb, r3 b h1 hb h3 h4 h5 h6 h7 h8]
      apply vX10_painted_56
      refine m_places ⟨fun _ => ?_, fun z => by rw [e115] at z; omega⟩
      rw [r4 113 (by decide), v3]
      refine hQ M4 (frm.of (fun b b1 b2 => r5 b b1 (by omega) (by omega) (by omega) (by omega) (by omega) (by omega)) (fun k hk => by rw [r4 113 (by decide), f3.1.fk hk])) ?_ r5
      refine V3.pt (by rw [r4 113 (by decide)]) (by rw [r4 113 (by decide)]) (fun i hi => ?_) (r4 126 (by decide)) (fun b b1 b2 => r4 b (by omega))
      rw [e115, f3.1.row 115 rfl, hK]
    | succ m ih =>
      intro p M4 hp r4 o4
      have e182 : M4 115 182 = K 182 := by
        rw [o4]
        split
        · exact pK_ne (by omega)
        · rfl
      apply vX10_painted_56
      refine m_places ?_
      rw [e182]
      refine ⟨fun z => by omega, fun _ => m_isIn sr.1 sr.2 (by omega) (by omega) (fun hb => ⟨fun z => by omega, fun _ => ⟨⟨by omega, by omega⟩, ⟨by omega, by omega⟩, ⟨by omega, by omega⟩, by omega, zset ⟨⟨by omega, by omega⟩, ih (p + 1) _ (by omega) (fun b hb => by rw [zup_row hb, r4 b hb]) (fun i => ?_)⟩⟩⟩) (fun hb => ⟨fun _ => ⟨⟨by omega, by omega⟩, ih (p + 1) M4 (by omega) r4 (fun i => ?_)⟩, fun z => absurd rfl z⟩)⟩
      · rw [zup_at, o4]
        by_cases e : i = 0 + 10 * (p : Int) + 1
        · rw [if_pos e, if_neg (by omega), h2 ⟨p, by omega, hb⟩, e, show 0 + 10 * (p : Int) + 1 = 10 * p + 1 by omega, (hs.2 p (by omega) hb).2.2]
        · rw [if_neg e]
          by_cases h3 : 10 * (p : Int) ≤ i
          · rw [if_pos h3]
            by_cases h4 : 10 * ((p + 1 : Nat) : Int) ≤ i
            · rw [if_pos h4]
            · rw [if_neg h4, pK_ne (by omega)]
          · rw [if_neg h3, if_neg (by omega)]
      · rw [o4]
        by_cases h3 : 10 * (p : Int) ≤ i
        · rw [if_pos h3]
          by_cases h4 : 10 * ((p + 1 : Nat) : Int) ≤ i
          · rw [if_pos h4]
          · rw [if_neg h4]
            unfold pK
            rw [if_neg]
            rintro ⟨a, b, c, e⟩
            rw [show i / 10 = (p : Int) by omega, hb] at e
            cases e
        · rw [if_neg h3, if_neg (by omega)]
  have l4 : ∀ (m p : Nat) (M4 : ZM) (i2 : Int), (p : Int) + m = K 182 → (∀ b, b ≠ 115 → M4 b = M b) → (∀ i, M4 115 i = if i < 10 * (p : Int) then pK K s i else K i) → ((∃ q : Int, 0 ≤ q ∧ q < p ∧ bt s q = true) → i2 = l) → wX10_painted (d + 46) 4 [(0, zA 113), (1, zI s), (2, zI i2), (3, zI (p : Int))] M4 Q := by
    intro m
    induction m with
    | zero =>
      intro p M4 i2 hp r4 o4 h2
      have e115 : M4 115 = pK K s := by
        funext i
        rw [o4]
        split
        · rfl
        · unfold pK
          rw [if_neg]
          rintro ⟨a, b, c, e⟩
          have := (hs.2 (i / 10) (by omega) e).1
          omega
      have E4 : EW M4 = E := by
        rw [← hEE]
        funext p s'
        exact EW.fr (r4 51 (by decide)) (r4 52 (by decide)) (r4 53 (by decide)) (r4 54 (by decide)) (by rw [e115, pK_ne (by omega), hK]) p s'
      have V4 : JV M4 := hV.pt (by rw [r4 113 (by decide)]) (by rw [r4 113 (by decide)]) (fun i hi => by rw [e115, pK_ne (by omega), hK]) (r4 126 (by decide)) (fun b b1 b2 => r4 b (by omega))
      have B4 : BKE (M4 115) (bL M4 44) := by
        rw [e115]
        exact (pK_bke hB hs).congr (fun j hj => r4 _ (by omega))
      apply vX10_painted_4
      refine m_places ?_
      rw [e115, pK_ne (i := 182) (by omega)]
      refine ⟨fun _ => m_plains B4 V4 (by rw [r4 113 (by decide)]; exact h29) (fun M5 g => ?_), fun z => by omega⟩
      obtain ⟨g1, g2, g3, g4, g5, g6, g7⟩ := g
      rw [e115, E4] at g4
      -- painted back
      let M3 : ZM := zrow M5 115 K
      have q3 : ∀ b, b ≠ 115 → M3 b = M5 b := fun b hb => zrow_ne hb
      have f3 : frm M M3 := by
        refine frm.of (fun b b1 b2 => ?_) (fun k hk => ?_)
        · by_cases hb : b = 115
          · rw [hb, hK]; exact zrow_at _ _ _
          · rw [q3 b hb, g3 b b1 (by omega) (by omega) (by omega) (by omega) (by omega) (by omega), r4 b hb]
        · rw [q3 113 (by decide), g1.1.fk hk, r4 113 (by decide)]
      have e3 : M3 115 = K := zrow_at _ _ _
      have e5 : M5 115 = pK K s := by rw [g3 115 (by decide) (by decide) (by decide) (by decide) (by decide) (by decide) (by decide), e115]
      refine l56 M3 f3 ?_ (fun b h1 h2 h3 h4 h5 h6 h7 h8 => by rw [q3 b h2, g3 b h1 h3 h4 h5 h6 h7 h8, r4 b h2]) (by rw [q3 113 (by decide)]; exact g4) i2 (fun ⟨q, q0, q1⟩ => h2 ⟨q, q0, by have := (hs.2 q q0 q1).1; omega, q1⟩) (K 182).toNat 0 M5 (by omega) (fun b hb => (q3 b hb).symm) (fun i => ?_)
      · exact g2.pt (by rw [q3 113 (by decide)]) (by rw [q3 113 (by decide)]) (fun i hi => by rw [e3, e5, pK_ne (by omega)]) (q3 126 (by decide)) (fun b b1 b2 => q3 b (by omega))
      · rw [e5]
        split
        · rfl
        · exact pK_ne (by omega)
    | succ m ih =>
      intro p M4 i2 hp r4 o4 h2
      have e182 : M4 115 182 = K 182 := by
        rw [o4]
        split
        · exact pK_ne (by omega)
        · rfl
      apply vX10_painted_4
      refine m_places ?_
      rw [e182]
      refine ⟨fun z => by omega, fun _ => m_isIn sr.1 sr.2 (by omega) (by omega) (fun hb => ⟨fun _ => m_fld (by omega) (by omega) ⟨⟨by omega, by omega⟩, ⟨by omega, by omega⟩, ⟨by omega, by omega⟩, by omega, zset ⟨⟨by omega, by omega⟩, ih (p + 1) _ _ (by omega) (fun b hb => by rw [zup_row hb, r4 b hb]) (fun i => ?_) (fun _ => ?_)⟩⟩, fun z => by omega⟩) (fun hb => ⟨fun z => absurd rfl z, fun _ => ⟨⟨by omega, by omega⟩, ih (p + 1) M4 i2 (by omega) r4 (fun i => ?_) (fun ⟨q, q0, q1, q2⟩ => h2 ⟨q, q0, ?_, q2⟩)⟩⟩)⟩
      · rw [zup_at, o4]
        by_cases e : i = 0 + 10 * (p : Int) + 1
        · rw [if_pos e, if_pos (by omega), e, show 0 + 10 * (p : Int) + 1 = 10 * p + 1 by omega, pK_at (by omega) (by omega), if_pos hb]
        · rw [if_neg e]
          by_cases h3 : i < 10 * (p : Int)
          · rw [if_pos h3, if_pos (by omega)]
          · rw [if_neg h3]
            by_cases h4 : i < 10 * ((p + 1 : Nat) : Int)
            · rw [if_pos h4, pK_ne (by omega)]
            · rw [if_neg h4]
      · rw [o4, if_neg (by omega)]
        exact (hs.2 p (by omega) hb).2.2
      · rw [o4]
        by_cases h3 : i < 10 * (p : Int)
        · rw [if_pos h3, if_pos (by omega)]
        · rw [if_neg h3]
          by_cases h4 : i < 10 * ((p + 1 : Nat) : Int)
          · rw [if_pos h4]
            unfold pK
            rw [if_neg]
            rintro ⟨a, b, c, e⟩
            rw [show i / 10 = (p : Int) by omega, hb] at e
            cases e
          · rw [if_neg h4]
      · have : q ≠ p := by rintro rfl; rw [hb] at q2; cases q2
        omega
  apply vX10_painted
  exact l4 (K 182).toNat 0 M (-1) (by omega) (fun _ _ => rfl) (fun i => by
    rw [hK]
    split
    · exact (pK_ne (by omega)).symm
    · rfl) (fun ⟨q, q0, q1, _⟩ => by omega)
