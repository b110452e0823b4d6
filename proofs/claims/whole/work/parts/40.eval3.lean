/-! the reference evaluates what its TOKENS mean -/
theorem mBin0 (a b : Int) : mBin 0 a b = mChk (a + b) := if_pos rfl
theorem mBin1 (a b : Int) : mBin 1 a b = mChk (a - b) := by unfold mBin; rw [if_neg (by decide), if_pos rfl]
theorem mBin2 (a b : Int) : mBin 2 a b = mChk (a * b) := by unfold mBin; rw [if_neg (by decide), if_neg (by decide), if_pos rfl]
theorem mBin3 (a b : Int) : mBin 3 a b = if b = 0 then none else some (a.tdiv b) := by unfold mBin; rw [if_neg (by decide), if_neg (by decide), if_neg (by decide), if_pos rfl]
theorem ev_all {M0 : ZM} {e : Int → Int} (hT : 0 ≤ M0 115 183 ∧ M0 115 183 ≤ 400) (hE : M0 113 22 = M0 115 183) (he : ∀ i, 0 ≤ i → i < 3 → M0 125 i = e i ∧ 0 ≤ e i ∧ e i ≤ 20) :
    ∀ (n m : Nat) (dp i lv : Int) (h : ME) (j lv' : Int) (f : ME), m ≤ 10 → pP (cTok (M0 115)) (vTok (M0 115)) n m dp i lv h = (j, lv', some f) → 0 ≤ i → 0 ≤ dp → dp ≤ 8 → evM M0 e m dp i h j f := by
  intro n
  induction n with
  | zero => intro m dp i lv h j lv' f hm H; cases H
  | succ n ih =>
    intro m dp i lv h j lv' f hm H i0 d0 d8
    have ge : ∀ {m1 : Nat} {dp1 i1 lv1 : Int} {h1 : ME} {j1 lv2 : Int} {f1 : ME}, m1 ≤ 10 → pP (cTok (M0 115)) (vTok (M0 115)) n m1 dp1 i1 lv1 h1 = (j1, lv2, some f1) → i1 ≤ j1 := fun a b => pP_ge _ _ _ _ _ _ _ _ _ _ _ a b
    rcases (by omega : m = 0 ∨ m = 1 ∨ m = 2 ∨ m = 3 ∨ m = 4 ∨ m = 5 ∨ m = 6 ∨ m = 7 ∨ m = 8 ∨ m = 9 ∨ m = 10) with rfl | rfl | rfl | rfl | rfl | rfl | rfl | rfl | rfl | rfl | rfl
    · rw [pP_0] at H
      obtain ⟨i1, lv1, h1, e1, e2⟩ := pB_some H
      have g1 := ge (by decide) e1
      intro D l b K hD hl hb hK
      obtain ⟨D, rfl⟩ : ∃ D', D = D' + 1 := ⟨D - 1, by omega⟩
      apply vX10_testOf
      exact ih 2 dp i lv h _ _ _ (by decide) e1 i0 d0 d8 D l b _ (by omega) hl hb (fun x b' hb' hac => ih 1 dp i1 lv1 h1 _ _ _ (by decide) e2 (by omega) d0 d8 D l b b' x K (by omega) hl hb hb' hac hK)
    · rw [pP_1] at H
      intro D l b0 b x K hD hl hb0 hb hac hK
      obtain ⟨D, rfl⟩ : ∃ D', D = D' + 2 := ⟨D - 2, by omega⟩
      apply vX10_testOf_6
      by_cases hc : cTok (M0 115) i = 8
      · rw [if_pos hc] at H
        obtain ⟨i1, lv1, h1, e1, e2⟩ := pB_some H
        have g1 := ge (by decide) e1
        have nx : ∀ y b', (b' = 0 ∨ b' = 1) → ACt e (if l = 1 ∧ x = 0 then 1 else 0) b h1 y b' → wX10_testOf (D + 2) 33 [(0, zA 113), (1, zI l), (2, zI x), (3, zI y)] (stM M0 i1 b') K := by
          intro y b' hb' hy
          have hz := hac.or hl hb0 hy
          have nx := ih 1 dp i1 lv1 (mOr h h1) _ _ _ (by decide) e2 (by omega) d0 d8 (D + 2) l b0 b' _ K (by omega) hl hb0 hb' hz hK
          have y01 := hy.1
          apply vX10_testOf_33
          refine ⟨fun q => ?_, fun q => ⟨fun q2 => ?_, fun q2 => ?_⟩⟩
          · rw [if_neg q] at nx; exact nx
          · rw [if_pos q, q2] at nx; exact nx
          · rw [if_pos q, show y = 1 by omega] at nx; exact nx
        refine m_passes hT hE i0 (by decide) (fun _ => ⟨fun q => by omega, fun _ => ⟨fun q => ?_, fun q => ⟨fun q2 => ?_, fun q2 => ?_⟩⟩⟩) (fun q => absurd hc q)
        · refine ih 2 dp (i + 1) lv h _ _ _ (by decide) e1 (by omega) d0 d8 (D + 2) 0 b _ (by omega) (by omega) hb (fun y b' hb' hy => nx y b' hb' ?_)
          rw [if_neg (by omega)]; exact hy
        · refine ih 2 dp (i + 1) lv h _ _ _ (by decide) e1 (by omega) d0 d8 (D + 2) 0 b _ (by omega) (by omega) hb (fun y b' hb' hy => nx y b' hb' ?_)
          rw [if_neg (by omega)]; exact hy
        · refine ih 2 dp (i + 1) lv h _ _ _ (by decide) e1 (by omega) d0 d8 (D + 2) 1 b _ (by omega) (by omega) hb (fun y b' hb' hy => nx y b' hb' ?_)
          rw [if_pos (by omega)]; exact hy
      · rw [if_neg hc] at H
        cases H
        exact m_passes hT hE i0 (by decide) (fun q => absurd q hc) (fun _ => ⟨fun _ => ⟨hac.1, hK x b hb hac⟩, fun q => by omega⟩)
    · rw [pP_2] at H
      obtain ⟨i1, lv1, h1, e1, e2⟩ := pB_some H
      have g1 := ge (by decide) e1
      intro D l b K hD hl hb hK
      obtain ⟨D, rfl⟩ : ∃ D', D = D' + 1 := ⟨D - 1, by omega⟩
      apply vX10_bothOf
      obtain ⟨D, rfl⟩ : ∃ D', D = D' + 1 := ⟨D - 1, by omega⟩
      apply vX10_plainOf
      refine ih 4 dp i lv h _ _ _ (by decide) e1 i0 d0 d8 D l b 0 _ (by omega) hl hb (by omega) (fun x b' hb' hac => ih 3 dp i1 lv1 h1 _ _ _ (by decide) e2 (by omega) d0 d8 (D + 1) l b b' x K (by omega) hl hb hb' ?_ hK)
      rw [if_pos rfl] at hac
      exact hac
    · rw [pP_3] at H
      intro D l b0 b x K hD hl hb0 hb hac hK
      obtain ⟨D, rfl⟩ : ∃ D', D = D' + 2 := ⟨D - 2, by omega⟩
      apply vX10_bothOf_6
      by_cases hc : cTok (M0 115) i = 9
      · rw [if_pos hc] at H
        obtain ⟨i1, lv1, h1, e1, e2⟩ := pB_some H
        have g1 := ge (by decide) e1
        have nx : ∀ y b', (b' = 0 ∨ b' = 1) → ACt e (if l = 1 ∧ ¬ x = 0 then 1 else 0) b h1 y b' → wX10_bothOf (D + 2) 33 [(0, zA 113), (1, zI l), (2, zI x), (3, zI y)] (stM M0 i1 b') K := by
          intro y b' hb' hy
          have hz := hac.and hl hb0 hy
          have nx := ih 3 dp i1 lv1 (mAnd h h1) _ _ _ (by decide) e2 (by omega) d0 d8 (D + 2) l b0 b' _ K (by omega) hl hb0 hb' hz hK
          have y01 := hy.1
          apply vX10_bothOf_33
          refine ⟨fun q => ?_, fun q => ⟨fun q2 => ?_, fun q2 => ?_⟩⟩
          · rw [if_pos q] at nx; exact nx
          · rw [if_neg q, q2] at nx; exact nx
          · rw [if_neg q, show y = 1 by omega] at nx; exact nx
        have pl : ∀ (l' : Int), (l' = 0 ∨ l' = 1) → (∀ y b', (b' = 0 ∨ b' = 1) → ACt e l' b h1 y b' → wX10_bothOf (D + 2) 33 [(0, zA 113), (1, zI l), (2, zI x), (3, zI y)] (stM M0 i1 b') K) → zcI (D + 2) 189 [zA 113, zI l'] (stM M0 (i + 1) b) (fun y M3 => wX10_bothOf (D + 2) 33 [(0, zA 113), (1, zI l), (2, zI x), (3, zI y)] M3 K) := by
          intro l' hl' k'
          apply vX10_plainOf
          refine ih 4 dp (i + 1) lv h _ _ _ (by decide) e1 (by omega) d0 d8 (D + 1) l' b 0 _ (by omega) hl' hb (by omega) (fun y b' hb' hy => k' y b' hb' ?_)
          rw [if_pos rfl] at hy
          exact hy
        refine m_passes hT hE i0 (by decide) (fun _ => ⟨fun q => by omega, fun _ => ⟨fun q => ?_, fun q => ⟨fun q2 => ?_, fun q2 => ?_⟩⟩⟩) (fun q => absurd hc q)
        · refine pl 0 (by omega) (fun y b' hb' hy => nx y b' hb' ?_)
          rw [if_neg (by omega)]; exact hy
        · refine pl 0 (by omega) (fun y b' hb' hy => nx y b' hb' ?_)
          rw [if_neg (by omega)]; exact hy
        · refine pl 1 (by omega) (fun y b' hb' hy => nx y b' hb' ?_)
          rw [if_pos (by omega)]; exact hy
      · rw [if_neg hc] at H
        cases H
        exact m_passes hT hE i0 (by decide) (fun q => absurd q hc) (fun _ => ⟨fun _ => ⟨hac.1, hK x b hb hac⟩, fun q => by omega⟩)
    · rw [pP_4] at H
      intro D l b g K hD hl hb hg hK
      obtain ⟨D, rfl⟩ : ∃ D', D = D' + 2 := ⟨D - 2, by omega⟩
      apply vX10_plainOf_2
      by_cases hc : cTok (M0 115) i = 10
      · rw [if_pos hc] at H
        obtain ⟨i1, lv1, h1, e1, e2⟩ := pB_some H
        cases e2
        have nx := fun (g' : Int) (hg' : g' = 0 ∨ g' = 1) => ih 4 dp (i + 1) lv h _ _ _ (by decide) e1 (by omega) d0 d8 (D + 2) l b g' K (by omega) hl hb hg'
        refine m_passes hT hE i0 (by decide) (fun _ => ⟨fun q => by omega, fun _ => ⟨fun q => ?_, fun q => ?_⟩⟩) (fun q => absurd hc q)
        · refine nx 0 (by omega) (fun x b' hb' hx => hK x b' hb' ?_)
          rw [if_neg q, mNot_not]; rw [if_pos rfl] at hx; exact hx
        · refine nx 1 (by omega) (fun x b' hb' hx => hK x b' hb' ?_)
          rw [if_pos q]; rw [if_neg (by decide)] at hx; exact hx
      · rw [if_neg hc] at H
        refine m_passes hT hE i0 (by decide) (fun q => absurd q hc) (fun _ => ⟨fun _ => ?_, fun q => by omega⟩)
        refine ih 5 dp i lv h _ _ _ (by decide) H i0 d0 d8 (D + 2) l b _ (by omega) hl hb (fun x b' hb' hx => ⟨fun q => ⟨by omega, hK 0 b' hb' ?_⟩, fun q => ⟨by omega, hK 1 b' hb' ?_⟩⟩)
        · rcases hg with rfl | rfl
          · rw [if_pos rfl]; rw [q] at hx; exact hx
          · rw [if_neg (by decide)]; have := hx.not; rw [q] at this; exact this
        · have x01 := hx.1
          rcases hg with rfl | rfl
          · rw [if_pos rfl]; rw [show x = 1 by omega] at hx; exact hx
          · rw [if_neg (by decide)]; have := hx.not; rw [show x = 0 by omega] at this; exact this
    · rw [pP_5] at H
      intro D l b K hD hl hb hK
      obtain ⟨D, rfl⟩ : ∃ D', D = D' + 3 := ⟨D - 3, by omega⟩
      apply vX10_positiveOf
      refine m_sign (by decide) (by decide) ?_
      by_cases hc : cTok (M0 115) i = 140
      · rw [if_pos hc] at H
        by_cases h8 : dp = 8
        · rw [if_pos h8] at H; cases H
        rw [if_neg h8] at H
        obtain ⟨i1, lv1, h1, e1, e2⟩ := pB_some H
        have g1 := ge (by decide) e1
        by_cases hc2 : cTok (M0 115) i1 = 141
        · rw [if_pos hc2] at e2
          cases e2
          have ht := cTok_pos (K := M0 115) (i := i1) (by omega)
          refine m_passes hT hE i0 (by decide) (fun _ => ⟨fun q => by omega, fun _ => ?_⟩) (fun q => absurd hc q)
          refine ih 0 (dp + 1) (i + 1) lv h _ _ _ (by decide) e1 (by omega) (by omega) (by omega) (D + 2) l b _ (by omega) hl hb (fun x b' hb' hx => ?_)
          rw [stM_21]
          refine ⟨⟨by omega, by omega⟩, zset ?_⟩
          rw [stM_go]
          exact ⟨hx.1, hK x b' hb' hx⟩
        · rw [if_neg hc2] at e2; cases e2
      · rw [if_neg hc] at H
        obtain ⟨i1, lv1, h1, e1, e2⟩ := pB_some H
        have g1 := ge (by decide) e1
        by_cases hc2 : cTok (M0 115) i1 = 160 ∨ cTok (M0 115) i1 = 161 ∨ cTok (M0 115) i1 = 162
        · rw [if_pos hc2] at e2
          obtain ⟨i2, lv2, h2, e3, e4⟩ := pB_some e2
          cases e4
          have g2 := ge (by decide) e3
          have ht := cTok_pos (K := M0 115) (i := i1) (by omega)
          refine m_passes hT hE i0 (by decide) (fun q => absurd q hc) (fun _ => ⟨fun _ => ?_, fun q => by omega⟩)
          refine ih 6 dp i lv h _ _ _ (by decide) e1 i0 d0 d8 (D + 2) l b _ (by omega) hl hb (fun x b1 hb1 hx => ?_)
          rw [stM_21]
          refine m_codeAt hT hE (by omega) ?_
          rw [stM_21]
          refine ⟨⟨by omega, by omega⟩, zset ?_⟩
          rw [stM_go]
          refine ih 6 dp (i1 + 1) lv1 h _ _ _ (by decide) e3 (by omega) d0 d8 (D + 2) l b1 _ (by omega) hl hb1 (fun y b2 hb2 hy => ?_)
          rw [stM_23]
          have key : l = 1 → b2 = 0 → ∀ (o z : Int), (if cTok (M0 115) i1 = 160 then (4 : Int) else if cTok (M0 115) i1 = 162 then 5 else 6) = o → mBin o x y = some z → (z = 0 ∨ z = 1) → ACt e l b (mTwo o h1 h2) z b2 := by
            intro hl1 hb20 o z ho hm hz
            unfold ACs at hx hy
            refine ⟨hz, fun hh => ?_, fun hn => ?_⟩
            · have hx := hx.1 hh
              unfold mTwo
              cases hf : h1 e with
              | none =>
                rw [hf] at hx
                have := hy.2 (by omega)
                omega
              | some a =>
                rw [hf] at hx
                obtain ⟨rfl, rfl, -⟩ := hx
                have hy := hy.1 ⟨hl1, rfl⟩
                dsimp only
                cases hg : h2 e with
                | none => rw [hg] at hy; omega
                | some c =>
                  rw [hg] at hy
                  obtain ⟨rfl, rfl, -⟩ := hy
                  dsimp only
                  rw [hm]
                  exact ⟨rfl, rfl⟩
            · have := hx.2 hn
              have := hy.2 (by omega)
              omega
          have key0 : (l = 0 ∨ b2 = 1) → ∀ o : Int, ACt e l b (mTwo o h1 h2) 0 b2 := by
            intro hq o
            unfold ACs at hx hy
            refine ⟨Or.inl rfl, fun hh => ?_, fun hn => ?_⟩
            · have hx := hx.1 hh
              have hb2' : b2 = 1 := by omega
              unfold mTwo
              cases hf : h1 e with
              | none => exact hb2'
              | some a =>
                rw [hf] at hx
                obtain ⟨rfl, rfl, -⟩ := hx
                have hy := hy.1 ⟨hh.1, rfl⟩
                dsimp only
                cases hg : h2 e with
                | none => exact hb2'
                | some c => rw [hg] at hy; omega
            · have := hx.2 hn
              have := hy.2 (by omega)
              omega
          refine ⟨fun q => ⟨by omega, hK _ b2 hb2 (key0 (by omega) _)⟩, fun q => ⟨fun q2 => ⟨by omega, hK _ b2 hb2 (key0 (by omega) _)⟩, fun q2 => m_sign (by decide) (by decide) ⟨fun q3 => m_sign (by decide) (by decide) ⟨fun q4 => ⟨fun z => ⟨by omega, hK _ b2 hb2 (key (by omega) q2 _ _ rfl ?_ (by omega))⟩, fun z => ⟨by omega, hK _ b2 hb2 (key (by omega) q2 _ _ rfl ?_ (by omega))⟩⟩, fun q4 => ⟨fun z => ⟨by omega, hK _ b2 hb2 (key (by omega) q2 _ _ rfl ?_ (by omega))⟩, fun z => ⟨by omega, hK _ b2 hb2 (key (by omega) q2 _ _ rfl ?_ (by omega))⟩⟩⟩, fun q3 => ⟨fun z => ⟨by omega, hK _ b2 hb2 (key (by omega) q2 _ _ rfl ?_ (by omega))⟩, fun z => ⟨by omega, hK _ b2 hb2 (key (by omega) q2 _ _ rfl ?_ (by omega))⟩⟩⟩⟩⟩
          · rw [if_neg (by omega), if_neg (by omega)]; simp [mBin]; omega
          · rw [if_neg (by omega), if_neg (by omega)]; simp [mBin]; omega
          · rw [if_neg (by omega), if_pos (by omega)]; simp [mBin]; omega
          · rw [if_neg (by omega), if_pos (by omega)]; simp [mBin]; omega
          · rw [if_pos (by omega)]; simp [mBin]; omega
          · rw [if_pos (by omega)]; simp [mBin]; omega
        · rw [if_neg hc2] at e2; cases e2
    · rw [pP_6] at H
      obtain ⟨i1, lv1, h1, e1, e2⟩ := pB_some H
      have g1 := ge (by decide) e1
      intro D l b K hD hl hb hK
      obtain ⟨D, rfl⟩ : ∃ D', D = D' + 1 := ⟨D - 1, by omega⟩
      apply vX10_sumOf
      exact ih 8 dp i lv h _ _ _ (by decide) e1 i0 d0 d8 D l b _ (by omega) hl hb (fun x b' hb' hac => ih 7 dp i1 lv1 h1 _ _ _ (by decide) e2 (by omega) d0 d8 D l b b' x K (by omega) hl hb hb' hac hK)
    · rw [pP_7] at H
      intro D l b0 b x K hD hl hb0 hb hac hK
      obtain ⟨D, rfl⟩ : ∃ D', D = D' + 2 := ⟨D - 2, by omega⟩
      have xb : -1000000000 ≤ x ∧ x ≤ 1000000000 := hac.bd
      apply vX10_sumOf_6
      rw [stM_21]
      by_cases hc : cTok (M0 115) i = 143 ∨ cTok (M0 115) i = 145
      · rw [if_pos hc] at H
        obtain ⟨i1, lv1, h1, e1, e2⟩ := pB_some H
        have g1 := ge (by decide) e1
        have ht := cTok_pos (K := M0 115) (i := i) (by omega)
        have k61 : ∀ s : Int, (s = if cTok (M0 115) i = 143 then 1 else 0) → wX10_sumOf (D + 2) 61 [(0, zA 113), (1, zI l), (2, zJ x), (4, zI s)] (stM M0 i b) K := by
          intro s hs
          apply vX10_sumOf_61
          rw [stM_21]
          refine ⟨⟨by omega, by omega⟩, zset ?_⟩
          rw [stM_go]
          refine ih 8 dp (i + 1) lv h _ _ _ (by decide) e1 (by omega) d0 d8 (D + 2) l b _ (by omega) hl hb (fun y b1 hb1 hy => ?_)
          have yb : -1000000000 ≤ y ∧ y ≤ 1000000000 := hy.bd
          have nx : ∀ z b2, (b2 = 0 ∨ b2 = 1) → ACs e l b0 (mTwo (if cTok (M0 115) i = 143 then 0 else 1) h h1) z b2 → wX10_sumOf (D + 2) 6 [(0, zA 113), (1, zI l), (2, zJ z)] (stM M0 i1 b2) K := fun z b2 hb2 hz => ih 7 dp i1 lv1 _ _ _ _ (by decide) e2 (by omega) d0 d8 (D + 2) l b0 b2 z K (by omega) hl hb0 hb2 hz hK
          have z0 : l = 0 → x = 0 ∧ y = 0 ∧ b1 = b := fun hl0 => ⟨(hac.2 (by omega)).2, (hy.2 (by omega)).2, (hy.2 (by omega)).1⟩
          refine ⟨fun q => ⟨⟨by omega, by omega⟩, ?_⟩, fun q => ⟨⟨by omega, by omega⟩, ?_⟩⟩
          · rw [if_neg (by omega)] at nx
            refine m_bounded hb1 hl (fun a c => nx _ _ (by omega) (ACs.two (by omega) hb hac hy ?_ ?_ ?_ hb1 hl hb0)) (fun a c => nx _ _ (by omega) (ACs.two (by omega) hb hac hy ?_ ?_ ?_ hb1 hl hb0)) (fun a c => nx _ _ (by omega) (ACs.two (by omega) hb hac hy ?_ ?_ ?_ hb1 hl hb0))
            · intro _; rw [mBin1]; unfold mChk; rw [if_pos c]; exact fun _ => ⟨rfl, rfl⟩
            · exact fun _ => ⟨rfl, rfl⟩
            · intro q; omega
            · intro _; rw [mBin1]; unfold mChk
              by_cases w : 1000000000 < x - y ∨ x - y < -1000000000
              · rw [if_pos w]; intro q; omega
              · rw [if_neg w]; exact ⟨rfl, rfl, by omega, by omega⟩
            · intro q; omega
            · intro q; have := z0 q; omega
            · intro q; omega
            · exact fun _ => ⟨rfl, rfl⟩
            · intro q; have := z0 q; omega
          · rw [if_pos (by omega)] at nx
            refine m_bounded hb1 hl (fun a c => nx _ _ (by omega) (ACs.two (by omega) hb hac hy ?_ ?_ ?_ hb1 hl hb0)) (fun a c => nx _ _ (by omega) (ACs.two (by omega) hb hac hy ?_ ?_ ?_ hb1 hl hb0)) (fun a c => nx _ _ (by omega) (ACs.two (by omega) hb hac hy ?_ ?_ ?_ hb1 hl hb0))
            · intro _; rw [mBin0]; unfold mChk; rw [if_pos c]; exact fun _ => ⟨rfl, rfl⟩
            · exact fun _ => ⟨rfl, rfl⟩
            · intro q; omega
            · intro _; rw [mBin0]; unfold mChk
              by_cases w : 1000000000 < x + y ∨ x + y < -1000000000
              · rw [if_pos w]; intro q; omega
              · rw [if_neg w]; exact ⟨rfl, rfl, by omega, by omega⟩
            · intro q; omega
            · intro q; have := z0 q; omega
            · intro q; omega
            · exact fun _ => ⟨rfl, rfl⟩
            · intro q; have := z0 q; omega
        refine m_codeAt hT hE i0 (m_sign (by decide) (by decide) ⟨fun q => ?_, fun q => ?_⟩)
        · rw [stM_21]
          exact m_codeAt hT hE i0 (m_sign (by decide) (by decide) ⟨fun q => by omega, fun q => k61 1 (by rw [if_pos (by omega)])⟩)
        · rw [stM_21]
          refine m_codeAt hT hE i0 (m_sign (by decide) (by decide) ⟨fun q => by omega, fun q => ?_⟩)
          rw [stM_21]
          exact m_codeAt hT hE i0 (m_sign (by decide) (by decide) ⟨fun q => k61 0 (by rw [if_neg (by omega)]), fun q => by omega⟩)
      · rw [if_neg hc] at H
        cases H
        refine m_codeAt hT hE i0 (m_sign (by decide) (by decide) ⟨fun q => by omega, fun q => ?_⟩)
        rw [stM_21]
        exact m_codeAt hT hE i0 (m_sign (by decide) (by decide) ⟨fun q => hK x b hb hac, fun q => by omega⟩)
    · rw [pP_8] at H
      obtain ⟨i1, lv1, h1, e1, e2⟩ := pB_some H
      have g1 := ge (by decide) e1
      intro D l b K hD hl hb hK
      obtain ⟨D, rfl⟩ : ∃ D', D = D' + 1 := ⟨D - 1, by omega⟩
      apply vX10_termOf
      exact ih 10 dp i lv h _ _ _ (by decide) e1 i0 d0 d8 D l b _ (by omega) hl hb (fun x b' hb' hac => ih 9 dp i1 lv1 h1 _ _ _ (by decide) e2 (by omega) d0 d8 D l b b' x K (by omega) hl hb hb' hac hK)
    · rw [pP_9] at H
      intro D l b0 b x K hD hl hb0 hb hac hK
      obtain ⟨D, rfl⟩ : ∃ D', D = D' + 2 := ⟨D - 2, by omega⟩
      have xb : -1000000000 ≤ x ∧ x ≤ 1000000000 := hac.bd
      apply vX10_termOf_6
      rw [stM_21]
      by_cases hc : cTok (M0 115) i = 142 ∨ cTok (M0 115) i = 147
      · rw [if_pos hc] at H
        obtain ⟨i1, lv1, h1, e1, e2⟩ := pB_some H
        have g1 := ge (by decide) e1
        have ht := cTok_pos (K := M0 115) (i := i) (by omega)
        have k61 : ∀ s : Int, (s = if cTok (M0 115) i = 142 then 1 else 0) → wX10_termOf (D + 2) 61 [(0, zA 113), (1, zI l), (2, zJ x), (4, zI s)] (stM M0 i b) K := by
          intro s hs
          apply vX10_termOf_61
          rw [stM_21]
          refine ⟨⟨by omega, by omega⟩, zset ?_⟩
          rw [stM_go]
          refine ih 10 dp (i + 1) lv h _ _ _ (by decide) e1 (by omega) d0 d8 (D + 2) l b _ (by omega) hl hb (fun y b1 hb1 hy => ?_)
          have yb : -1000000000 ≤ y ∧ y ≤ 1000000000 := hy.bd
          have nx : ∀ z b2, (b2 = 0 ∨ b2 = 1) → ACs e l b0 (mTwo (if cTok (M0 115) i = 142 then 2 else 3) h h1) z b2 → wX10_termOf (D + 2) 6 [(0, zA 113), (1, zI l), (2, zJ z)] (stM M0 i1 b2) K := fun z b2 hb2 hz => ih 9 dp i1 lv1 _ _ _ _ (by decide) e2 (by omega) d0 d8 (D + 2) l b0 b2 z K (by omega) hl hb0 hb2 hz hK
          have z0 : l = 0 → x = 0 ∧ y = 0 ∧ b1 = b := fun hl0 => ⟨(hac.2 (by omega)).2, (hy.2 (by omega)).2, (hy.2 (by omega)).1⟩
          have hm : (x * y).natAbs ≤ 1000000000 * 1000000000 := by
            rw [Int.natAbs_mul]
            exact Nat.mul_le_mul (by omega) (by omega)
          rw [stM_23]
          refine ⟨fun q => ?_, fun q => ⟨fun q2 => ?_, fun q2 => ⟨fun q3 => ⟨by omega, zset ?_⟩, fun q3 => ⟨fun q4 => ⟨by omega, zset ?_⟩, fun q4 => ⟨by omega, zset ?_⟩⟩⟩⟩⟩
          · rw [if_pos (by omega)] at nx
            apply vX10_termOf_113
            refine ⟨fun q5 => by omega, fun _ => ⟨⟨by omega, by omega⟩, ?_⟩⟩
            have z00 : l = 0 → x * y = 0 := fun q => by rw [(z0 q).1]; omega
            refine m_bounded hb1 hl (fun a c => nx _ _ (by omega) (ACs.two (by omega) hb hac hy ?_ ?_ ?_ hb1 hl hb0)) (fun a c => nx _ _ (by omega) (ACs.two (by omega) hb hac hy ?_ ?_ ?_ hb1 hl hb0)) (fun a c => nx _ _ (by omega) (ACs.two (by omega) hb hac hy ?_ ?_ ?_ hb1 hl hb0))
            · intro _; rw [mBin2]; unfold mChk; rw [if_pos c]; exact fun _ => ⟨rfl, rfl⟩
            · exact fun _ => ⟨rfl, rfl⟩
            · intro q; omega
            · intro _; rw [mBin2]; unfold mChk
              by_cases w : 1000000000 < x * y ∨ x * y < -1000000000
              · rw [if_pos w]; intro q; omega
              · rw [if_neg w]; exact ⟨rfl, rfl, by omega, by omega⟩
            · intro q; omega
            · intro q; have := z0 q; have := z00 q; omega
            · intro q; omega
            · exact fun _ => ⟨rfl, rfl⟩
            · intro q; have := z0 q; omega
          all_goals rw [if_neg (by omega)] at nx
          all_goals apply vX10_termOf_113
          · have hd := tdiv_abs x y
            refine ⟨fun _ => ⟨by omega, ⟨by omega, by omega⟩, ?_⟩, fun q5 => by omega⟩
            have z00 : l = 0 → x.tdiv y = 0 := fun q => by rw [(z0 q).1]; exact Int.zero_tdiv y
            refine m_bounded hb1 hl (fun a c => by omega) (fun a c => nx _ _ (by omega) (ACs.two (by omega) hb hac hy ?_ ?_ ?_ hb1 hl hb0)) (fun a c => nx _ _ (by omega) (ACs.two (by omega) hb hac hy ?_ ?_ ?_ hb1 hl hb0))
            · intro _; rw [mBin3, if_neg (by omega)]; exact ⟨rfl, rfl, by omega, by omega⟩
            · intro q; omega
            · intro q; have := z0 q; have := z00 q; omega
            · intro q; omega
            · exact fun _ => ⟨rfl, rfl⟩
            · intro q; have := z0 q; omega
          · rw [stM_br]
            refine ⟨fun _ => ⟨by omega, ⟨by rw [Int.tdiv_one]; omega, by rw [Int.tdiv_one]; omega⟩, ?_⟩, fun q5 => by omega⟩
            rw [Int.tdiv_one]
            refine m_bounded (Or.inr rfl) hl (fun a c => by omega) (fun a c => by omega) (fun a c => nx _ _ (by omega) (ACs.two (by omega) hb hac hy ?_ ?_ ?_ hb1 hl hb0))
            · intro q; omega
            · exact fun _ => ⟨rfl, rfl⟩
            · intro q; have := z0 q; omega
          · rw [stM_br]
            refine ⟨fun _ => ⟨by omega, ⟨by rw [Int.tdiv_one]; omega, by rw [Int.tdiv_one]; omega⟩, ?_⟩, fun q5 => by omega⟩
            rw [Int.tdiv_one]
            refine m_bounded (Or.inl rfl) hl (fun a c => by omega) (fun a c => nx _ _ (by omega) (ACs.two (by omega) hb hac hy ?_ ?_ ?_ hb1 hl hb0)) (fun a c => by omega)
            · intro _; rw [mBin3, if_pos (by omega)]; intro q; omega
            · intro q; omega
            · intro q; have := z0 q; omega
          · rw [stM_br]
            refine ⟨fun _ => ⟨by omega, ⟨by rw [Int.tdiv_one]; omega, by rw [Int.tdiv_one]; omega⟩, ?_⟩, fun q5 => by omega⟩
            rw [Int.tdiv_one]
            refine m_bounded (Or.inr rfl) hl (fun a c => by omega) (fun a c => by omega) (fun a c => nx _ _ (by omega) (ACs.two (by omega) hb hac hy ?_ ?_ ?_ hb1 hl hb0))
            · intro _; rw [mBin3, if_pos (by omega)]; exact fun _ => ⟨rfl, rfl⟩
            · exact fun _ => ⟨rfl, rfl⟩
            · intro q; omega
        refine m_codeAt hT hE i0 (m_sign (by decide) (by decide) ⟨fun q => ?_, fun q => ?_⟩)
        · rw [stM_21]
          exact m_codeAt hT hE i0 (m_sign (by decide) (by decide) ⟨fun q => by omega, fun q => k61 1 (by rw [if_pos (by omega)])⟩)
        · rw [stM_21]
          refine m_codeAt hT hE i0 (m_sign (by decide) (by decide) ⟨fun q => by omega, fun q => ?_⟩)
          rw [stM_21]
          exact m_codeAt hT hE i0 (m_sign (by decide) (by decide) ⟨fun q => k61 0 (by rw [if_neg (by omega)]), fun q => by omega⟩)
      · rw [if_neg hc] at H
        cases H
        refine m_codeAt hT hE i0 (m_sign (by decide) (by decide) ⟨fun q => by omega, fun q => ?_⟩)
        rw [stM_21]
        exact m_codeAt hT hE i0 (m_sign (by decide) (by decide) ⟨fun q => hK x b hb hac, fun q => by omega⟩)
    · rw [pP_10] at H
      intro D l b K hD hl hb hK
      obtain ⟨D, rfl⟩ : ∃ D', D = D' + 3 := ⟨D - 3, by omega⟩
      apply vX10_partOf
      refine m_sign (by decide) (by decide) ?_
      by_cases hc : cTok (M0 115) i = 191
      · rw [if_pos hc] at H
        by_cases h8 : dp = 8
        · rw [if_pos h8] at H; cases H
        rw [if_neg h8] at H
        obtain ⟨i1, lv1, h1, e1, e2⟩ := pB_some H
        have g1 := ge (by decide) e1
        by_cases hc2 : cTok (M0 115) i1 = 193
        · rw [if_pos hc2] at e2
          cases e2
          have ht := cTok_pos (K := M0 115) (i := i1) (by omega)
          refine m_passes hT hE i0 (by decide) (fun _ => ⟨fun q => by omega, fun _ => ?_⟩) (fun q => absurd hc q)
          refine ih 6 (dp + 1) (i + 1) lv h _ _ _ (by decide) e1 (by omega) (by omega) (by omega) (D + 2) l b _ (by omega) hl hb (fun x b' hb' hx => ?_)
          rw [stM_21]
          refine ⟨⟨by omega, by omega⟩, zset ?_⟩
          rw [stM_go]
          exact hK x b' hb' hx
        · rw [if_neg hc2] at e2; cases e2
      · rw [if_neg hc] at H
        by_cases hc2 : (cTok (M0 115) i = 50 ∧ 0 ≤ vTok (M0 115) i ∧ vTok (M0 115) i ≤ 1000) ∨ (11 ≤ cTok (M0 115) i ∧ cTok (M0 115) i ≤ 13)
        · rw [if_pos hc2] at H
          by_cases h50 : lv = 50
          · rw [if_pos h50] at H; cases H
          rw [if_neg h50] at H
          cases H
          have ht := cTok_pos (K := M0 115) (i := i) (by omega)
          have hv : vTok (M0 115) i = M0 115 (584 + i) := by unfold vTok; rw [if_pos ht]
          refine m_passes hT hE i0 (by decide) (fun q => absurd q hc) (fun _ => ⟨fun _ => ?_, fun q => by omega⟩)
          rw [stM_21]
          refine m_codeAt hT hE i0 ?_
          rw [stM_21]
          refine ⟨⟨by omega, by omega⟩, zset ?_⟩
          rw [stM_go, stM_23, stM_21, stM_row (by decide), stM_row (by decide)]
          refine ⟨fun q => hK 0 b hb ⟨fun z => by omega, fun _ => ⟨rfl, rfl⟩⟩, fun q => ⟨fun q2 => ⟨fun q3 => ?_, fun q3 => ?_⟩, fun q2 => hK 0 b hb ⟨fun z => by omega, fun _ => ⟨rfl, rfl⟩⟩⟩⟩
          · have he3 := he (cTok (M0 115) i - 11) (by omega) (by omega)
            refine ⟨⟨by omega, by omega⟩, by omega, hK _ b hb ⟨fun z => ?_, fun z => by omega⟩⟩
            unfold mLeaf
            dsimp only
            rw [if_neg q3, he3.1]
            exact ⟨rfl, by omega, by omega, by omega⟩
          · refine ⟨⟨by omega, by omega⟩, ⟨by omega, by omega⟩, by omega, hK _ b hb ⟨fun z => ?_, fun z => by omega⟩⟩
            unfold mLeaf
            dsimp only
            rw [if_pos q3, hv, show 584 + (i + 1) - 1 = 584 + i by omega]
            exact ⟨rfl, by omega, by omega, by omega⟩
        · rw [if_neg hc2] at H; cases H
