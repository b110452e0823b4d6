/-! the class's Pebble: seek -/
theorem c_countRoads3 {d : Nat} {M : ZM} {K : Int → Int} {Q : ZM → Prop} (hL : CL K M) (hQ : ∀ M', (∀ b, b ≠ 103 → M' b = M b) → (∀ l, 0 ≤ l → l < 6 → M' 103 l = mR K l) → Q M') : zcV (d + 2) 14 [zA 89, zA 103] M Q := by
  obtain ⟨hW, c1, c2, c3⟩ := hL
  have hpl := hW.1
  apply vX1_countRoads_at89_103
  refine c_fillI (n := 6) rfl rfl (by decide) ?_
  have lp : ∀ (m i : Nat) (M1 : ZM), (i : Int) + m = K 182 → (∀ b, b ≠ 103 → M1 b = M b) → (∀ l, 0 ≤ l → l < 6 → M1 103 l = mB K l i) → wX1_countRoads (d + 1) 7 [(0, zA 89), (1, zA 103), (2, zI i)] M1 Q := by
    intro m
    induction m with
    | zero =>
      intro i M1 hi r v
      obtain rfl : i = (K 182).toNat := by omega
      apply vX1_countRoads_at89_103_7
      rw [r 44 (by decide), c1]
      exact ⟨fun _ => hQ M1 r v, fun z => by omega⟩
    | succ m ih =>
      intro i M1 hi r v
      obtain ⟨q1, q2, q3, q4, q5, q6⟩ := c3 i (by omega) (by omega)
      have hw := hW.2.2.2.2.2.2.2 i (by omega) (by omega)
      apply vX1_countRoads_at89_103_7
      rw [r 44 (by decide), c1, r 45 (by decide), q1, r 90 (by decide), r 48 (by decide), q5]
      refine ⟨fun z => by omega, fun _ => ⟨by omega, fun k => ⟨⟨by omega, by omega⟩, ih (i + 1) M1 (by omega) r (fun l l0 l1 => ?_)⟩, fun k => ?_⟩⟩
      · unfold mB; rw [if_neg (fun z => k z.1)]; exact v l l0 l1
      · have hl := (hw.2.1 k).1
        rw [q2 k]
        refine ⟨by omega, fun z => by omega, fun _ => ⟨by omega, by omega, by omega, by omega, by omega, zset ⟨⟨by omega, by omega⟩, ih (i + 1) _ (by omega) (fun b hb => by rw [zup_row hb, r b hb]) (fun l l0 l1 => ?_)⟩⟩⟩
        rw [zup_at]
        unfold mB
        by_cases e : l = K (10 * i + 1)
        · rw [if_pos e, if_pos ⟨k, e.symm⟩, e, v _ (by omega) (by omega)]
        · rw [if_neg e, if_neg (fun z => e z.2.symm), v l l0 l1]
  exact lp (K 182).toNat 0 _ (by omega) (fun b hb => zrow_ne hb) (fun l l0 l1 => by rw [zrow_at, if_pos (by omega)]; rfl)
theorem c_pSeek {d : Nat} {M : ZM} {K : Int → Int} {E : Int → Int → Int} {rs : Int → Int → Bool} {Q : Int → ZM → Prop} (hE : EB K E) (hC : CH K E rs M) (hQ : ∀ M' x, (∀ b, (b < 100 ∨ 105 < b) → M' b = M b) → PX K E x → Q (x * 10 ^ (10 - (K 179).toNat)) M') : zcL (d + 17) 38 [zA 100] M Q := by
  have hW := hC.1.1
  have hday := hW.2.2.1
  have lp : ∀ (m i : Nat) (M1 : ZM), i + m = 176 → (∀ b, b ≠ 101 → M1 b = M b) → (∀ j b : Int, 0 ≤ j → j < i → 0 ≤ b → b ≤ 1 → M1 101 (j * 2 + b) = M 92 j) → wX4_seek (d + 16) 2 [(0, zA 100), (1, zI (i : Int))] M1 Q := by
    intro m
    induction m with
    | zero =>
      intro i M1 hi r1 v1
      obtain rfl : i = 176 := by omega
      apply vX4_seek_2
      refine ⟨fun _ => c_fillI (n := 12) rfl rfl (by decide) (c_countRoads3 (hC.1.congr (fun b hb => by rw [zrow_ne (by omega), r1 b (by omega)])) (fun M3 r3 v3 => zset ?_)), fun z => by omega⟩
      generalize hM4 : zup M3 100 6 (-1000000000000000000) = M4
      have r4 : ∀ b, b ≠ 100 → M4 b = M3 b := fun b hb => by subst hM4; exact zup_row hb
      have q4 : ∀ b, b ≠ 100 → b ≠ 101 → b ≠ 102 → b ≠ 103 → M4 b = M b := fun b h1 h2 h3 h4 => by rw [r4 b h1, r3 b h4, zrow_ne h3, r1 b h2]
      have v6 : M4 100 6 = -1000000000000000000 := by subst hM4; exact zup_eq
      have e102 : ∀ k, 0 ≤ k → k < 12 → M4 102 k = -1 := fun k k0 k1 => by rw [r4 102 (by decide), r3 102 (by decide), zrow_at, if_pos (by omega)]
      have e101 : M4 101 = M1 101 := by rw [r4 101 (by decide), r3 101 (by decide), zrow_ne (by decide)]
      have C4 : CH K E rs M4 := hC.congr (fun b hb => q4 b (by omega) (by omega) (by omega) (by omega)) (by rw [q4 89 (by decide) (by decide) (by decide) (by decide)])
      have R4 : RU K (M4 102) := fun l b l0 l1 b0 b1 lm => by rw [e102 _ (by omega) (by omega)]; omega
      have B4 : PBAS K E rs M4 := by
        intro s p b s0 s1 p0 p1 b0 b1 hr
        rw [e101, v1 (16 * s + p) b (by omega) (by omega) b0 b1]
        exact hC.2.2.2.2 s p s0 s1 p0 p1 hr
      refine c_pWeigh C4 hE R4 B4 (fun M5 r5 B5 => ?_)
      have f102 : M5 102 = M4 102 := r5 102 (by decide)
      refine c_tryKey (d := d) (j2 := pW K E (M4 102) * 10 ^ (10 - (K 179).toNat)) hE 12 (by omega) (C4.congr (fun b hb => r5 b (by omega)) (by rw [r5 89 (by decide)])) (fun l l0 l1 => by rw [r5 103 (by decide), r4 103 (by decide)]; exact v3 l l0 l1) (by rw [f102]; exact R4) B5 (cfr_le _ 12) (by rw [f102]) (fun M6 pf ps => ?_)
      obtain ⟨f1, f2, f3, f4⟩ := pf
      obtain ⟨s1, s2, s3⟩ := ps
      have e6 : M5 100 6 = -1000000000000000000 := by rw [r5 100 (by decide)]; exact v6
      rw [e6] at s1 s3
      have cpt : ∀ r, CP (M5 102) r := fun r k k0 k1 hk => absurd (by rw [f102]; exact e102 k k0 k1) hk
      have vb : ∀ r, VR K r → -19890000000000 ≤ pW K E r * 10 ^ (10 - (K 179).toNat) := fun r hv => (scale_bd (by omega) (PV_bd hW hE hv.ru (K 179).toNat (K 178) 0 hW.2.1.1 (by omega) (by omega))).1
      have rows : ∀ b, (b < 100 ∨ 105 < b) → M6 b = M b := fun b hb => by rw [f1 b (by omega) (by omega) (by omega) (by omega) (by omega), r5 b (by omega), q4 b (by omega) (by omega) (by omega) (by omega)]
      have v0 : VR K (fun _ => 0) := fun l b _ _ _ _ lm => by dsimp only; omega
      have u0 := pow10_pos (10 - (K 179).toNat)
      rcases s3 with s3 | ⟨r, y1, y2, y3⟩
      · have x1 := s2 _ v0 (cpt _)
        have x2 := vb _ v0
        rw [s3] at x1
        exact absurd x1 (by omega)
      · rw [y3]
        refine hQ M6 _ rows ⟨⟨r, y1, rfl⟩, fun r' hv' => ?_⟩
        have x1 := s2 r' hv' (cpt _)
        rw [y3] at x1
        by_cases h : pW K E r' ≤ pW K E r
        · exact h
        · have := Int.mul_lt_mul_of_pos_right (show pW K E r < pW K E r' by omega) (show (0 : Int) < 10 ^ (10 - (K 179).toNat) by omega)
          exact absurd x1 (by omega)
    | succ m ih =>
      intro i M1 hi r1 v1
      apply vX4_seek_2
      refine ⟨fun z => by omega, fun _ => ⟨⟨by omega, by omega⟩, by omega, by omega, zset ⟨⟨by omega, by omega⟩, ⟨by omega, by omega⟩, by omega, by omega, zset ⟨⟨by omega, by omega⟩, ih (i + 1) _ (by omega) (fun b hb => by rw [zup_row hb, zup_row hb, r1 b hb]) (fun j b j0 j1 b0 b1 => ?_)⟩⟩⟩⟩
      have z92 : zup M1 101 ((i : Int) * 2) (M1 92 i) 92 = M 92 := by rw [zup_row (by decide), r1 92 (by decide)]
      rw [z92, r1 92 (by decide), zup_at]
      by_cases e : j = i
      · subst e
        rcases (by omega : b = 0 ∨ b = 1) with rfl | rfl
        · rw [if_neg (by omega), Int.add_zero, zup_eq]
        · rw [if_pos rfl]
      · rw [if_neg (by omega), zup_ne (by omega)]
        exact v1 j b j0 (by omega) b0 b1
  apply vX4_seek
  exact lp 176 0 M (by omega) (fun _ _ => rfl) (fun j b a c => by omega)
