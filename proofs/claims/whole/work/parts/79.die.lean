/-! die, cast -/
theorem c_seekDie {d t : Nat} {M : ZM} {bits : Int} {Q : Int → ZM → Prop} (h : J t M) (hbits : bs 6 bits) (h0 : (3 < bC (zand bits (uS (M 115))) ∨ 5000 < PN (ND (M 115) (zand bits (uS (M 115)))) 6) → ∀ M', (∀ b, (b < 87 ∨ 98 < b) → M' b = M b) → Q (-1) M') (h1 : bC (zand bits (uS (M 115))) ≤ 3 → PN (ND (M 115) (zand bits (uS (M 115)))) 6 ≤ 5000 → ∀ M', (∀ b, (b < 87 ∨ 98 < b) → M' b = M b) → M' 96 8 = (TD (M 115) (EW M) (zand bits (uS (M 115)))).1 → M' 96 9 = (TD (M 115) (EW M) (zand bits (uS (M 115)))).2.1 → (∀ j, 0 ≤ j → j < 18 → M' 98 j = (TD (M 115) (EW M) (zand bits (uS (M 115)))).2.2 j) → Q (PN (ND (M 115) (zand bits (uS (M 115)))) 6 : Nat) M') : zcL (d + 11) 74 [zA 96, zI bits] M Q := by
  have hW := h.wf
  have hpl := hW.1
  have br := hbits.r (by decide)
  have ub := hW.us
  have ur := ub.r (by decide)
  have xb : bs 6 (zand bits (uS (M 115))) := bs_and (by decide) hbits ur.1 ur.2
  have xbt : ∀ l, bt (zand bits (uS (M 115))) l = (bt bits l && bt (uS (M 115)) l) := fun l => bt_and br.1 br.2 ur.1 ur.2
  apply vX6_seekDie
  refine c_lay h (Or.inl rfl) (fun ML rs l _ => ⟨by omega, zset ⟨by omega, zset ?_⟩⟩)
  generalize hM2 : zup (zup ML 96 6 1) 96 7 1 = M2
  have r2 : ∀ b, b ≠ 96 → M2 b = ML b := fun b hb => by subst hM2; rw [zup_row hb, zup_row hb]
  have v6 : M2 96 6 = 1 := by subst hM2; rw [zup_ne (by omega), zup_eq]
  have v7 : M2 96 7 = 1 := by subst hM2; exact zup_eq
  have C2 : CH (M 115) (EW M) rs M2 := l.ch.congr (fun b hb => r2 b (by omega)) (by rw [r2 89 (by decide)])
  refine c_countRoads C2.1 (fun M3 r3 v97 => c_usedLooks (fun x hx hb => ?_))
  have v97' : ∀ l : Nat, l < 6 → M3 97 l = mR (M 115) l := fun l hl => v97 l (by omega) (by omega)
  have C3 : CH (M 115) (EW M) rs M3 := C2.congr (fun b hb => r3 b (by omega)) (by rw [r3 89 (by decide)])
  have ex : x = uS (M 115) := by
    refine bs_ext hx hW.us (fun l hl => ?_)
    rw [hb l hl, v97' l hl]
    have := mR_used hW (l := (l : Int)) (by omega)
    cases hq : bt (uS (M 115)) l with
    | true => simp; exact this.mpr hq
    | false =>
      simp
      have : ¬ 0 < mR (M 115) l := fun z => by rw [this.mp z] at hq; cases hq
      omega
  subst ex
  obtain ⟨x, hx'⟩ : ∃ x, x = zand bits (uS (M 115)) := ⟨_, rfl⟩
  rw [← hx'] at h0 h1 xb xbt ⊢
  have rg : ∀ l : Nat, 0 ≤ mR (M 115) l ∧ mR (M 115) l ≤ 3 := fun l => mB_rg hW l (M 115 182).toNat (by omega)
  have f6 : M3 96 6 = if true = true then 1 else 0 := by rw [r3 96 (by decide)]; exact v6
  have rows3 : ∀ b, (b < 87 ∨ 98 < b) → M3 b = M b := fun b hb' => by rw [r3 b (by omega), r2 b (by omega), l.1 b (by omega)]
  refine c_bitCount xb ⟨fun z => h0 (Or.inl z) M3 rows3, fun z => c_rules (dc := true) f6 xb (fun l hl => by rw [v97' l hl]; exact rg l) ?_⟩
  rw [nnS_cg xb v97']
  have ep : nnS (fun l => bt x l) true (mR (M 115)) = ND (M 115) x := rfl
  rw [ep]
  have cmp : ∀ y : Int, (if 5000 < y then (1 : Int) else if y = 5000 then 0 else -1) ≤ 0 ↔ y ≤ 5000 := by
    intro y
    by_cases a : 5000 < y
    · rw [if_pos a]; omega
    · rw [if_neg a]
      split <;> omega
  refine ⟨fun p5 => ?_, fun p5 => h0 (Or.inr ?_) M3 rows3⟩
  · have p5 := (cmp _).mp p5
    refine c_seek (dc := true) (R := mR (M 115)) (b := rlH (M 115)) (EB_ew M) C3 xb v97' (fun j j0 j1 => by rw [r3 91 (by decide), r2 91 (by decide)]; exact l.2.2.2.2.2.2.2.1 j j0 j1) (fun l _ => rg l) (fun l hl hs => ?_) f6 hW.hd (fl := NOTH) (Int.le_refl _) (Nat.le_trans (show PN (ND (M 115) x) 6 ≤ 5000 by omega) (by decide)) (fun M' r' k' C' H' g' s' w8 w9 => ?_)
    · rw [xbt, Bool.and_eq_true] at hs
      have := (mR_used hW (l := (l : Int)) (by omega)).mpr hs.2
      omega
    · have e97 : ∀ l : Nat, l < 6 → M' 97 l = mR (M 115) l := fun l hl => by rw [r' 97 (by decide) (by decide) (by decide) (by decide) (by decide) (by decide)]; exact v97' l hl
      refine c_rules (dc := true) (by rw [s' 6 (by omega) (by omega) (by omega)]; exact f6) xb (fun l hl => by rw [e97 l hl]; exact rg l) ?_
      rw [nnS_cg xb e97, ep]
      have tv : NOTH < (TD (M 115) (EW M) x).1 := SUM_ge (fun l => by
        show 1 ≤ nnS (fun l => bt x l) true (mR (M 115)) l
        unfold nnS
        by_cases hb : bt x l = true
        · rw [if_pos hb]
          rw [xbt, Bool.and_eq_true] at hb
          have := (mR_used hW (l := (l : Int)) (by omega)).mpr hb.2
          have := cho_rg (dc := true) ⟨show 1 ≤ mR (M 115) l by omega, (rg l).2⟩
          omega
        · rw [if_neg hb]; exact Nat.le_refl _) (lfH_v hW (EB_ew M) hW.hd) 6 (fun _ => 0)
      obtain ⟨y1, y2⟩ := w9 (by rw [r3 96 (by decide), v7]; decide) rfl
      refine h1 (by omega) (by omega) M' (fun b hb' => by rw [r' b (by omega) (by omega) (by omega) (by omega) (by omega) (by omega), rows3 b hb']) ?_ y1 y2
      have w8 : M' 96 8 = max NOTH (TD (M 115) (EW M) x).1 := w8
      rw [w8]
      omega
  · have : ¬ ((PN (ND (M 115) x) 6 : Nat) : Int) ≤ 5000 := fun z => p5 ((cmp _).mpr z)
    omega
theorem s_die {d t : Nat} {M : ZM} (h : J t M) {bits w : Int} : zcL (d + 48) 119 [zA 29, zI bits, zI w] M (fun x M1 => zcL (d + 48) 217 [zA 113, zI bits, zI w] M1 (fun y M2 => x = y ∧ J (t + 1) M2)) := by
  have hs := h.size
  have hW := h.wf
  have no : ¬ (0 ≤ bits ∧ bits ≤ 63 ∧ 0 ≤ w ∧ w ≤ 2 ∧ M 115 182 ≠ 0) → zcL (d + 48) 217 [zA 113, zI bits, zI w] M (fun y M2 => -1000000000000000000 = y ∧ J (t + 1) M2) := by
    intro hn
    apply vX10_die
    exact m_lies (fun _ _ => ⟨fun z => by omega, fun _ => m_lies (fun _ _ => ⟨fun z => by omega, fun _ => m_places ⟨fun _ => ⟨rfl, h.idle⟩, fun z => by omega⟩⟩) (fun _ => ⟨fun _ => ⟨rfl, h.idle⟩, fun z => absurd rfl z⟩)⟩) (fun _ => ⟨fun _ => ⟨rfl, h.idle⟩, fun z => absurd rfl z⟩)
  apply vX9_die
  refine c_isLooks (fun b0 b1 => ⟨fun z => by omega, fun _ => ⟨fun z => no (by omega), fun w0 => ⟨fun z => no (by omega), fun w1 => c_noPlaces (fun q => ⟨fun z => by omega, fun _ => no (by omega)⟩) (fun q => ⟨fun _ => ?_, fun z => by omega⟩)⟩⟩⟩) (fun z => ⟨fun _ => no (by omega), fun y => absurd rfl y⟩)
  have hbits : bs 6 bits := ⟨b0, by show bits < 64; omega⟩
  have ref : ∀ MC, (∀ b, (b < 87 ∨ 98 < b) → MC b = M b) → ∀ x, ((3 < bC (zand bits (uS (M 115))) ∨ 5000 < PN (ND (M 115) (zand bits (uS (M 115)))) 6) → x = -1000000000000000000) → (bC (zand bits (uS (M 115))) ≤ 3 → PN (ND (M 115) (zand bits (uS (M 115)))) 6 ≤ 5000 → (w = 0 → x = (TD (M 115) (EW M) (zand bits (uS (M 115)))).1) ∧ (w = 1 → x = (TD (M 115) (EW M) (zand bits (uS (M 115)))).2.1) ∧ (w = 2 → x = (PN (ND (M 115) (zand bits (uS (M 115)))) 6 : Nat))) → zcL (d + 48) 217 [zA 113, zI bits, zI w] MC (fun y M2 => x = y ∧ J (t + 1) M2) := by
    intro MC rC x x0 x1
    have fc := rows_frc rC
    have h1 := h.frc fc (h.jf.fr (rC 106 (by decide)))
    have e115 : MC 115 = M 115 := rC 115 (by decide)
    apply vX10_die
    refine m_lies (fun _ _ => ⟨fun z => by omega, fun _ => m_lies (fun _ _ => ⟨fun z => by omega, fun _ => m_places ⟨fun z => by rw [e115] at z; omega, fun _ => m_dices h1.2.2.1.e h1.jv h1.2.2.2.2.2.2.1.1 hbits (fun z => ⟨fun y => absurd rfl y, fun _ => ⟨x0 (by rw [e115] at z; exact z), ?_⟩⟩) (fun z1 z2 M2 g => ⟨fun _ => ?_, fun y => by omega⟩)⟩⟩) (fun z => by omega)⟩) (fun z => by omega)
    · exact h.frame fc.1 (h.jf.fr (rC 106 (by decide))) h1.jv
    · obtain ⟨g1, g2, g3, g4, g5, g6, g7⟩ := g
      rw [e115] at z1 z2 g4 g5 g6
      rw [EW_fun fc.1] at g4 g5
      have hJ : J (t + 1) M2 := h.frame (fc.1.tr g1.1) (h.jf.fr (by rw [g3 106 (by decide) (by decide) (by decide) (by decide) (by decide) (by decide), rC 106 (by decide)])) g2
      obtain ⟨y0, y1, y2⟩ := x1 z1 z2
      rw [g4, g5, g6]
      exact ⟨fun a => ⟨fun b => ⟨y2 (by omega), hJ⟩, fun b => ⟨y1 b, hJ⟩⟩, fun a => ⟨y0 a, hJ⟩⟩
  refine c_seekDie h hbits (fun hz MC rC => ⟨fun z => absurd rfl z, fun _ => ref MC rC _ (fun _ => rfl) (fun z1 z2 => by omega)⟩) (fun z1 z2 MC rC w8 w9 w98 => ⟨fun _ => ?_, fun z => ?_⟩)
  · apply vX6_tellBest
    rw [w8, w9]
    refine ⟨fun a => ⟨fun b => ref MC rC _ (fun y => by omega) (fun _ _ => ⟨fun z => absurd z a, fun z => absurd z b, fun _ => rfl⟩), fun b => ref MC rC _ (fun y => by omega) (fun _ _ => ⟨fun z => absurd z a, fun _ => rfl, fun z => by omega⟩)⟩, fun a => ref MC rC _ (fun y => by omega) (fun _ _ => ⟨fun _ => rfl, fun z => by omega, fun z => by omega⟩)⟩
  · rw [if_pos (by omega)] at z; omega
