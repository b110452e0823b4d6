/-! plain, road, follow -/
theorem LAY.ch {K : Int → Int} {E : Int → Int → Int} {M M' : ZM} {rs : Int → Int → Bool} (l : LAY K E M rs M') : CH K E rs M' := ⟨l.2.1, l.2.2.1, l.2.2.2.1, l.2.2.2.2.1, l.2.2.2.2.2.1⟩
theorem c_startPlain {d : Nat} {M : ZM} {K : Int → Int} {E : Int → Int → Int} {rs : Int → Int → Bool} {cn : Int} {Q : ZM → Prop} (hC : CH K E rs M) (hcn : cn = 0 ∨ cn = 1) (hQ : ∀ M', (∀ b, b ≠ 91 → b ≠ 96 → b ≠ 97 → M' b = M b) → (∀ k, k ≠ 6 → k ≠ 7 → M' 96 k = M 96 k) → M' 96 6 = 0 → M' 96 7 = cn → (∀ l : Nat, l < 6 → M' 97 l = mR K l) → (∀ j, 0 ≤ j → j < 18 → M' 91 j = b10 j) → Q M') : zcV (d + 3) 73 [zA 96, zI cn] M Q := by
  apply vX6_startPlain
  refine ⟨by omega, zset ⟨hcn, zset ?_⟩⟩
  generalize hM2 : zup (zup M 96 6 0) 96 7 cn = M2
  have r2 : ∀ b, b ≠ 96 → M2 b = M b := fun b hb => by subst hM2; rw [zup_row hb, zup_row hb]
  have k2 : ∀ k, k ≠ 6 → k ≠ 7 → M2 96 k = M 96 k := fun k h1 h2 => by subst hM2; rw [zup_ne (fun z => h2 z.2), zup_ne (fun z => h1 z.2)]
  have v6 : M2 96 6 = 0 := by subst hM2; rw [zup_ne (by omega), zup_eq]
  have v7 : M2 96 7 = cn := by subst hM2; exact zup_eq
  refine c_countRoads (hC.1.congr (fun b hb => r2 b (by omega))) (fun M3 r3 v3 => ?_)
  have lp : ∀ (m i : Nat) (M4 : ZM), i + m = 6 → (∀ b, b ≠ 91 → M4 b = M3 b) → (∀ (l : Nat) (j : Int), l < i → 0 ≤ j → j ≤ 2 → M4 91 (3 * l + j) = b10 (3 * l + j)) → wX6_startPlain (d + 2) 23 [(0, zA 96), (2, zI (i : Int))] M4 Q := by
    intro m
    induction m with
    | zero =>
      intro i M4 hi r4 o4
      apply vX6_startPlain_23
      refine ⟨fun _ => hQ M4 (fun b h1 h2 h3 => by rw [r4 b h1, r3 b h3, r2 b h2]) (fun k h1 h2 => by rw [r4 96 (by decide), r3 96 (by decide), k2 k h1 h2]) (by rw [r4 96 (by decide), r3 96 (by decide)]; exact v6) (by rw [r4 96 (by decide), r3 96 (by decide)]; exact v7) (fun l hl => by rw [r4 97 (by decide)]; exact v3 l (by omega) (by omega)) (fun j j0 j1 => ?_), fun z => by omega⟩
      have := o4 (j / 3).toNat (j % 3) (by omega) (by omega) (by omega)
      rw [show 3 * (((j / 3).toNat : Nat) : Int) + j % 3 = j by omega] at this
      exact this
    | succ m ih =>
      intro i M4 hi r4 o4
      apply vX6_startPlain_23
      refine ⟨fun z => by omega, fun _ => c_choose (c := 0) (dc := false) (by rw [r4 96 (by decide), r3 96 (by decide)]; exact v6) (by omega) (fun z => by cases z) (fun z => by cases z) (fun M5 r5 o5 n5 => ⟨⟨by omega, by omega⟩, ih (i + 1) M5 (by omega) (fun b hb => by rw [r5 b hb, r4 b hb]) (fun l j hl j0 j1 => ?_)⟩)⟩
      by_cases e : l = i
      · subst e
        rw [n5 j j0 j1]
        unfold tri b10
        rw [if_neg (by simp), if_neg (by simp)]
        by_cases ej : j = 0
        · rw [if_pos (by rw [if_pos (by omega)]; omega), if_pos (by omega)]
        · rw [if_neg (by rw [if_pos (by omega)]; omega), if_neg (by omega)]
      · rw [o5 _ (by omega)]; exact o4 l j (by omega) j0 j1
  exact lp 6 0 M3 (by omega) (fun _ _ => rfl) (fun l j hl => by omega)
/-- startPlain, usedLooks, seek -/
theorem c_seekP {d : Nat} {M : ZM} {K : Int → Int} {E : Int → Int → Int} {rs : Int → Int → Bool} {cn fl : Int} {Q : ZM → Prop} (hE : EB K E) (hC : CH K E rs M) (hcn : cn = 0 ∨ cn = 1) (hN : NOTH ≤ fl) (hQ : ∀ M', (∀ b, b ≠ 89 → b ≠ 91 → b ≠ 92 → b ≠ 94 → b ≠ 96 → b ≠ 97 → b ≠ 98 → M' b = M b) → (∀ k, k ≠ 5 → M' 89 k = M 89 k) → CH K E rs M' → (∀ k, k < 5 → M' 96 k = M 96 k) → M' 96 6 = 0 → (∀ l : Nat, l < 6 → M' 97 l = mR K l) → M' 96 8 = max fl (TP K E).1 → (cn = 1 → fl = NOTH → M' 96 9 = (TP K E).2.1 ∧ ∀ j, 0 ≤ j → j < 18 → M' 98 j = hP K (TP K E).2.2 j) → Q M') : zcV (d + 10) 73 [zA 96, zI cn] M (fun M2 => zcI (d + 10) 78 [zA 96] M2 (fun x M3 => zcV (d + 10) 82 [zA 96, zI x, zJ fl] M3 Q)) := by
  have hW := hC.1.1
  have hpl := hW.1
  refine c_startPlain hC hcn (fun M2 r2 k2 v6 v7 v97 v91 => c_usedLooks (fun x hx hb => ?_))
  have ex : x = uS K := by
    refine bs_ext hx hW.us (fun l hl => ?_)
    rw [hb l hl, v97 l hl]
    have := mR_used hW (l := (l : Int)) (by omega)
    cases hq : bt (uS K) l with
    | true => simp; exact this.mpr hq
    | false =>
      simp
      have : ¬ 0 < mR K l := fun z => by rw [this.mp z] at hq; cases hq
      omega
  subst ex
  have rg : ∀ l : Nat, 0 ≤ mR K l ∧ mR K l ≤ 3 := fun l => mB_rg hW l (K 182).toNat (by omega)
  have C2 : CH K E rs M2 := hC.congr (fun b hb => r2 b (by omega) (by omega) (by omega)) (by rw [r2 89 (by decide) (by decide) (by decide)])
  refine c_seek (dc := false) (R := mR K) (b := b10) hE C2 hx v97 v91 (fun l _ => rg l) (fun l hl hs => ?_) (by rw [v6]; rfl) b10_hd hN ?_ (fun M' r' k' C' H' f' s' w8 w9 => hQ M' (fun b h1 h2 h3 h4 h5 h6 h7 => by rw [r' b h1 h2 h3 h4 h5 h7, r2 b h2 h5 h6]) (fun k hk => by rw [k' k hk, r2 89 (by decide) (by decide) (by decide)]) C' (fun k hk => by rw [s' k (by omega) (by omega) (by omega), k2 k (by omega) (by omega)]) (by rw [s' 6 (by omega) (by omega) (by omega)]; exact v6) (fun l hl => by rw [r' 97 (by decide) (by decide) (by decide) (by decide) (by decide) (by decide)]; exact v97 l hl) ?_ (fun h1 h2 => ?_))
  · have := (mR_used hW (l := (l : Int)) (by omega)).mpr hs
    omega
  · have : PN (NP K) 6 ≤ 729 := by rw [← pfx6]; exact pfx_NP hW 6
    exact Nat.le_trans this (by decide)
  · rw [w8, TT_TP hW hE]; rfl
  · have := w9 (by rw [v7]; omega) h2
    rw [TT_TP hW hE] at this
    exact this
theorem c_seekPlain {d t : Nat} {M : ZM} {Q : Int → ZM → Prop} (h : J t M) (hQ : ∀ M', (∀ b, (b < 87 ∨ 98 < b) → M' b = M b) → M' 96 8 = (TP (M 115) (EW M)).1 → M' 96 9 = (TP (M 115) (EW M)).2.1 → (∀ j, 0 ≤ j → j < 18 → M' 98 j = hP (M 115) (TP (M 115) (EW M)).2.2 j) → Q (PN (NP (M 115)) 6 : Nat) M') : zcL (d + 11) 72 [zA 96] M Q := by
  have hW := h.wf
  have hpl := hW.1
  apply vX6_seekPlain
  refine c_lay h (Or.inl rfl) (fun ML rs l _ => ?_)
  refine c_seekP (cn := 1) (fl := NOTH) (EB_ew M) l.ch (Or.inr rfl) (Int.le_refl _) (fun M' r' k' C' s' v6 v97 w8 w9 => c_usedLooks (fun x hx hb => ?_))
  have ex : x = uS (M 115) := by
    refine bs_ext hx hW.us (fun l hl => ?_)
    rw [hb l hl, v97 l hl]
    have := mR_used hW (l := (l : Int)) (by omega)
    cases hq : bt (uS (M 115)) l with
    | true => simp; exact this.mpr hq
    | false =>
      simp
      have : ¬ 0 < mR (M 115) l := fun z => by rw [this.mp z] at hq; cases hq
      omega
  subst ex
  have rg : ∀ l : Nat, 0 ≤ mR (M 115) l ∧ mR (M 115) l ≤ 3 := fun l => mB_rg hW l (M 115 182).toNat (by omega)
  refine c_rules (dc := false) (by rw [v6]; rfl) hx (fun l hl => by rw [v97 l hl]; exact rg l) ?_
  rw [nnS_cg hx v97]
  have tv : NOTH < (TP (M 115) (EW M)).1 := SUM_ge (nn := NP (M 115)) (lf := lfV (M 115) (EW M)) (f0 := fun _ => 0) (fun l => (NP_v hW l).2.1) (lfV_v hW (EB_ew M)) 6 (fun _ => 0)
  obtain ⟨y1, y2⟩ := w9 rfl rfl
  refine hQ M' (fun b hb => by rw [r' b (by omega) (by omega) (by omega) (by omega) (by omega) (by omega) (by omega), l.1 b (by omega)]) ?_ y1 y2
  rw [w8]
  omega
theorem rows_frc {M M' : ZM} (r : ∀ b, (b < 87 ∨ 98 < b) → M' b = M b) : frc M M' := frc.of (fun b hb => r b (by omega))
theorem s_plain {d t : Nat} {M : ZM} (h : J t M) {w : Int} : zcL (d + 48) 116 [zA 29, zI w] M (fun x M1 => zcL (d + 48) 211 [zA 113, zI w] M1 (fun y M2 => x = y ∧ J (t + 1) M2)) := by
  have hs := h.size
  have no : ¬ (0 ≤ w ∧ w ≤ 2 ∧ M 115 182 ≠ 0) → zcL (d + 48) 211 [zA 113, zI w] M (fun y M2 => -1000000000000000000 = y ∧ J (t + 1) M2) := by
    intro hn
    apply vX10_plain
    exact m_places ⟨fun _ => ⟨rfl, h.idle⟩, fun z => m_lies (fun a b => by omega) (fun _ => ⟨fun y => absurd rfl y, fun _ => ⟨rfl, h.idle⟩⟩)⟩
  apply vX9_plain
  refine ⟨fun z => no (by omega), fun z0 => ⟨fun z => no (by omega), fun z1 => c_noPlaces (fun q => ⟨fun z => by omega, fun _ => no (by omega)⟩) (fun q => ⟨fun _ => c_seekPlain h (fun MC rC w8 w9 w98 => ?_), fun z => by omega⟩)⟩⟩
  have fc := rows_frc rC
  have h1 := h.frc fc (h.jf.fr (rC 106 (by decide)))
  have e115 : MC 115 = M 115 := rC 115 (by decide)
  have main : ∀ x, (w = 0 → x = (TP (M 115) (EW M)).1) → (w = 1 → x = (TP (M 115) (EW M)).2.1) → (w = 2 → x = (PN (NP (M 115)) 6 : Nat)) → zcL (d + 48) 211 [zA 113, zI w] MC (fun y M2 => x = y ∧ J (t + 1) M2) := by
    intro x x0 x1 x2
    apply vX10_plain
    refine m_places ⟨fun z => by rw [e115] at z; omega, fun _ => m_lies (fun _ _ => ⟨fun _ => m_plains h1.2.2.1.e h1.jv h1.2.2.2.2.2.2.1.1 (fun M2 g => ?_), fun z => by omega⟩) (fun z => by omega)⟩
    obtain ⟨g1, g2, g3, g4, g5, g6, g7⟩ := g
    rw [e115, EW_fun fc.1] at g4 g5
    rw [e115] at g6
    have hJ : J (t + 1) M2 := h.frame (fc.1.tr g1.1) (h.jf.fr (by rw [g3 106 (by decide) (by decide) (by decide) (by decide) (by decide) (by decide) (by decide), rC 106 (by decide)])) g2
    rw [g4, g5, g6]
    exact ⟨fun a => ⟨fun b => ⟨x2 (by omega), hJ⟩, fun b => ⟨x1 b, hJ⟩⟩, fun a => ⟨x0 a, hJ⟩⟩
  apply vX6_tellBest
  rw [w8, w9]
  refine ⟨fun a => ⟨fun b => main _ (fun z => absurd z a) (fun z => absurd z b) (fun _ => rfl), fun b => main _ (fun z => absurd z a) (fun _ => rfl) (fun z => by omega)⟩, fun a => main _ (fun _ => rfl) (fun z => by omega) (fun z => by omega)⟩
theorem c_firstRoad {d : Nat} {M : ZM} {l c : Nat} {Q : Int → ZM → Prop} (hl : l < 6) (hc : c ≤ 2) (h98 : ∀ i : Int, 0 ≤ i → i ≤ 2 → M 98 (3 * l + i) = if (c : Int) = i then 10 else 0) (hQ : Q c M) : zcI (d + 1) 76 [zA 96, zI (l : Int)] M Q := by
  have st : ∀ (m i : Nat), i + m = 2 → i ≤ c → wX6_firstRoad d 2 [(0, zA 96), (1, zI (l : Int)), (2, zI (i : Int))] M Q := by
    intro m
    induction m with
    | zero =>
      intro i hi ic
      obtain rfl : i = c := by omega
      apply vX6_firstRoad_2
      exact ⟨fun _ => hQ, fun z => by omega⟩
    | succ m ih =>
      intro i hi ic
      apply vX6_firstRoad_2
      rw [show (l : Int) * 3 + i = 3 * l + i by omega, h98 i (by omega) (by omega)]
      refine ⟨fun z => by omega, fun _ => ⟨⟨by omega, by omega⟩, ⟨by omega, by omega⟩, by omega, fun z => ?_, fun z => ⟨⟨by omega, by omega⟩, ih (i + 1) (by omega) ?_⟩⟩⟩
      · by_cases e : (c : Int) = i
        · obtain rfl : i = c := by omega
          exact hQ
        · rw [if_neg e] at z; exact absurd rfl z
      · by_cases e : (c : Int) = i
        · rw [if_pos e] at z; omega
        · omega
  apply vX6_firstRoad
  exact st 2 0 (by omega) (by omega)
theorem s_road {d t : Nat} {M : ZM} (h : J t M) {w : Int} : zcI (d + 48) 117 [zA 29, zI w] M (fun x M1 => zcI (d + 48) 212 [zA 113, zI w] M1 (fun y M2 => x = y ∧ J (t + 1) M2)) := by
  have hs := h.size
  have hW := h.wf
  have no : ¬ (0 ≤ w ∧ w ≤ 5 ∧ M 115 182 ≠ 0) → zcI (d + 48) 212 [zA 113, zI w] M (fun y M2 => -1 = y ∧ J (t + 1) M2) := by
    intro hn
    apply vX10_road
    exact m_places ⟨fun _ => ⟨rfl, h.idle⟩, fun z => m_isLook (fun a b => by omega) (fun _ => ⟨fun y => absurd rfl y, fun _ => ⟨rfl, h.idle⟩⟩)⟩
  apply vX9_road
  refine c_isLook (fun w0 w1 => ⟨fun z => by omega, fun _ => c_noPlaces (fun q => ⟨fun z => by omega, fun _ => no (by omega)⟩) (fun q => ⟨fun _ => c_seekPlain h (fun MC rC w8 w9 w98 => ?_), fun z => by omega⟩)⟩) (fun z => ⟨fun _ => no (by omega), fun y => absurd rfl y⟩)
  obtain ⟨l, rfl⟩ : ∃ l : Nat, w = l := ⟨w.toNat, by omega⟩
  have fc := rows_frc rC
  have h1 := h.frc fc (h.jf.fr (rC 106 (by decide)))
  have e115 : MC 115 = M 115 := rC 115 (by decide)
  have lt := TP_lt hW (EB_ew M) (l := l) (by omega)
  have nv := NP_v hW l
  refine c_firstRoad (c := (TP (M 115) (EW M)).2.2 l) (by omega) (by omega) (fun i i0 i1 => ?_) ?_
  · rw [w98 _ (by omega) (by omega), hP_v hW lt i0 i1]
  · apply vX10_road
    refine m_places ⟨fun z => by rw [e115] at z; omega, fun _ => m_isLook (fun _ _ => ⟨fun _ => m_plains h1.2.2.1.e h1.jv h1.2.2.2.2.2.2.1.1 (fun M2 g => ?_), fun z => by omega⟩) (fun z => by omega)⟩
    obtain ⟨g1, g2, g3, g4, g5, g6, g7⟩ := g
    have hJ : J (t + 1) M2 := h.frame (fc.1.tr g1.1) (h.jf.fr (by rw [g3 106 (by decide) (by decide) (by decide) (by decide) (by decide) (by decide) (by decide), rC 106 (by decide)])) g2
    rw [g7 l (by omega), e115, EW_fun fc.1]
    exact ⟨by omega, rfl, hJ⟩
