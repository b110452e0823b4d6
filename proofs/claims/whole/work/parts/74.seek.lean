/-! seek -/
/-- the sum of all choices of LOOKS x -/
abbrev TT (K : Int → Int) (E : Int → Int → Int) (x : Int) (dc : Bool) (R b : Int → Int) : SR (Int → Int) := SUM (nnS (fun l => bt x l) dc R) (lfH K E (fun l => bt x l) dc R b) b 6 (fun _ => 0)
theorem nnS_cg {x : Int} {dc : Bool} {R R' : Int → Int} (hx : bs 6 x) (h : ∀ l : Nat, l < 6 → R' l = R l) : nnS (fun l => bt x l) dc R' = nnS (fun l => bt x l) dc R := by
  funext l
  unfold nnS
  by_cases hl : l < 6
  · rw [h l hl]
  · rw [if_neg (by show ¬ bt x l = true; rw [bs_high hx (by omega)]; decide), if_neg (by show ¬ bt x l = true; rw [bs_high hx (by omega)]; decide)]
theorem c_seek {d : Nat} {M : ZM} {K : Int → Int} {E : Int → Int → Int} {rs : Int → Int → Bool} {dc : Bool} {R b : Int → Int} {x fl : Int} {Q : ZM → Prop} (hE : EB K E) (hC : CH K E rs M) (hx : bs 6 x) (h97 : ∀ l : Nat, l < 6 → M 97 l = R l) (h91 : ∀ j, 0 ≤ j → j < 18 → M 91 j = b j) (hR : ∀ l : Nat, l < 6 → 0 ≤ R l ∧ R l ≤ 3) (hS : ∀ l : Nat, l < 6 → bt x l = true → 1 ≤ R l) (h6 : M 96 6 = if dc = true then 1 else 0) (hH : HD b) (hN : NOTH ≤ fl) (hP : PN (nnS (fun l => bt x l) dc R) 6 ≤ 1000000)
    (hQ : ∀ M', (∀ r, r ≠ 89 → r ≠ 91 → r ≠ 92 → r ≠ 94 → r ≠ 96 → r ≠ 98 → M' r = M r) → (∀ k, k ≠ 5 → M' 89 k = M 89 k) → CH K E rs M' → HD (M' 91) → M' 89 5 = 0 → (∀ k, k ≠ 5 → k ≠ 8 → k ≠ 9 → M' 96 k = M 96 k) → M' 96 8 = max fl (TT K E x dc R b).1 → (M 96 7 ≠ 0 → fl = NOTH → M' 96 9 = (TT K E x dc R b).2.1 ∧ ∀ j, 0 ≤ j → j < 18 → M' 98 j = (TT K E x dc R b).2.2 j) → Q M') : zcV (d + 10) 82 [zA 96, zI x, zJ fl] M Q := by
  have hW := hC.1.1
  have xr := hx.r (by decide)
  apply vX6_seek
  refine zset (zset ?_)
  generalize hM2 : zup (zup M 96 8 fl) 96 9 0 = M2
  have r2 : ∀ r, r ≠ 96 → M2 r = M r := fun r hr => by subst hM2; rw [zup_row hr, zup_row hr]
  have k2 : ∀ k, k ≠ 8 → k ≠ 9 → M2 96 k = M 96 k := fun k h1 h2 => by subst hM2; rw [zup_ne (fun z => h2 z.2), zup_ne (fun z => h1 z.2)]
  have v8 : M2 96 8 = fl := by subst hM2; rw [zup_ne (by omega), zup_eq]
  have v9 : M2 96 9 = 0 := by subst hM2; exact zup_eq
  have C2 : CH K E rs M2 := hC.congr (fun r hr => r2 r (by omega)) (by rw [r2 89 (by decide)])
  refine c_looksAhead C2 (fun ah ha hah => zset ?_)
  have ar := ha.r (by decide)
  obtain ⟨kx, hkx⟩ : ∃ kx, kx = zand x ah := ⟨_, rfl⟩
  rw [← hkx]
  have kb : bs 6 kx := by rw [hkx]; exact bs_and (by decide) hx ar.1 ar.2
  have kr := kb.r (by decide)
  have kbt : ∀ l, bt kx l = (bt x l && bt ah l) := fun l => by rw [hkx, bt_and xr.1 xr.2 ar.1 ar.2]
  have hkS : ∀ l : Nat, l < 6 → bt kx l = true → bt x l = true := fun l _ h => by rw [kbt, Bool.and_eq_true] at h; exact h.1
  have hkR : ∀ l : Nat, l < 6 → bt kx l = true → 1 ≤ R l ∧ R l ≤ 3 := fun l hl h => ⟨hS l hl (hkS l hl h), (hR l hl).2⟩
  have nn1 : ∀ l, 1 ≤ nnS (fun l => bt x l) dc R l := by
    intro l
    unfold nnS
    by_cases h : bt x l = true
    · rw [if_pos h]
      by_cases h6' : l < 6
      · have := cho_rg (dc := dc) ⟨hS l h6' h, (hR l h6').2⟩; omega
      · rw [bs_high hx (by omega)] at h; cases h
    · rw [if_neg h]; omega
  -- what is sought in order, what is only counted
  have enK : (fun l : Nat => if (bt x l && !bt kx l) = true then 1 else nnS (fun l => bt x l) dc R l) = nnK kx dc R := by
    funext l
    have hk := kbt l
    unfold nnS nnK
    cases h1 : bt x l <;> cases h2 : bt ah l <;> rw [h1, h2] at hk <;> simp at hk <;> simp [hk, h1]
  have dull : TT K E x dc R b = sc (DU (nnS (fun l => bt x l) dc R) (fun l => bt x l && !bt kx l) 6 : Nat) (SUM (nnK kx dc R) (lfH K E (fun l => bt x l) dc R b) b 6 (fun _ => 0)) := by
    rw [← enK]
    refine SUM_dull nn1 (lfH_v hW hE hH) (fun c c' hcc => ⟨?_, rfl⟩) 6 _
    show WS K E _ (fun _ => false) = WS K E _ (fun _ => false)
    refine WS_at hW hC.2.2.2.1 (fun s p s0 s1 p0 p1 pk hr => ⟨rfl, fun _ => ?_⟩)
    have hl := ((hW.2.2.2.2.2.2.2 p p0 p1).2.1 pk).1
    have hal := hah s p s0 s1 p0 p1 pk hr
    obtain ⟨l, el⟩ : ∃ l : Nat, K (10 * p + 1) = l := ⟨(K (10 * p + 1)).toNat, by omega⟩
    rw [el] at hal ⊢
    refine hand3 (fun i i0 i1 => ?_)
    cases hs : bt x l with
    | true =>
      rw [HH_in (S := fun l => bt x l) hs i i0 i1, HH_in (S := fun l => bt x l) hs i i0 i1, hcc l (by omega) (by show (bt x l && !bt kx l) = false; rw [kbt, hs, hal]; rfl)]
    | false => rw [HH_out (S := fun l => bt x l) hs i i0 i1, HH_out (S := fun l => bt x l) hs i i0 i1]
  have PKle : PN (nnK kx dc R) 6 ≤ 1000000 := by
    refine Nat.le_trans (PN_mono (fun l => ?_) 6) hP
    rw [← enK]
    dsimp only
    split
    · exact nn1 l
    · exact Nat.le_refl _
  generalize hM5 : zup M2 96 5 kx = M5
  have r5 : ∀ r, r ≠ 96 → M5 r = M r := fun r hr => by subst hM5; rw [zup_row hr, r2 r hr]
  have k5 : ∀ k, k ≠ 5 → k ≠ 8 → k ≠ 9 → M5 96 k = M 96 k := fun k h1 h2 h3 => by subst hM5; rw [zup_ne (fun z => h1 z.2), k2 k h2 h3]
  have w5 : M5 96 5 = kx ∧ M5 96 8 = fl ∧ M5 96 9 = 0 := by
    subst hM5
    exact ⟨zup_eq, by rw [zup_ne (by omega)]; exact v8, by rw [zup_ne (by omega)]; exact v9⟩
  have C5 : CH K E rs M5 := hC.congr (fun r hr => r5 r (by omega)) (by rw [r5 89 (by decide)])
  -- the first choice everywhere
  have lp : ∀ (m i : Nat) (M6 : ZM), i + m = 6 → (∀ r, r ≠ 91 → M6 r = M5 r) → (∀ (l : Nat) (j : Int), l < 6 → 0 ≤ j → j ≤ 2 → M6 91 (3 * l + j) = if l < i then HH (fun l => bt x l) dc R b (fun _ => 0) (3 * l + j) else b (3 * l + j)) → wX6_seek (d + 9) 26 [(0, zA 96), (1, zI x), (4, zI (i : Int))] M6 Q := by
    intro m
    induction m with
    | zero =>
      intro i M6 hi r6 o6
      have q6 : ∀ r, r ≠ 91 → r ≠ 96 → M6 r = M r := fun r h1 h2 => by rw [r6 r h1, r5 r h2]
      have H6 : HD (M6 91) := by
        refine (HH_hd (S := fun l => bt x l) (dc := dc) (R := R) hH (fun _ => 0)).congr (fun j j0 j1 => ?_)
        have := o6 (j / 3).toNat (j % 3) (by omega) (by omega) (by omega)
        rw [if_pos (by omega), show 3 * (((j / 3).toNat : Nat) : Int) + j % 3 = j by omega] at this
        exact this
      have C6 : CH K E rs M6 := C5.congr (fun r hr => r6 r (by omega)) (by rw [r6 89 (by decide)])
      have e96 : M6 96 = M5 96 := r6 96 (by decide)
      apply vX6_seek_26
      refine ⟨fun _ => zset ?_, fun z => by omega⟩
      rw [e96, w5.1]
      generalize hM7 : zup M6 89 5 kx = M7
      have r7 : ∀ r, r ≠ 89 → M7 r = M6 r := fun r hr => by subst hM7; exact zup_row hr
      have k7 : ∀ k, k ≠ 5 → M7 89 k = M6 89 k := fun k hk => by subst hM7; exact zup_ne (fun z => hk z.2)
      have w7 : M7 89 5 = kx := by subst hM7; exact zup_eq
      have C7 : CH K E rs M7 := C6.congr (fun r hr => r7 r (by omega)) (k7 8 (by decide))
      refine c_weighC C7 hE (by rw [r7 91 (by decide)]; exact H6) (by rw [w7]; exact kb) (fun M8 r8 C8 => ?_)
      have e91 : M8 91 = M6 91 := by rw [r8 91 (by decide) (by decide), r7 91 (by decide)]
      have e89 : M8 89 5 = kx := by rw [r8 89 (by decide) (by decide)]; exact w7
      have f96 : M8 96 = M5 96 := by rw [r8 96 (by decide) (by decide), r7 96 (by decide), e96]
      have ew : WS K E (M7 91) (fun l => bt (M7 89 5) l) = WS K E (M8 91) (fun l => bt (M8 89 5) l) := by rw [e91, e89, r7 91 (by decide), w7]
      rw [ew]
      have A8 : AG kx (fun l => bt x l) dc R b (fun _ => 0) 6 (M8 91) := by
        intro l j l6 j0 j1 _
        rw [e91, o6 l j l6 j0 j1, if_pos (by omega)]
      have tb8 : ∀ l : Nat, l < 6 → bt (M8 89 5) l = (bt kx l && decide (6 - 6 ≤ l)) := fun l _ => by rw [e89]; simp
      have ub := SUM_ub (S := fun l => bt x l) (dc := dc) (R := R) (f0 := b) (kx := kx) hW hE hH 6 (by omega) (fun _ => 0) (M8 91) (fun l => bt (M8 89 5) l) (fun _ _ => rfl) (by rw [e91]; exact H6) A8 tb8
      have q8 : ∀ r, r ≠ 89 → r ≠ 91 → r ≠ 92 → r ≠ 94 → r ≠ 96 → M8 r = M r := fun r h1 h2 h3 h4 h5 => by rw [r8 r h3 h4, r7 r h1, q6 r h2 h5]
      have g97 : ∀ l : Nat, l < 6 → M8 97 l = R l := fun l hl => by rw [q8 97 (by decide) (by decide) (by decide) (by decide) (by decide)]; exact h97 l hl
      have g7 : M8 96 7 = M 96 7 := by rw [f96, k5 7 (by decide) (by decide) (by decide)]
      have g6 : M8 96 6 = if dc = true then 1 else 0 := by rw [f96, k5 6 (by decide) (by decide) (by decide)]; exact h6
      have sge := SUM_ge (f0 := b) (n := 6) (c := fun _ => 0) (nn := nnK kx dc R) (lf := lfH K E (fun l => bt x l) dc R b) (fun l => by
        rw [← enK]
        dsimp only
        split
        · exact Nat.le_refl _
        · exact nn1 l) (lfH_v hW hE hH)
      -- behind the search
      have post : ∀ M9, TRY K E rs kx 6 M8 M9 (SUM (nnK kx dc R) (lfH K E (fun l => bt x l) dc R b) b 6 (fun _ => 0)) (PN (nnK kx dc R) 6 : Nat) → wX6_seek (d + 9) 92 [(0, zA 96), (1, zI x)] M9 Q := by
        intro M9 t9
        obtain ⟨a1, a2, a3, a4, a5, a6, a7, a8, a9, a10⟩ := t9
        apply vX6_seek_92
        refine zset ?_
        generalize hMa : zup M9 89 5 0 = Ma
        have ra : ∀ r, r ≠ 89 → Ma r = M9 r := fun r hr => by subst hMa; exact zup_row hr
        have ka : ∀ k, k ≠ 5 → Ma 89 k = M9 89 k := fun k hk => by subst hMa; exact zup_ne (fun z => hk z.2)
        have wa : Ma 89 5 = 0 := by subst hMa; exact zup_eq
        have ea : Ma 96 = M9 96 := ra 96 (by decide)
        have e5 : M9 96 5 = kx := by rw [a4 5 (by decide) (by decide), f96]; exact w5.1
        have ha97 : ∀ l : Nat, l < 6 → Ma 97 l = R l := fun l hl => by rw [ra 97 (by decide), a1 97 (by decide) (by decide) (by decide) (by decide) (by decide) (by decide)]; exact g97 l hl
        rw [ea, e5]
        have yb := bs_diff (by decide) hx kr.1 (w := 6)
        have eY : nnS (fun l => bt (zand x (zxor kx (-1))) l) dc R = fun l : Nat => if (bt x l && !bt kx l) = true then nnS (fun l => bt x l) dc R l else 1 := by
          funext l
          have hk := bt_diff (k := (l : Int)) xr.1 xr.2 kr.1
          unfold nnS
          cases h1 : bt x l <;> cases h2 : bt kx l <;> rw [h1, h2] at hk <;> simp at hk <;> simp [hk, h1, h2]
        refine c_rules (dc := dc) (by rw [ea, a4 6 (by decide) (by decide)]; exact g6) yb (fun l hl => by rw [ha97 l hl]; exact hR l hl) ?_
        have eD : PN (nnS (fun l => bt (zand x (zxor kx (-1))) l) dc R) 6 = DU (nnS (fun l => bt x l) dc R) (fun l => bt x l && !bt kx l) 6 := by
          rw [eY]
          rfl
        rw [nnS_cg yb ha97, eD]
        have Dle : DU (nnS (fun l => bt x l) dc R) (fun l => bt x l && !bt kx l) 6 ≤ 1000000 := by
          refine Nat.le_trans (PN_mono (fun l => ?_) 6) hP
          dsimp only
          split
          · exact Nat.le_refl _
          · exact nn1 l
        generalize DU (nnS (fun l => bt x l) dc R) (fun l => bt x l && !bt kx l) 6 = D at *
        generalize SUM (nnK kx dc R) (lfH K E (fun l => bt x l) dc R b) b 6 (fun _ => 0) = T at *
        have m9 : 0 ≤ M9 96 9 ∧ M9 96 9 ≤ 1000000 := by
          rw [f96, w5.2.2] at a9
          omega
        have mb := Int.mul_le_mul m9.2 (show (D : Int) ≤ 1000000 by omega) (by omega) (by omega)
        have m0 := Int.mul_nonneg m9.1 (show (0 : Int) ≤ D by omega)
        refine ⟨⟨by omega, by omega⟩, zset (hQ _ (fun r h1 h2 h3 h4 h5 h6 => ?_) (fun k hk => ?_) ?_ ?_ ?_ (fun k h1 h2 h3 => ?_) ?_ (fun hc hf => ?_))⟩
        · rw [zup_row h5, ra r h1, a1 r h1 h2 h3 h4 h5 h6, q8 r h1 h2 h3 h4 h5]
        · rw [zup_row (by decide), ka k hk, a2 k hk, r8 89 (by decide) (by decide), k7 k hk, r6 89 (by decide), r5 89 (by decide)]
        · exact a3.congr (fun r hr => by rw [zup_row (by omega), ra r (by omega)]) (by rw [zup_row (by decide)]; exact ka 8 (by decide))
        · rw [zup_row (by decide), ra 91 (by decide)]; exact a6
        · rw [zup_row (by decide)]; exact wa
        · rw [zup_ne (fun z => h3 z.2), ea, a4 k h2 h3, f96, k5 k h1 h2 h3]
        · rw [zup_ne (by omega), ea, a8, f96, w5.2.1, dull]; rfl
        · obtain ⟨u1, u2⟩ := a10 (by rw [g7]; exact hc)
          have lt : (M8 96 8, M8 96 9, M8 98).1 < T.1 := by
            show M8 96 8 < T.1
            rw [f96, w5.2.1, hf]
            exact sge
          rw [mg_lt lt] at u1 u2
          rw [dull]
          refine ⟨?_, fun j j0 j1 => ?_⟩
          · rw [zup_eq, u1]; rfl
          · rw [zup_row (by decide), ra 98 (by decide)]; exact u2 j j0 j1
      refine c_mayBe (fun y0 y1 => ⟨fun _ => post M8 (TRY.skip C8 (by rw [e91]; exact H6) (by rw [e89]; exact kb) (by rw [f96, w5.2.2]; omega) (by omega) ?_ (fun hc => ?_)), fun z => absurd rfl z⟩) (fun y0 y1 => ⟨fun z => by omega, fun _ => ?_⟩)
      · by_cases h7 : M8 96 7 = 0
        · have := y0 h7; omega
        · have := y1 h7; omega
      · have := y1 hc
        omega
      · exact c_tryLook (d := d) (S := fun l => bt x l) (dc := dc) (R := R) (b := b) (f0 := b) (kx := kx) hW hE hH kb hkS hkR 6 (by omega) C8 g97 (by rw [f96]; exact w5.1) g6 A8 (by rw [e91]; exact H6) (by rw [e89]; exact kb) tb8 rfl y0 (by rw [f96, w5.2.1]; exact hN) (by rw [f96, w5.2.2]; omega) (fun _ _ => rfl) (fun M9 t9 _ => post M9 t9)
    | succ m ih =>
      intro i M6 hi r6 o6
      have e96 : M6 96 = M5 96 := r6 96 (by decide)
      have e97 : ∀ l : Nat, l < 6 → M6 97 l = R l := fun l hl => by rw [r6 97 (by decide), r5 97 (by decide)]; exact h97 l hl
      apply vX6_seek_26
      rw [bt_read xr.1 xr.2 (by omega) (by omega)]
      refine ⟨fun z => by omega, fun _ => ⟨fun z => ⟨⟨by omega, by omega⟩, ih (i + 1) M6 (by omega) r6 (fun l j l6 j0 j1 => ?_)⟩, fun z => ?_⟩⟩
      · have hf : bt x i = false := by
          cases hb : bt x i with
          | false => rfl
          | true => rw [hb] at z; exact absurd (if_pos rfl) z
        rw [o6 l j l6 j0 j1]
        by_cases e : l = i
        · subst e
          rw [if_neg (by omega), if_pos (by omega), HH_out (S := fun l => bt x l) hf j j0 j1]
        · by_cases h2 : l < i
          · rw [if_pos h2, if_pos (by omega)]
          · rw [if_neg h2, if_neg (by omega)]
      · have ht : bt x i = true := by
          cases hb : bt x i with
          | true => rfl
          | false => rw [hb] at z; simp at z
        refine c_choose (c := 0) (dc := dc) (by rw [e96, k5 6 (by decide) (by decide) (by decide)]; exact h6) (by omega) (fun _ _ => by omega) (fun _ _ => by omega) (fun M7 r7 o7 n7 => ⟨⟨by omega, by omega⟩, ih (i + 1) M7 (by omega) (fun r hr => by rw [r7 r hr, r6 r hr]) (fun l j l6 j0 j1 => ?_)⟩)
        by_cases e : l = i
        · subst e
          rw [if_pos (by omega), n7 j j0 j1, HH_in (S := fun l => bt x l) ht j j0 j1, e97 l l6]
        · rw [o7 _ (by omega), o6 l j l6 j0 j1]
          by_cases h2 : l < i
          · rw [if_pos h2, if_pos (by omega)]
          · rw [if_neg h2, if_neg (by omega)]
  exact lp 6 0 M5 (by omega) (fun _ _ => rfl) (fun l j l6 j0 j1 => by rw [if_neg (by omega), r5 91 (by decide)]; exact h91 _ (by omega) (by omega))
