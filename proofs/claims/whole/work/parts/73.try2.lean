theorem TRY.cast {K : Int → Int} {E : Int → Int → Int} {rs : Int → Int → Bool} {kx : Int} {n : Nat} {M M' : ZM} {T T' : SR (Int → Int)} {P P' : Int} (h : TRY K E rs kx n M M' T P) (e : T = T') (e2 : P = P') : TRY K E rs kx n M M' T' P' := by
  subst e e2
  exact h
theorem TRY.weak {K : Int → Int} {E : Int → Int → Int} {rs : Int → Int → Bool} {kx : Int} {n : Nat} {M M' : ZM} {T : SR (Int → Int)} {P : Int} (h : TRY K E rs kx n M M' T P) : TRY K E rs kx (n + 1) M M' T P := by
  obtain ⟨a1, a2, a3, a4, a5, a6, a7, a8, a9, a10⟩ := h
  exact ⟨a1, a2, a3, a4, fun l i l6 i0 i1 hl => a5 l i l6 i0 i1 (by
    rcases hl with h | h
    · left; omega
    · exact Or.inr h), a6, a7, a8, a9, a10⟩
/-- nothing but scratch has changed -/
theorem TRY.idle {K : Int → Int} {E : Int → Int → Int} {rs : Int → Int → Bool} {kx : Int} {n : Nat} {M M' : ZM} {f0 : Int → Int} (a1 : ∀ x, x ≠ 89 → x ≠ 91 → x ≠ 92 → x ≠ 94 → M' x = M x) (a2 : ∀ k, k ≠ 5 → M' 89 k = M 89 k) (a3 : CH K E rs M') (a5 : ∀ (l : Nat) (i : Int), l < 6 → 0 ≤ i → i ≤ 2 → (l < 6 - n ∨ bt kx l = false) → M' 91 (3 * l + i) = M 91 (3 * l + i)) (a6 : HD (M' 91)) (a7 : bs 6 (M' 89 5)) (h8 : NOTH ≤ M 96 8) (h9 : 0 ≤ M 96 9) : TRY K E rs kx n M M' (bot f0) 0 := by
  have e96 : M' 96 = M 96 := a1 96 (by decide) (by decide) (by decide) (by decide)
  have e98 : M' 98 = M 98 := a1 98 (by decide) (by decide) (by decide) (by decide)
  refine ⟨fun x x1 x2 x3 x4 _ _ => a1 x x1 x2 x3 x4, a2, a3, fun k _ _ => by rw [e96], a5, a6, a7, ?_, by rw [e96]; omega, fun _ => ?_⟩
  · rw [e96, bot_1]; omega
  · rw [e96, e98, mg_bot (x := (M 96 8, M 96 9, M 98)) h8]
    exact ⟨rfl, fun _ _ _ => rfl⟩
/-- what can't be the best changes nothing -/
theorem TRY.skip {K : Int → Int} {E : Int → Int → Int} {rs : Int → Int → Bool} {kx : Int} {n : Nat} {M : ZM} {T : SR (Int → Int)} {P : Int} (a3 : CH K E rs M) (a6 : HD (M 91)) (a7 : bs 6 (M 89 5)) (h9 : 0 ≤ M 96 9) (hP : 0 ≤ P) (h0 : T.1 ≤ M 96 8) (h1 : M 96 7 ≠ 0 → T.1 < M 96 8) : TRY K E rs kx n M M T P := by
  refine ⟨fun _ _ _ _ _ _ _ => rfl, fun _ _ => rfl, a3, fun _ _ _ => rfl, fun _ _ _ _ _ _ => rfl, a6, a7, by omega, by omega, fun hc => ?_⟩
  rw [mg_gt (x := (M 96 8, M 96 9, M 98)) (h1 hc)]
  exact ⟨rfl, fun _ _ _ => rfl⟩
theorem cho_rg {dc : Bool} {r : Int} (h : 1 ≤ r ∧ r ≤ 3) : 1 ≤ cho dc r ∧ cho dc r ≤ 66 := by
  unfold cho
  split
  · split
    · omega
    · split <;> omega
  · omega
theorem c_tryLook {K : Int → Int} {E : Int → Int → Int} {rs : Int → Int → Bool} {S : Nat → Bool} {dc : Bool} {R b f0 : Int → Int} {kx : Int} (hW : WF K) (hE : EB K E) (hb : HD b) (kb : bs 6 kx) (hS : ∀ l : Nat, l < 6 → bt kx l = true → S l = true) (hR : ∀ l : Nat, l < 6 → bt kx l = true → 1 ≤ R l ∧ R l ≤ 3) : ∀ (n : Nat), n ≤ 6 → ∀ {d : Nat} {M : ZM} {c : Nat → Nat} {j2 : Int} {Q : ZM → Prop}, CH K E rs M → (∀ l : Nat, l < 6 → M 97 l = R l) → M 96 5 = kx → M 96 6 = (if dc = true then 1 else 0) → AG kx S dc R b c n (M 91) → HD (M 91) → bs 6 (M 89 5) → (∀ l : Nat, l < 6 → bt (M 89 5) l = (bt kx l && decide (6 - n ≤ l))) → j2 = WS K E (M 91) (fun l => bt (M 89 5) l) → M 96 8 ≤ j2 → NOTH ≤ M 96 8 → (0 ≤ M 96 9 ∧ M 96 9 + (PN (nnK kx dc R) n : Nat) ≤ 1000000000000) → (∀ l, 6 - n ≤ l → c l = 0) → (∀ M', TRY K E rs kx n M M' (SUM (nnK kx dc R) (lfH K E S dc R b) f0 n c) (PN (nnK kx dc R) n : Nat) → (∀ l : Nat, l < 6 → bt (M' 89 5) l = (bt kx l && decide (6 - n ≤ l))) → Q M') → zcV (d + n + 3) 83 [zA 96, zI ((6 - n : Nat) : Int), zJ j2] M Q := by
  have kr := kb.r (by decide)
  intro n
  induction n with
  | zero =>
    intro _ d M c j2 Q hC h97 h5 h6 ha hH hf hbt hj hbest hN h9 hc hQ
    have hh : ∀ j, 0 ≤ j → j < 18 → M 91 j = HH S dc R b c j := by
      intro j j0 j1
      have := ha (j / 3).toNat (j % 3) (by omega) (by omega) (by omega) (by omega)
      rw [show 3 * (((j / 3).toNat : Nat) : Int) + j % 3 = j by omega] at this
      exact this
    have ej : j2 = WS K E (HH S dc R b c) (fun _ => false) := by
      rw [hj]
      refine WS_cg hW hh (fun l l0 l1 => ?_)
      obtain ⟨m, rfl⟩ : ∃ m : Nat, l = m := ⟨l.toNat, by omega⟩
      rw [hbt m (by omega), show decide (6 - 0 ≤ m) = false by simp; omega, Bool.and_false]
    have p1 : ((PN (nnK kx dc R) 0 : Nat) : Int) = 1 := rfl
    rw [p1] at h9
    apply vX6_tryLook
    refine ⟨fun z => by omega, fun _ => c_takeRule hbest (by omega) hh (fun M' r k8 v8 v9 m9 => hQ M' ⟨fun x x1 x2 x3 x4 x5 x6 => r x x5 x6, fun k _ => by rw [r 89 (by decide) (by decide)], hC.congr (fun x hx => r x (by omega) (by omega)) (by rw [r 89 (by decide) (by decide)]), k8, fun l i _ _ _ _ => by rw [r 91 (by decide) (by decide)], by rw [r 91 (by decide) (by decide)]; exact hH, by rw [r 89 (by decide) (by decide)]; exact hf, ?_, by rw [p1]; exact v9, fun _ => ?_⟩ (fun l hl => by rw [r 89 (by decide) (by decide)]; exact hbt l hl))⟩
    · show M' 96 8 = max (M 96 8) (WS K E (HH S dc R b c) (fun _ => false))
      rw [← ej]; exact v8
    · have e : SUM (nnK kx dc R) (lfH K E S dc R b) f0 0 c = (j2, 1, HH S dc R b c) := by rw [ej]; rfl
      rw [e]
      exact m9
  | succ n ih =>
    intro hn d M c j2 Q hC h97 h5 h6 ha hH hf hbt hj hbest hN h9 hc hQ
    obtain ⟨l, hl⟩ : ∃ l, l = 5 - n := ⟨_, rfl⟩
    have el : 6 - (n + 1) = l := by omega
    have el6 : 6 - n = l + 1 := by omega
    have l5 : l ≤ 5 := by omega
    have nn1 : ∀ l', 1 ≤ nnK kx dc R l' := by
      intro l'
      unfold nnK
      by_cases hk : bt kx l' = true
      · rw [if_pos hk]
        by_cases h6' : l' < 6
        · have := cho_rg (dc := dc) (hR l' h6' hk); omega
        · rw [bs_high kb (by omega)] at hk; cases hk
      · rw [if_neg hk]; omega
    have sge := SUM_ge (f0 := f0) nn1 (lfH_v (S := S) (dc := dc) (R := R) hW hE hb)
    have fr := hf.r (by decide)
    apply vX6_tryLook
    rw [el, h5, bt_read kr.1 kr.2 (by omega) (by omega)]
    refine ⟨fun _ => ⟨fun z => ?_, fun z => ⟨⟨by omega, by omega⟩, ?_⟩⟩, fun z => by omega⟩
    · -- it is sought
      have hk : bt kx l = true := by
        cases hq : bt kx l with
        | true => rfl
        | false => rw [hq] at z; exact absurd rfl z
      have rl := hR l (by omega) hk
      have cr := cho_rg (dc := dc) rl
      have nl : nnK kx dc R l = (cho dc (R l)).toNat := by unfold nnK; rw [if_pos hk]
      have PS : PN (nnK kx dc R) (n + 1) = nnK kx dc R l * PN (nnK kx dc R) n := by rw [hl]; rfl
      have sb := bs_shl (m := 6) (by decide) (k := (l : Int)) (by omega) (by omega)
      have sr := sb.r (by decide)
      intro M1 hM1
      have r1 : ∀ x, x ≠ 89 → M1 x = M x := fun x hx => by subst hM1; exact zup_row hx
      have k1 : ∀ k, k ≠ 5 → M1 89 k = M 89 k := fun k hk => by subst hM1; exact zup_ne (fun z => hk z.2)
      have v5 : M1 89 5 = zand (M 89 5) (zxor (zshl 1 (l : Int)) (-1)) := by subst hM1; exact zup_eq
      have C1 : CH K E rs M1 := hC.congr (fun x hx => r1 x (by omega)) (k1 8 (by decide))
      have b1 : bs 6 (M1 89 5) := by rw [v5]; exact bs_diff (by decide) hf sr.1
      have t1 : ∀ l' : Nat, l' < 6 → bt (M1 89 5) l' = (bt kx l' && decide (6 - n ≤ l')) := by
        intro l' hl'
        rw [v5, bt_diff fr.1 fr.2 sr.1, hbt l' hl', bt_shl (by omega) (by omega) (by omega)]
        by_cases e : l' = l
        · rw [show decide ((l' : Int) = (l : Int)) = true by simp; omega, show decide (6 - n ≤ l') = false by simp; omega]
          simp
        · rw [show decide ((l' : Int) = (l : Int)) = false by simp; omega, show decide (6 - (n + 1) ≤ l') = decide (6 - n ≤ l') from decide_eq_decide.mpr (by omega)]
          simp
      refine c_choices (dc := dc) (by rw [r1 96 (by decide)]; exact h6) (by omega) (by omega) ?_
      rw [r1 97 (by decide), h97 l (by omega)]
      let g := fun k => SUM (nnK kx dc R) (lfH K E S dc R b) f0 n (cu c l k)
      have eg : SUM (nnK kx dc R) (lfH K E S dc R b) f0 (n + 1) c = mgf (bot f0) g (nnK kx dc R l) := by
        rw [hl]
        show mgf (bot f0) (fun k => SUM (nnK kx dc R) (lfH K E S dc R b) f0 n (cu c (5 - n) k)) (nnK kx dc R (5 - n)) = _
        rw [← hl]
      have lp : ∀ (m k : Nat) (Mk : ZM), k + m = nnK kx dc R l → TRY K E rs kx (n + 1) M Mk (mgf (bot f0) g k) ((k * PN (nnK kx dc R) n : Nat) : Int) → (∀ l' : Nat, l' < 6 → bt (Mk 89 5) l' = (bt kx l' && decide (6 - n ≤ l'))) → wX6_tryLook (d + n + 3) 63 [(0, zA 96), (1, zI (l : Int)), (4, zI (cho dc (R l))), (5, zI (k : Int))] Mk Q := by
        intro m
        induction m with
        | zero =>
          intro k Mk hk' ht tb
          obtain ⟨a1, a2, a3, a4, a5, a6, a7, a8, a9, a10⟩ := id ht
          have ar := a7.r (by decide)
          obtain rfl : k = nnK kx dc R l := by omega
          apply vX6_tryLook_63
          refine ⟨fun _ => zset ?_, fun z => by omega⟩
          have ti : TRY K E rs kx (n + 1) Mk (zup Mk 89 5 (zor (Mk 89 5) (zshl 1 (l : Int)))) (bot f0) 0 := TRY.idle (fun x x1 _ _ _ => zup_row x1) (fun k hk => zup_ne (fun z => hk z.2)) (a3.congr (fun x hx => zup_row (by omega)) (zup_ne (by omega))) (fun l' i _ _ _ _ => by rw [zup_row (by decide)]) (by rw [zup_row (by decide)]; exact a6) (by rw [zup_eq]; exact bs_or (by decide) a7 sb) (by rw [a8]; omega) a9.1
          refine hQ _ ((ht.trans ti).cast ?_ ?_) (fun l' hl' => ?_)
          · rw [mg_bot (mgf_ge (bot f0) g _), eg]
          · rw [PS]; omega
          · rw [zup_eq, bt_or ar.1 ar.2 sr.1 sr.2, tb l' hl', bt_shl (by omega) (by omega) (by omega)]
            by_cases e : l' = l
            · rw [show decide ((l' : Int) = (l : Int)) = true by simp; omega, show decide (6 - (n + 1) ≤ l') = true by simp; omega, e, hk]
              simp
            · rw [show decide ((l' : Int) = (l : Int)) = false by simp; omega, show decide (6 - (n + 1) ≤ l') = decide (6 - n ≤ l') from decide_eq_decide.mpr (by omega)]
              simp
        | succ m ihm =>
          intro k Mk hk' ht tb
          obtain ⟨a1, a2, a3, a4, a5, a6, a7, a8, a9, a10⟩ := id ht
          have f97 : Mk 97 = M 97 := a1 97 (by decide) (by decide) (by decide) (by decide) (by decide) (by decide)
          have f6 : Mk 96 6 = if dc = true then 1 else 0 := by rw [a4 6 (by decide) (by decide)]; exact h6
          have f5 : Mk 96 5 = kx := by rw [a4 5 (by decide) (by decide)]; exact h5
          have e97 : Mk 97 l = R l := by rw [f97]; exact h97 l (by omega)
          have kc : (k : Int) < cho dc (R l) := by omega
          apply vX6_tryLook_63
          refine ⟨fun z => by omega, fun _ => c_choose f6 (by omega) (fun hd hr => ?_) (fun hd hr => ?_) (fun M2 r2 o2 n2 => ?_)⟩
          · rw [e97] at hr
            unfold cho at kc
            rw [if_pos hd, if_neg (by omega), if_pos hr] at kc
            omega
          · rw [e97] at hr
            unfold cho at kc
            rw [if_pos hd, if_neg (by omega), if_neg (by omega)] at kc
            omega
          rw [e97] at n2
          have H2 : HD (M2 91) := by
            intro l' l0 l1
            by_cases e : l' = l
            · subst e
              have n0 := n2 0 (by omega) (by omega)
              rw [Int.add_zero] at n0
              rw [n0, n2 1 (by omega) (by omega), n2 2 (by omega) (by omega)]
              exact tri_ok _ _ _
            · rw [o2 _ (by omega), o2 _ (by omega), o2 _ (by omega)]
              exact a6 l' l0 l1
          have C2 : CH K E rs M2 := a3.congr (fun x hx => r2 x (by omega)) (by rw [r2 89 (by decide)])
          refine c_weighC C2 hE H2 (by rw [r2 89 (by decide)]; exact a7) (fun M3 r3 C3 => ?_)
          have q3 : ∀ x, x ≠ 91 → x ≠ 92 → x ≠ 94 → M3 x = Mk x := fun x x1 x2 x3 => by rw [r3 x x2 x3, r2 x x1]
          have e91 : M3 91 = M2 91 := r3 91 (by decide) (by decide)
          have e89 : M3 89 = Mk 89 := q3 89 (by decide) (by decide) (by decide)
          have e96 : M3 96 = Mk 96 := q3 96 (by decide) (by decide) (by decide)
          have ti : TRY K E rs kx (n + 1) Mk M3 (bot f0) 0 := TRY.idle (fun x _ x2 x3 x4 => q3 x x2 x3 x4) (fun k _ => by rw [e89]) C3 (fun l' i h1 i0 i1 h2 => by
            rw [e91]
            refine o2 _ ?_
            have : l' ≠ l := by
              rintro rfl
              rcases h2 with h2 | h2
              · omega
              · rw [hk] at h2; cases h2
            omega) (by rw [e91]; exact H2) (by rw [e89]; exact a7) (by rw [a8]; omega) a9.1
          have t3 := (ht.trans ti).cast (mg_bot (mgf_ge (bot f0) g _)) (Int.add_zero _)
          have A3 : AG kx S dc R b (cu c l k) n (M3 91) := by
            intro l' i h1 i0 i1 h2
            rw [e91]
            by_cases e : l' = l
            · subst e
              rw [n2 i i0 i1, HH_in (hS l' h1 hk) i i0 i1]
              unfold cu
              rw [if_pos rfl]
            · rw [o2 _ (by omega), a5 l' i h1 i0 i1 (by
                rcases h2 with h2 | h2
                · left; omega
                · exact Or.inr h2), ha l' i h1 i0 i1 (by
                rcases h2 with h2 | h2
                · left; omega
                · exact Or.inr h2), HH_cu e i0 i1]
          have tb3 : ∀ l' : Nat, l' < 6 → bt (M3 89 5) l' = (bt kx l' && decide (6 - n ≤ l')) := fun l' hl' => by rw [e89]; exact tb l' hl'
          have c0 : ∀ l', 6 - n ≤ l' → cu c l k l' = 0 := fun l' hl' => by unfold cu; rw [if_neg (by omega)]; exact hc l' (by omega)
          have ub := SUM_ub (S := S) (dc := dc) (R := R) (f0 := f0) (kx := kx) hW hE hb n (by omega) (cu c l k) (M3 91) (fun l => bt (M3 89 5) l) c0 (by rw [e91]; exact H2) A3 tb3
          have ew : WS K E (M2 91) (fun l => bt (M2 89 5) l) = WS K E (M3 91) (fun l => bt (M3 89 5) l) := by rw [e91, e89, r2 89 (by decide)]
          rw [ew]
          have P1 : (k + 1) * PN (nnK kx dc R) n ≤ nnK kx dc R l * PN (nnK kx dc R) n := Nat.mul_le_mul_right _ (by omega)
          have P2 : (k + 1) * PN (nnK kx dc R) n = k * PN (nnK kx dc R) n + PN (nnK kx dc R) n := Nat.succ_mul _ _
          have nxt : ∀ M7, TRY K E rs kx (n + 1) M3 M7 (g k) (PN (nnK kx dc R) n : Nat) → (∀ l' : Nat, l' < 6 → bt (M7 89 5) l' = (bt kx l' && decide (6 - n ≤ l'))) → r32 ((k : Int) + 1) ∧ wX6_tryLook (d + n + 3) 63 [(0, zA 96), (1, zI (l : Int)), (4, zI (cho dc (R l))), (5, zI ((k : Int) + 1))] M7 Q := by
            intro M7 t7 b7
            exact ⟨⟨by omega, by omega⟩, ihm (k + 1) M7 (by omega) ((t3.trans t7).cast rfl (by rw [P2]; omega)) b7⟩
          refine c_mayBe (fun y0 y1 => ⟨fun _ => nxt M3 (TRY.skip C3 (by rw [e91]; exact H2) (by rw [e89]; exact a7) (by rw [e96]; exact a9.1) (by omega) ?_ (fun hc => ?_)) tb3, fun z => absurd rfl z⟩) (fun y0 y1 => ⟨fun z => by omega, fun _ => ⟨⟨by omega, by omega⟩, ?_⟩⟩)
          · show (g k).1 ≤ _
            have ub : (g k).1 ≤ _ := ub
            by_cases h7 : M3 96 7 = 0
            · have := y0 h7; omega
            · have := y1 h7; omega
          · have ub : (g k).1 ≤ _ := ub
            have := y1 hc
            show (g k).1 < _
            omega
          · have := ih (by omega) (d := d) (M := M3) (c := cu c l k) (Q := fun M7 => r32 ((k : Int) + 1) ∧ wX6_tryLook (d + n + 3) 63 [(0, zA 96), (1, zI (l : Int)), (4, zI (cho dc (R l))), (5, zI ((k : Int) + 1))] M7 Q) C3 (fun l' hl' => by rw [q3 97 (by decide) (by decide) (by decide), f97]; exact h97 l' hl') (by rw [e96]; exact f5) (by rw [e96]; exact f6) A3 (by rw [e91]; exact H2) (by rw [e89]; exact a7) tb3 rfl y0 (by rw [e96, a8]; omega) (by
              rw [e96]
              refine ⟨a9.1, ?_⟩
              rw [PS] at h9
              omega) c0 (fun M7 t7 b7 => nxt M7 t7.weak b7)
            rw [el6] at this
            exact this
      refine lp (nnK kx dc R l) 0 M1 (by omega) ((TRY.idle (f0 := f0) (fun x x1 _ _ _ => r1 x x1) k1 C1 (fun l' i _ _ _ _ => by rw [r1 91 (by decide)]) (by rw [r1 91 (by decide)]; exact hH) b1 hN h9.1).cast rfl (by rw [Nat.zero_mul]; rfl)) t1
    · -- it is not
      have hk : bt kx l = false := by
        cases hq : bt kx l with
        | false => rfl
        | true => rw [hq] at z; exact absurd z (by decide)
      have nl : nnK kx dc R l = 1 := by unfold nnK; rw [if_neg (by rw [hk]; decide)]
      have PS : PN (nnK kx dc R) (n + 1) = PN (nnK kx dc R) n := by
        show nnK kx dc R (5 - n) * PN (nnK kx dc R) n = _
        rw [← hl, nl, Nat.one_mul]
      have eg : SUM (nnK kx dc R) (lfH K E S dc R b) f0 (n + 1) c = SUM (nnK kx dc R) (lfH K E S dc R b) f0 n c := by
        show mgf (bot f0) (fun k => SUM (nnK kx dc R) (lfH K E S dc R b) f0 n (cu c (5 - n) k)) (nnK kx dc R (5 - n)) = _
        rw [← hl, nl]
        show mg (bot f0) (SUM (nnK kx dc R) (lfH K E S dc R b) f0 n (cu c l 0)) = _
        rw [cu_self (hc l (by omega)), bot_mg (sge _ _)]
      have tt : ∀ l' : Nat, l' < 6 → (bt kx l' && decide (6 - (n + 1) ≤ l')) = (bt kx l' && decide (6 - n ≤ l')) := by
        intro l' hl'
        by_cases e : l' = l
        · rw [e, hk]; rfl
        · rw [show decide (6 - (n + 1) ≤ l') = decide (6 - n ≤ l') from decide_eq_decide.mpr (by omega)]
      have := ih (by omega) (d := d) (M := M) (c := c) (j2 := j2) (Q := Q) hC h97 h5 h6 (fun l' i h1 i0 i1 h2 => ha l' i h1 i0 i1 (by
        by_cases e : l' = l
        · right; rw [e]; exact hk
        · rcases h2 with h2 | h2
          · left; omega
          · exact Or.inr h2)) hH hf (fun l' hl' => by rw [hbt l' hl', tt l' hl']) hj hbest hN (by rw [← PS]; exact h9) (fun l' hl' => hc l' (by omega)) (fun M' t' b' => hQ M' (t'.weak.cast eg.symm (by rw [PS])) (fun l' hl' => by rw [b' l' hl', tt l' hl']))
      rw [el6] at this
      exact this
