/-! layStep, lay -/
/-- the Chart, laid -/
def LAY (K : Int → Int) (E : Int → Int → Int) (M : ZM) (rs : Int → Int → Bool) (M' : ZM) : Prop := (∀ b, (b < 87 ∨ 95 < b) → M' b = M b) ∧ CL K M' ∧ CT K M' ∧ ORD K rs M' ∧ RSC K rs ∧ BAS K E rs M' ∧ M' 89 5 = 0 ∧ (∀ j, 0 ≤ j → j < 18 → M' 91 j = K (160 + j)) ∧ (∀ j, 0 ≤ j → j < 16 → M' 90 j = M 46 j)
theorem c_lay {d t : Nat} {M : ZM} {ev : Int} {Q : ZM → Prop} (h : J t M) (hv : ev = 0 ∨ ev = 1) (hQ : ∀ M' rs, LAY (M 115) (EW M) M rs M' → (ev = 1 → ∀ s p, 0 ≤ s → s ≤ 10 → 0 ≤ p → p ≤ 15 → rs s p = true) → Q M') : zcV (d + 6) 3 [zA 89, zI ev] M Q := by
  have hW := h.wf
  have hpl := h.pl
  obtain ⟨a1, a2, a3, a4, a5, a6, a7, a8⟩ := id hW
  apply vX1_lay
  refine c_copyRow (n := 16) rfl rfl rfl (c_copyRow (n := 18) rfl rfl rfl (zset (zset ?_)))
  generalize hM0 : zup (zup (zcp (zcp M 46 0 90 0 (16 : Nat)) 56 0 91 0 (18 : Nat)) 89 5 0) 89 8 0 = M0
  have row0 : ∀ b, b ≠ 89 → b ≠ 90 → b ≠ 91 → M0 b = M b := fun b b1 b2 b3 => by subst hM0; rw [zup_row b1, zup_row b1, zcp_row b3, zcp_row b2]
  have r90 : ∀ j, 0 ≤ j → j < 16 → M0 90 j = M 46 j := fun j j0 j1 => by
    subst hM0
    rw [zup_row (by decide), zup_row (by decide), zcp_row (by decide), zcp_eq j0 (by omega), show 0 + (j - 0) = j by omega]
  have r91 : ∀ j, 0 ≤ j → j < 18 → M0 91 j = M 115 (160 + j) := fun j j0 j1 => by
    have := h.rl j0 j1
    subst hM0
    rw [zup_row (by decide), zup_row (by decide), zcp_eq j0 (by omega), show 0 + (j - 0) = j by omega, zcp_row (by decide)]
    exact this
  have r895 : M0 89 5 = 0 := by subst hM0; rw [zup_ne (by omega), zup_eq]
  have r898 : M0 89 8 = 0 := by subst hM0; exact zup_eq
  have L0 : ∀ M1 : ZM, (∀ b, b ≠ 94 → b ≠ 95 → M1 b = M0 b) → CL (M 115) M1 := by
    intro M1 r
    have e : ∀ b, b ≠ 94 → b ≠ 95 → b ≠ 89 → b ≠ 90 → b ≠ 91 → M1 b = M b := fun b b1 b2 b3 b4 b5 => by rw [r b b1 b2, row0 b b3 b4 b5]
    refine ⟨hW, ?_, ?_, fun p p0 p1 => ?_⟩
    · rw [e 44 (by decide) (by decide) (by decide) (by decide) (by decide)]; exact h.size
    · rw [e 55 (by decide) (by decide) (by decide) (by decide) (by decide)]
      exact ⟨h.term (by omega) (by omega), h.term (by omega) (by omega), h.term (by omega) (by omega), h.term (by omega) (by omega)⟩
    · rw [e 45 (by decide) (by decide) (by decide) (by decide) (by decide), e 47 (by decide) (by decide) (by decide) (by decide) (by decide), e 48 (by decide) (by decide) (by decide) (by decide) (by decide), e 49 (by decide) (by decide) (by decide) (by decide) (by decide), r 90 (by decide) (by decide), r90 p p0 (by omega)]
      exact ⟨h.kind p0 p1, fun k => h.look p0 p1 k, fun k => h.toll p0 p1 k, fun k => h.toll0 p0 p1 k, h.rc p0 p1, fun k k0 k1 => h.rd p0 p1 k0 k1⟩
  -- TENTHS
  have lp1 : ∀ (n i : Nat) (M1 : ZM), i + n = 48 → (∀ b, b ≠ 94 → M1 b = M0 b) → (∀ j, 0 ≤ j → j < (i : Int) → M1 94 j = if M 45 (j / 3) = 1 then M 50 j else 10) → (∀ M2 : ZM, (∀ b, b ≠ 94 → M2 b = M0 b) → (∀ j, 0 ≤ j → j < 48 → M2 94 j = if M 45 (j / 3) = 1 then M 50 j else 10) → wX1_lay (d + 5) 40 [(0, zA 89), (1, zI ev), (2, zI (48 : Nat))] M2 Q) → wX1_lay (d + 5) 40 [(0, zA 89), (1, zI ev), (2, zI i)] M1 Q := by
    intro n
    induction n with
    | zero =>
      intro i M1 hn r1 t1 nx
      have : i = 48 := by omega
      subst this
      exact nx M1 r1 (fun j j0 j1 => t1 j j0 (by omega))
    | succ n ih =>
      intro i M1 hn r1 t1 nx
      have td : Int.tdiv (i : Int) 3 = (i : Int) / 3 := Int.tdiv_eq_ediv_of_nonneg (by omega)
      have e45 : M1 45 = M 45 := by rw [r1 45 (by decide), row0 45 (by decide) (by decide) (by decide)]
      have e50 : M1 50 = M 50 := by rw [r1 50 (by decide), row0 50 (by decide) (by decide) (by decide)]
      have step : ∀ x, x = (if M 45 ((i : Int) / 3) = 1 then M 50 i else 10) → wX1_lay (d + 5) 40 [(0, zA 89), (1, zI ev), (2, zI ((i : Int) + 1))] (zup M1 94 i x) Q := by
        intro x hx
        refine ih (i + 1) _ (by omega) (fun b hb => by rw [zup_row hb, r1 b hb]) (fun j j0 j1 => ?_) nx
        rw [zup_at]
        by_cases hj : j = i
        · rw [if_pos hj, hx, hj]
        · rw [if_neg hj]; exact t1 j j0 (by omega)
      apply vX1_lay_40
      rw [td, e45, e50]
      refine ⟨fun q => by omega, fun _ => ⟨by omega, ⟨by omega, by omega⟩, by omega, fun q => ⟨by omega, zset ⟨⟨by omega, by omega⟩, step 10 (by rw [if_neg q])⟩⟩, fun q => ⟨by omega, by omega, zset ⟨⟨by omega, by omega⟩, step _ (by rw [if_pos q])⟩⟩⟩⟩
  refine lp1 48 0 M0 (by omega) (fun _ _ => rfl) (fun j a b => by omega) (fun M2 r2 t2 => ?_)
  apply vX1_lay_40
  refine ⟨fun _ => c_reach (K := M 115) (L0 M2 (fun b b1 b2 => r2 b b1)) hv (fun MR rR bR cR aR => ⟨by omega, ?_⟩), fun q => by omega⟩
  have rr : ∀ b, b ≠ 94 → b ≠ 95 → MR b = M0 b := fun b b1 b2 => by rw [rR b b2, r2 b b1]
  have e55 : MR 55 1 = M 115 179 := (L0 MR rr).2.2.1.2.1
  rw [e55]
  have C94 : ∀ M1 : ZM, M1 94 = MR 94 → CT (M 115) M1 := by
    intro M1 e p p0 p1
    rw [e, rR 94 (by decide)]
    have hr := (h.wp p0 p1).rc
    refine ⟨fun k1 k k0 k2 => ?_, fun k2 => ?_⟩
    · rw [t2 _ (by omega) (by omega), show (p * 3 + k) / 3 = p by omega, if_pos (by rw [h.kind p0 p1]; exact k1)]
      exact h.tn p0 p1 k1 k0 k2
    · rw [t2 _ (by omega) (by omega), show (p * 3) / 3 = p by omega, if_neg (by rw [h.kind p0 p1]; omega)]
  let rs : Int → Int → Bool := fun s p => bt (MR 95 s) p
  -- steps
  let Inv := fun (s p : Int) (M1 : ZM) => (∀ b, b ≠ 87 → b ≠ 88 → b ≠ 89 → b ≠ 92 → b ≠ 93 → M1 b = MR b) ∧ M1 89 5 = 0 ∧ (0 ≤ M1 89 8 ∧ M1 89 8 ≤ 16 * (M 115 179 - s) + p)
    ∧ (∀ i, 0 ≤ i → i < M1 89 8 → ∃ s' p', M1 93 i = 16 * s' + p' ∧ 0 ≤ s' ∧ s ≤ s' ∧ s' < M 115 179 ∧ 0 ≤ p' ∧ p' < M 115 182 ∧ M 115 (10 * p') ≠ 3 ∧ rs s' p' = true)
    ∧ (∀ s' p', 0 ≤ s' → s' < M 115 179 → (s < s' ∨ s' = s ∧ p' < p) → 0 ≤ p' → p' < M 115 182 → M 115 (10 * p') ≠ 3 → rs s' p' = true → ∃ i, 0 ≤ i ∧ i < M1 89 8 ∧ M1 93 i = 16 * s' + p')
    ∧ (∀ i j, 0 ≤ i → i ≤ j → j < M1 89 8 → M1 93 j / 16 ≤ M1 93 i / 16)
    ∧ ∀ s' p', 0 ≤ s' → s' ≤ M 115 179 → (s < s' ∨ s' = s ∧ p' < p) → 0 ≤ p' → p' ≤ 15 → rs s' p' = true → (M 115 182 ≤ p' → M1 92 (16 * s' + p') = M 115 181 * 10000000000) ∧ (p' < M 115 182 → M 115 (10 * p') = 3 → M1 92 (16 * s' + p') = EW M p' s' * 10000000000) ∧ (p' < M 115 182 → M 115 (10 * p') ≠ 3 → s' = M 115 179 → M1 92 (16 * s' + p') = M 115 180 * 10000000000)
  have inner : ∀ (s : Int), 0 ≤ s → s ≤ M 115 179 → ∀ (Q' : ZM → Prop), (∀ M1, Inv (s - 1) 0 M1 → Q' M1) → ∀ (n p : Nat) (M1 : ZM), p + n = 16 → Inv s p M1 → wX1_layStep (d + 4) 12 [(0, zA 89), (1, zI s), (2, zI (M 115 179)), (3, zI p)] M1 Q' := by
    intro s s0 s1 Q' nxt n
    induction n with
    | zero =>
      intro p M1 hn hI
      obtain ⟨i1, i2, i3, i4, i5, i6, i7⟩ := hI
      apply vX1_layStep_12
      refine ⟨fun _ => nxt M1 ⟨i1, i2, by omega, fun i a b => ?_, fun s' p' a b c e f => i5 s' p' a b (by omega) e f, i6, fun s' p' a b c e f => i7 s' p' a b (by omega) e f⟩, fun q => by omega⟩
      obtain ⟨s', p', q1, q2, q3, q4⟩ := i4 i a b
      exact ⟨s', p', q1, q2, by omega, q4⟩
    | succ n ih =>
      intro p M1 hn hI
      obtain ⟨i1, i2, i3, i4, i5, i6, i7⟩ := id hI
      have L1 : CL (M 115) MR := L0 MR rr
      obtain ⟨-, d1, d2, d3⟩ := L1
      have br := (bR s s0 (by omega)).r (by decide)
      have e44 : M1 44 0 = M 115 182 := by rw [i1 44 (by decide) (by decide) (by decide) (by decide) (by decide)]; exact d1
      have e55' : ∀ i, M1 55 i = MR 55 i := fun i => by rw [i1 55 (by decide) (by decide) (by decide) (by decide) (by decide)]
      have e45 : ∀ i, M1 45 i = MR 45 i := fun i => by rw [i1 45 (by decide) (by decide) (by decide) (by decide) (by decide)]
      -- a table entry is written; teller's rows may have changed
      have wr : ∀ (M2 : ZM) (x : Int), (∀ b, b ≠ 87 → b ≠ 88 → M2 b = M1 b) → (rs s p = true → (M 115 182 ≤ (p : Int) → x = M 115 181 * 10000000000) ∧ ((p : Int) < M 115 182 → M 115 (10 * p) = 3 → x = EW M p s * 10000000000) ∧ ((p : Int) < M 115 182 → M 115 (10 * p) ≠ 3 → s = M 115 179 → x = M 115 180 * 10000000000)) → ¬ (rs s p = true ∧ (p : Int) < M 115 182 ∧ M 115 (10 * p) ≠ 3 ∧ s < M 115 179) → wX1_layStep (d + 4) 12 [(0, zA 89), (1, zI s), (2, zI (M 115 179)), (3, zI ((p : Int) + 1))] (zup M2 92 (s * 16 + p) x) Q' := by
        intro M2 x r2 hx hm
        have e89 : zup M2 92 (s * 16 + p) x 89 = M1 89 := by rw [zup_row (by decide), r2 89 (by decide) (by decide)]
        have e93 : zup M2 92 (s * 16 + p) x 93 = M1 93 := by rw [zup_row (by decide), r2 93 (by decide) (by decide)]
        refine ih (p + 1) _ (by omega) ⟨fun b b1 b2 b3 b4 b5 => by rw [zup_row b4, r2 b b1 b2, i1 b b1 b2 b3 b4 b5], by rw [e89]; exact i2, by rw [e89]; omega, fun i a b => ?_, fun s' p' a b c e f g hr => ?_, fun i j a b c => ?_, fun s' p' a b c e f hr => ?_⟩
        · rw [e89] at b
          rw [e93]
          exact i4 i a b
        · rw [e89, e93]
          by_cases hsp : s' = s ∧ p' = p
          · obtain ⟨rfl, rfl⟩ := hsp
            exact absurd ⟨hr, f, g, b⟩ hm
          · exact i5 s' p' a b (by omega) e f g hr
        · rw [e89] at c
          rw [e93]
          exact i6 i j a b c
        · rw [zup_at]
          by_cases hsp : s' = s ∧ p' = p
          · obtain ⟨rfl, rfl⟩ := hsp
            rw [if_pos (by omega)]
            exact hx hr
          · rw [if_neg (by omega), r2 92 (by decide) (by decide)]
            exact i7 s' p' a b (by omega) e f hr
      apply vX1_layStep_12
      rw [e44, i1 95 (by decide) (by decide) (by decide) (by decide) (by decide), bt_read br.1 br.2 (by omega) (by omega)]
      have zero1 : (if bt (MR 95 s) p = true then (1 : Int) else 0) = 0 → rs s p = false := by
        intro z
        show bt (MR 95 s) p = false
        cases hb : bt (MR 95 s) p with
        | false => rfl
        | true => rw [hb] at z; simp at z
      have one1 : ¬ (if bt (MR 95 s) p = true then (1 : Int) else 0) = 0 → rs s p = true := by
        intro z
        show bt (MR 95 s) p = true
        cases hb : bt (MR 95 s) p with
        | true => rfl
        | false => rw [hb] at z; exact absurd rfl z
      refine ⟨fun q => by omega, fun _ => ⟨⟨by omega, by omega⟩, ⟨by omega, by omega⟩, by omega, fun z => ⟨fun z2 => ⟨by omega, fun k3 => ⟨fun z4 => ⟨by omega, zset ?_⟩, fun z4 => ⟨by omega, ?_, by omega, zset ⟨⟨by omega, by omega⟩, wr M1 _ (fun _ _ _ => rfl) (fun hr => ⟨fun a => by omega, fun a b => ?_, fun a b c => ?_⟩) (fun a => by omega)⟩⟩⟩, fun k3 => ?_⟩, fun z2 => ⟨by omega, ?_, by omega, zset ⟨⟨by omega, by omega⟩, wr M1 _ (fun _ _ _ => rfl) (fun hr => ⟨fun a => ?_, fun a => by omega, fun a => by omega⟩) (fun a => by omega)⟩⟩⟩, fun z => ⟨by omega, zset ⟨⟨by omega, by omega⟩, wr M1 0 (fun _ _ _ => rfl) (fun hr => by rw [zero1 z] at hr; cases hr) (fun a => by rw [zero1 z] at a; cases a.1)⟩⟩⟩⟩
      · -- he goes on from here
        have hr := one1 z
        have kk : M 115 (10 * p) ≠ 3 := by rw [e45] at k3; rw [(d3 p (by omega) z2).1] at k3; exact k3
        rw [zup_row (by decide)]
        refine ⟨⟨by omega, by omega⟩, zset ⟨⟨by omega, by omega⟩, ?_⟩⟩
        generalize hM2 : zup (zup M1 93 (M1 89 8) (s * 16 + p)) 89 8 (M1 89 8 + 1) = M2
        have f8 : M2 89 8 = M1 89 8 + 1 := by subst hM2; exact zup_eq
        have f5 : M2 89 5 = 0 := by subst hM2; rw [zup_ne (by omega), zup_row (by decide)]; exact i2
        have f93 : ∀ i, M2 93 i = if i = M1 89 8 then s * 16 + p else M1 93 i := fun i => by subst hM2; rw [zup_row (by decide), zup_at]
        have fr' : ∀ b, b ≠ 89 → b ≠ 93 → M2 b = M1 b := fun b b1 b2 => by subst hM2; rw [zup_row b1, zup_row b2]
        refine ih (p + 1) M2 (by omega) ⟨fun b b1 b2 b3 b4 b5 => by rw [fr' b b3 b5, i1 b b1 b2 b3 b4 b5], f5, by omega, fun i a b => ?_, fun s' p' a b c e f g hr' => ?_, fun i j a b c => ?_, fun s' p' a b c e f hr' => ?_⟩
        · rw [f93]
          by_cases hi : i = M1 89 8
          · rw [if_pos hi]
            exact ⟨s, p, by omega, s0, by omega, by omega, by omega, z2, kk, hr⟩
          · rw [if_neg hi]
            exact i4 i a (by omega)
        · by_cases hsp : s' = s ∧ p' = p
          · obtain ⟨rfl, rfl⟩ := hsp
            exact ⟨M1 89 8, by omega, by omega, by rw [f93, if_pos rfl]; omega⟩
          · obtain ⟨i, x1, x2, x3⟩ := i5 s' p' a b (by omega) e f g hr'
            exact ⟨i, x1, by omega, by rw [f93, if_neg (by omega)]; exact x3⟩
        · rw [f93, f93]
          by_cases hj : j = M1 89 8
          · rw [if_pos hj]
            by_cases hi : i = M1 89 8
            · rw [if_pos hi]; omega
            · rw [if_neg hi]
              obtain ⟨s', p', x1, x2, x3, x4, x5, x6, -⟩ := i4 i a (by omega)
              rw [x1]; omega
          · rw [if_neg hj, if_neg (by omega)]
            exact i6 i j a b (by omega)
        · rw [fr' 92 (by decide) (by decide)]
          by_cases hsp : s' = s ∧ p' = p
          · obtain ⟨rfl, rfl⟩ := hsp
            exact ⟨fun x => by omega, fun x y => absurd y kk, fun x y w => by omega⟩
          · exact i7 s' p' a b (by omega) e f hr'
      · rw [e55', d2.2.2.1]; exact ⟨by omega, by omega⟩
      · rw [e45, (d3 p (by omega) a).1] at k3; exact absurd b k3
      · rw [e55', d2.2.2.1]
      · -- an END
        have kk : M 115 (10 * p) = 3 := by rw [e45, (d3 p (by omega) z2).1] at k3; exact k3
        obtain ⟨⟨g0, g1, g2⟩, -⟩ := (h.2.2.1.2.2.1 p (by omega) z2).2 kk
        have e5x : ∀ b, 51 ≤ b → b ≤ 54 → M1 b = M b := fun b b1 b2 => by
          rw [i1 b (by omega) (by omega) (by omega) (by omega) (by omega), rr b (by omega) (by omega), row0 b (by omega) (by omega) (by omega)]
        refine zcall_rg (fun R1 => c_tell R1 (by omega) (by omega) (by omega) (by rw [e5x 51 (by omega) (by omega)]; exact g0) (by rw [e5x 52 (by omega) (by omega)]; exact g1) (fun M2 r2 => ?_))
        have et : tTell (bL M1 44) p s (M 115 179) = EW M p s := by
          unfold EW tTell
          show (if M1 52 p < M1 53 p ∧ tRun (M1 54) (mEnv s p (M 115 179)) (M1 53 p) 401 (M1 52 p) [] ≠ 1 then 0 else if tRun (M1 54) (mEnv s p (M 115 179)) (M1 52 p) 401 (M1 51 p) [] = NOTH then 0 else max (-999) (min 999 (tRun (M1 54) (mEnv s p (M 115 179)) (M1 52 p) 401 (M1 51 p) []))) = _
          rw [e5x 51 (by omega) (by omega), e5x 52 (by omega) (by omega), e5x 53 (by omega) (by omega), e5x 54 (by omega) (by omega)]
        rw [et]
        have eb : -999 ≤ EW M p s ∧ EW M p s ≤ 999 := tTell_rg _ _ _ _
        exact ⟨⟨by omega, by omega⟩, by omega, zset ⟨⟨by omega, by omega⟩, wr M2 _ r2 (fun hr => ⟨fun a => by omega, fun _ _ => rfl, fun a b => absurd kk b⟩) (fun a => a.2.2.1 kk)⟩⟩
      · rw [e55', d2.2.2.2]; exact ⟨by omega, by omega⟩
      · rw [e55', d2.2.2.2]
  have outer : ∀ (n : Nat) (s : Int) (M1 : ZM), s + 1 = n → s ≤ M 115 179 → Inv s 0 M1 → wX1_lay (d + 5) 105 [(0, zA 89), (2, zI s)] M1 Q := by
    intro n
    induction n with
    | zero =>
      intro s M1 hn hs hI
      obtain ⟨i1, i2, i3, i4, i5, i6, i7⟩ := hI
      have L1 : CL (M 115) M1 := (L0 MR rr).congr (fun b hb => i1 b (by omega) (by omega) (by omega) (by omega) (by omega))
      apply vX1_lay_105
      refine ⟨fun _ => hQ M1 rs ⟨fun b hb => ?_, L1, C94 M1 (i1 94 (by decide) (by decide) (by decide) (by decide) (by decide)), ⟨by omega, fun i a b => ?_, fun s' p' a b c e f g => i5 s' p' a b (by omega) c e f g, i6⟩, cR, fun s' p' a b c e f => i7 s' p' a b (by omega) c e f, i2, fun j j0 j1 => ?_, fun j j0 j1 => ?_⟩ (fun he s' p' a b c e => aR he s' p' a b c e), fun q => by omega⟩
      · rw [i1 b (by omega) (by omega) (by omega) (by omega) (by omega), rr b (by omega) (by omega), row0 b (by omega) (by omega) (by omega)]
      · obtain ⟨s', p', x1, x2, x3, x4, x5, x6, x7, x8⟩ := i4 i a b
        exact ⟨s', p', x1, x2, x4, x5, x6, x7, x8⟩
      · rw [i1 91 (by decide) (by decide) (by decide) (by decide) (by decide), rr 91 (by decide) (by decide)]; exact r91 j j0 j1
      · rw [i1 90 (by decide) (by decide) (by decide) (by decide) (by decide), rr 90 (by decide) (by decide)]; exact r90 j j0 j1
    | succ n ih =>
      intro s M1 hn hs hI
      apply vX1_lay_105
      refine ⟨fun q => by omega, fun _ => ?_⟩
      apply vX1_layStep
      have e1 : M1 55 1 = M 115 179 := by rw [hI.1 55 (by decide) (by decide) (by decide) (by decide) (by decide)]; exact e55
      rw [e1]
      refine ⟨by omega, inner s (by omega) hs _ (fun M2 hI2 => ⟨⟨by omega, by omega⟩, ?_⟩) 16 0 M1 (by omega) hI⟩
      exact ih (s + (-1)) M2 (by omega) (by omega) hI2
  refine outer (M 115 179 + 1).toNat (M 115 179) MR (by omega) (by omega) ⟨fun _ _ _ _ _ _ => rfl, ?_, ?_, fun i a b => ?_, fun s' p' a b c => by omega, fun i j a b c => ?_, fun s' p' a b c e => by omega⟩
  · rw [rr 89 (by decide) (by decide)]; exact r895
  · rw [rr 89 (by decide) (by decide), r898]; omega
  · rw [rr 89 (by decide) (by decide), r898] at b; omega
  · rw [rr 89 (by decide) (by decide), r898] at c; omega
