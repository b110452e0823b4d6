/-! the class reads TESTS -/
/-- turned round or not -/
def rN (ρ : Int) (r : PR) : PR := (r.1, r.2.1, r.2.2.map (fun f => if ρ = 0 then f else mNot f))
theorem rN_0 (r : PR) : rN 0 r = r := by
  obtain ⟨j, lv, o⟩ := r
  cases o with
  | none => rfl
  | some f => rfl
theorem rN_N {ρ : Int} (r : PR) : rN ρ (rN 1 r) = rN (if ρ = 0 then 1 else 0) r := by
  obtain ⟨j, lv, o⟩ := r
  cases o with
  | none => rfl
  | some f =>
    unfold rN
    by_cases h : ρ = 0
    · subst h; rfl
    · show (j, lv, some (if ρ = 0 then mNot f else mNot (mNot f))) = (j, lv, some (if (if ρ = 0 then (1 : Int) else 0) = 0 then f else mNot f))
      rw [if_neg h, if_neg h, if_pos rfl, mNot2]
theorem pB_not (r : PR) : (pB r fun i1 lv1 h1 => (i1, lv1, some (mNot h1))) = rN 1 r := by
  obtain ⟨j, lv, o⟩ := r
  cases o with
  | none => rfl
  | some f => rfl
/-- the calls of TESTS; 4 among the nots, 5 behind them -/
def ctM (T : Int → Int) (L : Int) (m : Nat) (dp i lv : Int) (h : ME) (r : PR) : Prop := match m with
  | 4 => ∀ (D : Nat) (K : Int → ZM → Prop) (M : ZM) (n0 ρ k : Int), 4 * (8 - dp) + 9 ≤ D → crS T L i lv n0 M → 0 ≤ n0 → n0 ≤ i → (ρ = 0 ∨ (ρ = 1 ∧ n0 + 1 ≤ i)) → 0 ≤ k → k ≤ i → crK T L (i - ρ) n0 n0 (5 + 2 * (8 - dp)) M (rN ρ r) K → wX5_readPlain D 4 [(0, zA 42), (1, zI dp), (2, zI ρ), (3, zI k)] M K
  | 5 => ∀ (D : Nat) (K : Int → ZM → Prop) (M : ZM) (n0 ρ : Int), 4 * (8 - dp) + 9 ≤ D → crS T L i lv n0 M → 0 ≤ n0 → n0 ≤ i → (ρ = 0 ∨ (ρ = 1 ∧ n0 + 1 ≤ i)) → crK T L (i - ρ) n0 n0 (5 + 2 * (8 - dp)) M (rN ρ r) K → wX5_readPlain D 36 [(0, zA 42), (1, zI dp), (2, zI ρ)] M K
  | _ => crM T L m dp i lv h r
theorem ct_all {T : Int → Int} {L : Int} {c v : Int → Int} {t : Int} (hB : BYT T L) (hT : TKC c v t) (hC : CVT T L c v) : ∀ (n m : Nat) (dp i lv : Int) (h : ME), m ≤ 5 → 0 ≤ i → i ≤ t → 0 ≤ dp → dp ≤ 8 → 0 ≤ lv → lv ≤ 50 → 12 * (t + 1 - i) + rk m ≤ n → ctM T L m dp i lv h (pP c v n m dp i lv h) := by
  obtain ⟨t4, cz, tv⟩ := id hT
  intro n
  induction n with
  | zero => intro m dp i lv h hm i0 i1 d0 d8 l0 l1 hn; omega
  | succ n ih =>
    intro m dp i lv h hm i0 i1 d0 d8 l0 l1 hn
    have G : ∀ {m' : Nat} {dp' i' lv' : Int} {hh : ME}, m' ≤ 10 → 0 ≤ i' → i' ≤ t → 0 ≤ dp' → dp' ≤ 8 → 0 ≤ lv' → lv' ≤ 50 → 12 * (t + 1 - i') + rk m' ≤ n → rdG t i' lv' (pP c v n m' dp' i' lv' hh) := fun a b c d e f g k => pP_rg hT a b c d e f g k
    rcases (by omega : m = 0 ∨ m = 1 ∨ m = 2 ∨ m = 3 ∨ m = 4 ∨ m = 5) with rfl | rfl | rfl | rfl | rfl | rfl
    · -- a TEST
      have e : rk 0 = 7 := rfl
      have e2 : rk 2 = 6 := rfl
      have e1 : rk 1 = 1 := rfl
      rw [pP_0]
      intro D K M n0 hD hS n00 n0i hk
      have g := G (m' := 2) (dp' := dp) (i' := i) (lv' := lv) (hh := h) (by decide) i0 i1 d0 d8 l0 l1 (by omega)
      have sub := ih 2 dp i lv h (by decide) i0 i1 d0 d8 l0 l1 (by omega)
      obtain ⟨D, rfl⟩ : ∃ D', D = D' + 1 := ⟨D - 1, by omega⟩
      apply vX5_readTest
      refine sub D _ M n0 (by omega) hS n00 n0i ?_
      generalize pP c v n 2 dp i lv h = r1 at *
      obtain ⟨j1, lv1, o⟩ := r1
      cases o with
      | none => exact fun M' f' e' => ⟨fun z => absurd rfl z, fun _ => ⟨Or.inl rfl, hk M' f' e'⟩⟩
      | some f =>
        intro M' n1 f' s' a b cc dd
        have b : n1 - n0 ≤ j1 - i := b
        have g1 := g.1
        have g1 : i ≤ j1 := g1
        have g2 := g.2.1
        have g2 : j1 ≤ t := g2
        have g3 := g.2.2 rfl
        have g3 : lv ≤ lv1 ∧ lv1 ≤ 50 := g3
        have nx := ih 1 dp j1 lv1 f (by decide) (by omega) g2 d0 d8 (by omega) g3.2 (by omega)
        exact ⟨fun _ => nx D K M' n0 n1 0 (by omega) s' (by omega) (by omega) (by omega) (by omega) dd (crK.st hk f' a b cc), fun z => by omega⟩
    · have e : rk 1 = 1 := rfl
      have e2 : rk 2 = 6 := rfl
      rw [pP_1]
      intro D K M nS n0 k hD hS n00 n0i k0 ki cm hk
      obtain ⟨ci, vi⟩ := hC i i0
      have nSr := cm.rg
      obtain ⟨D, rfl⟩ : ∃ D', D = D' + 5 := ⟨D - 5, by omega⟩
      have il : c i = 8 → i < t := fun hc => by
        by_cases z : i < t
        · exact z
        · have := cz i (by omega); omega
      have stop : ¬ c i = 8 → ((1 : Int) = 0 ∨ (1 : Int) = 1) ∧ K 1 M := by
        intro hc
        rw [if_neg hc] at hk
        exact ⟨Or.inr rfl, hk M n0 crF.rf hS (Int.le_refl _) (show n0 - n0 ≤ i - i by omega) (fun _ _ => rfl) cm⟩
      apply vX5_readTest_12
      refine ⟨fun z => stop (fun hc => by have := il hc; omega), fun k4 => c_takeWordT hB hS.1 (by decide) (fun y M1 a1 => ?_) (fun y => ⟨fun _ => stop (fun hc => y (by rw [← ci, hc]; rfl)), fun z => absurd rfl z⟩)⟩
      have hc : c i = 8 := by rw [ci, y]; rfl
      have it := il hc
      rw [if_pos hc] at hk
      obtain ⟨q1, q2, q3, q4, q5⟩ := a1.cr
      have g := G (m' := 2) (dp' := dp) (i' := i + 1) (lv' := lv) (hh := h) (by decide) (by omega) (by omega) d0 d8 l0 l1 (by omega)
      have sub := ih 2 dp (i + 1) lv h (by decide) (by omega) (by omega) d0 d8 l0 l1 (by omega)
      have n8 : M1 42 8 = n0 := by rw [q3]; exact hS.2.2
      refine ⟨fun z => by omega, fun _ => c_put n8 n00 (by omega) (by omega) (by omega) (by omega) (by omega) ?_⟩
      rw [n8]
      generalize hM3 : zup (zup M1 41 n0 (12 + 16 * 0)) 42 8 (n0 + 1) = M3
      have r3 : ∀ x, x ≠ 41 → x ≠ 42 → M3 x = M1 x := fun x h1 h2 => by rw [← hM3, zup_row h2, zup_row h1]
      have s3 : ∀ j, M3 42 j = if j = 8 then n0 + 1 else M1 42 j := fun j => by rw [← hM3, zup_at, zup_row (by decide)]
      have t3 : ∀ j, M3 41 j = if j = n0 then 12 + 16 * 0 else M1 41 j := fun j => by rw [← hM3, zup_row (by decide), zup_at]
      have F3 : crF M M3 := q1.tr ⟨r3, fun j hj => by rw [s3, if_neg (by omega)]⟩
      have S3 : crS T L (i + 1) lv (n0 + 1) M3 := ⟨(show CAT T L (i + 1).toNat M1 by rw [show (i + 1).toNat = i.toNat + 1 by omega]; exact q5).cg (r3 30 (by decide) (by decide)) (fun j a b => by rw [s3, if_neg (by omega)]), by rw [s3, if_neg (by omega), q4]; exact hS.2.1, by rw [s3, if_pos rfl]⟩
      · refine sub (D + 5) _ M3 (n0 + 1) (by omega) S3 (by omega) (by omega) ?_
        generalize pP c v n 2 dp (i + 1) lv h = r1 at *
        obtain ⟨j1, lv1, o⟩ := r1
        cases o with
        | none => exact fun M' f' e' => ⟨fun z => absurd rfl z, fun _ => ⟨Or.inl rfl, hk M' (F3.tr f') e'⟩⟩
        | some f =>
          intro M' n1 f' s' a b cc dd
          have b : n1 - (n0 + 1) ≤ j1 - (i + 1) := b
          have g1 := g.1
          have g1 : i + 1 ≤ j1 := g1
          have g2 := g.2.1
          have g2 : j1 ≤ t := g2
          have g3 := g.2.2 rfl
          have g3 : lv ≤ lv1 ∧ lv1 ≤ 50 := g3
          have m0 : M' 41 n0 = 12 + 16 * 0 := by rw [cc n0 (by omega), t3, if_pos rfl]
          refine ⟨fun _ => c_aim s'.2.2 (by omega) (by omega) n00 (by omega) m0 (by omega) (by omega) (by omega) (by omega) ⟨⟨by omega, by omega⟩, ?_⟩, fun z => by omega⟩
          have row : ∀ y, y < n0 → zup M' 41 n0 (12 + 16 * n1) 41 y = M 41 y := fun y y1 => by rw [zup_at, if_neg (by omega), cc y (by omega), t3, if_neg (by omega), q2]
          have nx := ih 1 dp j1 lv1 (mOr h f) (by decide) (by omega) g2 d0 d8 (by omega) g3.2 (by omega)
          refine nx (D + 5) K _ nS n1 (k + 1) (by omega) ⟨s'.1.cg (by rw [zup_row (by decide)]) (fun j a b => by rw [zup_row (by decide)]), by rw [zup_row (by decide)]; exact s'.2.1, by rw [zup_row (by decide)]; exact s'.2.2⟩ (by omega) (by omega) (by omega) (by omega) ?_ (crK.st hk ((F3.tr f').tr ⟨fun x h1 h2 => by rw [zup_row h1], fun j hj => by rw [zup_row (by decide)]⟩) (by omega) (by omega) (fun y y1 => row y (by omega)))
          exact CMS_or (cm.cg (fun y y0 y1 => row y y1)) (dd.cg (fun y y0 y1 => by rw [zup_at, if_neg (by omega)])) (by omega) (by rw [zup_eq])
    · -- a BOTH
      have e : rk 2 = 6 := rfl
      have e2 : rk 4 = 5 := rfl
      have e1 : rk 3 = 1 := rfl
      rw [pP_2]
      intro D K M n0 hD hS n00 n0i hk
      have g := G (m' := 4) (dp' := dp) (i' := i) (lv' := lv) (hh := h) (by decide) i0 i1 d0 d8 l0 l1 (by omega)
      have sub := ih 4 dp i lv h (by decide) i0 i1 d0 d8 l0 l1 (by omega)
      obtain ⟨D, rfl⟩ : ∃ D', D = D' + 2 := ⟨D - 2, by omega⟩
      apply vX5_readBoth
      apply vX5_readPlain
      refine sub D _ M n0 0 0 (by omega) hS n00 n0i (Or.inl rfl) (by omega) (by omega) ?_
      rw [rN_0, Int.sub_zero]
      generalize pP c v n 4 dp i lv h = r1 at *
      obtain ⟨j1, lv1, o⟩ := r1
      cases o with
      | none => exact fun M' f' e' => ⟨fun z => absurd rfl z, fun _ => ⟨Or.inl rfl, hk M' f' e'⟩⟩
      | some f =>
        intro M' n1 f' s' a b cc dd
        have b : n1 - n0 ≤ j1 - i := b
        have g1 := g.1
        have g1 : i ≤ j1 := g1
        have g2 := g.2.1
        have g2 : j1 ≤ t := g2
        have g3 := g.2.2 rfl
        have g3 : lv ≤ lv1 ∧ lv1 ≤ 50 := g3
        have nx := ih 3 dp j1 lv1 f (by decide) (by omega) g2 d0 d8 (by omega) g3.2 (by omega)
        exact ⟨fun _ => nx (D + 1) K M' n0 n1 0 (by omega) s' (by omega) (by omega) (by omega) (by omega) dd (crK.st hk f' a b cc), fun z => by omega⟩
    · have e : rk 3 = 1 := rfl
      have e2 : rk 4 = 5 := rfl
      rw [pP_3]
      intro D K M nS n0 k hD hS n00 n0i k0 ki cm hk
      obtain ⟨ci, vi⟩ := hC i i0
      have nSr := cm.rg
      obtain ⟨D, rfl⟩ : ∃ D', D = D' + 5 := ⟨D - 5, by omega⟩
      have il : c i = 9 → i < t := fun hc => by
        by_cases z : i < t
        · exact z
        · have := cz i (by omega); omega
      have stop : ¬ c i = 9 → ((1 : Int) = 0 ∨ (1 : Int) = 1) ∧ K 1 M := by
        intro hc
        rw [if_neg hc] at hk
        exact ⟨Or.inr rfl, hk M n0 crF.rf hS (Int.le_refl _) (show n0 - n0 ≤ i - i by omega) (fun _ _ => rfl) cm⟩
      apply vX5_readBoth_12
      refine ⟨fun z => stop (fun hc => by have := il hc; omega), fun k4 => c_takeWordT hB hS.1 (by decide) (fun y M1 a1 => ?_) (fun y => ⟨fun _ => stop (fun hc => y (by rw [← ci, hc]; rfl)), fun z => absurd rfl z⟩)⟩
      have hc : c i = 9 := by rw [ci, y]; rfl
      have it := il hc
      rw [if_pos hc] at hk
      obtain ⟨q1, q2, q3, q4, q5⟩ := a1.cr
      have g := G (m' := 4) (dp' := dp) (i' := i + 1) (lv' := lv) (hh := h) (by decide) (by omega) (by omega) d0 d8 l0 l1 (by omega)
      have sub := ih 4 dp (i + 1) lv h (by decide) (by omega) (by omega) d0 d8 l0 l1 (by omega)
      have n8 : M1 42 8 = n0 := by rw [q3]; exact hS.2.2
      refine ⟨fun z => by omega, fun _ => c_put n8 n00 (by omega) (by omega) (by omega) (by omega) (by omega) ?_⟩
      rw [n8]
      generalize hM3 : zup (zup M1 41 n0 (13 + 16 * 0)) 42 8 (n0 + 1) = M3
      have r3 : ∀ x, x ≠ 41 → x ≠ 42 → M3 x = M1 x := fun x h1 h2 => by rw [← hM3, zup_row h2, zup_row h1]
      have s3 : ∀ j, M3 42 j = if j = 8 then n0 + 1 else M1 42 j := fun j => by rw [← hM3, zup_at, zup_row (by decide)]
      have t3 : ∀ j, M3 41 j = if j = n0 then 13 + 16 * 0 else M1 41 j := fun j => by rw [← hM3, zup_row (by decide), zup_at]
      have F3 : crF M M3 := q1.tr ⟨r3, fun j hj => by rw [s3, if_neg (by omega)]⟩
      have S3 : crS T L (i + 1) lv (n0 + 1) M3 := ⟨(show CAT T L (i + 1).toNat M1 by rw [show (i + 1).toNat = i.toNat + 1 by omega]; exact q5).cg (r3 30 (by decide) (by decide)) (fun j a b => by rw [s3, if_neg (by omega)]), by rw [s3, if_neg (by omega), q4]; exact hS.2.1, by rw [s3, if_pos rfl]⟩
      · apply vX5_readPlain
        refine sub (D + 4) _ M3 (n0 + 1) 0 0 (by omega) S3 (by omega) (by omega) (Or.inl rfl) (by omega) (by omega) ?_
        rw [rN_0, Int.sub_zero]
        generalize pP c v n 4 dp (i + 1) lv h = r1 at *
        obtain ⟨j1, lv1, o⟩ := r1
        cases o with
        | none => exact fun M' f' e' => ⟨fun z => absurd rfl z, fun _ => ⟨Or.inl rfl, hk M' (F3.tr f') e'⟩⟩
        | some f =>
          intro M' n1 f' s' a b cc dd
          have b : n1 - (n0 + 1) ≤ j1 - (i + 1) := b
          have g1 := g.1
          have g1 : i + 1 ≤ j1 := g1
          have g2 := g.2.1
          have g2 : j1 ≤ t := g2
          have g3 := g.2.2 rfl
          have g3 : lv ≤ lv1 ∧ lv1 ≤ 50 := g3
          have m0 : M' 41 n0 = 13 + 16 * 0 := by rw [cc n0 (by omega), t3, if_pos rfl]
          refine ⟨fun _ => c_aim s'.2.2 (by omega) (by omega) n00 (by omega) m0 (by omega) (by omega) (by omega) (by omega) ⟨⟨by omega, by omega⟩, ?_⟩, fun z => by omega⟩
          have row : ∀ y, y < n0 → zup M' 41 n0 (13 + 16 * n1) 41 y = M 41 y := fun y y1 => by rw [zup_at, if_neg (by omega), cc y (by omega), t3, if_neg (by omega), q2]
          have nx := ih 3 dp j1 lv1 (mAnd h f) (by decide) (by omega) g2 d0 d8 (by omega) g3.2 (by omega)
          refine nx (D + 5) K _ nS n1 (k + 1) (by omega) ⟨s'.1.cg (by rw [zup_row (by decide)]) (fun j a b => by rw [zup_row (by decide)]), by rw [zup_row (by decide)]; exact s'.2.1, by rw [zup_row (by decide)]; exact s'.2.2⟩ (by omega) (by omega) (by omega) (by omega) ?_ (crK.st hk ((F3.tr f').tr ⟨fun x h1 h2 => by rw [zup_row h1], fun j hj => by rw [zup_row (by decide)]⟩) (by omega) (by omega) (fun y y1 => row y (by omega)))
          exact CMS_and (cm.cg (fun y y0 y1 => row y y1)) (dd.cg (fun y y0 y1 => by rw [zup_at, if_neg (by omega)])) (by omega) (by rw [zup_eq])
    · -- nots
      have e : rk 4 = 5 := rfl
      have e2 : rk 5 = 4 := rfl
      rw [pP_4]
      intro D K M n0 ρ k hD hS n00 n0i hρ k0 ki hk
      obtain ⟨ci, vi⟩ := hC i i0
      have r10 : rno 10 = 10 := rfl
      obtain ⟨D, rfl⟩ : ∃ D', D = D' + 5 := ⟨D - 5, by omega⟩
      have il : c i = 10 → i < t := fun hc => by
        by_cases z : i < t
        · exact z
        · have := cz i (by omega); omega
      have non : ¬ c i = 10 → wX5_readPlain (D + 5) 36 [(0, zA 42), (1, zI dp), (2, zI ρ)] M K := by
        intro hc
        rw [if_neg hc] at hk
        exact ih 5 dp i lv h (by decide) i0 i1 d0 d8 l0 l1 (by omega) (D + 5) K M n0 ρ hD hS n00 n0i hρ hk
      apply vX5_readPlain_4
      refine ⟨fun z => non (fun hc => by have := il hc; omega), fun k4 => c_takeWordT hB hS.1 (by decide) (fun y M1 a1 => ?_) (fun y => ⟨fun _ => non (fun hc => y (by rw [← ci, hc]; rfl)), fun z => absurd rfl z⟩)⟩
      have hc : c i = 10 := by rw [ci, y]; rfl
      have it := il hc
      rw [if_pos hc, pB_not, rN_N] at hk
      obtain ⟨q1, q2, q3, q4, q5⟩ := a1.cr
      have S1 : crS T L (i + 1) lv n0 M1 := ⟨by rw [show (i + 1).toNat = i.toNat + 1 by omega]; exact q5, by rw [q4]; exact hS.2.1, by rw [q3]; exact hS.2.2⟩
      have nx := ih 4 dp (i + 1) lv h (by decide) (by omega) (by omega) d0 d8 l0 l1 (by omega)
      refine ⟨fun z => by omega, fun _ => ⟨fun nz => ⟨⟨by omega, by omega⟩, ?_⟩, fun ez => ⟨⟨by omega, by omega⟩, ?_⟩⟩⟩
      · rw [if_neg nz] at hk
        exact nx (D + 5) K M1 n0 0 (k + 1) (by omega) S1 n00 (by omega) (Or.inl rfl) (by omega) (by omega) (crK.st hk q1 (by omega) (by omega) (fun y _ => by rw [q2]))
      · rw [if_pos ez] at hk
        exact nx (D + 5) K M1 n0 1 (k + 1) (by omega) S1 n00 (by omega) (Or.inr ⟨rfl, by omega⟩) (by omega) (by omega) (crK.st hk q1 (by omega) (by omega) (fun y _ => by rw [q2]))
    · -- behind the nots
      have e : rk 5 = 4 := rfl
      have e0 : rk 0 = 7 := rfl
      have e6 : rk 6 = 3 := rfl
      rw [pP_5]
      intro D K M n0 ρ hD hS n00 n0i hρ hk
      obtain ⟨ci, vi⟩ := hC i i0
      obtain ⟨D, rfl⟩ : ∃ D', D = D' + 6 := ⟨D - 6, by omega⟩
      have good : ∀ (j lv' : Int) (f : ME), crK T L (i - ρ) n0 n0 (5 + 2 * (8 - dp)) M (rN ρ (j, lv', some f)) K → j ≤ t → ∀ M' n1, crF M M' → crS T L j lv' n1 M' → n0 ≤ n1 → n1 - n0 ≤ j - i → (∀ y, y < n0 → M' 41 y = M 41 y) → CMS (M' 41) n0 n1 (5 + 2 * (8 - dp)) f → ((1 : Int) = 0 → ((1 : Int) = 0 ∨ (1 : Int) = 1) ∧ K 1 M') ∧ (¬ (1 : Int) = 0 → (ρ = 0 → ((1 : Int) = 0 ∨ (1 : Int) = 1) ∧ K 1 M') ∧ (¬ ρ = 0 → zcV (D + 6) 61 [zA 42, zI 11, zI 0] M' (fun M5 => ((1 : Int) = 0 ∨ (1 : Int) = 1) ∧ K 1 M5))) := by
        intro j lv' f hk jt M' n1 f' s' a b cc dd
        refine ⟨fun z => by omega, fun _ => ⟨fun z => ⟨Or.inr rfl, ?_⟩, fun z => c_put s'.2.2 (by omega) (by omega) (by omega) (by omega) (by omega) (by omega) ⟨Or.inr rfl, ?_⟩⟩⟩
        · subst z
          rw [rN_0, Int.sub_zero] at hk
          exact hk M' n1 f' s' a b cc dd
        · have row : ∀ y, y < n1 → zup (zup M' 41 n1 (11 + 16 * 0)) 42 8 (n1 + 1) 41 y = M' 41 y := fun y y1 => by rw [zup_row (by decide), zup_at, if_neg (by omega)]
          have hk' : ∀ M' n1, crF M M' → crS T L j lv' n1 M' → n0 ≤ n1 → n1 - n0 ≤ j - (i - ρ) → (∀ y, y < n0 → M' 41 y = M 41 y) → CMS (M' 41) n0 n1 (5 + 2 * (8 - dp)) (if ρ = 0 then f else mNot f) → K 1 M' := hk
          rw [if_neg z] at hk'
          refine hk' _ (n1 + 1) (f'.tr ⟨fun x h1 h2 => by rw [zup_row h2, zup_row h1], fun q hq => by rw [zup_at, if_neg (by omega), zup_row (by decide)]⟩) ⟨s'.1.cg (by rw [zup_row (by decide), zup_row (by decide)]) (fun q a b => by rw [zup_at, if_neg (by omega), zup_row (by decide)]), by rw [zup_at, if_neg (by omega), zup_row (by decide)]; exact s'.2.1, zup_eq⟩ (by omega) (by omega) (fun y y1 => by rw [row y (by omega), cc y y1]) (CMS_not (dd.cg (fun y y0 y1 => row y y1)) (by omega) ?_)
          rw [zup_row (by decide), zup_eq]; rfl
      apply vX5_readPlain_36
      refine c_isSignT hB hS.1 (by omega) (fun y => ?_) (fun y => ?_)
      · rw [← ci] at y
        have hc : c i = 140 := y
        rw [if_pos hc] at hk
        have il : i < t := by
          by_cases z : i < t
          · exact z
          · have := cz i (by omega); omega
        refine ⟨fun z => by omega, fun _ => ?_⟩
        apply vX5_readInBrackets
        refine ⟨fun d8' => ⟨Or.inl rfl, ?_⟩, fun d8' => ?_⟩
        · rw [if_pos (by omega)] at hk
          exact ⟨fun _ => ⟨Or.inl rfl, hk M crF.rf hS.1.2.2.1⟩, fun z => absurd rfl z⟩
        · rw [if_neg (by omega)] at hk
          refine c_takeSignT hB hS.1 (by omega) (fun _ M1 a1 => ⟨fun z => by omega, fun _ => ⟨⟨by omega, by omega⟩, ?_⟩⟩) (fun z => absurd (by rw [← ci]; exact hc) z)
          obtain ⟨q1, q2, q3, q4, q5⟩ := a1.cr
          have S1 : crS T L (i + 1) lv n0 M1 := ⟨by rw [show (i + 1).toNat = i.toNat + 1 by omega]; exact q5, by rw [q4]; exact hS.2.1, by rw [q3]; exact hS.2.2⟩
          have g := G (m' := 0) (dp' := dp + 1) (i' := i + 1) (lv' := lv) (hh := h) (by decide) (by omega) (by omega) (by omega) (by omega) l0 l1 (by omega)
          have sub := ih 0 (dp + 1) (i + 1) lv h (by decide) (by omega) (by omega) (by omega) (by omega) l0 l1 (by omega)
          refine sub (D + 5) _ M1 n0 (by omega) S1 n00 (by omega) ?_
          generalize pP c v n 0 (dp + 1) (i + 1) lv h = r1 at *
          obtain ⟨j1, lv1, o⟩ := r1
          cases o with
          | none => exact fun M' f' e' => ⟨fun _ => ⟨Or.inl rfl, fun _ => ⟨Or.inl rfl, hk M' (q1.tr f') e'⟩, fun z => absurd rfl z⟩, fun z => absurd rfl z⟩
          | some f =>
            intro M' n1 f' s' a b cc dd
            have b : n1 - n0 ≤ j1 - (i + 1) := b
            have g1 := g.1
            have g1 : i + 1 ≤ j1 := g1
            have g2 := g.2.1
            have g2 : j1 ≤ t := g2
            have s1 : CAT T L j1.toNat M' := s'.1
            obtain ⟨cj, -⟩ := hC j1 (by omega)
            refine ⟨fun z => by omega, fun _ => c_takeSignT hB s1 (by omega) (fun y2 M2 a2 => ⟨fun z => by omega, fun _ => ⟨Or.inr rfl, ?_⟩⟩) (fun y2 => ⟨fun _ => ⟨Or.inl rfl, ?_⟩, fun z => absurd rfl z⟩)⟩
            · rw [← cj] at y2
              have jl : j1 < t := by
                by_cases z : j1 < t
                · exact z
                · have := cz j1 (by omega); omega
              have er : (pB (j1, lv1, some f) fun i1 lv1 h1 => if c i1 = 141 then (i1 + 1, lv1, some h1) else (i1, lv1, none)) = (j1 + 1, lv1, some f) := if_pos y2
              rw [er] at hk
              obtain ⟨p1, p2, p3, p4, p5⟩ := a2.cr
              refine good (j1 + 1) lv1 f hk (by omega) M2 n1 ((q1.tr f').tr p1) ⟨?_, ?_, ?_⟩ a (by omega) (fun z z1 => by rw [p2, cc z z1, q2]) ?_
              · rw [show (j1 + 1).toNat = j1.toNat + 1 by omega]; exact p5
              · rw [p4]; exact s'.2.1
              · rw [p3]; exact s'.2.2
              · rw [p2]; exact dd.up (by omega)
            · rw [← cj] at y2
              have er : (pB (j1, lv1, some f) fun i1 lv1 h1 => if c i1 = 141 then (i1 + 1, lv1, some h1) else (i1, lv1, none)) = (j1, lv1, none) := if_neg y2
              rw [er] at hk
              exact ⟨fun _ => ⟨Or.inl rfl, hk M' (q1.tr f') s1.2.2.1⟩, fun z => absurd rfl z⟩
      · rw [← ci] at y
        have hc : ¬ c i = 140 := y
        rw [if_neg hc] at hk
        refine ⟨fun _ => ?_, fun z => absurd rfl z⟩
        apply vX5_readComparison
        have g := G (m' := 6) (dp' := dp) (i' := i) (lv' := lv) (hh := h) (by decide) i0 i1 d0 d8 l0 l1 (by omega)
        have sub := cr_sum hB hT hC n 6 dp i lv h (by decide) (by decide) i0 i1 d0 d8 l0 l1 (by omega)
        have bd := pP_bdm c v n 6 dp i lv h
        refine sub (D + 5) _ M n0 (by omega) hS n00 n0i ?_
        generalize pP c v n 6 dp i lv h = r1 at *
        obtain ⟨j1, lv1, o⟩ := r1
        cases o with
        | none => exact fun M' f' e' => ⟨fun z => absurd rfl z, fun _ => ⟨Or.inl rfl, fun _ => ⟨Or.inl rfl, hk M' f' e'⟩, fun z => absurd rfl z⟩⟩
        | some f =>
          intro M' n1 f' s' a b cc dd
          have b : n1 - n0 ≤ j1 - i := b
          have g1 := g.1
          have g1 : i ≤ j1 := g1
          have g2 := g.2.1
          have g2 : j1 ≤ t := g2
          have g3 := g.2.2 rfl
          have g3 : lv ≤ lv1 ∧ lv1 ≤ 50 := g3
          have s1 : CAT T L j1.toNat M' := s'.1
          have bf := bd j1 lv1 f (by decide) (by decide) (fun z => by omega) rfl
          obtain ⟨cj, -⟩ := hC j1 (by omega)
          have hk2 : crK T L (i - ρ) n0 n0 (5 + 2 * (8 - dp)) M (rN ρ (if c j1 = 160 ∨ c j1 = 161 ∨ c j1 = 162 then pB (pP c v n 6 dp (j1 + 1) lv1 h) (fun i2 lv2 h2 => (i2, lv2, some (mTwo (if c j1 = 160 then 4 else if c j1 = 162 then 5 else 6) f h2))) else (j1, lv1, none))) K := hk
          have jl : c j1 ≠ 0 → j1 < t := fun hq => by
            by_cases z : j1 < t
            · exact z
            · exact absurd (cz j1 (by omega)) hq
          have cmp2 : ∀ (o w : Int), 4 ≤ o → o ≤ 6 → w = (if o = 4 then 8 else if o = 5 then 9 else if o = 6 then 10 else o + 4) → j1 < t → crK T L (i - ρ) n0 n0 (5 + 2 * (8 - dp)) M (rN ρ (pB (pP c v n 6 dp (j1 + 1) lv1 h) (fun i2 lv2 h2 => (i2, lv2, some (mTwo o f h2))))) K → zcV (D + 5) 68 [zA 42] M' (fun M1 => zcI (D + 5) 58 [zA 42, zI dp] M1 (fun x3 M2 => (¬ x3 = 0 → zcV (D + 5) 61 [zA 42, zI w, zI 0] M2 (fun M4 => ((1 : Int) = 0 ∨ (1 : Int) = 1) ∧ ((1 : Int) = 0 → ((1 : Int) = 0 ∨ (1 : Int) = 1) ∧ K 1 M4) ∧ (¬ (1 : Int) = 0 → (ρ = 0 → ((1 : Int) = 0 ∨ (1 : Int) = 1) ∧ K 1 M4) ∧ (¬ ρ = 0 → zcV (D + 6) 61 [zA 42, zI 11, zI 0] M4 (fun M5 => ((1 : Int) = 0 ∨ (1 : Int) = 1) ∧ K 1 M5))))) ∧ (x3 = 0 → ((0 : Int) = 0 ∨ (0 : Int) = 1) ∧ ((0 : Int) = 0 → ((0 : Int) = 0 ∨ (0 : Int) = 1) ∧ K 0 M2) ∧ (¬ (0 : Int) = 0 → (ρ = 0 → ((0 : Int) = 0 ∨ (0 : Int) = 1) ∧ K 0 M2) ∧ (¬ ρ = 0 → zcV (D + 6) 61 [zA 42, zI 11, zI 0] M2 (fun M5 => ((0 : Int) = 0 ∨ (0 : Int) = 1) ∧ K 0 M5)))))) := by
            intro o w o4 o6 hw jt hk
            have w1 : 8 ≤ w ∧ w ≤ 10 := by rw [hw]; split <;> omega
            refine c_adv hB s1 (fun M1 a1 => ?_)
            obtain ⟨q1, q2, q3, q4, q5⟩ := a1.cr
            have S1 : crS T L (j1 + 1) lv1 n1 M1 := ⟨by rw [show (j1 + 1).toNat = j1.toNat + 1 by omega]; exact q5, by rw [q4]; exact s'.2.1, by rw [q3]; exact s'.2.2⟩
            have gg := G (m' := 6) (dp' := dp) (i' := j1 + 1) (lv' := lv1) (hh := h) (by decide) (by omega) (by omega) d0 d8 (by omega) g3.2 (by omega)
            have su2 := cr_sum hB hT hC n 6 dp (j1 + 1) lv1 h (by decide) (by decide) (by omega) (by omega) d0 d8 (by omega) g3.2 (by omega)
            have bd2 := pP_bdm c v n 6 dp (j1 + 1) lv1 h
            refine su2 (D + 5) _ M1 n1 (by omega) S1 (by omega) (by omega) ?_
            generalize pP c v n 6 dp (j1 + 1) lv1 h = r2 at *
            obtain ⟨j2, lv2, o2⟩ := r2
            cases o2 with
            | none => exact fun M2 f2 e2 => ⟨fun z => absurd rfl z, fun _ => ⟨Or.inl rfl, fun _ => ⟨Or.inl rfl, hk M2 ((f'.tr q1).tr f2) e2⟩, fun z => absurd rfl z⟩⟩
            | some ff =>
              intro M2 n2 f2 s2 a2 b2 c2 d2
              have b2 : n2 - n1 ≤ j2 - (j1 + 1) := b2
              have k1 := gg.1
              have k1 : j1 + 1 ≤ j2 := k1
              have k2 := gg.2.1
              have k2 : j2 ≤ t := k2
              have bff := bd2 j2 lv2 ff (by decide) (by decide) (fun z => by omega) rfl
              refine ⟨fun _ => c_put s2.2.2 (by omega) (by omega) (by omega) (by omega) (by omega) (by omega) ⟨Or.inr rfl, ?_⟩, fun z => by omega⟩
              have row : ∀ y, y < n2 → zup (zup M2 41 n2 (w + 16 * 0)) 42 8 (n2 + 1) 41 y = M2 41 y := fun y y1 => by rw [zup_row (by decide), zup_at, if_neg (by omega)]
              refine good j2 lv2 (mTwo o f ff) hk k2 _ (n2 + 1) (((f'.tr q1).tr f2).tr ⟨fun x h1 h2 => by rw [zup_row h2, zup_row h1], fun q hq => by rw [zup_at, if_neg (by omega), zup_row (by decide)]⟩) ⟨s2.1.cg (by rw [zup_row (by decide), zup_row (by decide)]) (fun q a b => by rw [zup_at, if_neg (by omega), zup_row (by decide)]), by rw [zup_at, if_neg (by omega), zup_row (by decide)]; exact s2.2.1, zup_eq⟩ (by omega) (by omega) (fun y y1 => by rw [row y (by omega), c2 y (by omega), q2, cc y y1]) ?_
              refine CMS_two (w := w) ((dd.up (by omega)).cg (fun y y0 y1 => by rw [row y (by omega), c2 y y1, q2])) (d2.cg (fun y y0 y1 => row y y1)) bf bff (by omega) (by omega) (by omega) o6 hw ?_
              rw [zup_row (by decide), zup_eq]; omega
          refine ⟨fun _ => c_isSignT hB s1 (by omega) (fun y => ⟨fun z => by omega, fun _ => ?_⟩) (fun y => ⟨fun _ => c_isSignT hB s1 (by omega) (fun x => ⟨fun z => by omega, fun _ => ?_⟩) (fun x => ⟨fun _ => ?_, fun z => absurd rfl z⟩), fun z => absurd rfl z⟩), fun z => by omega⟩
          · rw [← cj] at y
            have y : c j1 = 160 := y
            rw [if_pos (Or.inl y), if_pos y] at hk2
            apply vX5_readComparison_41
            exact ⟨fun _ => cmp2 4 8 (by omega) (by omega) rfl (jl (by omega)) hk2, fun z => by omega⟩
          · rw [← cj] at x y
            have x : c j1 = 162 := x
            rw [if_pos (Or.inr (Or.inr x)), if_neg (by omega), if_pos x] at hk2
            apply vX5_readComparison_41
            exact ⟨fun _ => cmp2 5 9 (by omega) (by omega) rfl (jl (by omega)) hk2, fun z => by omega⟩
          · rw [← cj] at x y
            have x : c j1 ≠ 162 := x
            have y : c j1 ≠ 160 := y
            apply vX5_readComparison_41
            refine ⟨fun z => absurd rfl z, fun _ => c_isSignT hB s1 (by omega) (fun u => ⟨fun _ => ?_, fun z => by omega⟩) (fun u => ⟨fun z => absurd rfl z, fun _ => ⟨Or.inl rfl, fun _ => ⟨Or.inl rfl, ?_⟩, fun z => absurd rfl z⟩⟩)⟩
            · rw [← cj] at u
              have u : c j1 = 161 := u
              rw [if_pos (Or.inr (Or.inl u)), if_neg y, if_neg x] at hk2
              exact cmp2 6 10 (by omega) (by omega) rfl (jl (by omega)) hk2
            · rw [← cj] at u
              have u : c j1 ≠ 161 := u
              rw [if_neg (fun z => z.elim y (fun w => w.elim u x))] at hk2
              exact hk2 M' f' s1.2.2.1
