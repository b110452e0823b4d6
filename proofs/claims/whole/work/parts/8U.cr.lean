/-! the class reads, by the language -/
def crF (M M' : ZM) : Prop := (∀ x, x ≠ 41 → x ≠ 42 → M' x = M x) ∧ ∀ k, k ≤ 2 ∨ k = 7 → M' 42 k = M 42 k
theorem crF.rf {M : ZM} : crF M M := ⟨fun _ _ _ => rfl, fun _ _ => rfl⟩
theorem crF.tr {M M1 M2 : ZM} (h : crF M M1) (g : crF M1 M2) : crF M M2 := ⟨fun x a b => by rw [g.1 x a b, h.1 x a b], fun k a => by rw [g.2 k a, h.2 k a]⟩
def crS (T : Int → Int) (L i lv n : Int) (M : ZM) : Prop := CAT T L i.toNat M ∧ M 42 9 = lv ∧ M 42 8 = n
/-- what is behind a reading: the code from nS on says it -/
def crK (T : Int → Int) (L i nS n0 hg : Int) (M : ZM) (r : PR) (K : Int → ZM → Prop) : Prop := match r.2.2 with
  | some f => ∀ M' n1, crF M M' → crS T L r.1 r.2.1 n1 M' → n0 ≤ n1 → n1 - n0 ≤ r.1 - i → (∀ y, y < nS → M' 41 y = M 41 y) → CMS (M' 41) nS n1 hg f → K 1 M'
  | none => ∀ M', crF M M' → M' 42 3 = tP T L r.1.toNat → K 0 M'
theorem crK.st {T : Int → Int} {L i i' nS n0 n0' hg : Int} {M M1 : ZM} {r : PR} {K : Int → ZM → Prop} (h : crK T L i nS n0 hg M r K) (f : crF M M1) (hn : n0 ≤ n0') (hi : n0' - n0 ≤ i' - i) (hy : ∀ y, y < nS → M1 41 y = M 41 y) : crK T L i' nS n0' hg M1 r K := by
  obtain ⟨j, lv, o⟩ := r
  cases o with
  | none => exact fun M' f' e => h M' (f.tr f') e
  | some g => exact fun M' n1 f' s a b c d => h M' n1 (f.tr f') s (by omega) (show n1 - n0 ≤ j - i by have b : n1 - n0' ≤ j - i' := b; omega) (fun y y1 => by rw [c y y1, hy y y1]) d
theorem ADV.cr {T : Int → Int} {L : Int} {i : Nat} {M M' : ZM} (h : ADV T L i M M') : crF M M' ∧ M' 41 = M 41 ∧ M' 42 8 = M 42 8 ∧ M' 42 9 = M 42 9 ∧ CAT T L i M' := ⟨⟨fun x _ b => h.1 x b, fun k a => h.2.1 k (by omega) (by omega) (by omega) (by omega)⟩, h.1 41 (by decide), h.2.1 8 (by decide) (by decide) (by decide) (by decide), h.2.1 9 (by decide) (by decide) (by decide) (by decide), h.2.2⟩
def crM (T : Int → Int) (L : Int) (m : Nat) (dp i lv : Int) (h : ME) (r : PR) : Prop := match m with
  | 0 => ∀ (D : Nat) (K : Int → ZM → Prop) (M : ZM) (n0 : Int), 4 * (8 - dp) + 12 ≤ D → crS T L i lv n0 M → 0 ≤ n0 → n0 ≤ i → crK T L i n0 n0 (5 + 2 * (8 - dp)) M r K → zcI D 53 [zA 42, zI dp] M K
  | 1 => ∀ (D : Nat) (K : Int → ZM → Prop) (M : ZM) (nS n0 k : Int), 4 * (8 - dp) + 11 ≤ D → crS T L i lv n0 M → 0 ≤ n0 → n0 ≤ i → 0 ≤ k → k ≤ i → CMS (M 41) nS n0 (5 + 2 * (8 - dp)) h → crK T L i nS n0 (5 + 2 * (8 - dp)) M r K → wX5_readTest D 12 [(0, zA 42), (1, zI dp), (2, zI k)] M K
  | 2 => ∀ (D : Nat) (K : Int → ZM → Prop) (M : ZM) (n0 : Int), 4 * (8 - dp) + 11 ≤ D → crS T L i lv n0 M → 0 ≤ n0 → n0 ≤ i → crK T L i n0 n0 (5 + 2 * (8 - dp)) M r K → zcI D 54 [zA 42, zI dp] M K
  | 3 => ∀ (D : Nat) (K : Int → ZM → Prop) (M : ZM) (nS n0 k : Int), 4 * (8 - dp) + 10 ≤ D → crS T L i lv n0 M → 0 ≤ n0 → n0 ≤ i → 0 ≤ k → k ≤ i → CMS (M 41) nS n0 (5 + 2 * (8 - dp)) h → crK T L i nS n0 (5 + 2 * (8 - dp)) M r K → wX5_readBoth D 12 [(0, zA 42), (1, zI dp), (2, zI k)] M K
  | 4 => True
  | 5 => True
  | 6 => ∀ (D : Nat) (K : Int → ZM → Prop) (M : ZM) (n0 : Int), 4 * (8 - dp) + 8 ≤ D → crS T L i lv n0 M → 0 ≤ n0 → n0 ≤ i → crK T L i n0 n0 (4 + 2 * (8 - dp)) M r K → zcI D 58 [zA 42, zI dp] M K
  | 7 => ∀ (D : Nat) (K : Int → ZM → Prop) (M : ZM) (nS n0 k : Int), 4 * (8 - dp) + 7 ≤ D → crS T L i lv n0 M → 0 ≤ n0 → n0 ≤ i → 0 ≤ k → k ≤ i → CMS (M 41) nS n0 (4 + 2 * (8 - dp)) h → BDM h → crK T L i nS n0 (4 + 2 * (8 - dp)) M r K → wX5_readSum D 12 [(0, zA 42), (1, zI dp), (2, zI k)] M K
  | 8 => ∀ (D : Nat) (K : Int → ZM → Prop) (M : ZM) (n0 : Int), 4 * (8 - dp) + 7 ≤ D → crS T L i lv n0 M → 0 ≤ n0 → n0 ≤ i → crK T L i n0 n0 (3 + 2 * (8 - dp)) M r K → zcI D 59 [zA 42, zI dp] M K
  | 9 => ∀ (D : Nat) (K : Int → ZM → Prop) (M : ZM) (nS n0 k : Int), 4 * (8 - dp) + 6 ≤ D → crS T L i lv n0 M → 0 ≤ n0 → n0 ≤ i → 0 ≤ k → k ≤ i → CMS (M 41) nS n0 (3 + 2 * (8 - dp)) h → BDM h → crK T L i nS n0 (3 + 2 * (8 - dp)) M r K → wX5_readTerm D 12 [(0, zA 42), (1, zI dp), (2, zI k)] M K
  | _ => ∀ (D : Nat) (K : Int → ZM → Prop) (M : ZM) (n0 : Int), 4 * (8 - dp) + 6 ≤ D → crS T L i lv n0 M → 0 ≤ n0 → n0 ≤ i → crK T L i n0 n0 (2 + 2 * (8 - dp)) M r K → zcI D 60 [zA 42, zI dp] M K
/-- codes of the text -/
def CVT (T : Int → Int) (L : Int) (c v : Int → Int) : Prop := ∀ i, 0 ≤ i → c i = tC T L (tP T L i.toNat) ∧ v i = tN T L (tP T L i.toNat)
theorem cr_sum {T : Int → Int} {L : Int} {c v : Int → Int} {t : Int} (hB : BYT T L) (hT : TKC c v t) (hC : CVT T L c v) : ∀ (n m : Nat) (dp i lv : Int) (h : ME), 6 ≤ m → m ≤ 10 → 0 ≤ i → i ≤ t → 0 ≤ dp → dp ≤ 8 → 0 ≤ lv → lv ≤ 50 → 12 * (t + 1 - i) + rk m ≤ n → crM T L m dp i lv h (pP c v n m dp i lv h) := by
  obtain ⟨t4, cz, tv⟩ := id hT
  intro n
  induction n with
  | zero => intro m dp i lv h _ hm i0 i1 d0 d8 l0 l1 hn; omega
  | succ n ih =>
    intro m dp i lv h h6 hm i0 i1 d0 d8 l0 l1 hn
    have G : ∀ {m' : Nat} {dp' i' lv' : Int} {hh : ME}, m' ≤ 10 → 0 ≤ i' → i' ≤ t → 0 ≤ dp' → dp' ≤ 8 → 0 ≤ lv' → lv' ≤ 50 → 12 * (t + 1 - i') + rk m' ≤ n → rdG t i' lv' (pP c v n m' dp' i' lv' hh) := fun a b c d e f g k => pP_rg hT a b c d e f g k
    rcases (by omega : m = 6 ∨ m = 7 ∨ m = 8 ∨ m = 9 ∨ m = 10) with rfl | rfl | rfl | rfl | rfl
    · -- a SUM
      have e : rk 6 = 3 := rfl
      have e2 : rk 8 = 2 := rfl
      have e1 : rk 7 = 1 := rfl
      rw [pP_6]
      intro D K M n0 hD hS n00 n0i hk
      have g := G (m' := 8) (dp' := dp) (i' := i) (lv' := lv) (hh := h) (by decide) i0 i1 d0 d8 l0 l1 (by omega)
      have sub := ih 8 dp i lv h (by decide) (by decide) i0 i1 d0 d8 l0 l1 (by omega)
      have bd := pP_bdm c v n 8 dp i lv h
      obtain ⟨D, rfl⟩ : ∃ D', D = D' + 1 := ⟨D - 1, by omega⟩
      apply vX5_readSum
      refine sub D _ M n0 (by omega) hS n00 n0i ?_
      generalize pP c v n 8 dp i lv h = r1 at *
      obtain ⟨j1, lv1, o⟩ := r1
      cases o with
      | none => exact fun M' f' e' => ⟨fun z => absurd rfl z, fun _ => ⟨Or.inl rfl, hk M' f' e'⟩⟩
      | some f =>
        intro M' n1 f' s' a b cc dd
        have b : n1 - n0 ≤ j1 - i := b
        have g1 := g.1
        have g1 : i ≤ j1 := g1
        have g2 := g.2.1
        have g2 : j1 ≤ t := g2
        have g3 := g.2.2 rfl
        have g3 : lv ≤ lv1 ∧ lv1 ≤ 50 := g3
        have nx := ih 7 dp j1 lv1 f (by decide) (by decide) (by omega) g2 d0 d8 (by omega) g3.2 (by omega)
        exact ⟨fun _ => nx D K M' n0 n1 0 (by omega) s' (by omega) (by omega) (by omega) (by omega) (dd.up (by omega)) (bd j1 lv1 f (by decide) (by decide) (fun z => by omega) rfl) (crK.st hk f' a b cc), fun z => by omega⟩
    · have e : rk 7 = 1 := rfl
      have e2 : rk 8 = 2 := rfl
      rw [pP_7]
      intro D K M nS n0 k hD hS n00 n0i k0 ki cm bh hk
      obtain ⟨ci, vi⟩ := hC i i0
      have nSr := cm.rg
      obtain ⟨D, rfl⟩ : ∃ D', D = D' + 3 := ⟨D - 3, by omega⟩
      -- one more
      have more : ∀ o w : Int, 0 ≤ o → o ≤ 3 → w = o + 4 → i < t → 400 > k → crK T L i nS n0 (4 + 2 * (8 - dp)) M (pB (pP c v n 8 dp (i + 1) lv h) (fun i1 lv1 h1 => pP c v n 7 dp i1 lv1 (mTwo o h h1))) K → wX5_readSum (D + 3) 52 [(0, zA 42), (1, zI dp), (2, zI k), (3, zI w)] M K := by
        intro o w o0 o3 hw it k4 hk
        have g := G (m' := 8) (dp' := dp) (i' := i + 1) (lv' := lv) (hh := h) (by decide) (by omega) (by omega) d0 d8 l0 l1 (by omega)
        have sub := ih 8 dp (i + 1) lv h (by decide) (by decide) (by omega) (by omega) d0 d8 l0 l1 (by omega)
        have bd := pP_bdm c v n 8 dp (i + 1) lv h
        apply vX5_readSum_52
        refine c_adv hB hS.1 (fun M1 a1 => ?_)
        obtain ⟨q1, q2, q3, q4, q5⟩ := a1.cr
        have S1 : crS T L (i + 1) lv n0 M1 := ⟨by rw [show (i + 1).toNat = i.toNat + 1 by omega]; exact q5, by rw [q4]; exact hS.2.1, by rw [q3]; exact hS.2.2⟩
        refine sub (D + 3) _ M1 n0 (by omega) S1 n00 (by omega) ?_
        generalize pP c v n 8 dp (i + 1) lv h = r1 at *
        obtain ⟨j1, lv1, oo⟩ := r1
        cases oo with
        | none => exact fun M' f' e' => ⟨fun z => absurd rfl z, fun _ => ⟨Or.inl rfl, hk M' (q1.tr f') e'⟩⟩
        | some f =>
          intro M' n1 f' s' a b cc dd
          have b : n1 - n0 ≤ j1 - (i + 1) := b
          have g1 := g.1
          have g1 : i + 1 ≤ j1 := g1
          have g2 := g.2.1
          have g2 : j1 ≤ t := g2
          have g3 := g.2.2 rfl
          have g3 : lv ≤ lv1 ∧ lv1 ≤ 50 := g3
          have bf := bd j1 lv1 f (by decide) (by decide) (fun z => by omega) rfl
          refine ⟨fun _ => c_put s'.2.2 (by omega) (by omega) (by omega) (by omega) (by omega) (by omega) ⟨⟨by omega, by omega⟩, ?_⟩, fun z => by omega⟩
          have nx := ih 7 dp j1 lv1 (mTwo o h f) (by decide) (by decide) (by omega) g2 d0 d8 (by omega) g3.2 (by omega)
          have row : ∀ y, y < n1 → zup (zup M' 41 n1 (w + 16 * 0)) 42 8 (n1 + 1) 41 y = M' 41 y := fun y y1 => by rw [zup_row (by decide), zup_at, if_neg (by omega)]
          refine nx (D + 3) K _ nS (n1 + 1) (k + 1) (by omega) ⟨s'.1.cg (by rw [zup_row (by decide), zup_row (by decide)]) (fun j a b => by rw [zup_at, if_neg (by omega), zup_row (by decide)]), by rw [zup_at, if_neg (by omega), zup_row (by decide)]; exact s'.2.1, zup_eq⟩ (by omega) (by omega) (by omega) (by omega) ?_ (BDM_two o0 (by omega) bh bf) (crK.st hk ((q1.tr f').tr ⟨fun x h1 h2 => by rw [zup_row h2, zup_row h1], fun j hj => by rw [zup_at, if_neg (by omega), zup_row (by decide)]⟩) (by omega) (by omega) (fun y y1 => by rw [row y (by omega), cc y (by omega), q2]))
          refine CMS_two (w := w) (cm.cg (fun y y0 y1 => by rw [row y (by omega), cc y y1, q2])) (dd.cg (fun y y0 y1 => row y y1)) bh bf (by omega) (by omega) o0 (by omega) (by rw [if_neg (by omega), if_neg (by omega), if_neg (by omega)]; exact hw) ?_
          rw [zup_row (by decide), zup_eq]; omega
      have stop : ¬ (c i = 143 ∨ c i = 145) → ((1 : Int) = 0 ∨ (1 : Int) = 1) ∧ K 1 M := by
        intro hc
        rw [if_neg hc] at hk
        exact ⟨Or.inr rfl, hk M n0 crF.rf hS (Int.le_refl _) (show n0 - n0 ≤ i - i by omega) (fun _ _ => rfl) cm⟩
      have il : c i = 143 ∨ c i = 145 → i < t := fun hc => by
        by_cases z : i < t
        · exact z
        · have := cz i (by omega); omega
      apply vX5_readSum_12
      refine ⟨fun z => stop (fun hc => by have := il hc; omega), fun k4 => c_isSignT hB hS.1 (by omega) (fun y => ?_) (fun y => ?_)⟩
      · rw [← ci] at y
        have hc : c i = 143 ∨ c i = 145 := Or.inl y
        rw [if_pos hc, if_pos (by exact y)] at hk
        exact ⟨fun _ => c_isSignT hB hS.1 (by omega) (fun _ => ⟨fun z => by omega, fun _ => more 0 4 (by omega) (by omega) (by omega) (il hc) (by omega) hk⟩) (fun z => absurd (by rw [← ci]; exact y) z), fun z => by omega⟩
      · rw [← ci] at y
        refine ⟨fun z => absurd rfl z, fun _ => c_isSignT hB hS.1 (by omega) (fun x => ?_) (fun x => ?_)⟩
        · rw [← ci] at x
          have hc : c i = 143 ∨ c i = 145 := Or.inr x
          rw [if_pos hc, if_neg (by exact y)] at hk
          exact ⟨fun z => by omega, fun _ => c_isSignT hB hS.1 (by omega) (fun z => absurd (by rw [ci]; exact z) y) (fun _ => ⟨fun _ => more 1 5 (by omega) (by omega) (by omega) (il hc) (by omega) hk, fun z => absurd rfl z⟩)⟩
        · rw [← ci] at x
          exact ⟨fun _ => stop (fun hc => hc.elim y x), fun z => absurd rfl z⟩
    · -- a TERM
      have e : rk 8 = 2 := rfl
      have e2 : rk 10 = 1 := rfl
      have e1 : rk 9 = 1 := rfl
      rw [pP_8]
      intro D K M n0 hD hS n00 n0i hk
      have g := G (m' := 10) (dp' := dp) (i' := i) (lv' := lv) (hh := h) (by decide) i0 i1 d0 d8 l0 l1 (by omega)
      have sub := ih 10 dp i lv h (by decide) (by decide) i0 i1 d0 d8 l0 l1 (by omega)
      have bd := pP_bdm c v n 10 dp i lv h
      obtain ⟨D, rfl⟩ : ∃ D', D = D' + 1 := ⟨D - 1, by omega⟩
      apply vX5_readTerm
      refine sub D _ M n0 (by omega) hS n00 n0i ?_
      generalize pP c v n 10 dp i lv h = r1 at *
      obtain ⟨j1, lv1, o⟩ := r1
      cases o with
      | none => exact fun M' f' e' => ⟨fun z => absurd rfl z, fun _ => ⟨Or.inl rfl, hk M' f' e'⟩⟩
      | some f =>
        intro M' n1 f' s' a b cc dd
        have b : n1 - n0 ≤ j1 - i := b
        have g1 := g.1
        have g1 : i ≤ j1 := g1
        have g2 := g.2.1
        have g2 : j1 ≤ t := g2
        have g3 := g.2.2 rfl
        have g3 : lv ≤ lv1 ∧ lv1 ≤ 50 := g3
        have nx := ih 9 dp j1 lv1 f (by decide) (by decide) (by omega) g2 d0 d8 (by omega) g3.2 (by omega)
        exact ⟨fun _ => nx D K M' n0 n1 0 (by omega) s' (by omega) (by omega) (by omega) (by omega) (dd.up (by omega)) (bd j1 lv1 f (by decide) (by decide) (fun z => by omega) rfl) (crK.st hk f' a b cc), fun z => by omega⟩
    · have e : rk 9 = 1 := rfl
      have e2 : rk 10 = 1 := rfl
      rw [pP_9]
      intro D K M nS n0 k hD hS n00 n0i k0 ki cm bh hk
      obtain ⟨ci, vi⟩ := hC i i0
      have nSr := cm.rg
      obtain ⟨D, rfl⟩ : ∃ D', D = D' + 3 := ⟨D - 3, by omega⟩
      -- one more
      have more : ∀ o w : Int, 0 ≤ o → o ≤ 3 → w = o + 4 → i < t → 400 > k → crK T L i nS n0 (3 + 2 * (8 - dp)) M (pB (pP c v n 10 dp (i + 1) lv h) (fun i1 lv1 h1 => pP c v n 9 dp i1 lv1 (mTwo o h h1))) K → wX5_readTerm (D + 3) 54 [(0, zA 42), (1, zI dp), (2, zI k), (3, zI w)] M K := by
        intro o w o0 o3 hw it k4 hk
        have g := G (m' := 10) (dp' := dp) (i' := i + 1) (lv' := lv) (hh := h) (by decide) (by omega) (by omega) d0 d8 l0 l1 (by omega)
        have sub := ih 10 dp (i + 1) lv h (by decide) (by decide) (by omega) (by omega) d0 d8 l0 l1 (by omega)
        have bd := pP_bdm c v n 10 dp (i + 1) lv h
        apply vX5_readTerm_54
        refine c_adv hB hS.1 (fun M1 a1 => ?_)
        obtain ⟨q1, q2, q3, q4, q5⟩ := a1.cr
        have S1 : crS T L (i + 1) lv n0 M1 := ⟨by rw [show (i + 1).toNat = i.toNat + 1 by omega]; exact q5, by rw [q4]; exact hS.2.1, by rw [q3]; exact hS.2.2⟩
        refine sub (D + 3) _ M1 n0 (by omega) S1 n00 (by omega) ?_
        generalize pP c v n 10 dp (i + 1) lv h = r1 at *
        obtain ⟨j1, lv1, oo⟩ := r1
        cases oo with
        | none => exact fun M' f' e' => ⟨fun z => absurd rfl z, fun _ => ⟨Or.inl rfl, hk M' (q1.tr f') e'⟩⟩
        | some f =>
          intro M' n1 f' s' a b cc dd
          have b : n1 - n0 ≤ j1 - (i + 1) := b
          have g1 := g.1
          have g1 : i + 1 ≤ j1 := g1
          have g2 := g.2.1
          have g2 : j1 ≤ t := g2
          have g3 := g.2.2 rfl
          have g3 : lv ≤ lv1 ∧ lv1 ≤ 50 := g3
          have bf := bd j1 lv1 f (by decide) (by decide) (fun z => by omega) rfl
          refine ⟨fun _ => c_put s'.2.2 (by omega) (by omega) (by omega) (by omega) (by omega) (by omega) ⟨⟨by omega, by omega⟩, ?_⟩, fun z => by omega⟩
          have nx := ih 9 dp j1 lv1 (mTwo o h f) (by decide) (by decide) (by omega) g2 d0 d8 (by omega) g3.2 (by omega)
          have row : ∀ y, y < n1 → zup (zup M' 41 n1 (w + 16 * 0)) 42 8 (n1 + 1) 41 y = M' 41 y := fun y y1 => by rw [zup_row (by decide), zup_at, if_neg (by omega)]
          refine nx (D + 3) K _ nS (n1 + 1) (k + 1) (by omega) ⟨s'.1.cg (by rw [zup_row (by decide), zup_row (by decide)]) (fun j a b => by rw [zup_at, if_neg (by omega), zup_row (by decide)]), by rw [zup_at, if_neg (by omega), zup_row (by decide)]; exact s'.2.1, zup_eq⟩ (by omega) (by omega) (by omega) (by omega) ?_ (BDM_two o0 (by omega) bh bf) (crK.st hk ((q1.tr f').tr ⟨fun x h1 h2 => by rw [zup_row h2, zup_row h1], fun j hj => by rw [zup_at, if_neg (by omega), zup_row (by decide)]⟩) (by omega) (by omega) (fun y y1 => by rw [row y (by omega), cc y (by omega), q2]))
          refine CMS_two (w := w) (cm.cg (fun y y0 y1 => by rw [row y (by omega), cc y y1, q2])) (dd.cg (fun y y0 y1 => row y y1)) bh bf (by omega) (by omega) o0 (by omega) (by rw [if_neg (by omega), if_neg (by omega), if_neg (by omega)]; exact hw) ?_
          rw [zup_row (by decide), zup_eq]; omega
      have stop : ¬ (c i = 142 ∨ c i = 147) → ((1 : Int) = 0 ∨ (1 : Int) = 1) ∧ K 1 M := by
        intro hc
        rw [if_neg hc] at hk
        exact ⟨Or.inr rfl, hk M n0 crF.rf hS (Int.le_refl _) (show n0 - n0 ≤ i - i by omega) (fun _ _ => rfl) cm⟩
      have il : c i = 142 ∨ c i = 147 → i < t := fun hc => by
        by_cases z : i < t
        · exact z
        · have := cz i (by omega); omega
      apply vX5_readTerm_12
      refine ⟨fun z => stop (fun hc => by have := il hc; omega), fun k4 => c_isSignT hB hS.1 (by omega) (fun y => ?_) (fun y => ?_)⟩
      · rw [← ci] at y
        have hc : c i = 142 ∨ c i = 147 := Or.inl y
        rw [if_pos hc, if_pos (by exact y)] at hk
        exact ⟨fun _ => c_isSignT hB hS.1 (by omega) (fun _ => ⟨fun z => by omega, fun _ => more 2 6 (by omega) (by omega) (by omega) (il hc) (by omega) hk⟩) (fun z => absurd (by rw [← ci]; exact y) z), fun z => by omega⟩
      · rw [← ci] at y
        refine ⟨fun z => absurd rfl z, fun _ => c_isSignT hB hS.1 (by omega) (fun x => ?_) (fun x => ?_)⟩
        · rw [← ci] at x
          have hc : c i = 142 ∨ c i = 147 := Or.inr x
          rw [if_pos hc, if_neg (by exact y)] at hk
          exact ⟨fun z => by omega, fun _ => c_isSignT hB hS.1 (by omega) (fun z => absurd (by rw [ci]; exact z) y) (fun _ => ⟨fun _ => more 3 7 (by omega) (by omega) (by omega) (il hc) (by omega) hk, fun z => absurd rfl z⟩)⟩
        · rw [← ci] at x
          exact ⟨fun _ => stop (fun hc => hc.elim y x), fun z => absurd rfl z⟩
    · -- a PART
      have e : rk 10 = 1 := rfl
      have e6 : rk 6 = 3 := rfl
      rw [pP_10]
      intro D K M n0 hD hS n00 n0i hk
      obtain ⟨ci, vi⟩ := hC i i0
      have at3 : M 42 3 = tP T L i.toNat := hS.1.2.2.1
      have k5 : M 42 5 = tK T L (tP T L i.toNat) := hS.1.2.2.2.2.1
      have k6 : M 42 6 = tV T L (tP T L i.toNat) := hS.1.2.2.2.2.2
      have tpr := tS_rg T hB.1.1 i.toNat
      obtain ⟨u1, u2, u3, u4⟩ := tk_num (T := T) (L := L) (f := tP T L i.toNat) hB (by omega)
      rw [← ci] at u1
      rw [← vi] at u2
      have vr := tv i i0 i1
      obtain ⟨D, rfl⟩ : ∃ D', D = D' + 6 := ⟨D - 6, by omega⟩
      apply vX5_readPart
      refine c_isSignT hB hS.1 (by omega) (fun y => ?_) (fun y => ?_)
      · rw [← ci] at y
        have hc : c i = 191 := y
        rw [if_pos hc] at hk
        have il : i < t := by
          by_cases z : i < t
          · exact z
          · have := cz i (by omega); omega
        refine ⟨fun z => by omega, fun _ => ⟨fun d8' => ⟨Or.inl rfl, ?_⟩, fun d8' => ?_⟩⟩
        · rw [if_pos (by omega)] at hk
          exact hk M crF.rf at3
        · rw [if_neg (by omega)] at hk
          refine c_takeSignT hB hS.1 (by omega) (fun _ M1 a1 => ⟨fun z => by omega, fun _ => ⟨⟨by omega, by omega⟩, ?_⟩⟩) (fun z => absurd (by rw [← ci]; exact hc) z)
          obtain ⟨q1, q2, q3, q4, q5⟩ := a1.cr
          have S1 : crS T L (i + 1) lv n0 M1 := ⟨by rw [show (i + 1).toNat = i.toNat + 1 by omega]; exact q5, by rw [q4]; exact hS.2.1, by rw [q3]; exact hS.2.2⟩
          have g := G (m' := 6) (dp' := dp + 1) (i' := i + 1) (lv' := lv) (hh := h) (by decide) (by omega) (by omega) (by omega) (by omega) l0 l1 (by omega)
          have sub := ih 6 (dp + 1) (i + 1) lv h (by decide) (by decide) (by omega) (by omega) (by omega) (by omega) l0 l1 (by omega)
          refine sub (D + 5) _ M1 n0 (by omega) S1 n00 (by omega) ?_
          generalize pP c v n 6 (dp + 1) (i + 1) lv h = r1 at *
          obtain ⟨j1, lv1, o⟩ := r1
          cases o with
          | none => exact fun M' f' e' => ⟨fun _ => ⟨Or.inl rfl, hk M' (q1.tr f') e'⟩, fun z => absurd rfl z⟩
          | some f =>
            intro M' n1 f' s' a b cc dd
            have b : n1 - n0 ≤ j1 - (i + 1) := b
            have g1 := g.1
            have g1 : i + 1 ≤ j1 := g1
            have s1 : CAT T L j1.toNat M' := s'.1
            obtain ⟨cj, -⟩ := hC j1 (by omega)
            refine ⟨fun z => by omega, fun _ => c_takeSignT hB s1 (by omega) (fun y2 M2 a2 => ⟨fun z => by omega, fun _ => ⟨Or.inr rfl, ?_⟩⟩) (fun y2 => ⟨fun _ => ⟨Or.inl rfl, ?_⟩, fun z => absurd rfl z⟩)⟩
            · rw [← cj] at y2
              have er : (pB (j1, lv1, some f) fun i1 lv1 h1 => if c i1 = 193 then (i1 + 1, lv1, some h1) else (i1, lv1, none)) = (j1 + 1, lv1, some f) := if_pos y2
              rw [er] at hk
              obtain ⟨p1, p2, p3, p4, p5⟩ := a2.cr
              refine hk M2 n1 ((q1.tr f').tr p1) ⟨?_, ?_, ?_⟩ a (show n1 - n0 ≤ j1 + 1 - i by omega) (fun z z1 => by rw [p2, cc z z1, q2]) ?_
              · show CAT T L (j1 + 1).toNat M2
                rw [show (j1 + 1).toNat = j1.toNat + 1 by omega]; exact p5
              · rw [p4]; exact s'.2.1
              · rw [p3]; exact s'.2.2
              · rw [p2]; exact dd.up (by omega)
            · rw [← cj] at y2
              have er : (pB (j1, lv1, some f) fun i1 lv1 h1 => if c i1 = 193 then (i1 + 1, lv1, some h1) else (i1, lv1, none)) = (j1, lv1, none) := if_neg y2
              rw [er] at hk
              exact hk M' (q1.tr f') s1.2.2.1
      · rw [← ci] at y
        have hc : ¬ c i = 191 := y
        rw [if_neg hc] at hk
        -- a leaf
        have leaf : ∀ w : Int, 0 ≤ w → w < 4 → (w = 0 → c i = 50) → (w ≠ 0 → c i = w + 10 ∧ M 42 5 = 0) → wX5_readPart (D + 5) 102 [(0, zA 42), (2, zI w)] M K := by
          intro w w0 w4 hw0 hw1
          have il : i < t := by
            by_cases z : i < t
            · exact z
            · have := cz i (by omega)
              by_cases q : w = 0
              · have := hw0 q; omega
              · have := hw1 q; omega
          have val : (w = 0 → M 42 6 = min 9999 (v i)) ∧ (w ≠ 0 → M 42 6 = 0) := by
            refine ⟨fun q => ?_, fun q => ?_⟩
            · rw [k6]; exact u2 (u1.mpr (hw0 q))
            · rw [k6]; exact u3 (by rw [← k5]; exact (hw1 q).2)
          have v60 : 0 ≤ M 42 6 := by
            by_cases q : w = 0
            · rw [val.1 q]; omega
            · rw [val.2 q]; omega
          apply vX5_readPart_102
          refine ⟨fun z => by omega, fun _ => ⟨fun big => ⟨Or.inl rfl, ?_⟩, fun sm => ⟨fun p5 => ?_, fun p5 => ⟨Or.inl rfl, ?_⟩⟩⟩⟩
          · have q : w = 0 := by
              by_cases q : w = 0
              · exact q
              · have := val.2 q; omega
            have := val.1 q
            have := hw0 q
            rw [if_neg (by omega)] at hk
            exact hk M crF.rf at3
          · rw [hS.2.1] at p5 ⊢
            have ok : (c i = 50 ∧ 0 ≤ v i ∧ v i ≤ 1000) ∨ (11 ≤ c i ∧ c i ≤ 13) := by
              by_cases q : w = 0
              · have := val.1 q
                exact Or.inl ⟨hw0 q, vr.1, by omega⟩
              · have := hw1 q
                exact Or.inr ⟨by omega, by omega⟩
            rw [if_pos ok, if_neg (by omega)] at hk
            refine ⟨⟨by omega, by omega⟩, zset ?_⟩
            have e66 : zup M 42 9 (lv + 1) 42 6 = M 42 6 := by rw [zup_at, if_neg (by omega)]
            rw [e66]
            refine c_put (n := n0) (by rw [zup_at, if_neg (by omega)]; exact hS.2.2) n00 (by omega) w0 (by omega) v60 (by omega) ?_
            generalize hM2 : zup (zup (zup M 42 9 (lv + 1)) 41 n0 (w + 16 * M 42 6)) 42 8 (n0 + 1) = M2
            have r2 : ∀ x, x ≠ 41 → x ≠ 42 → M2 x = M x := fun x h1 h2 => by rw [← hM2, zup_row h2, zup_row h1, zup_row h2]
            have s2 : ∀ j, M2 42 j = if j = 8 then n0 + 1 else if j = 9 then lv + 1 else M 42 j := fun j => by rw [← hM2, zup_at, zup_row (by decide), zup_at]
            have t2 : ∀ j, M2 41 j = if j = n0 then w + 16 * M 42 6 else M 41 j := fun j => by rw [← hM2, zup_row (by decide), zup_at, zup_row (by decide)]
            have C2 : CAT T L i.toNat M2 := hS.1.cg (r2 30 (by decide) (by decide)) (fun j a b => by rw [s2, if_neg (by omega), if_neg (by omega)])
            refine c_adv hB C2 (fun M3 a3 => ⟨Or.inr rfl, ?_⟩)
            obtain ⟨p1, p2, p3, p4, p5⟩ := a3.cr
            have F2 : crF M M2 := ⟨r2, fun j hj => by rw [s2, if_neg (by omega), if_neg (by omega)]⟩
            refine hk M3 (n0 + 1) (F2.tr p1) ⟨?_, ?_, ?_⟩ (by omega) (show n0 + 1 - n0 ≤ i + 1 - i by omega) (fun z z1 => by rw [p2, t2, if_neg (by omega)]) ?_
            · show CAT T L (i + 1).toNat M3
              rw [show (i + 1).toNat = i.toNat + 1 by omega]; exact p5
            · rw [p4, s2, if_neg (by omega), if_pos rfl]
            · rw [p3, s2, if_pos rfl]
            · rw [p2]
              refine (CMS_leaf (t := M 42 6) n00 w0 w4 v60 (by rw [t2, if_pos rfl]) (fun q => ⟨hw0 q, ?_⟩) (fun q => (hw1 q).1)).up (by omega)
              have := val.1 q
              omega
          · rw [hS.2.1] at p5
            by_cases ok : (c i = 50 ∧ 0 ≤ v i ∧ v i ≤ 1000) ∨ (11 ≤ c i ∧ c i ≤ 13)
            · rw [if_pos ok, if_pos (by omega)] at hk
              exact hk M crF.rf at3
            · rw [if_neg ok] at hk
              exact hk M crF.rf at3
        have r6 : rno 6 = 11 := rfl
        have r7 : rno 7 = 12 := rfl
        have r8 : rno 8 = 13 := rfl
        have w6 := tk_word (T := T) (L := L) (f := tP T L i.toNat) (a := 6) hB (by omega) (by decide)
        have w7 := tk_word (T := T) (L := L) (f := tP T L i.toNat) (a := 7) hB (by omega) (by decide)
        have w8 := tk_word (T := T) (L := L) (f := tP T L i.toNat) (a := 8) hB (by omega) (by decide)
        refine ⟨fun _ => ⟨fun nk => ?_, fun k1 => ?_⟩, fun z => absurd rfl z⟩
        · have n50 : c i ≠ 50 := fun z => nk (by rw [k5]; exact u1.mpr z)
          refine c_isWordT hB hS.1 (by decide) (fun x => ?_) (fun x6 => ?_)
          · exact ⟨fun z => by omega, fun _ => leaf 1 (by omega) (by omega) (fun z => by omega) (fun _ => ⟨by rw [ci, x]; rfl, by rw [k5]; exact (w6.mpr x).1⟩)⟩
          · refine ⟨fun _ => c_isWordT hB hS.1 (by decide) (fun x => ?_) (fun x7 => ?_), fun z => absurd rfl z⟩
            · exact ⟨fun z => by omega, fun _ => leaf 2 (by omega) (by omega) (fun z => by omega) (fun _ => ⟨by rw [ci, x]; rfl, by rw [k5]; exact (w7.mpr x).1⟩)⟩
            · refine ⟨fun _ => c_isWordT hB hS.1 (by decide) (fun x => ?_) (fun x8 => ?_), fun z => absurd rfl z⟩
              · exact ⟨fun z => by omega, fun _ => leaf 3 (by omega) (by omega) (fun z => by omega) (fun _ => ⟨by rw [ci, x]; rfl, by rw [k5]; exact (w8.mpr x).1⟩)⟩
              · refine ⟨fun _ => ?_, fun z => absurd rfl z⟩
                apply vX5_readPart_102
                refine ⟨fun _ => ⟨Or.inl rfl, ?_⟩, fun z => absurd rfl z⟩
                rw [← ci] at x6 x7 x8
                rw [if_neg (by omega)] at hk
                exact hk M crF.rf at3
        · exact leaf 0 (by omega) (by omega) (fun _ => u1.mp (by rw [← k5]; exact k1)) (fun z => absurd rfl z)
