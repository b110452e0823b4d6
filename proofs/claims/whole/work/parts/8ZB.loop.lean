/-! all PLACES, one behind the other -/
def wPL (f : Int → Int) : Prop :=
  (0 ≤ f 0 ∧ f 0 ≤ 3) ∧ (f 0 = 0 → (0 ≤ f 1 ∧ f 1 ≤ 5) ∧ 1 ≤ f 2 ∧ f 2 ≤ 3)
  ∧ (f 0 = 1 → (1 ≤ f 2 ∧ f 2 ≤ 3) ∧ (∀ k, 0 ≤ k → k < f 2 → 1 ≤ f (6 + k) ∧ f (6 + k) ≤ 10) ∧ f 6 + f 7 + f 8 = 10 ∧ (f 2 ≤ 1 → f 7 = 0) ∧ (f 2 ≤ 2 → f 8 = 0))
  ∧ (f 0 = 2 → (0 ≤ f 1 ∧ f 1 ≤ 99) ∧ f 2 = 1) ∧ (f 0 = 3 → f 2 = 0)
  ∧ ∀ k, 0 ≤ k → k < f 2 → 0 ≤ f (3 + k) ∧ f (3 + k) ≤ 15
theorem wPL.r3 {f : Int → Int} (h : wPL f) : 0 ≤ f 2 ∧ f 2 ≤ 3 := by
  obtain ⟨h0, h1, h2, h3, h4, -⟩ := h
  rcases (by omega : f 0 = 0 ∨ f 0 = 1 ∨ f 0 = 2 ∨ f 0 = 3) with e | e | e | e
  · have := (h1 e).2; omega
  · have := (h2 e).1; omega
  · have := (h3 e).2; omega
  · have := h4 e; omega
def plG (t i lv : Int) (r : PLR) : Prop := i ≤ r.1 ∧ r.1 ≤ t ∧ ∀ f, r.2.2 = some f → (lv ≤ r.2.1 ∧ r.2.1 ≤ 50) ∧ wPL f
theorem plG.no {t i lv j l : Int} (a : i ≤ j) (b : j ≤ t) : plG t i lv (j, l, none) := ⟨a, b, fun _ z => by cases z⟩
theorem plG.so {t i lv j l : Int} {f : Int → Int} (a : i ≤ j) (b : j ≤ t) (h : lv ≤ l ∧ l ≤ 50) (w : wPL f) : plG t i lv (j, l, some f) := ⟨a, b, fun g z => by cases z; exact ⟨h, w⟩⟩
theorem plG.lo {t i i' lv : Int} {r : PLR} (h : plG t i' lv r) (a : i ≤ i') : plG t i lv r := ⟨Int.le_trans a h.1, h.2⟩
section PG
variable {c v : Int → Int} {t lv : Int}
theorem tk_lt {j q : Int} (hT : TKC c v t) (hq : q ≠ 0) (e : c j = q) : j < t := by
  by_cases z : j < t
  · exact z
  · exact absurd (by rw [← e]; exact hT.2.1 j (by omega)) hq
theorem plF_rg (hT : TKC c v t) (l0 : 0 ≤ lv) (l1 : lv ≤ 50) : ∀ (m : Nat) (i : Int) (f : Int → Int), m + 1 ≤ 3 → f 2 = 2 - m → f 0 = 0 → 0 ≤ f 1 → f 1 ≤ 5 → (∀ k, 0 ≤ k → k < f 2 → 0 ≤ f (3 + k) ∧ f (3 + k) ≤ 15) → i ≤ t → plG t i lv (plF c v (m + 1) i lv f) := by
  intro m
  induction m with
  | zero =>
    intro i f hm f2 f0 a0 a5 hr it
    rw [plF_s]
    by_cases z : c i = 50 ∧ 0 ≤ v i ∧ v i ≤ 15
    · have il := tk_lt hT (by decide) z.1
      rw [if_pos z, plF_0]
      by_cases y : c (i + 1) = 144
      · rw [if_pos y]; exact plG.no (by omega) (by omega)
      · rw [if_neg y]
        refine plG.so (by omega) (by omega) ⟨by omega, l1⟩ ?_
        unfold wPL
        rw [fU_eq, fU_ne (show (0 : Int) ≠ 2 by decide), fU_ne (show (0 : Int) ≠ 3 + f 2 by omega), fU_ne (show (1 : Int) ≠ 2 by decide), fU_ne (show (1 : Int) ≠ 3 + f 2 by omega), f0]
        refine ⟨by omega, fun _ => by omega, fun w => by omega, fun w => by omega, fun w => by omega, fun k k0 k1 => ?_⟩
        rw [fU_ne (by omega)]
        by_cases w : k = f 2
        · rw [w, fU_eq]; exact z.2
        · rw [fU_ne (by omega)]; exact hr k k0 (by omega)
    · rw [if_neg z]; exact plG.no (by omega) (by omega)
  | succ m ih =>
    intro i f hm f2 f0 a0 a5 hr it
    rw [plF_s]
    by_cases z : c i = 50 ∧ 0 ≤ v i ∧ v i ≤ 15
    · have il := tk_lt hT (by decide) z.1
      rw [if_pos z]
      have r' : ∀ k, 0 ≤ k → k < f 2 + 1 → 0 ≤ fU (fU f (3 + f 2) (v i)) 2 (f 2 + 1) (3 + k) ∧ fU (fU f (3 + f 2) (v i)) 2 (f 2 + 1) (3 + k) ≤ 15 := fun k k0 k1 => by
        rw [fU_ne (by omega)]
        by_cases w : k = f 2
        · rw [w, fU_eq]; exact z.2
        · rw [fU_ne (by omega)]; exact hr k k0 (by omega)
      by_cases y : c (i + 1) = 144
      · rw [if_pos y]
        have il2 := tk_lt hT (by decide) y
        refine (ih (i + 2) _ (by omega) ?_ ?_ ?_ ?_ ?_ (by omega)).lo (by omega)
        · rw [fU_eq]; omega
        · rw [fU_ne (by decide), fU_ne (by omega)]; exact f0
        · rw [fU_ne (by decide), fU_ne (by omega)]; exact a0
        · rw [fU_ne (by decide), fU_ne (by omega)]; exact a5
        · intro k k0 k1
          rw [fU_eq] at k1
          exact r' k k0 k1
      · rw [if_neg y]
        refine plG.so (by omega) (by omega) ⟨by omega, l1⟩ ?_
        unfold wPL
        rw [fU_eq, fU_ne (show (0 : Int) ≠ 2 by decide), fU_ne (show (0 : Int) ≠ 3 + f 2 by omega), fU_ne (show (1 : Int) ≠ 2 by decide), fU_ne (show (1 : Int) ≠ 3 + f 2 by omega), f0]
        exact ⟨by omega, fun _ => by omega, fun w => by omega, fun w => by omega, fun w => by omega, r'⟩
    · rw [if_neg z]; exact plG.no (by omega) (by omega)
/-- a TURN so far -/
def tPL (f : Int → Int) (s : Int) : Prop := f 0 = 1 ∧ (∀ k, 0 ≤ k → k < f 2 → 0 ≤ f (3 + k) ∧ f (3 + k) ≤ 15) ∧ (∀ k, 0 ≤ k → k < f 2 → 1 ≤ f (6 + k) ∧ f (6 + k) ≤ 10) ∧ f 6 + f 7 + f 8 = s ∧ (f 2 ≤ 0 → f 6 = 0) ∧ (f 2 ≤ 1 → f 7 = 0) ∧ (f 2 ≤ 2 → f 8 = 0)
theorem tPL.nx {f : Int → Int} {s x y : Int} (h : tPL f s) (f0 : 0 ≤ f 2) (f2 : f 2 ≤ 2) (x0 : 0 ≤ x ∧ x ≤ 15) (y0 : 1 ≤ y ∧ y ≤ 10) : tPL (fT f x y) (s + y) := by
  obtain ⟨h0, h1, h2, h3, h4, h5, h6⟩ := h
  obtain ⟨z0, z1, z2⟩ := fT_0 (f := f) (x := x) (y := y) f0
  have e6 : ∀ k, 0 ≤ k → k ≤ 2 → fT f x y (6 + k) = if k = f 2 then y else f (6 + k) := fun k k0 k2 => by
    unfold fT
    rw [fU_ne (by omega)]
    by_cases w : k = f 2
    · rw [if_pos w, w, fU_eq]
    · rw [if_neg w, fU_ne (by omega), fU_ne (by omega)]
  unfold tPL
  rw [z0, z2]
  refine ⟨h0, fun k k0 k1 => ?_, fun k k0 k1 => ?_, ?_, ?_, ?_, ?_⟩
  · unfold fT
    rw [fU_ne (by omega), fU_ne (by omega)]
    by_cases w : k = f 2
    · rw [w, fU_eq]; exact x0
    · rw [fU_ne (by omega)]; exact h1 k k0 (by omega)
  · rw [e6 k k0 (by omega)]
    by_cases w : k = f 2
    · rw [if_pos w]; exact y0
    · rw [if_neg w]; exact h2 k k0 (by omega)
  · have a := e6 0 (by omega) (by omega)
    have b := e6 1 (by omega) (by omega)
    have d := e6 2 (by omega) (by omega)
    have a : fT f x y 6 = if 0 = f 2 then y else f 6 := a
    have b : fT f x y 7 = if 1 = f 2 then y else f 7 := b
    have d : fT f x y 8 = if 2 = f 2 then y else f 8 := d
    rw [a, b, d]
    rcases (by omega : f 2 = 0 ∨ f 2 = 1 ∨ f 2 = 2) with e | e | e
    · rw [e, if_pos rfl, if_neg (by decide), if_neg (by decide)]; omega
    · rw [e, if_neg (by decide), if_pos rfl, if_neg (by decide)]; omega
    · rw [e, if_neg (by decide), if_neg (by decide), if_pos rfl]; omega
  · intro w; omega
  · intro w
    have b := e6 1 (by omega) (by omega)
    have b : fT f x y 7 = if 1 = f 2 then y else f 7 := b
    rw [b, if_neg (by omega)]; exact h5 (by omega)
  · intro w
    have d := e6 2 (by omega) (by omega)
    have d : fT f x y 8 = if 2 = f 2 then y else f 8 := d
    rw [d, if_neg (by omega)]; exact h6 (by omega)
theorem tPL.wg {f : Int → Int} (h : tPL f 10) (f0 : 1 ≤ f 2) (f2 : f 2 ≤ 3) : wPL f := by
  obtain ⟨h0, h1, h2, h3, h4, h5, h6⟩ := h
  exact ⟨by omega, fun w => by omega, fun _ => ⟨⟨f0, f2⟩, h2, h3, h5, h6⟩, fun w => by omega, fun w => by omega, h1⟩
theorem plT_rg (hT : TKC c v t) (l0 : 0 ≤ lv) (l1 : lv ≤ 50) : ∀ (m : Nat) (i s : Int) (f : Int → Int), m + 1 ≤ 3 → f 2 = 2 - m → 0 ≤ s → s ≤ 10 → tPL f s → i ≤ t → plG t i lv (plT c v (m + 1) i lv s f) := by
  intro m
  induction m with
  | zero =>
    intro i s f hm f2 s0 s1 hg it
    rw [plT_s]
    by_cases z : c i = 50 ∧ 0 ≤ v i ∧ v i ≤ 15
    · have il := tk_lt hT (by decide) z.1
      rw [if_pos z]
      by_cases y : c (i + 1) = 4
      · have il1 := tk_lt hT (by decide) y
        rw [if_pos y]
        by_cases u : c (i + 2) = 50 ∧ 1 ≤ v (i + 2) ∧ v (i + 2) ≤ 10 - s
        · have il2 := tk_lt hT (by decide) u.1
          rw [if_pos u, plT_0]
          by_cases x : c (i + 3) = 144
          · rw [if_pos x]; exact plG.no (by omega) (by omega)
          · rw [if_neg x]
            by_cases w : s + v (i + 2) < 10
            · rw [if_pos w]; exact plG.no (by omega) (by omega)
            · rw [if_neg w]
              have g := hg.nx (x := v i) (y := v (i + 2)) (by omega) (by omega) z.2 (by omega)
              rw [show s + v (i + 2) = 10 by omega] at g
              exact plG.so (by omega) (by omega) ⟨by omega, l1⟩ (g.wg (by rw [(fT_0 (by omega)).2.2]; omega) (by rw [(fT_0 (by omega)).2.2]; omega))
        · rw [if_neg u]; exact plG.no (by omega) (by omega)
      · rw [if_neg y]; exact plG.no (by omega) (by omega)
    · rw [if_neg z]; exact plG.no (by omega) (by omega)
  | succ m ih =>
    intro i s f hm f2 s0 s1 hg it
    rw [plT_s]
    by_cases z : c i = 50 ∧ 0 ≤ v i ∧ v i ≤ 15
    · have il := tk_lt hT (by decide) z.1
      rw [if_pos z]
      by_cases y : c (i + 1) = 4
      · have il1 := tk_lt hT (by decide) y
        rw [if_pos y]
        by_cases u : c (i + 2) = 50 ∧ 1 ≤ v (i + 2) ∧ v (i + 2) ≤ 10 - s
        · have il2 := tk_lt hT (by decide) u.1
          have g := hg.nx (x := v i) (y := v (i + 2)) (by omega) (by omega) z.2 (by omega)
          rw [if_pos u]
          by_cases x : c (i + 3) = 144
          · have il3 := tk_lt hT (by decide) x
            rw [if_pos x]
            exact (ih (i + 4) _ _ (by omega) (by rw [(fT_0 (by omega)).2.2]; omega) (by omega) (by omega) g (by omega)).lo (by omega)
          · rw [if_neg x]
            by_cases w : s + v (i + 2) < 10
            · rw [if_pos w]; exact plG.no (by omega) (by omega)
            · rw [if_neg w]
              rw [show s + v (i + 2) = 10 by omega] at g
              exact plG.so (by omega) (by omega) ⟨by omega, l1⟩ (g.wg (by rw [(fT_0 (by omega)).2.2]; omega) (by rw [(fT_0 (by omega)).2.2]; omega))
        · rw [if_neg u]; exact plG.no (by omega) (by omega)
      · rw [if_neg y]; exact plG.no (by omega) (by omega)
    · rw [if_neg z]; exact plG.no (by omega) (by omega)
theorem pL_rg {n : Nat} {i : Int} (hT : TKC c v t) (hn : 4820 ≤ n) (l0 : 0 ≤ lv) (l1 : lv ≤ 50) (i0 : 0 ≤ i) (it : i ≤ t) : plG t i lv (pL c v n i lv) := by
  unfold pL
  have t4 := hT.1
  by_cases h1 : c i = 1
  · rw [if_pos h1]
    have il := tk_lt hT (by decide) h1
    unfold plK
    by_cases z : c (i + 1) = 50 ∧ 0 ≤ v (i + 1) ∧ v (i + 1) ≤ 5
    · have il1 := tk_lt hT (by decide) z.1
      rw [if_pos z]
      by_cases y : c (i + 2) = 2
      · have il2 := tk_lt hT (by decide) y
        rw [if_pos y]
        refine (plF_rg (t := t) hT l0 l1 2 (i + 3) (fU (fun _ => 0) 1 (v (i + 1))) (by decide) rfl rfl (by rw [fU_eq]; exact z.2.1) (by rw [fU_eq]; exact z.2.2) (fun k k0 k1 => ?_) (by omega)).lo (by omega)
        have k1 : k < 0 := k1
        omega
      · rw [if_neg y]; exact plG.no (by omega) (by omega)
    · rw [if_neg z]; exact plG.no (by omega) (by omega)
  rw [if_neg h1]
  by_cases h3 : c i = 3
  · rw [if_pos h3]
    have il := tk_lt hT (by decide) h3
    refine (plT_rg (t := t) hT l0 l1 2 (i + 1) 0 (fU (fun _ => 0) 0 1) (by decide) rfl (by omega) (by omega) ⟨rfl, fun k k0 k1 => ?_, fun k k0 k1 => ?_, rfl, fun _ => rfl, fun _ => rfl, fun _ => rfl⟩ (by omega)).lo (by omega)
    · have k1 : k < 0 := k1
      omega
    · have k1 : k < 0 := k1
      omega
  rw [if_neg h3]
  by_cases h5 : c i = 5
  · rw [if_pos h5]
    have il := tk_lt hT (by decide) h5
    unfold plI
    by_cases z : c (i + 1) = 50 ∧ 0 ≤ v (i + 1) ∧ v (i + 1) ≤ 99
    · have il1 := tk_lt hT (by decide) z.1
      rw [if_pos z]
      by_cases y : c (i + 2) = 2
      · have il2 := tk_lt hT (by decide) y
        rw [if_pos y]
        by_cases u : c (i + 3) = 50 ∧ 0 ≤ v (i + 3) ∧ v (i + 3) ≤ 15
        · have il3 := tk_lt hT (by decide) u.1
          rw [if_pos u]
          refine plG.so (by omega) (by omega) ⟨by omega, l1⟩ ?_
          have e0 : fU (fU (fU (fU (fun _ => 0) 0 2) 1 (v (i + 1))) 2 1) 3 (v (i + 3)) 0 = 2 := rfl
          have e1 : fU (fU (fU (fU (fun _ => 0) 0 2) 1 (v (i + 1))) 2 1) 3 (v (i + 3)) 1 = v (i + 1) := rfl
          have e2 : fU (fU (fU (fU (fun _ => 0) 0 2) 1 (v (i + 1))) 2 1) 3 (v (i + 3)) 2 = 1 := rfl
          unfold wPL
          rw [e0, e1, e2]
          refine ⟨by omega, fun w => by omega, fun w => by omega, fun _ => ⟨z.2, rfl⟩, fun w => by omega, fun k k0 k1 => ?_⟩
          rw [show k = 0 by omega]
          exact u.2
        · rw [if_neg u]; exact plG.no (by omega) (by omega)
      · rw [if_neg y]; exact plG.no (by omega) (by omega)
    · rw [if_neg z]; exact plG.no (by omega) (by omega)
  rw [if_neg h5]
  by_cases h6 : c i = 6
  · rw [if_pos h6]
    have il := tk_lt hT (by decide) h6
    unfold plE
    have e6 : rk 6 = 3 := rfl
    have e0 : rk 0 = 7 := rfl
    have sg := pP_rg hT (n := n) (m := 6) (dp := 0) (i := i + 1) (lv := lv) (hh := mLeaf 50 0) (by decide) (by omega) (by omega) (by omega) (by omega) l0 l1 (by omega)
    generalize pP c v n 6 0 (i + 1) lv (mLeaf 50 0) = r1 at *
    obtain ⟨j, lv1, o⟩ := r1
    have s1 := sg.1
    have s1 : i + 1 ≤ j := s1
    have s2 := sg.2.1
    have s2 : j ≤ t := s2
    have we : wPL (fE i) := ⟨⟨show (0 : Int) ≤ 3 by decide, show (3 : Int) ≤ 3 by decide⟩, fun w => absurd (show (3 : Int) = 0 from w) (by decide), fun w => absurd (show (3 : Int) = 1 from w) (by decide), fun w => absurd (show (3 : Int) = 2 from w) (by decide), fun _ => rfl, fun k k0 k1 => by
      have k1 : k < 0 := k1
      omega⟩
    cases o with
    | none => exact plG.no (by omega) s2
    | some a =>
      have s3 := sg.2.2 rfl
      have s3 : lv ≤ lv1 ∧ lv1 ≤ 50 := s3
      show plG t i lv (if c j = 7 then plS (pP c v n 0 0 (j + 1) lv1 (mLeaf 50 0)) (fun j2 lv2 _ => (j2, lv2, some (fE i))) else (j, lv1, some (fE i)))
      by_cases y : c j = 7
      · rw [if_pos y]
        have jl := tk_lt hT (by decide) y
        have tg := pP_rg hT (n := n) (m := 0) (dp := 0) (i := j + 1) (lv := lv1) (hh := mLeaf 50 0) (by decide) (by omega) (by omega) (by omega) (by omega) (by omega) s3.2 (by omega)
        generalize pP c v n 0 0 (j + 1) lv1 (mLeaf 50 0) = r2 at *
        obtain ⟨j2, lv2, o2⟩ := r2
        have u1 := tg.1
        have u1 : j + 1 ≤ j2 := u1
        have u2 := tg.2.1
        have u2 : j2 ≤ t := u2
        cases o2 with
        | none => exact plG.no (by omega) u2
        | some a2 =>
          have u3 := tg.2.2 rfl
          have u3 : lv1 ≤ lv2 ∧ lv2 ≤ 50 := u3
          exact plG.so (by omega) u2 ⟨by omega, u3.2⟩ we
      · rw [if_neg y]
        exact plG.so (by omega) s2 s3 we
  · rw [if_neg h6]; exact plG.no (by omega) it
end PG
