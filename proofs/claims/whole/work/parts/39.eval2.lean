/-! the reference's ENDS, by the language -/
theorem pP_ge (c v : Int → Int) : ∀ (n m : Nat) (dp i lv : Int) (h : ME) (j lv' : Int) (f : ME), m ≤ 10 → pP c v n m dp i lv h = (j, lv', some f) → i ≤ j := by
  intro n
  induction n with
  | zero => intro m dp i lv h j lv' f hm H; cases H
  | succ n ih =>
    intro m dp i lv h j lv' f hm H
    have two : ∀ {m1 m2 : Nat} {dp1 i' lv' j' lv'' : Int} {hh : ME} {G : ME → ME} {f' : ME}, m1 ≤ 10 → m2 ≤ 10 → pB (pP c v n m1 dp1 i' lv' hh) (fun i1 lv1 h1 => pP c v n m2 dp1 i1 lv1 (G h1)) = (j', lv'', some f') → i' ≤ j' := by
      intro m1 m2 dp1 i' lv' j' lv'' hh G f' a b H
      obtain ⟨i1, lv1, h1, e1, e2⟩ := pB_some H
      have := ih _ _ _ _ _ _ _ _ a e1
      have := ih _ _ _ _ _ _ _ _ b e2
      omega
    rcases (by omega : m = 0 ∨ m = 1 ∨ m = 2 ∨ m = 3 ∨ m = 4 ∨ m = 5 ∨ m = 6 ∨ m = 7 ∨ m = 8 ∨ m = 9 ∨ m = 10) with rfl | rfl | rfl | rfl | rfl | rfl | rfl | rfl | rfl | rfl | rfl
    · rw [pP_0] at H
      exact two (G := id) (by decide) (by decide) H
    · rw [pP_1] at H
      split at H
      · have := two (G := mOr h) (by decide) (by decide) H; omega
      · cases H; omega
    · rw [pP_2] at H
      exact two (G := id) (by decide) (by decide) H
    · rw [pP_3] at H
      split at H
      · have := two (G := mAnd h) (by decide) (by decide) H; omega
      · cases H; omega
    · rw [pP_4] at H
      split at H
      · obtain ⟨i1, lv1, h1, e1, e2⟩ := pB_some H
        cases e2
        have := ih _ _ _ _ _ _ _ _ (by decide) e1
        omega
      · exact ih _ _ _ _ _ _ _ _ (by decide) H
    · rw [pP_5] at H
      split at H
      · split at H
        · cases H
        · obtain ⟨i1, lv1, h1, e1, e2⟩ := pB_some H
          have := ih _ _ _ _ _ _ _ _ (by decide) e1
          split at e2
          · cases e2; omega
          · cases e2
      · obtain ⟨i1, lv1, h1, e1, e2⟩ := pB_some H
        have := ih _ _ _ _ _ _ _ _ (by decide) e1
        split at e2
        · obtain ⟨i2, lv2, h2, e3, e4⟩ := pB_some e2
          have := ih _ _ _ _ _ _ _ _ (by decide) e3
          cases e4
          omega
        · cases e2
    · rw [pP_6] at H
      exact two (G := id) (by decide) (by decide) H
    · rw [pP_7] at H
      split at H
      · have := two (G := mTwo (if c i = 143 then 0 else 1) h) (by decide) (by decide) H; omega
      · cases H; omega
    · rw [pP_8] at H
      exact two (G := id) (by decide) (by decide) H
    · rw [pP_9] at H
      split at H
      · have := two (G := mTwo (if c i = 142 then 2 else 3) h) (by decide) (by decide) H; omega
      · cases H; omega
    · rw [pP_10] at H
      split at H
      · split at H
        · cases H
        · obtain ⟨i1, lv1, h1, e1, e2⟩ := pB_some H
          have := ih _ _ _ _ _ _ _ _ (by decide) e1
          split at e2
          · cases e2; omega
          · cases e2
      · split at H
        · split at H
          · cases H
          · cases H; omega
        · cases H
/-- what each method is to do -/
def evM (M0 : ZM) (e : Int → Int) (m : Nat) (dp i : Int) (h : ME) (j : Int) (f : ME) : Prop :=
  match m with
  | 0 => ∀ (D : Nat) (l b : Int) (K : Int → ZM → Prop), 4 * (8 - dp) + 10 ≤ D → (l = 0 ∨ l = 1) → (b = 0 ∨ b = 1) → (∀ x b', (b' = 0 ∨ b' = 1) → ACt e l b f x b' → K x (stM M0 j b')) → zcI D 187 [zA 113, zI l] (stM M0 i b) K
  | 1 => ∀ (D : Nat) (l b0 b x : Int) (K : Int → ZM → Prop), 4 * (8 - dp) + 9 ≤ D → (l = 0 ∨ l = 1) → (b0 = 0 ∨ b0 = 1) → (b = 0 ∨ b = 1) → ACt e l b0 h x b → (∀ x b', (b' = 0 ∨ b' = 1) → ACt e l b0 f x b' → K x (stM M0 j b')) → wX10_testOf D 6 [(0, zA 113), (1, zI l), (2, zI x)] (stM M0 i b) K
  | 2 => ∀ (D : Nat) (l b : Int) (K : Int → ZM → Prop), 4 * (8 - dp) + 9 ≤ D → (l = 0 ∨ l = 1) → (b = 0 ∨ b = 1) → (∀ x b', (b' = 0 ∨ b' = 1) → ACt e l b f x b' → K x (stM M0 j b')) → zcI D 188 [zA 113, zI l] (stM M0 i b) K
  | 3 => ∀ (D : Nat) (l b0 b x : Int) (K : Int → ZM → Prop), 4 * (8 - dp) + 8 ≤ D → (l = 0 ∨ l = 1) → (b0 = 0 ∨ b0 = 1) → (b = 0 ∨ b = 1) → ACt e l b0 h x b → (∀ x b', (b' = 0 ∨ b' = 1) → ACt e l b0 f x b' → K x (stM M0 j b')) → wX10_bothOf D 6 [(0, zA 113), (1, zI l), (2, zI x)] (stM M0 i b) K
  | 4 => ∀ (D : Nat) (l b g : Int) (K : Int → ZM → Prop), 4 * (8 - dp) + 7 ≤ D → (l = 0 ∨ l = 1) → (b = 0 ∨ b = 1) → (g = 0 ∨ g = 1) → (∀ x b', (b' = 0 ∨ b' = 1) → ACt e l b (if g = 0 then f else mNot f) x b' → K x (stM M0 j b')) → wX10_plainOf D 2 [(0, zA 113), (1, zI l), (2, zI g)] (stM M0 i b) K
  | 5 => ∀ (D : Nat) (l b : Int) (K : Int → ZM → Prop), 4 * (8 - dp) + 7 ≤ D → (l = 0 ∨ l = 1) → (b = 0 ∨ b = 1) → (∀ x b', (b' = 0 ∨ b' = 1) → ACt e l b f x b' → K x (stM M0 j b')) → zcI D 190 [zA 113, zI l] (stM M0 i b) K
  | 6 => ∀ (D : Nat) (l b : Int) (K : Int → ZM → Prop), 4 * (8 - dp) + 6 ≤ D → (l = 0 ∨ l = 1) → (b = 0 ∨ b = 1) → (∀ x b', (b' = 0 ∨ b' = 1) → ACs e l b f x b' → K x (stM M0 j b')) → zcL D 184 [zA 113, zI l] (stM M0 i b) K
  | 7 => ∀ (D : Nat) (l b0 b x : Int) (K : Int → ZM → Prop), 4 * (8 - dp) + 5 ≤ D → (l = 0 ∨ l = 1) → (b0 = 0 ∨ b0 = 1) → (b = 0 ∨ b = 1) → ACs e l b0 h x b → (∀ x b', (b' = 0 ∨ b' = 1) → ACs e l b0 f x b' → K x (stM M0 j b')) → wX10_sumOf D 6 [(0, zA 113), (1, zI l), (2, zJ x)] (stM M0 i b) K
  | 8 => ∀ (D : Nat) (l b : Int) (K : Int → ZM → Prop), 4 * (8 - dp) + 5 ≤ D → (l = 0 ∨ l = 1) → (b = 0 ∨ b = 1) → (∀ x b', (b' = 0 ∨ b' = 1) → ACs e l b f x b' → K x (stM M0 j b')) → zcL D 185 [zA 113, zI l] (stM M0 i b) K
  | 9 => ∀ (D : Nat) (l b0 b x : Int) (K : Int → ZM → Prop), 4 * (8 - dp) + 4 ≤ D → (l = 0 ∨ l = 1) → (b0 = 0 ∨ b0 = 1) → (b = 0 ∨ b = 1) → ACs e l b0 h x b → (∀ x b', (b' = 0 ∨ b' = 1) → ACs e l b0 f x b' → K x (stM M0 j b')) → wX10_termOf D 6 [(0, zA 113), (1, zI l), (2, zJ x)] (stM M0 i b) K
  | _ => ∀ (D : Nat) (l b : Int) (K : Int → ZM → Prop), 4 * (8 - dp) + 4 ≤ D → (l = 0 ∨ l = 1) → (b = 0 ∨ b = 1) → (∀ x b', (b' = 0 ∨ b' = 1) → ACs e l b f x b' → K x (stM M0 j b')) → zcL D 186 [zA 113, zI l] (stM M0 i b) K
/-- meanings of SUMS stay within bounds, meanings of TESTS are 0 and 1 -/
theorem ACs.two {e : Int → Int} {l b0 b b1 b2 x y z o : Int} {f g : ME} (ho : 0 ≤ o ∧ o ≤ 3) (hb : b = 0 ∨ b = 1) (h1 : ACs e l b0 f x b) (h2 : ACs e l b g y b1) (hz : b1 = 0 → (match mBin o x y with
  | some a => z = a ∧ b2 = 0 ∧ -1000000000 ≤ a ∧ a ≤ 1000000000
  | none => l = 1 → b2 = 1 ∧ z = 0)) (hz1 : b1 = 1 → b2 = 1 ∧ z = 0) (hz0 : l = 0 → b2 = b1 ∧ z = 0) (hb1 : b1 = 0 ∨ b1 = 1) (hl : l = 0 ∨ l = 1) (hb0 : b0 = 0 ∨ b0 = 1) : ACs e l b0 (mTwo o f g) z b2 := by
  unfold ACs at *
  constructor
  · rintro ⟨rfl, rfl⟩
    have h1 := h1.1 ⟨rfl, rfl⟩
    unfold mTwo
    cases hf : f e with
    | none =>
      rw [hf] at h1
      obtain ⟨rfl, rfl⟩ := h1
      have := h2.2 (by omega)
      exact hz1 (by omega)
    | some a =>
      rw [hf] at h1
      obtain ⟨rfl, rfl, -⟩ := h1
      have h2 := h2.1 ⟨rfl, rfl⟩
      dsimp only
      cases hg : g e with
      | none =>
        rw [hg] at h2
        obtain ⟨rfl, rfl⟩ := h2
        exact hz1 rfl
      | some c =>
        rw [hg] at h2
        obtain ⟨rfl, rfl, -⟩ := h2
        have hz := hz rfl
        dsimp only
        cases hm : mBin o x y with
        | none => rw [hm] at hz; exact hz rfl
        | some w => rw [hm] at hz; exact hz
  · intro hn
    have h1 := h1.2 hn
    have h2 := h2.2 (by omega)
    rcases hl with rfl | rfl
    · have := hz0 rfl; omega
    · have := hz1 (by omega); omega
theorem ACs.bd {e : Int → Int} {l b0 b x : Int} {f : ME} (h : ACs e l b0 f x b) : -1000000000 ≤ x ∧ x ≤ 1000000000 := by
  unfold ACs at h
  by_cases hh : l = 1 ∧ b0 = 0
  · have h := h.1 hh
    cases hf : f e with
    | none => rw [hf] at h; omega
    | some a => rw [hf] at h; omega
  · have := h.2 hh; omega
theorem ACt.or {e : Int → Int} {l b0 b b1 x y : Int} {f g : ME} (hl : l = 0 ∨ l = 1) (hb0 : b0 = 0 ∨ b0 = 1) (h1 : ACt e l b0 f x b) (h2 : ACt e (if l = 1 ∧ x = 0 then 1 else 0) b g y b1) : ACt e l b0 (mOr f g) (if x = 0 then y else 1) b1 := by
  unfold ACt at *
  obtain ⟨hx, p1, p2⟩ := h1
  obtain ⟨hy, q1, q2⟩ := h2
  refine ⟨by split <;> omega, fun hh => ?_, fun hn => ?_⟩
  · obtain ⟨rfl, rfl⟩ := hh
    have p1 := p1 ⟨rfl, rfl⟩
    unfold mOr
    cases hf : f e with
    | none =>
      rw [hf] at p1
      have p1 : b = 1 := p1
      show b1 = 1
      have := q2 (by omega)
      omega
    | some a =>
      rw [hf] at p1
      obtain ⟨rfl, rfl⟩ := p1
      dsimp only
      by_cases hx1 : x = 1
      · rw [if_pos hx1, if_neg (by omega)]
        have := q2 (by omega)
        exact ⟨rfl, by omega⟩
      · rw [if_neg hx1, if_pos (by omega)]
        have q1 := q1 ⟨by rw [if_pos (by omega)], rfl⟩
        exact q1
  · have := p2 hn
    have := q2 (by split <;> omega)
    omega
theorem ACt.and {e : Int → Int} {l b0 b b1 x y : Int} {f g : ME} (hl : l = 0 ∨ l = 1) (hb0 : b0 = 0 ∨ b0 = 1) (h1 : ACt e l b0 f x b) (h2 : ACt e (if l = 1 ∧ ¬ x = 0 then 1 else 0) b g y b1) : ACt e l b0 (mAnd f g) (if x = 0 then 0 else y) b1 := by
  unfold ACt at *
  obtain ⟨hx, p1, p2⟩ := h1
  obtain ⟨hy, q1, q2⟩ := h2
  refine ⟨by split <;> omega, fun hh => ?_, fun hn => ?_⟩
  · obtain ⟨rfl, rfl⟩ := hh
    have p1 := p1 ⟨rfl, rfl⟩
    unfold mAnd
    cases hf : f e with
    | none =>
      rw [hf] at p1
      have p1 : b = 1 := p1
      show b1 = 1
      have := q2 (by omega)
      omega
    | some a =>
      rw [hf] at p1
      obtain ⟨rfl, rfl⟩ := p1
      dsimp only
      by_cases hx1 : x = 0
      · rw [if_pos hx1, if_pos hx1]
        have := q2 (by omega)
        exact ⟨rfl, by omega⟩
      · rw [if_neg hx1, if_neg hx1]
        have q1 := q1 ⟨by rw [if_pos ⟨rfl, hx1⟩], rfl⟩
        exact q1
  · have := p2 hn
    have := q2 (by split <;> omega)
    omega
theorem ACt.not {e : Int → Int} {l b0 b x : Int} {f : ME} (h : ACt e l b0 f x b) : ACt e l b0 (mNot f) (1 - x) b := by
  unfold ACt at *
  obtain ⟨hx, p1, p2⟩ := h
  refine ⟨by omega, fun hh => ?_, p2⟩
  have p1 := p1 hh
  unfold mNot
  cases hf : f e with
  | none => rw [hf] at p1; exact p1
  | some a =>
    rw [hf] at p1
    obtain ⟨rfl, rfl⟩ := p1
    exact ⟨rfl, rfl⟩
theorem mNot_not {f : ME} : mNot (mNot f) = f := by
  funext e
  unfold mNot
  cases f e with
  | none => rfl
  | some a => exact congrArg some (by omega)
