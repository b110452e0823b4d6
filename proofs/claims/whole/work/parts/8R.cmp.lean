/-! code that says a meaning -/
theorem tRun_fuel {co e : Int → Int} {to : Int} : ∀ (k k' : Nat) (i : Int) (st : List Int), 401 - i ≤ k → 401 - i ≤ k' → tRun co e to (k + 1) i st = tRun co e to (k' + 1) i st := by
  intro k
  induction k with
  | zero =>
    intro k' i st h h'
    unfold tRun
    rw [if_neg (by omega), if_neg (by omega)]
  | succ k ih =>
    intro k' i st h h'
    by_cases hi : i < to ∧ i < 400
    · obtain ⟨k', rfl⟩ : ∃ m, k' = m + 1 := ⟨k' - 1, by omega⟩
      have nx : ∀ (j : Int) (s : List Int), i < j → tRun co e to (k + 1) j s = tRun co e to (k' + 1) j s := fun j s hj => ih k' j s (by omega) (by omega)
      have e1 : ∀ s, tRun co e to (k + 1) (i + 1) s = tRun co e to (k' + 1) (i + 1) s := fun s => nx _ s (by omega)
      have e2 : ∀ s, tRun co e to (k + 1) (max i (co i / 16 - 1) + 1) s = tRun co e to (k' + 1) (max i (co i / 16 - 1) + 1) s := fun s => nx _ s (by omega)
      show (if i < to ∧ i < 400 then _ else _) = (if i < to ∧ i < 400 then _ else _)
      rw [if_pos hi, if_pos hi]
      split
      · rfl
      · split
        · exact e1 _
        · cases st with
          | nil => rfl
          | cons b st1 =>
            dsimp only
            split
            · cases st1 with
              | nil => rfl
              | cons a st2 =>
                dsimp only
                split
                · rfl
                · exact e1 _
            · split
              · exact e1 _
              · split <;> split <;> first | exact e2 _ | exact e1 _
    · show (if i < to ∧ i < 400 then _ else _) = (if i < to ∧ i < 400 then _ else _)
      rw [if_neg hi, if_neg hi]
/-- run with fuel enough -/
def tRn (co e : Int → Int) (to i : Int) (st : List Int) : Int := tRun co e to ((401 - i).toNat + 1) i st
theorem tRn_of {co e : Int → Int} {to i : Int} {st : List Int} {k : Nat} (h : 401 - i ≤ k) : tRun co e to (k + 1) i st = tRn co e to i st := tRun_fuel k _ i st h (by omega)
theorem tRn_eq {co e : Int → Int} {to i : Int} {st : List Int} (i0 : 0 ≤ i) (h1 : i < to) (h2 : i < 400) : tRn co e to i st = (if 32 ≤ st.length then NOTH
      else if co i % 16 < 4 then tRn co e to (i + 1) ((if co i % 16 = 0 then co i / 16 else e (co i % 16 - 1)) :: st)
      else match st with
        | [] => NOTH
        | b :: st1 => if co i % 16 < 11 then (match st1 with
            | [] => NOTH
            | a :: st2 => if tJoin (co i % 16) a b = NOTH then NOTH else tRn co e to (i + 1) (tJoin (co i % 16) a b :: st2))
          else if co i % 16 = 11 then tRn co e to (i + 1) ((1 - b) :: st1)
          else if b = (if co i % 16 = 12 then 1 else 0) then tRn co e to (max i (co i / 16 - 1) + 1) st
          else tRn co e to (i + 1) st1) := by
  have a1 : ∀ s, tRun co e to (401 - i).toNat (i + 1) s = tRn co e to (i + 1) s := fun s => by
    obtain ⟨k, hk⟩ : ∃ k, (401 - i).toNat = k + 1 := ⟨(400 - i).toNat, by omega⟩
    rw [hk]; exact tRn_of (by omega)
  have a2 : ∀ s, tRun co e to (401 - i).toNat (max i (co i / 16 - 1) + 1) s = tRn co e to (max i (co i / 16 - 1) + 1) s := fun s => by
    obtain ⟨k, hk⟩ : ∃ k, (401 - i).toNat = k + 1 := ⟨(400 - i).toNat, by omega⟩
    rw [hk]; exact tRn_of (by omega)
  show (if i < to ∧ i < 400 then _ else _) = _
  rw [if_pos ⟨h1, h2⟩]
  split
  · rfl
  · split
    · exact a1 _
    · cases st with
      | nil => rfl
      | cons b st1 =>
        dsimp only
        split
        · cases st1 with
          | nil => rfl
          | cons a st2 =>
            dsimp only
            split
            · rfl
            · exact a1 _
        · split
          · exact a1 _
          · split <;> split <;> first | exact a2 _ | exact a1 _
/-- what a SUM may be told of -/
def ENV (e : Int → Int) : Prop := ∀ i, 0 ≤ i → i < 3 → 0 ≤ e i ∧ e i ≤ 20
def BDM (f : ME) : Prop := ∀ e, ENV e → ∀ x, f e = some x → -1000000000 ≤ x ∧ x ≤ 1000000000
/-- the code from n0 to n1 says f, with room for hg numbers -/
def CMP (co : Int → Int) (n0 n1 hg : Int) (f : ME) : Prop := (0 ≤ n0 ∧ n0 ≤ n1) ∧ ∀ (e : Int → Int) (to : Int) (st : List Int), ENV e → n1 ≤ to → n1 ≤ 400 → (st.length : Int) + hg ≤ 32 → tRn co e to n0 st = match f e with
  | none => NOTH
  | some x => tRn co e to n1 (x :: st)
theorem CMP.cg {co co' : Int → Int} {n0 n1 hg : Int} {f : ME} (h : CMP co n0 n1 hg f) (hr : ∀ (e : Int → Int) (to i : Int) (st : List Int), tRn co' e to i st = tRn co e to i st) : CMP co' n0 n1 hg f := ⟨h.1, fun e to st a b c d => by rw [hr, h.2 e to st a b c d]; split <;> simp [hr]⟩
theorem CMP.up {co : Int → Int} {n0 n1 hg hg' : Int} {f : ME} (h : CMP co n0 n1 hg f) (hh : hg ≤ hg') : CMP co n0 n1 hg' f := ⟨h.1, fun e to st a b c d => h.2 e to st a b c (by omega)⟩
theorem CMP_leaf {co : Int → Int} {n0 w t v c : Int} (h0 : 0 ≤ n0) (w0 : 0 ≤ w) (w1 : w < 4) (t0 : 0 ≤ t) (hc : co n0 = w + 16 * t) (h5 : w = 0 → c = 50 ∧ v = t) (h1 : w ≠ 0 → c = w + 10) : CMP co n0 (n0 + 1) 1 (mLeaf c v) := by
  refine ⟨⟨h0, by omega⟩, fun e to st he h2 h3 h4 => ?_⟩
  rw [tRn_eq h0 (by omega) (by omega), if_neg (by omega), show co n0 % 16 = w by omega, show co n0 / 16 = t by omega, if_pos w1]
  show _ = tRn co e to (n0 + 1) ((if c = 50 then v else e (c - 11)) :: st)
  by_cases hw : w = 0
  · obtain ⟨rfl, rfl⟩ := h5 hw
    rw [if_pos hw, if_pos rfl]
  · have := h1 hw
    rw [if_neg hw, if_neg (by omega), show c - 11 = w - 1 by omega]
theorem tJoin_m {o a b : Int} (o0 : 0 ≤ o) (o6 : o ≤ 6) (ha : -1000000000 ≤ a ∧ a ≤ 1000000000) (hb : -1000000000 ≤ b ∧ b ≤ 1000000000) : (mBin o a b = none → tJoin (if o = 4 then 8 else if o = 5 then 9 else if o = 6 then 10 else o + 4) a b = NOTH) ∧ (∀ x, mBin o a b = some x → tJoin (if o = 4 then 8 else if o = 5 then 9 else if o = 6 then 10 else o + 4) a b = x ∧ -1000000000 ≤ x ∧ x ≤ 1000000000) := by
  have ck : ∀ y : Int, (mChk y = none → (mChk y).getD NOTH = NOTH) ∧ ∀ x, mChk y = some x → (mChk y).getD NOTH = x ∧ -1000000000 ≤ x ∧ x ≤ 1000000000 := by
    intro y
    unfold mChk
    split
    · exact ⟨fun _ => rfl, fun x h => by cases h⟩
    · exact ⟨fun h => (nomatch h), fun x h => by cases h; exact ⟨rfl, by omega, by omega⟩⟩
  rcases (by omega : o = 0 ∨ o = 1 ∨ o = 2 ∨ o = 3 ∨ o = 4 ∨ o = 5 ∨ o = 6) with rfl | rfl | rfl | rfl | rfl | rfl | rfl
  · exact ck (a + b)
  · exact ck (a - b)
  · exact ck (a * b)
  · show ((if b = 0 then none else some (a.tdiv b)) = none → (if b = 0 then NOTH else a.tdiv b) = NOTH) ∧ ∀ x, (if b = 0 then none else some (a.tdiv b)) = some x → (if b = 0 then NOTH else a.tdiv b) = x ∧ _
    by_cases h : b = 0
    · rw [if_pos h, if_pos h]; exact ⟨fun _ => rfl, fun x h => by cases h⟩
    · rw [if_neg h, if_neg h]
      have := tdiv_abs a b
      exact ⟨fun h => (nomatch h), fun x h => by cases h; exact ⟨rfl, by omega, by omega⟩⟩
  · show (some (if a < b then 1 else 0) = none → (if a < b then 1 else 0) = NOTH) ∧ ∀ x, some (if a < b then (1 : Int) else 0) = some x → (if a < b then 1 else 0) = x ∧ _
    exact ⟨fun h => (nomatch h), fun x h => by cases h; refine ⟨rfl, ?_⟩; split <;> omega⟩
  · show (some (if b < a then 1 else 0) = none → (if b < a then 1 else 0) = NOTH) ∧ ∀ x, some (if b < a then (1 : Int) else 0) = some x → (if b < a then 1 else 0) = x ∧ _
    exact ⟨fun h => (nomatch h), fun x h => by cases h; refine ⟨rfl, ?_⟩; split <;> omega⟩
  · show (some (if a = b then 1 else 0) = none → (if a = b then 1 else 0) = NOTH) ∧ ∀ x, some (if a = b then (1 : Int) else 0) = some x → (if a = b then 1 else 0) = x ∧ _
    exact ⟨fun h => (nomatch h), fun x h => by cases h; refine ⟨rfl, ?_⟩; split <;> omega⟩
theorem BDM_two {o : Int} {f g : ME} (o0 : 0 ≤ o) (o6 : o ≤ 6) (hf : BDM f) (hg : BDM g) : BDM (mTwo o f g) := by
  intro e he x hx
  unfold mTwo at hx
  cases h1 : f e with
  | none => rw [h1] at hx; cases hx
  | some a =>
    rw [h1] at hx
    cases h2 : g e with
    | none => rw [h2] at hx; cases hx
    | some b =>
      rw [h2] at hx
      exact ((tJoin_m o0 o6 (hf e he a h1) (hg e he b h2)).2 x hx).2
theorem BDM_leaf {c v : Int} (h : (c = 50 ∧ 0 ≤ v ∧ v ≤ 1000) ∨ (11 ≤ c ∧ c ≤ 13)) : BDM (mLeaf c v) := by
  intro e he x hx
  unfold mLeaf at hx
  cases hx
  split
  · omega
  · have := he (c - 11) (by omega) (by omega)
    omega
theorem CMP_two {co : Int → Int} {n0 n1 n2 hg h2 w o : Int} {f g : ME} (hf : CMP co n0 n1 hg f) (hg' : CMP co n1 n2 h2 g) (bf : BDM f) (bg : BDM g) (hh : h2 + 1 ≤ hg) (h3 : 3 ≤ hg) (o0 : 0 ≤ o) (o6 : o ≤ 6) (hw : w = if o = 4 then 8 else if o = 5 then 9 else if o = 6 then 10 else o + 4) (hc : co n2 = w) : CMP co n0 (n2 + 1) hg (mTwo o f g) := by
  have w1 : 4 ≤ w ∧ w < 11 := by rw [hw]; split <;> omega
  refine ⟨⟨hf.1.1, by have := hf.1.2; have := hg'.1.2; omega⟩, fun e to st he t1 t2 t3 => ?_⟩
  have q1 := hf.1
  have q2 := hg'.1
  rw [hf.2 e to st he (by omega) (by omega) t3]
  unfold mTwo
  cases h1 : f e with
  | none => rfl
  | some a =>
    dsimp only
    rw [hg'.2 e to (a :: st) he (by omega) (by omega) (by rw [List.length_cons]; omega)]
    cases h4 : g e with
    | none => rfl
    | some b =>
      dsimp only
      rw [tRn_eq (by omega) (by omega) (by omega), if_neg (by rw [List.length_cons, List.length_cons]; omega), show co n2 % 16 = w by omega, if_neg (by omega)]
      dsimp only
      rw [if_pos w1.2, hw]
      have j := tJoin_m o0 o6 (bf e he a h1) (bg e he b h4)
      cases hb : mBin o a b with
      | none => rw [if_pos (j.1 hb)]
      | some x =>
        have jx := j.2 x hb
        rw [jx.1, if_neg (by unfold NOTH; omega)]
theorem CMP_not {co : Int → Int} {n0 n1 hg : Int} {f : ME} (hf : CMP co n0 n1 hg f) (h3 : 3 ≤ hg) (hc : co n1 = 11) : CMP co n0 (n1 + 1) hg (mNot f) := by
  have q1 := hf.1
  refine ⟨⟨q1.1, by omega⟩, fun e to st he t1 t2 t3 => ?_⟩
  rw [hf.2 e to st he (by omega) (by omega) t3]
  unfold mNot
  cases h1 : f e with
  | none => rfl
  | some a =>
    dsimp only
    rw [tRn_eq (by omega) (by omega) (by omega), if_neg (by rw [List.length_cons]; omega), show co n1 % 16 = 11 by omega, if_neg (by omega)]
    rfl
theorem CMP_or {co : Int → Int} {n0 n1 n2 hg : Int} {f g : ME} (hf : CMP co n0 n1 hg f) (hg' : CMP co (n1 + 1) n2 hg g) (h3 : 3 ≤ hg) (hc : co n1 = 12 + 16 * n2) : CMP co n0 n2 hg (mOr f g) := by
  have q1 := hf.1
  have q2 := hg'.1
  refine ⟨⟨q1.1, by omega⟩, fun e to st he t1 t2 t3 => ?_⟩
  rw [hf.2 e to st he (by omega) (by omega) t3]
  unfold mOr
  cases h1 : f e with
  | none => rfl
  | some a =>
    dsimp only
    rw [tRn_eq (by omega) (by omega) (by omega), if_neg (by rw [List.length_cons]; omega), show co n1 % 16 = 12 by omega, show co n1 / 16 = n2 by omega, if_neg (by omega)]
    dsimp only
    rw [if_neg (by omega), if_neg (by omega), if_pos rfl]
    by_cases ha : a = 1
    · rw [if_pos ha, if_pos ha, show max n1 (n2 - 1) + 1 = n2 by omega, ha]
    · rw [if_neg ha, if_neg ha]
      exact hg'.2 e to st he t1 t2 t3
theorem CMP_and {co : Int → Int} {n0 n1 n2 hg : Int} {f g : ME} (hf : CMP co n0 n1 hg f) (hg' : CMP co (n1 + 1) n2 hg g) (h3 : 3 ≤ hg) (hc : co n1 = 13 + 16 * n2) : CMP co n0 n2 hg (mAnd f g) := by
  have q1 := hf.1
  have q2 := hg'.1
  refine ⟨⟨q1.1, by omega⟩, fun e to st he t1 t2 t3 => ?_⟩
  rw [hf.2 e to st he (by omega) (by omega) t3]
  unfold mAnd
  cases h1 : f e with
  | none => rfl
  | some a =>
    dsimp only
    rw [tRn_eq (by omega) (by omega) (by omega), if_neg (by rw [List.length_cons]; omega), show co n1 % 16 = 13 by omega, show co n1 / 16 = n2 by omega, if_neg (by omega)]
    dsimp only
    rw [if_neg (by omega), if_neg (by omega), if_neg (show ¬ (13 : Int) = 12 by omega)]
    by_cases ha : a = 0
    · rw [if_pos ha, if_pos ha, show max n1 (n2 - 1) + 1 = n2 by omega, ha]
    · rw [if_neg ha, if_neg ha]
      exact hg'.2 e to st he t1 t2 t3
