/-! WHAT IS MEANT: the language of ENDS, the class's code for it, what is between class and reference -/
abbrev ME : Type := (Int → Int) → Option Int
def NOTH : Int := -1000000000000000000
def mChk (x : Int) : Option Int := if 1000000000 < x ∨ x < -1000000000 then none else some x
def mBin (o : Int) (a b : Int) : Option Int :=
  if o = 0 then mChk (a + b) else if o = 1 then mChk (a - b) else if o = 2 then mChk (a * b)
  else if o = 3 then (if b = 0 then none else some (a.tdiv b))
  else if o = 4 then some (if a < b then 1 else 0) else if o = 5 then some (if b < a then 1 else 0) else some (if a = b then 1 else 0)
def mTwo (o : Int) (h w : ME) : ME := fun e => match h e with
  | none => none
  | some a => match w e with
    | none => none
    | some b => mBin o a b
def mOr (h w : ME) : ME := fun e => match h e with
  | none => none
  | some a => if a = 1 then some 1 else w e
def mAnd (h w : ME) : ME := fun e => match h e with
  | none => none
  | some a => if a = 0 then some 0 else w e
def mNot (h : ME) : ME := fun e => match h e with
  | none => none
  | some a => some (1 - a)
def mLeaf (c v : Int) : ME := fun e => some (if c = 50 then v else e (c - 11))
/-- where it goes on, leaves so far, the meaning; none: FAULT there -/
abbrev PR : Type := Int × Int × Option ME
def pB (q : PR) (F : Int → Int → ME → PR) : PR := match q with
  | (i, lv, some h) => F i lv h
  | (i, lv, none) => (i, lv, none)
/-- the language: 0 TEST, 1 its rest, 2 BOTH, 3 its rest, 4 PLAIN, 5 behind the nots, 6 SUM, 7 its rest, 8 TERM, 9 its rest, 10 PART -/
def pP (c v : Int → Int) : Nat → Nat → Int → Int → Int → ME → PR
  | 0, _, _, i, lv, _ => (i, lv, none)
  | n + 1, m, dp, i, lv, h =>
    match m with
    | 0 => pB (pP c v n 2 dp i lv h) fun i1 lv1 h1 => pP c v n 1 dp i1 lv1 h1
    | 1 => if c i = 8 then pB (pP c v n 2 dp (i + 1) lv h) (fun i1 lv1 h1 => pP c v n 1 dp i1 lv1 (mOr h h1)) else (i, lv, some h)
    | 2 => pB (pP c v n 4 dp i lv h) fun i1 lv1 h1 => pP c v n 3 dp i1 lv1 h1
    | 3 => if c i = 9 then pB (pP c v n 4 dp (i + 1) lv h) (fun i1 lv1 h1 => pP c v n 3 dp i1 lv1 (mAnd h h1)) else (i, lv, some h)
    | 4 => if c i = 10 then pB (pP c v n 4 dp (i + 1) lv h) (fun i1 lv1 h1 => (i1, lv1, some (mNot h1))) else pP c v n 5 dp i lv h
    | 5 => if c i = 140 then (if dp = 8 then (i, lv, none) else pB (pP c v n 0 (dp + 1) (i + 1) lv h) fun i1 lv1 h1 => if c i1 = 141 then (i1 + 1, lv1, some h1) else (i1, lv1, none))
      else pB (pP c v n 6 dp i lv h) fun i1 lv1 h1 => if c i1 = 160 ∨ c i1 = 161 ∨ c i1 = 162 then pB (pP c v n 6 dp (i1 + 1) lv1 h) (fun i2 lv2 h2 => (i2, lv2, some (mTwo (if c i1 = 160 then 4 else if c i1 = 162 then 5 else 6) h1 h2))) else (i1, lv1, none)
    | 6 => pB (pP c v n 8 dp i lv h) fun i1 lv1 h1 => pP c v n 7 dp i1 lv1 h1
    | 7 => if c i = 143 ∨ c i = 145 then pB (pP c v n 8 dp (i + 1) lv h) (fun i1 lv1 h1 => pP c v n 7 dp i1 lv1 (mTwo (if c i = 143 then 0 else 1) h h1)) else (i, lv, some h)
    | 8 => pB (pP c v n 10 dp i lv h) fun i1 lv1 h1 => pP c v n 9 dp i1 lv1 h1
    | 9 => if c i = 142 ∨ c i = 147 then pB (pP c v n 10 dp (i + 1) lv h) (fun i1 lv1 h1 => pP c v n 9 dp i1 lv1 (mTwo (if c i = 142 then 2 else 3) h h1)) else (i, lv, some h)
    | _ => if c i = 191 then (if dp = 8 then (i, lv, none) else pB (pP c v n 6 (dp + 1) (i + 1) lv h) fun i1 lv1 h1 => if c i1 = 193 then (i1 + 1, lv1, some h1) else (i1, lv1, none))
      else if (c i = 50 ∧ 0 ≤ v i ∧ v i ≤ 1000) ∨ (11 ≤ c i ∧ c i ≤ 13) then (if lv = 50 then (i, lv, none) else (i + 1, lv + 1, some (mLeaf (c i) (v i))))
      else (i, lv, none)
theorem pP_0 (c v : Int → Int) (n : Nat) (dp i lv : Int) (h : ME) : pP c v (n + 1) 0 dp i lv h = (pB (pP c v n 2 dp i lv h) fun i1 lv1 h1 => pP c v n 1 dp i1 lv1 h1) := rfl
theorem pP_1 (c v : Int → Int) (n : Nat) (dp i lv : Int) (h : ME) : pP c v (n + 1) 1 dp i lv h = (if c i = 8 then pB (pP c v n 2 dp (i + 1) lv h) (fun i1 lv1 h1 => pP c v n 1 dp i1 lv1 (mOr h h1)) else (i, lv, some h)) := rfl
theorem pP_2 (c v : Int → Int) (n : Nat) (dp i lv : Int) (h : ME) : pP c v (n + 1) 2 dp i lv h = (pB (pP c v n 4 dp i lv h) fun i1 lv1 h1 => pP c v n 3 dp i1 lv1 h1) := rfl
theorem pP_3 (c v : Int → Int) (n : Nat) (dp i lv : Int) (h : ME) : pP c v (n + 1) 3 dp i lv h = (if c i = 9 then pB (pP c v n 4 dp (i + 1) lv h) (fun i1 lv1 h1 => pP c v n 3 dp i1 lv1 (mAnd h h1)) else (i, lv, some h)) := rfl
theorem pP_4 (c v : Int → Int) (n : Nat) (dp i lv : Int) (h : ME) : pP c v (n + 1) 4 dp i lv h = (if c i = 10 then pB (pP c v n 4 dp (i + 1) lv h) (fun i1 lv1 h1 => (i1, lv1, some (mNot h1))) else pP c v n 5 dp i lv h) := rfl
theorem pP_5 (c v : Int → Int) (n : Nat) (dp i lv : Int) (h : ME) : pP c v (n + 1) 5 dp i lv h = (if c i = 140 then (if dp = 8 then (i, lv, none) else pB (pP c v n 0 (dp + 1) (i + 1) lv h) fun i1 lv1 h1 => if c i1 = 141 then (i1 + 1, lv1, some h1) else (i1, lv1, none))
      else pB (pP c v n 6 dp i lv h) fun i1 lv1 h1 => if c i1 = 160 ∨ c i1 = 161 ∨ c i1 = 162 then pB (pP c v n 6 dp (i1 + 1) lv1 h) (fun i2 lv2 h2 => (i2, lv2, some (mTwo (if c i1 = 160 then 4 else if c i1 = 162 then 5 else 6) h1 h2))) else (i1, lv1, none)) := rfl
theorem pP_6 (c v : Int → Int) (n : Nat) (dp i lv : Int) (h : ME) : pP c v (n + 1) 6 dp i lv h = (pB (pP c v n 8 dp i lv h) fun i1 lv1 h1 => pP c v n 7 dp i1 lv1 h1) := rfl
theorem pP_7 (c v : Int → Int) (n : Nat) (dp i lv : Int) (h : ME) : pP c v (n + 1) 7 dp i lv h = (if c i = 143 ∨ c i = 145 then pB (pP c v n 8 dp (i + 1) lv h) (fun i1 lv1 h1 => pP c v n 7 dp i1 lv1 (mTwo (if c i = 143 then 0 else 1) h h1)) else (i, lv, some h)) := rfl
theorem pP_8 (c v : Int → Int) (n : Nat) (dp i lv : Int) (h : ME) : pP c v (n + 1) 8 dp i lv h = (pB (pP c v n 10 dp i lv h) fun i1 lv1 h1 => pP c v n 9 dp i1 lv1 h1) := rfl
theorem pP_9 (c v : Int → Int) (n : Nat) (dp i lv : Int) (h : ME) : pP c v (n + 1) 9 dp i lv h = (if c i = 142 ∨ c i = 147 then pB (pP c v n 10 dp (i + 1) lv h) (fun i1 lv1 h1 => pP c v n 9 dp i1 lv1 (mTwo (if c i = 142 then 2 else 3) h h1)) else (i, lv, some h)) := rfl
theorem pP_10 (c v : Int → Int) (n : Nat) (dp i lv : Int) (h : ME) : pP c v (n + 1) 10 dp i lv h = (if c i = 191 then (if dp = 8 then (i, lv, none) else pB (pP c v n 6 (dp + 1) (i + 1) lv h) fun i1 lv1 h1 => if c i1 = 193 then (i1 + 1, lv1, some h1) else (i1, lv1, none))
      else if (c i = 50 ∧ 0 ≤ v i ∧ v i ≤ 1000) ∨ (11 ≤ c i ∧ c i ≤ 13) then (if lv = 50 then (i, lv, none) else (i + 1, lv + 1, some (mLeaf (c i) (v i))))
      else (i, lv, none)) := rfl
theorem pB_some {q : PR} {F : Int → Int → ME → PR} {j lv : Int} {f : ME} (h : pB q F = (j, lv, some f)) : ∃ i1 lv1 h1, q = (i1, lv1, some h1) ∧ F i1 lv1 h1 = (j, lv, some f) := by
  obtain ⟨i1, lv1, o⟩ := q
  cases o with
  | none => cases h
  | some h1 => exact ⟨i1, lv1, h1, rfl, h⟩
/-- what an END is worth, by the meanings of its SUM and its TEST -/
def mEnd (a : ME) (t : Option ME) : (Int → Int) → Int := fun e =>
  if (match t with
    | none => some 1
    | some t => t e) = some 1 then (match a e with
    | none => 0
    | some x => max (-999) (min 999 x)) else 0
def mEnv (s p d : Int) : Int → Int := fun i => if i = 0 then s else if i = 1 then p else d
def cTok (K : Int → Int) (i : Int) : Int := if 0 ≤ i ∧ i < K 183 then K (184 + i) else 0
def vTok (K : Int → Int) (i : Int) : Int := if 0 ≤ i ∧ i < K 183 then K (584 + i) else 0
/-- the TOKENS from i on tell of an END that is worth f -/
def gEnd (c v : Int → Int) (n : Nat) (i : Int) (f : (Int → Int) → Int) : Prop := ∃ lv j lv1 a, pP c v n 6 0 i lv (mLeaf 50 0) = (j, lv1, some a) ∧ (if c j = 7 then ∃ j2 lv2 t, pP c v n 0 0 (j + 1) lv1 (mLeaf 50 0) = (j2, lv2, some t) ∧ f = mEnd a (some t) else f = mEnd a none)
/-- the class's code, run -/
def tJoin (w a b : Int) : Int := if w = 8 then (if a < b then 1 else 0) else if w = 9 then (if b < a then 1 else 0) else if w = 10 then (if a = b then 1 else 0)
  else if w = 4 then (mChk (a + b)).getD NOTH else if w = 5 then (mChk (a - b)).getD NOTH else if w = 6 then (mChk (a * b)).getD NOTH else if b = 0 then NOTH else a.tdiv b
def tRun (co : Int → Int) (e : Int → Int) (to : Int) : Nat → Int → List Int → Int
  | 0, _, _ => NOTH
  | n + 1, i, st => if i < to ∧ i < 400 then
      (if 32 ≤ st.length then NOTH
      else if co i % 16 < 4 then tRun co e to n (i + 1) ((if co i % 16 = 0 then co i / 16 else e (co i % 16 - 1)) :: st)
      else match st with
        | [] => NOTH
        | b :: st1 => if co i % 16 < 11 then (match st1 with
            | [] => NOTH
            | a :: st2 => if tJoin (co i % 16) a b = NOTH then NOTH else tRun co e to n (i + 1) (tJoin (co i % 16) a b :: st2))
          else if co i % 16 = 11 then tRun co e to n (i + 1) ((1 - b) :: st1)
          else if b = (if co i % 16 = 12 then 1 else 0) then tRun co e to n (max i (co i / 16 - 1) + 1) st
          else tRun co e to n (i + 1) st1)
    else st.getLastD NOTH
/-- the class's Land and Book by rows: 0 the object, 1 kind, 2 look, 3 toll, 4 roadCount, 5 roadTo, 6 turnTenth, 7 sumFrom, 8 sumTo, 9 testTo, 10 code, 11 term, 12 tenth -/
abbrev LB : Type := Nat → Int → Int
def tTell (L : LB) (p s d : Int) : Int :=
  if L 8 p < L 9 p ∧ tRun (L 10) (mEnv s p d) (L 9 p) 401 (L 8 p) [] ≠ 1 then 0
  else if tRun (L 10) (mEnv s p d) (L 8 p) 401 (L 7 p) [] = NOTH then 0
  else max (-999) (min 999 (tRun (L 10) (mEnv s p d) (L 8 p) 401 (L 7 p) []))
/-- a COUNTRY in the reference's words -/
def WP (K : Int → Int) (p : Int) : Prop :=
  (0 ≤ K (10 * p) ∧ K (10 * p) ≤ 3) ∧ (K (10 * p) = 0 → (0 ≤ K (10 * p + 1) ∧ K (10 * p + 1) ≤ 5) ∧ 1 ≤ K (10 * p + 2) ∧ K (10 * p + 2) ≤ 3)
  ∧ (K (10 * p) = 1 → (1 ≤ K (10 * p + 2) ∧ K (10 * p + 2) ≤ 3) ∧ (∀ k, 0 ≤ k → k < K (10 * p + 2) → 1 ≤ K (10 * p + 6 + k) ∧ K (10 * p + 6 + k) ≤ 10) ∧ K (10 * p + 6) + K (10 * p + 7) + K (10 * p + 8) = 10 ∧ (K (10 * p + 2) ≤ 1 → K (10 * p + 7) = 0) ∧ (K (10 * p + 2) ≤ 2 → K (10 * p + 8) = 0))
  ∧ (K (10 * p) = 2 → (0 ≤ K (10 * p + 1) ∧ K (10 * p + 1) ≤ 99) ∧ K (10 * p + 2) = 1) ∧ (K (10 * p) = 3 → K (10 * p + 2) = 0)
  ∧ ∀ k, 0 ≤ k → k < K (10 * p + 2) → 0 ≤ K (10 * p + 3 + k) ∧ K (10 * p + 3 + k) ≤ 15
def WF (K : Int → Int) : Prop :=
  (0 ≤ K 182 ∧ K 182 ≤ 16) ∧ (0 ≤ K 178 ∧ K 178 ≤ 15) ∧ (1 ≤ K 179 ∧ K 179 ≤ 10) ∧ (-999 ≤ K 180 ∧ K 180 ≤ 999) ∧ (-999 ≤ K 181 ∧ K 181 ≤ 999)
  ∧ (∀ l, 0 ≤ l → l < 6 → 0 ≤ K (160 + 3 * l) ∧ 0 ≤ K (161 + 3 * l) ∧ 0 ≤ K (162 + 3 * l) ∧ K (160 + 3 * l) + K (161 + 3 * l) + K (162 + 3 * l) = 10)
  ∧ (0 ≤ K 183 ∧ K 183 ≤ 400) ∧ ∀ p, 0 ≤ p → p < K 182 → WP K p
/-- a PLACE of the class against the reference's -/
def PQ (K : Int → Int) (L : LB) (p : Int) : Prop :=
  L 1 p = K (10 * p) ∧ (K (10 * p) = 0 → L 2 p = K (10 * p + 1)) ∧ (K (10 * p) = 2 → L 3 p = K (10 * p + 1)) ∧ (K (10 * p) ≠ 2 → L 3 p = 0) ∧ L 4 p = K (10 * p + 2)
  ∧ (∀ k, 0 ≤ k → k < K (10 * p + 2) → L 5 (p * 3 + k) = K (10 * p + 3 + k)) ∧ (K (10 * p) = 1 → ∀ k, 0 ≤ k → k < K (10 * p + 2) → L 6 (p * 3 + k) = K (10 * p + 6 + k))
def EQ (K : Int → Int) (L : LB) (p : Int) : Prop := (0 ≤ L 7 p ∧ 0 ≤ L 8 p ∧ 0 ≤ K (10 * p + 9)) ∧ ∃ f, gEnd (cTok K) (vTok K) 5000 (K (10 * p + 9)) f ∧ ∀ s d, 0 ≤ s → s ≤ 10 → 1 ≤ d → d ≤ 10 → tTell L p s d = f (mEnv s p d)
/-- the class's Book against the reference's kept row -/
def BK (K : Int → Int) (L : LB) : Prop := WF K ∧ L 0 0 = K 182 ∧ (∀ p, 0 ≤ p → p < K 182 → PQ K L p ∧ (K (10 * p) = 3 → EQ K L p)) ∧ (∀ i, 0 ≤ i → i < 4 → L 11 i = K (178 + i)) ∧ ∀ i, 0 ≤ i → i < 18 → L 12 i = K (160 + i)
theorem BK.congr {K : Int → Int} {L L' : LB} (h : BK K L) (e : ∀ j, j ≤ 12 → L' j = L j) : BK K L' := by
  obtain ⟨h1, h2, h3, h4, h5⟩ := h
  refine ⟨h1, by rw [e 0 (by decide)]; exact h2, fun p p0 p1 => ?_, fun i i0 i1 => by rw [e 11 (by decide)]; exact h4 i i0 i1, fun i i0 i1 => by rw [e 12 (by decide)]; exact h5 i i0 i1⟩
  obtain ⟨q1, q2⟩ := h3 p p0 p1
  constructor
  · unfold PQ at *
    rw [e 1 (by decide), e 2 (by decide), e 3 (by decide), e 4 (by decide), e 5 (by decide), e 6 (by decide)]
    exact q1
  · intro hk
    have := q2 hk
    unfold EQ tTell at *
    rw [e 7 (by decide), e 8 (by decide), e 9 (by decide), e 10 (by decide)]
    exact this
/-- what is between class and reference -/
abbrev bL (M : ZM) (a : Nat) : LB := fun j => M (a + j)
def JT (M : ZM) : Prop := (M 29 1 = M 113 9 ∧ 0 ≤ M 29 1 ∧ M 29 1 ≤ 400) ∧ M 29 2 = M 113 10 ∧ ∀ i, 0 ≤ i → i < M 29 1 → M 30 i = M 119 i ∧ -128 ≤ M 119 i ∧ M 119 i ≤ 127
def JR (t : Nat) (M : ZM) : Prop := M 29 15 = M 113 0 ∧ (M 112 0 = M 114 1 ∧ 0 ≤ M 114 1 ∧ M 114 1 ≤ t) ∧ (M 112 1 = M 114 2 ∧ 0 ≤ M 114 2 ∧ M 114 2 ≤ t) ∧ (M 112 2 = M 114 3 ∧ 0 ≤ M 114 3 ∧ M 114 3 ≤ t) ∧ (M 112 3 = M 114 6 ∧ 0 ≤ M 114 6 ∧ M 114 6 ≤ t)
def JI (M : ZM) : Prop := (M 86 0 = M 117 0 ∧ (M 117 0 = 0 ∨ M 117 0 = 1)) ∧ (M 86 1 = M 117 1 ∧ (M 117 1 = 0 ∨ M 117 1 = 1)) ∧ (M 117 0 = 1 → BK (fun i => M 116 i) (bL M 59)) ∧ (M 117 1 = 1 → BK (fun i => M 116 (984 + i)) (bL M 73))
def JP (M : ZM) : Prop := (M 110 3 = M 113 46 ∧ -1 ≤ M 113 46 ∧ M 113 46 ≤ 10) ∧ M 110 4 = M 113 47 ∧ ∀ i, 0 ≤ i → i ≤ M 113 46 → M 111 i = M 139 i
def EW (M : ZM) (p s : Int) : Int := tTell (bL M 44) p s (M 115 179)
def JW (t : Nat) (M : ZM) : Prop := (0 ≤ M 113 1 ∧ M 113 1 ≤ t) ∧ (-1 ≤ M 113 26 ∧ M 113 26 ≤ M 113 1) ∧ (M 113 26 = M 113 1 → ∀ p s, 0 ≤ p → p < M 115 182 → 0 ≤ s → s ≤ 10 → M 126 (11 * p + s) = if M 115 (10 * p) = 3 then EW M p s else 0)
def zwords : List Int := [102, 111, 114, 107, 32, 116, 111, 32, 116, 117, 114, 110, 32, 98, 121, 32, 105, 110, 110, 32, 101, 110, 100, 32, 105, 102, 32, 111, 114, 32, 97, 110, 100, 32, 110, 111, 116, 32, 115, 116, 101, 112, 32, 112, 108, 97, 99, 101, 32, 100, 97, 121, 32]
def JX (M : ZM) : Prop := M 113 29 = 0 ∧ ∀ i : Nat, i < 53 → M 118 i = zwords.getD i 0
def JF (M : ZM) : Prop := ((M 106 1 = 107 ∧ M 106 2 = 108) ∨ (M 106 1 = 108 ∧ M 106 2 = 107))
def J (t : Nat) (M : ZM) : Prop := JT M ∧ JR t M ∧ BK (M 115) (bL M 44) ∧ JI M ∧ JP M ∧ JW t M ∧ JX M ∧ JF M
