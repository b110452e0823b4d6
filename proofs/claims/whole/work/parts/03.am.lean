/-! THE SMALL MACHINE: a machine over numbers that stands for the cells that the law makes. am_ev runs a method from one cut to the next. -/
abbrev AC : Type := Nat × Nat × (Nat → Value)
abbrev AH : Type := Nat × Nat × (Nat → AC)
abbrev LV : Type := List (Nat × Value)
abbrev RS : Type := Option Value × AH
/-- instruction, length, three numbers, a value -/
abbrev EN : Type := Instr × Nat × Nat × Nat × Nat × Value
abbrev CD : Type := List (Nat × List (Nat × EN))
/-- cells that stood before the law began -/
abbrev am_old : Nat := 29
def am_look {α : Type} : List (Nat × α) → Nat → Option α
  | [], _ => none
  | q :: l, i => bif Nat.beq q.1 i then some q.2 else am_look l i
def am_code (c : CD) (pc : Nat) : Option EN := match am_look c (pc / 16) with
  | none => none
  | some l => am_look l pc
def am_s1 (l : LV) (i : Nat) (v : Value) : LV := (i, v) :: l.filter (fun q => !(q.1 == i) && !(q.1 + 1 == i && q.2.category == 2))
def am_s2 (l : LV) (i : Nat) (v : Value) : LV := (i, v) :: l.filter (fun q => !(q.1 == i) && (!(q.1 == i + 1) && !(q.1 + 1 == i && q.2.category == 2)))
def am_pick : List Nat → LV → Option LV
  | [], _ => some []
  | i :: is, l => match am_look l i with
    | none => none
    | some v => match am_pick is l with
      | none => none
      | some r => some ((i, v) :: r)
def am_cell (h : AH) (a : Nat) : Option AC := if a < h.1 then some (h.2.2 a) else none
def am_set (h : AH) (a : Nat) (c : AC) : AH := (h.1, h.2.1, va_up h.2.2 a c)
def am_new (h : AH) (c : AC) : AH := (h.1 + 1, h.2.1 + c.2.1, va_up h.2.2 h.1 c)
def am_f (h : AH) (a ci k : Nat) : Option Value := match am_cell h a with
  | some (c, n, f) => if c = ci ∧ k < n then some (f k) else none
  | none => none
def am_fI (h : AH) (a ci k : Nat) : Option Int32 := match am_f h a ci k with
  | some (.int x) => some x
  | _ => none
def am_fL (h : AH) (a ci k : Nat) : Option Int64 := match am_f h a ci k with
  | some (.long x) => some x
  | _ => none
def am_fR (h : AH) (a ci k : Nat) : Option Nat := match am_f h a ci k with
  | some (.ref x) => some x
  | _ => none
def am_pf (h : AH) (a ci k : Nat) (v : Value) : Option AH := match am_cell h a with
  | some (c, n, f) => if c = ci ∧ k < n ∧ am_old ≤ a then some (am_set h a (c, n, va_up f k v)) else none
  | none => none
/-- 0 or 1 -/
def am_pz (h : AH) (a ci k : Nat) (x : Int32) : Option AH := if x = 0 ∨ x = 1 then am_pf h a ci k (.int x) else none
def am_a (h : AH) (kd a : Nat) (i : Int32) : Option Value := match am_cell h a with
  | some (c, n, f) => if c = kd ∧ ¬ (i < 0 ∨ n ≤ i.toNatClampNeg) then some (f i.toNatClampNeg) else none
  | none => none
def am_aI (h : AH) (a : Nat) (i : Int32) : Option Int32 := match am_a h 100 a i with
  | some (.int x) => some x
  | _ => none
def am_aL (h : AH) (a : Nat) (i : Int32) : Option Int64 := match am_a h 101 a i with
  | some (.long x) => some x
  | _ => none
def am_aB (h : AH) (a : Nat) (i : Int32) : Option Int32 := match am_a h 102 a i with
  | some (.int x) => some x
  | _ => match am_a h 103 a i with
    | some (.int x) => some x
    | _ => none
def am_aR (h : AH) (a : Nat) (i : Int32) : Option Nat := match am_a h 104 a i with
  | some (.ref x) => some x
  | _ => none
def am_st (h : AH) (kd a : Nat) (i : Int32) (v : Value) : Option AH := match am_cell h a with
  | some (c, n, f) => if c = kd ∧ ¬ (i < 0 ∨ n ≤ i.toNatClampNeg) ∧ am_old ≤ a then some (am_set h a (c, n, va_up f i.toNatClampNeg v)) else none
  | none => none
def am_stB (h : AH) (a : Nat) (i x : Int32) : Option AH := match am_cell h a with
  | some (c, _, _) => if c = 102 then am_st h 102 a i (narrow .byte (.int x)) else if c = 103 then am_st h 103 a i (narrow .boolean (.int x)) else none
  | none => none
/-- a book into the row of books -/
def am_stR (h : AH) (a : Nat) (i : Int32) (v : Nat) : Option AH := match am_cell h v with
  | some (c, _, _) => if c = 0 then am_st h 104 a i (.ref v) else none
  | none => none
def am_len (h : AH) (a : Nat) : Option Int32 := match am_cell h a with
  | some (c, n, _) => if 100 ≤ c ∧ c < 105 then some (Int32.ofNat n) else none
  | none => none
/-- System.arraycopy of ints -/
def am_copy (h : AH) (a : Nat) (sp : Int32) (b : Nat) (dp n : Int32) : Option AH := match am_cell h a, am_cell h b with
  | some (c, m, f), some (c', m', g) =>
    if (c = 100 ∧ c' = 100 ∧ am_old ≤ b) ∧ (¬ sp < 0 ∧ ¬ dp < 0 ∧ ¬ n < 0) ∧ sp.toNatClampNeg + n.toNatClampNeg ≤ m ∧ dp.toNatClampNeg + n.toNatClampNeg ≤ m' ∧ (∀ i, i < n.toNatClampNeg → fits .int (f (sp.toNatClampNeg + i)) = true)
    then some (am_set h b (c', m', va_cpy f g sp.toNatClampNeg dp.toNatClampNeg n.toNatClampNeg)) else none
  | _, _ => none
/-- the class and place of a cell's kind -/
def am_isK (h : AH) (a ci : Nat) : Bool := match am_cell h a with
  | some (c, _, _) => Nat.beq c ci
  | none => false
def am_aty : Nat → FieldType
  | 100 => .int
  | 101 => .long
  | 102 => .byte
  | 103 => .boolean
  | _ => .object "ForgetfulRider$Book"
def am_cI (r : Option RS) (k : Int32 → AH → Option RS) : Option RS := match r with
  | some (some (.int x), h) => k x h
  | _ => none
def am_cL (r : Option RS) (k : Int64 → AH → Option RS) : Option RS := match r with
  | some (some (.long x), h) => k x h
  | _ => none
def am_cV (r : Option RS) (k : AH → Option RS) : Option RS := match r with
  | some (none, h) => k h
  | _ => none
/-- how wide what lies on the stack is -/
def am_wid : List Value → Nat
  | [] => 0
  | v :: st => v.category + am_wid st
def am_few (st : List Value) : Bool := Nat.ble (am_wid st) 8
/-- n values off the stack, the deepest first -/
def am_pop : Nat → List Value → List Value → Option (List Value × List Value)
  | 0, st, acc => some (acc, st)
  | n + 1, v :: st, acc => am_pop n st (v :: acc)
  | _ + 1, [], _ => none
def am_sw (x : Int32) (d : Option RS) : Int → List (Option RS) → Option RS
  | _, [] => d
  | lo, r :: rs => if x = Int32.ofInt lo then r else am_sw x d (lo + 1) rs
abbrev GT : Type := Nat → List Value → AH → Option RS
abbrev KT : Type := LV → List Value → AH → Option RS
