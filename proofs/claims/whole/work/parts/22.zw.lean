/-! from one cut to the next: what is wanted, as one proposition; and that it is enough -/
def zqV (k : ZM → Prop) (r : Option ZV) (M : ZM) : Prop := match r with
  | none => k M
  | _ => False
def zqI (k : Int → ZM → Prop) (r : Option ZV) (M : ZM) : Prop := match r with
  | some (.inl x) => k x M
  | _ => False
def zqL (k : Int → ZM → Prop) (r : Option ZV) (M : ZM) : Prop := match r with
  | some (.inr (.inl x)) => k x M
  | _ => False
/-- the small machine's answer, in whole numbers -/
def zok (o : Option RS) (g : Nat → AC) (Q : Option ZV → ZM → Prop) : Prop := ∃ r M', o = some (r.map zv, hp g M') ∧ (∀ v, r = some v → zr v) ∧ RG M' ∧ Q r M'
/-- a call of method j ends so that Q -/
def zcall (d j : Nat) (as : List ZV) (M : ZM) (Q : Option ZV → ZM → Prop) : Prop := ∀ g, RG M → oks as → zok (am_sem d j (zms as) (hp g M)) g Q
abbrev zcV (d j : Nat) (as : List ZV) (M : ZM) (k : ZM → Prop) : Prop := zcall d j as M (zqV k)
abbrev zcI (d j : Nat) (as : List ZV) (M : ZM) (k : Int → ZM → Prop) : Prop := zcall d j as M (zqI k)
abbrev zcL (d j : Nat) (as : List ZV) (M : ZM) (k : Int → ZM → Prop) : Prop := zcall d j as M (zqL k)
/-- a method, from a cut of it on, ends so that Q -/
def zlp (C : CD) (U : List (Nat × List Nat)) (rt d pc : Nat) (l : ZL) (M : ZM) (Q : Option ZV → ZM → Prop) : Prop := ∀ g, RG M → okl l → zok (am_rn C U rt (am_sem d) pc (zml l) (hp g M)) g Q
def z_pick : List Nat → ZL → Option ZL
  | [], _ => some []
  | i :: is, l => match am_look l i with
    | none => none
    | some v => match z_pick is l with
      | none => none
      | some r => some ((i, v) :: r)
def z_pop : Nat → List ZV → List ZV → Option (List ZV × List ZV)
  | 0, st, acc => some (acc, st)
  | n + 1, v :: st, acc => z_pop n st (v :: acc)
  | _ + 1, [], _ => none
abbrev LPT : Type := Nat → ZL → ZM → Prop
def znx (U : List (Nat × List Nat)) (L : LPT) (e : Nat → ZL → List ZV → ZM → Prop) (pc : Nat) (l : ZL) (st : List ZV) (M : ZM) : Prop :=
  match am_look U pc with
  | none => e pc l st M
  | some live => match st with
    | [] => match z_pick live l with
      | some l' => L pc l' M
      | none => False
    | _ => False
def z_sw (x : Int) (d : Prop) : Int → List Prop → Prop
  | _, [] => d
  | lo, r :: rs => (x = lo → r) ∧ (¬ x = lo → z_sw x d (lo + 1) rs)
def z_few (st : List ZV) : Bool := am_few (zms st)
def zgo (rt d j : Nat) (as : List ZV) (M : ZM) (st : List ZV) (k : List ZV → ZM → Prop) : Prop := match rt with
  | 0 => zcV d j as M (fun M => k st M)
  | 2 => zcL d j as M (fun x M => k (zJ x :: st) M)
  | _ => zcI d j as M (fun x M => k (zI x :: st) M)
def zbd (C : CD) (U : List (Nat × List Nat)) (rt d : Nat) (L : LPT) (Q : Option ZV → ZM → Prop) (e : Nat → ZL → List ZV → ZM → Prop) (pc : Nat) (l : ZL) (st : List ZV) (M : ZM) : Prop :=
  match am_code C pc with
  | none => False
  | some (i, len, r1, r2, _, v) =>
    match i with
    | .goto _ => znx U L e r1 l st M
    | .ifCond c _ => match st with
      | .inl x :: st => match c with
        | .eq => (x = 0 → znx U L e r1 l st M) ∧ (¬ x = 0 → znx U L e (pc + 3) l st M)
        | .ne => (¬ x = 0 → znx U L e r1 l st M) ∧ (x = 0 → znx U L e (pc + 3) l st M)
        | .lt => (x < 0 → znx U L e r1 l st M) ∧ (¬ x < 0 → znx U L e (pc + 3) l st M)
        | .ge => (0 ≤ x → znx U L e r1 l st M) ∧ (¬ 0 ≤ x → znx U L e (pc + 3) l st M)
        | .gt => (0 < x → znx U L e r1 l st M) ∧ (¬ 0 < x → znx U L e (pc + 3) l st M)
        | .le => (x ≤ 0 → znx U L e r1 l st M) ∧ (¬ x ≤ 0 → znx U L e (pc + 3) l st M)
      | _ => False
    | .if_icmp c _ => match st with
      | .inl y :: .inl x :: st => match c with
        | .eq => (x = y → znx U L e r1 l st M) ∧ (¬ x = y → znx U L e (pc + 3) l st M)
        | .ne => (¬ x = y → znx U L e r1 l st M) ∧ (x = y → znx U L e (pc + 3) l st M)
        | .lt => (x < y → znx U L e r1 l st M) ∧ (¬ x < y → znx U L e (pc + 3) l st M)
        | .ge => (y ≤ x → znx U L e r1 l st M) ∧ (¬ y ≤ x → znx U L e (pc + 3) l st M)
        | .gt => (y < x → znx U L e r1 l st M) ∧ (¬ y < x → znx U L e (pc + 3) l st M)
        | .le => (x ≤ y → znx U L e r1 l st M) ∧ (¬ x ≤ y → znx U L e (pc + 3) l st M)
      | _ => False
    | .tableswitch d' lo _ offs => match st with
      | .inl x :: st => (-1000 ≤ lo ∧ lo ≤ 1000 ∧ offs.toList.length ≤ 1000) ∧ z_sw x (znx U L e ((pc : Int) + d').toNat l st M) lo (offs.toList.map fun o => znx U L e ((pc : Int) + o).toNat l st M)
      | _ => False
    | .ireturn => match st with
      | [.inl x] => match rt with
        | 1 => Q (some (zI x)) M
        | 3 => (x = 0 ∨ x = 1) ∧ Q (some (zI x)) M
        | 4 => (-128 ≤ x ∧ x ≤ 127) ∧ Q (some (zI x)) M
        | 5 => (0 ≤ x ∧ x ≤ 65535) ∧ Q (some (zI x)) M
        | _ => False
      | _ => False
    | .lreturn => match st with
      | [.inr (.inl x)] => match rt with
        | 2 => Q (some (zJ x)) M
        | _ => False
      | _ => False
    | .return_ => match st with
      | [] => match rt with
        | 0 => Q none M
        | _ => False
      | _ => False
    | .invokevirtual _ => match z_pop (r2 % 100) st [] with
      | some (as, .inr (.inr b) :: st') => bif z_few st' && (Nat.beq (zk b) (r2 / 1000) && Nat.ble (r2 / 1000) 900) then zgo (r2 / 100 % 10) d r1 (zA b :: as) M st' (fun st M => znx U L e (pc + 3) l st M) else False
      | _ => False
    | .invokestatic _ => match r1 with
      | 9002 => match st with
        | .inl k :: .inl dp :: .inr (.inr b) :: .inl sp :: .inr (.inr a) :: st' => bif Nat.ble st'.length 3 && (Nat.beq (zk a) 100 && (Nat.beq (zk b) 100 && Nat.ble 29 b)) then (0 ≤ sp ∧ 0 ≤ dp ∧ 0 ≤ k ∧ sp + k ≤ (zn a : Int) ∧ dp + k ≤ (zn b : Int)) ∧ ∀ M', M' = zcp M a sp b dp k → znx U L e (pc + 3) l st' M' else False
        | _ => False
      | 9003 => match st with
        | .inl y :: .inl x :: st' => bif z_few st' then znx U L e (pc + 3) l (zI (max x y) :: st') M else False
        | _ => False
      | 9004 => match st with
        | .inl y :: .inl x :: st' => bif z_few st' then znx U L e (pc + 3) l (zI (min x y) :: st') M else False
        | _ => False
      | 9005 => match st with
        | .inr (.inl y) :: .inr (.inl x) :: st' => bif z_few st' then znx U L e (pc + 3) l (zJ (max x y) :: st') M else False
        | _ => False
      | 9006 => match st with
        | .inr (.inl y) :: .inr (.inl x) :: st' => bif z_few st' then znx U L e (pc + 3) l (zJ (min x y) :: st') M else False
        | _ => False
      | j => match z_pop (r2 % 100) st [] with
        | some (as, st') => bif z_few st' then zgo (r2 / 100 % 10) d j as M st' (fun st M => znx U L e (pc + 3) l st M) else False
        | _ => False
    | i => z_stp i r1 r2 v l st M (fun l st M => znx U L e (pc + len) l st M)

def zwp (C : CD) (U : List (Nat × List Nat)) (rt d : Nat) (L : LPT) (Q : Option ZV → ZM → Prop) : Nat → Nat → ZL → List ZV → ZM → Prop
  | 0, _, _, _, _ => False
  | n + 1, pc, l, st, M => zbd C U rt d L Q (zwp C U rt d L Q n) pc l st M
def am_bd (C : CD) (U : List (Nat × List Nat)) (rt : Nat) (G : GT) (L : Nat → LV → AH → Option RS) (e : Nat → LV → List Value → AH → Option RS) (pc : Nat) (l : LV) (st : List Value) (h : AH) : Option RS :=
  match am_code C pc with
  | none => none
  | some (i, len, r1, r2, _, v) =>
    match i with
    | .goto _ => am_nx U L e r1 l st h
    | .ifCond c _ => match st with
      | .int x :: st => match c with
        | .eq => if x = 0 then am_nx U L e r1 l st h else am_nx U L e (pc + 3) l st h
        | .ne => if ¬ x = 0 then am_nx U L e r1 l st h else am_nx U L e (pc + 3) l st h
        | .lt => if x < 0 then am_nx U L e r1 l st h else am_nx U L e (pc + 3) l st h
        | .ge => if 0 ≤ x then am_nx U L e r1 l st h else am_nx U L e (pc + 3) l st h
        | .gt => if 0 < x then am_nx U L e r1 l st h else am_nx U L e (pc + 3) l st h
        | .le => if x ≤ 0 then am_nx U L e r1 l st h else am_nx U L e (pc + 3) l st h
      | _ => none
    | .if_icmp c _ => match st with
      | .int y :: .int x :: st => match c with
        | .eq => if x = y then am_nx U L e r1 l st h else am_nx U L e (pc + 3) l st h
        | .ne => if ¬ x = y then am_nx U L e r1 l st h else am_nx U L e (pc + 3) l st h
        | .lt => if x < y then am_nx U L e r1 l st h else am_nx U L e (pc + 3) l st h
        | .ge => if y ≤ x then am_nx U L e r1 l st h else am_nx U L e (pc + 3) l st h
        | .gt => if y < x then am_nx U L e r1 l st h else am_nx U L e (pc + 3) l st h
        | .le => if x ≤ y then am_nx U L e r1 l st h else am_nx U L e (pc + 3) l st h
      | _ => none
    | .tableswitch d lo _ offs => match st with
      | .int x :: st => am_sw x (am_nx U L e ((pc : Int) + d).toNat l st h) lo (offs.toList.map fun o => am_nx U L e ((pc : Int) + o).toNat l st h)
      | _ => none
    | .ireturn => match st with
      | [.int x] => am_ret rt x h
      | _ => none
    | .lreturn => match st with
      | [.long x] => match rt with
        | 2 => some (some (.long x), h)
        | _ => none
      | _ => none
    | .return_ => match st with
      | [] => match rt with
        | 0 => some (none, h)
        | _ => none
      | _ => none
    | .invokevirtual _ => match am_pop (r2 % 100) st [] with
      | some (as, .ref b :: st') => bif am_few st' && am_isK h b (r2 / 1000) then am_go (r2 / 100 % 10) (G r1 (.ref b :: as) h) st' (fun st h => am_nx U L e (pc + 3) l st h) else none
      | _ => none
    | .invokestatic _ => match r1 with
      | 9002 => match st with
        | .int k :: .int dp :: .ref b :: .int sp :: .ref a :: st' => bif Nat.ble st'.length 3 then (am_copy h a sp b dp k).bind fun h => am_nx U L e (pc + 3) l st' h else none
        | _ => none
      | 9003 => match st with
        | .int y :: .int x :: st' => bif am_few st' then am_nx U L e (pc + 3) l (.int (if x < y then y else x) :: st') h else none
        | _ => none
      | 9004 => match st with
        | .int y :: .int x :: st' => bif am_few st' then am_nx U L e (pc + 3) l (.int (if y < x then y else x) :: st') h else none
        | _ => none
      | 9005 => match st with
        | .long y :: .long x :: st' => bif am_few st' then am_nx U L e (pc + 3) l (.long (if y < x then x else y) :: st') h else none
        | _ => none
      | 9006 => match st with
        | .long y :: .long x :: st' => bif am_few st' then am_nx U L e (pc + 3) l (.long (if y < x then y else x) :: st') h else none
        | _ => none
      | j => match am_pop (r2 % 100) st [] with
        | some (as, st') => bif am_few st' then am_go (r2 / 100 % 10) (G j as h) st' (fun st h => am_nx U L e (pc + 3) l st h) else none
        | _ => none
    | .invokespecial _ => match r1 with
      | 9001 => match st with
        | .ref _ :: st' => bif am_few st' then am_nx U L e (pc + 3) l st' h else none
        | _ => none
      | j => match am_pop (r2 % 100) st [] with
        | some (as, .ref b :: st') => bif am_few st' then am_go 0 (G j (.ref b :: as) h) st' (fun st h => am_nx U L e (pc + 3) l st h) else none
        | _ => none
    | i => am_stp i r1 r2 v l st h (fun l st h => am_nx U L e (pc + len) l st h)
theorem am_ev_bd (C : CD) (U : List (Nat × List Nat)) (rt : Nat) (G : GT) (L : Nat → LV → AH → Option RS) (n pc : Nat) (l : LV) (st : List Value) (h : AH) : am_ev C U rt G L (n + 1) pc l st h = am_bd C U rt G L (am_ev C U rt G L n) pc l st h := rfl
/-! it is enough -/
theorem z_pick_map (is : List Nat) (l : ZL) : am_pick is (zml l) = (z_pick is l).map zml := by
  induction is with
  | nil => rfl
  | cons i is ih =>
    unfold am_pick z_pick
    rw [z_look_map, ih]
    cases am_look l i with
    | none => rfl
    | some v =>
      cases z_pick is l with
      | none => rfl
      | some r => rfl
theorem z_pick_ok {l l' : ZL} (hl : okl l) : ∀ {is : List Nat}, z_pick is l = some l' → okl l' := by
  intro is
  induction is generalizing l' with
  | nil => intro h; cases h; intro q hq; cases hq
  | cons i is ih =>
    intro h
    unfold z_pick at h
    split at h
    · cases h
    · rename_i v hv
      split at h
      · cases h
      · rename_i r hr
        cases h
        intro q hq
        rcases List.mem_cons.mp hq with rfl | hq
        · exact z_look_ok hl hv
        · exact ih hr q hq
theorem z_pop_map (n : Nat) : ∀ (st acc : List ZV), am_pop n (zms st) (zms acc) = (z_pop n st acc).map (fun q => (zms q.1, zms q.2)) := by
  induction n with
  | zero => intro st acc; rfl
  | succ n ih =>
    intro st acc
    cases st with
    | nil => rfl
    | cons v st => exact ih st (v :: acc)
theorem z_pop_ok {n : Nat} : ∀ {st acc as st' : List ZV}, oks st → oks acc → z_pop n st acc = some (as, st') → oks as ∧ oks st' := by
  induction n with
  | zero => intro st acc as st' h1 h2 h; cases h; exact ⟨h2, h1⟩
  | succ n ih =>
    intro st acc as st' h1 h2 h
    cases st with
    | nil => cases h
    | cons v st => exact ih h1.tl (oks.cons h1.hd h2) h
theorem zok_go {g : Nat → AC} {rt : Nat} {d j : Nat} {as st : List ZV} {M : ZM} {k : List ZV → ZM → Prop} {Q : Option ZV → ZM → Prop} {K : List Value → AH → Option RS} (h : zgo rt d j as M st k) (R : RG M) (ha : oks as) (hs : oks st) (hk : ∀ st M, k st M → RG M → oks st → zok (K (zms st) (hp g M)) g Q) : zok (am_go rt (am_sem d j (zms as) (hp g M)) (zms st) K) g Q := by
  unfold zgo at h
  split at h
  · obtain ⟨r, M', e, h1, h2, h3⟩ := h g R ha
    rw [e]
    cases r with
    | none => exact hk _ _ h3 h2 hs
    | some v => exact h3.elim
  · obtain ⟨r, M', e, h1, h2, h3⟩ := h g R ha
    rw [e]
    match r, h1, h3 with
    | some (.inr (.inl x)), h1, h3 => exact hk (zJ x :: st) _ h3 h2 (oks.cons (h1 _ rfl) hs)
    | none, _, h3 => exact h3.elim
    | some (.inl _), _, h3 => exact h3.elim
    | some (.inr (.inr _)), _, h3 => exact h3.elim
  · rename_i n0 n2
    obtain ⟨r, M', e, h1, h2, h3⟩ := h g R ha
    rw [e]
    match r, h1, h3 with
    | some (.inl x), h1, h3 =>
      have := hk (zI x :: st) _ h3 h2 (oks.cons (h1 _ rfl) hs)
      match rt, n0, n2 with
      | 0, n0, _ => exact absurd rfl n0
      | 1, _, _ => exact this
      | 2, _, n2 => exact absurd rfl n2
      | n + 3, _, _ => exact this
    | none, _, h3 => exact h3.elim
    | some (.inr _), _, h3 => exact h3.elim
theorem zi_ite {x y : Int} {c : Prop} [Decidable c] : zi (if c then x else y) = if c then zi x else zi y := by
  by_cases h : c
  · rw [if_pos h, if_pos h]
  · rw [if_neg h, if_neg h]
theorem zok_if {g : Nat → AC} {Q : Option ZV → ZM → Prop} {c : Prop} [Decidable c] {p : Prop} {A B : Option RS} (hcp : c = p) (h1 : p → zok A g Q) (h2 : ¬ p → zok B g Q) : zok (if c then A else B) g Q := by
  subst hcp
  by_cases hc : c
  · rw [if_pos hc]; exact h1 hc
  · rw [if_neg hc]; exact h2 hc
theorem zok_sw {g : Nat → AC} {Q : Option ZV → ZM → Prop} {x : Int} (hx : r32 x) : ∀ (ps : List Prop) (os : List (Option RS)) (lo : Int) (D : Prop) (D' : Option RS), -1000 ≤ lo → lo + ps.length ≤ 2000 → z_sw x D lo ps → os.length = ps.length → (∀ (i : Nat) (p : Prop) (o : Option RS), ps[i]? = some p → os[i]? = some o → p → zok o g Q) → (D → zok D' g Q) → zok (am_sw (zi x) D' lo os) g Q := by
  intro ps
  induction ps with
  | nil =>
    intro os lo D D' h1 h2 h hl hk hd
    cases os with
    | nil => exact hd h
    | cons => simp at hl
  | cons p ps ih =>
    intro os lo D D' h1 h2 h hl hk hd
    cases os with
    | nil => simp at hl
    | cons o os =>
      unfold am_sw
      simp only [List.length_cons] at h2
      refine zok_if (p := x = lo) (zi_inj hx.1 hx.2 (by omega) (by omega)) (fun q => hk 0 p o rfl rfl (h.1 q)) (fun q => ?_)
      exact ih os (lo + 1) D D' (by omega) (by omega) (h.2 q) (by simpa using hl) (fun i p o a b => hk (i + 1) p o a b) hd
theorem z_nc {x : Int} (h1 : 0 ≤ x) (h2 : x ≤ 65535) : narrow .char (.int (zi x)) = .int (zi x) := by
  show Value.int (zi x).toUInt32.toUInt16.toUInt32.toInt32 = Value.int (zi x)
  congr 1
  obtain ⟨n, rfl⟩ : ∃ n : Nat, x = n := ⟨x.toNat, by omega⟩
  have hn : n ≤ 65535 := by omega
  unfold zi
  rw [Int32.ofInt_eq_ofNat]
  have e : (Int32.ofNat n).toUInt32 = UInt32.ofNat n := rfl
  rw [e]
  have e2 : (UInt32.ofNat n).toUInt16.toUInt32 = UInt32.ofNat n := by
    apply UInt32.toNat_inj.mp
    simp
    omega
  rw [e2]
  rfl
theorem z_max {x y : Int} (hx : r32 x) (hy : r32 y) : (if zi x < zi y then zi y else zi x) = zi (max x y) := by
  have e := zi_lt hx.1 hx.2 hy.1 hy.2
  by_cases h : x < y
  · rw [if_pos (by rw [e]; exact h), show max x y = y by omega]
  · rw [if_neg (by rw [e]; exact h), show max x y = x by omega]
theorem z_min {x y : Int} (hx : r32 x) (hy : r32 y) : (if zi y < zi x then zi y else zi x) = zi (min x y) := by
  have e := zi_lt hy.1 hy.2 hx.1 hx.2
  by_cases h : y < x
  · rw [if_pos (by rw [e]; exact h), show min x y = y by omega]
  · rw [if_neg (by rw [e]; exact h), show min x y = x by omega]
theorem z_maxL {x y : Int} (hx : r64 x) (hy : r64 y) : (if zl y < zl x then zl x else zl y) = zl (max x y) := by
  have e := zl_lt hy.1 hy.2 hx.1 hx.2
  by_cases h : y < x
  · rw [if_pos (by rw [e]; exact h), show max x y = x by omega]
  · rw [if_neg (by rw [e]; exact h), show max x y = y by omega]
theorem z_minL {x y : Int} (hx : r64 x) (hy : r64 y) : (if zl y < zl x then zl y else zl x) = zl (min x y) := by
  have e := zl_lt hy.1 hy.2 hx.1 hx.2
  by_cases h : y < x
  · rw [if_pos (by rw [e]; exact h), show min x y = y by omega]
  · rw [if_neg (by rw [e]; exact h), show min x y = x by omega]
theorem znx_ok {U : List (Nat × List Nat)} {g : Nat → AC} {Q : Option ZV → ZM → Prop} {L : LPT} {Lm : Nat → LV → AH → Option RS} {e : Nat → ZL → List ZV → ZM → Prop} {E : Nat → LV → List Value → AH → Option RS} (hL : ∀ pc l M, L pc l M → RG M → okl l → zok (Lm pc (zml l) (hp g M)) g Q) (he : ∀ pc l st M, e pc l st M → RG M → okl l → oks st → zok (E pc (zml l) (zms st) (hp g M)) g Q) (pc : Nat) (l : ZL) (st : List ZV) (M : ZM) (h : znx U L e pc l st M) (R : RG M) (hl : okl l) (hs : oks st) : zok (am_nx U Lm E pc (zml l) (zms st) (hp g M)) g Q := by
  unfold znx at h
  unfold am_nx
  generalize am_look U pc = c at h ⊢
  cases c with
  | none => exact he _ _ _ _ h R hl hs
  | some live =>
    cases st with
    | cons v st => exact h.elim
    | nil =>
      dsimp only at h ⊢
      show zok (match am_pick live (zml l) with
        | some l' => Lm pc l' (hp g M)
        | none => none) g Q
      rw [z_pick_map]
      cases hp' : z_pick live l with
      | none => rw [hp'] at h; exact h.elim
      | some l' => rw [hp'] at h; exact hL _ _ _ h R (z_pick_ok hl hp')
theorem zwp_ok {C : CD} {U : List (Nat × List Nat)} {rt d : Nat} {g : Nat → AC} {Q : Option ZV → ZM → Prop} {L : LPT} {Lm : Nat → LV → AH → Option RS} (hL : ∀ pc l M, L pc l M → RG M → okl l → zok (Lm pc (zml l) (hp g M)) g Q) : ∀ (n pc : Nat) (l : ZL) (st : List ZV) (M : ZM), zwp C U rt d L Q n pc l st M → RG M → okl l → oks st → zok (am_ev C U rt (am_sem d) Lm n pc (zml l) (zms st) (hp g M)) g Q := by
  intro n
  induction n with
  | zero => intro pc l st M h; exact h.elim
  | succ n ih =>
    intro pc l st M h R hl hs
    have nx := znx_ok (U := U) hL ih
    have key : ∀ (i : Instr) (r1 r2 : Nat) (v : Value) (len : Nat), z_stp i r1 r2 v l st M (fun l st M => znx U L (zwp C U rt d L Q n) (pc + len) l st M) → zok (am_stp i r1 r2 v (zml l) (zms st) (hp g M) (fun l st h => am_nx U Lm (am_ev C U rt (am_sem d) Lm n) (pc + len) l st h)) g Q := by
      intro i r1 r2 v len h
      obtain ⟨l', st', M', e, h1, h2, h3, h4⟩ := zs_stp (g := g) h R hl hs
      rw [e]
      exact nx _ _ _ _ h4 h1 h2 h3
    replace h : zbd C U rt d L Q (zwp C U rt d L Q n) pc l st M := h
    rw [am_ev_bd]
    unfold zbd at h
    unfold am_bd
    generalize am_code C pc = c at h ⊢
    cases c with
    | none => exact h.elim
    | some q =>
      obtain ⟨i, len, r1, r2, r3, v⟩ := q
      cases i
      case goto => exact nx _ _ _ _ h R hl hs
      case ifCond c o =>
        match st, h, hs with
        | .inl x :: st, h, hs =>
          have hx : r32 x := hs.hd
          have z : ((0 : Int32)) = zi 0 := zi_lit 0
          have e1 : (zi x = 0) = (x = 0) := by rw [z]; exact zi_inj hx.1 hx.2 (by omega) (by omega)
          have e2 : (zi x < 0) = (x < 0) := by rw [z]; exact zi_lt hx.1 hx.2 (by omega) (by omega)
          have e3 : (0 ≤ zi x) = (0 ≤ x) := by rw [z]; exact zi_le (by omega) (by omega) hx.1 hx.2
          have e4 : (0 < zi x) = (0 < x) := by rw [z]; exact zi_lt (by omega) (by omega) hx.1 hx.2
          have e5 : (zi x ≤ 0) = (x ≤ 0) := by rw [z]; exact zi_le hx.1 hx.2 (by omega) (by omega)
          cases c with
          | eq => exact zok_if e1 (fun q => nx _ _ _ _ (h.1 q) R hl hs.tl) (fun q => nx _ _ _ _ (h.2 q) R hl hs.tl)
          | ne => exact zok_if (p := ¬ x = 0) (congrArg Not e1) (fun q => nx _ _ _ _ (h.1 q) R hl hs.tl) (fun q => nx _ _ _ _ (h.2 (Classical.not_not.mp q)) R hl hs.tl)
          | lt => exact zok_if e2 (fun q => nx _ _ _ _ (h.1 q) R hl hs.tl) (fun q => nx _ _ _ _ (h.2 q) R hl hs.tl)
          | ge => exact zok_if e3 (fun q => nx _ _ _ _ (h.1 q) R hl hs.tl) (fun q => nx _ _ _ _ (h.2 q) R hl hs.tl)
          | gt => exact zok_if e4 (fun q => nx _ _ _ _ (h.1 q) R hl hs.tl) (fun q => nx _ _ _ _ (h.2 q) R hl hs.tl)
          | le => exact zok_if e5 (fun q => nx _ _ _ _ (h.1 q) R hl hs.tl) (fun q => nx _ _ _ _ (h.2 q) R hl hs.tl)
        | [], h, _ => exact (h : False).elim
        | .inr _ :: st, h, _ => exact (h : False).elim
      case if_icmp c o =>
        dsimp only at h
        split at h
        · rename_i y x st
          have hy : r32 y := hs.hd
          have hx : r32 x := hs.tl.hd
          have e1 : (zi x = zi y) = (x = y) := zi_inj hx.1 hx.2 hy.1 hy.2
          have e2 : (zi x < zi y) = (x < y) := zi_lt hx.1 hx.2 hy.1 hy.2
          have e3 : (zi y ≤ zi x) = (y ≤ x) := zi_le hy.1 hy.2 hx.1 hx.2
          have e4 : (zi y < zi x) = (y < x) := zi_lt hy.1 hy.2 hx.1 hx.2
          have e5 : (zi x ≤ zi y) = (x ≤ y) := zi_le hx.1 hx.2 hy.1 hy.2
          cases c with
          | eq => exact zok_if e1 (fun q => nx _ _ _ _ (h.1 q) R hl hs.tl.tl) (fun q => nx _ _ _ _ (h.2 q) R hl hs.tl.tl)
          | ne => exact zok_if (p := ¬ x = y) (congrArg Not e1) (fun q => nx _ _ _ _ (h.1 q) R hl hs.tl.tl) (fun q => nx _ _ _ _ (h.2 (Classical.not_not.mp q)) R hl hs.tl.tl)
          | lt => exact zok_if e2 (fun q => nx _ _ _ _ (h.1 q) R hl hs.tl.tl) (fun q => nx _ _ _ _ (h.2 q) R hl hs.tl.tl)
          | ge => exact zok_if e3 (fun q => nx _ _ _ _ (h.1 q) R hl hs.tl.tl) (fun q => nx _ _ _ _ (h.2 q) R hl hs.tl.tl)
          | gt => exact zok_if e4 (fun q => nx _ _ _ _ (h.1 q) R hl hs.tl.tl) (fun q => nx _ _ _ _ (h.2 q) R hl hs.tl.tl)
          | le => exact zok_if e5 (fun q => nx _ _ _ _ (h.1 q) R hl hs.tl.tl) (fun q => nx _ _ _ _ (h.2 q) R hl hs.tl.tl)
        · exact h.elim
      case tableswitch d' lo hi offs =>
        match st, h, hs with
        | .inl x :: st, h, hs =>
          have h : (-1000 ≤ lo ∧ lo ≤ 1000 ∧ offs.toList.length ≤ 1000) ∧ z_sw x (znx U L (zwp C U rt d L Q n) ((pc : Int) + d').toNat l st M) lo (offs.toList.map fun o => znx U L (zwp C U rt d L Q n) ((pc : Int) + o).toNat l st M) := h
          refine zok_sw hs.hd (offs.toList.map fun o => znx U L (zwp C U rt d L Q n) ((pc : Int) + o).toNat l st M) (offs.toList.map fun o => am_nx U Lm (am_ev C U rt (am_sem d) Lm n) ((pc : Int) + o).toNat (zml l) (zms st) (hp g M)) lo _ (am_nx U Lm (am_ev C U rt (am_sem d) Lm n) ((pc : Int) + d').toNat (zml l) (zms st) (hp g M)) h.1.1 (by simp only [List.length_map]; omega) h.2 (by simp) ?_ (fun q => nx _ _ _ _ q R hl hs.tl)
          intro i p o e1 e2 hp'
          rw [List.getElem?_map] at e1 e2
          cases ho : offs.toList[i]? with
          | none => rw [ho] at e1; cases e1
          | some w =>
            rw [ho] at e1 e2
            cases e1
            cases e2
            exact nx _ _ _ _ hp' R hl hs.tl
        | [], h, _ => exact (h : False).elim
        | .inr _ :: st, h, _ => exact (h : False).elim
      case ireturn =>
        dsimp only at h
        split at h
        · rename_i x
          split at h
          · exact ⟨some (zI x), M, rfl, fun v hv => by cases hv; exact hs.hd, R, h⟩
          · refine ⟨some (zI x), M, ?_, fun v hv => by cases hv; exact hs.hd, R, h.2⟩
            show (if zi x = 0 ∨ zi x = 1 then _ else _) = _
            rw [if_pos (by rcases h.1 with rfl | rfl <;> decide)]
            rfl
          · refine ⟨some (zI x), M, ?_, fun v hv => by cases hv; exact hs.hd, R, h.2⟩
            show (if narrow .byte (.int (zi x)) = .int (zi x) then _ else _) = _
            rw [if_pos (z_nb h.1.1 h.1.2)]
            rfl
          · refine ⟨some (zI x), M, ?_, fun v hv => by cases hv; exact hs.hd, R, h.2⟩
            show (if narrow .char (.int (zi x)) = .int (zi x) then _ else _) = _
            rw [if_pos (z_nc h.1.1 h.1.2)]
            rfl
          · exact h.elim
        · exact h.elim
      case lreturn =>
        dsimp only at h
        split at h
        · rename_i x
          split at h
          · exact ⟨some (zJ x), M, rfl, fun v hv => by cases hv; exact hs.hd, R, h⟩
          · exact h.elim
        · exact h.elim
      case return_ =>
        dsimp only at h
        split at h
        · split at h
          · exact ⟨none, M, rfl, (fun v hv => by cases hv), R, h⟩
          · exact h.elim
        · exact h.elim
      case invokevirtual o =>
        dsimp only at h ⊢
        have ep := z_pop_map (r2 % 100) st []
        rw [show am_pop (r2 % 100) (zms st) [] = _ from ep]
        generalize hp' : z_pop (r2 % 100) st [] = q at h
        split at h
        · rename_i as b st'
          have ok := z_pop_ok hs (fun _ hv => by cases hv) hp'
          obtain ⟨hg, h⟩ := zbif h
          simp only [Bool.and_eq_true] at hg
          show zok (bif am_few (zms st') && am_isK (hp g M) b (r2 / 1000) then _ else _) g Q
          rw [show am_few (zms st') = true from hg.1, hp_isK hg.2.1 (by have := Nat.le_of_ble_eq_true hg.2.2; omega)]
          exact zok_go h R (oks.cons trivial ok.1) ok.2.tl (fun st M h R hs => nx _ _ _ _ h R hl hs)
        · exact h.elim
      case invokespecial o => exact (h : False).elim
      case invokestatic o =>
        dsimp only at h
        split at h
        · split at h
          · rename_i k dp b sp a st'
            obtain ⟨hg, h⟩ := zbif h
            simp only [Bool.and_eq_true] at hg
            obtain ⟨g0, g1, g2, g3⟩ := hg
            have g1 := Nat.eq_of_beq_eq_true g1
            have g2 := Nat.eq_of_beq_eq_true g2
            have g3 := Nat.le_of_ble_eq_true g3
            obtain ⟨⟨c1, c2, c3, c4, c5⟩, h⟩ := h
            show zok (bif Nat.ble (zms st').length 3 then (am_copy (hp g M) a (zi sp) b (zi dp) (zi k)).bind _ else _) g Q
            rw [show (zms st').length = st'.length from List.length_map _, g0, hp_cp g1 g2 g3 c1 c2 c3 c4 c5]
            exact nx _ _ _ _ (h _ rfl) (R.cp g1 g2 g3 c1 c4) hl hs.tl.tl.tl.tl.tl
          · exact h.elim
        · split at h
          · rename_i y x st'
            obtain ⟨hg, h⟩ := zbif h
            show zok (bif am_few (zms st') then am_nx U Lm (am_ev C U rt (am_sem d) Lm n) (pc + 3) (zml l) (.int (if zi x < zi y then zi y else zi x) :: zms st') (hp g M) else _) g Q
            have hy : r32 y := hs.hd
            have hx : r32 x := hs.tl.hd
            rw [show am_few (zms st') = true from hg, show (if zi x < zi y then zi y else zi x) = zi (max x y) from z_max hx hy]
            exact nx _ _ (zI (max x y) :: st') _ h R hl (oks.cons (by show r32 _; unfold r32 at *; omega) hs.tl.tl)
          · exact h.elim
        · split at h
          · rename_i y x st'
            obtain ⟨hg, h⟩ := zbif h
            show zok (bif am_few (zms st') then am_nx U Lm (am_ev C U rt (am_sem d) Lm n) (pc + 3) (zml l) (.int (if zi y < zi x then zi y else zi x) :: zms st') (hp g M) else _) g Q
            have hy : r32 y := hs.hd
            have hx : r32 x := hs.tl.hd
            rw [show am_few (zms st') = true from hg, show (if zi y < zi x then zi y else zi x) = zi (min x y) from z_min hx hy]
            exact nx _ _ (zI (min x y) :: st') _ h R hl (oks.cons (by show r32 _; unfold r32 at *; omega) hs.tl.tl)
          · exact h.elim
        · split at h
          · rename_i y x st'
            obtain ⟨hg, h⟩ := zbif h
            show zok (bif am_few (zms st') then am_nx U Lm (am_ev C U rt (am_sem d) Lm n) (pc + 3) (zml l) (.long (if zl y < zl x then zl x else zl y) :: zms st') (hp g M) else _) g Q
            have hy : r64 y := hs.hd
            have hx : r64 x := hs.tl.hd
            rw [show am_few (zms st') = true from hg, show (if zl y < zl x then zl x else zl y) = zl (max x y) from z_maxL hx hy]
            exact nx _ _ (zJ (max x y) :: st') _ h R hl (oks.cons (by show r64 _; unfold r64 at *; omega) hs.tl.tl)
          · exact h.elim
        · split at h
          · rename_i y x st'
            obtain ⟨hg, h⟩ := zbif h
            show zok (bif am_few (zms st') then am_nx U Lm (am_ev C U rt (am_sem d) Lm n) (pc + 3) (zml l) (.long (if zl y < zl x then zl y else zl x) :: zms st') (hp g M) else _) g Q
            have hy : r64 y := hs.hd
            have hx : r64 x := hs.tl.hd
            rw [show am_few (zms st') = true from hg, show (if zl y < zl x then zl y else zl x) = zl (min x y) from z_minL hx hy]
            exact nx _ _ (zJ (min x y) :: st') _ h R hl (oks.cons (by show r64 _; unfold r64 at *; omega) hs.tl.tl)
          · exact h.elim
        · rename_i j n2 n3 n4 n5 n6
          have ep := z_pop_map (r2 % 100) st []
          generalize hp' : z_pop (r2 % 100) st [] = q at h
          split at h
          · rename_i as st'
            have ok := z_pop_ok hs (fun _ hv => by cases hv) hp'
            obtain ⟨hg, h⟩ := zbif h
            dsimp only
            split
            · exact absurd rfl n2
            · exact absurd rfl n3
            · exact absurd rfl n4
            · exact absurd rfl n5
            · exact absurd rfl n6
            · rw [show am_pop (r2 % 100) (zms st) [] = _ from ep, hp']
              show zok (bif am_few (zms st') then _ else _) g Q
              rw [show am_few (zms st') = true from hg]
              exact zok_go h R ok.1 ok.2 (fun st M h R hs => nx _ _ _ _ h R hl hs)
          · exact h.elim
      all_goals exact key _ _ _ _ _ h
/-! pieces and calls -/
theorem zlp_of {C : CD} {U : List (Nat × List Nat)} {rt d pc : Nat} {l : ZL} {M : ZM} {Q : Option ZV → ZM → Prop} (h : zwp C U rt d (fun pc l M => zlp C U rt d pc l M Q) Q 4000 pc l [] M) : zlp C U rt d pc l M Q := by
  intro g R hl
  rw [am_rn_eq _ _ _ (am_sem_mono d)]
  exact zwp_ok (fun pc l M h R hl => h g R hl) 4000 pc l [] M h R hl (fun _ hv => by cases hv)
def z_args : Nat → List ZV → ZL
  | _, [] => []
  | i, v :: vs => (i, v) :: z_args (if (zv v).category = 2 then i + 2 else i + 1) vs
theorem z_args_map : ∀ (as : List ZV) (i : Nat), lv_args i (zms as) = zml (z_args i as) := by
  intro as
  induction as with
  | nil => intro i; rfl
  | cons v vs ih => intro i; exact congrArg ((i, zv v) :: ·) (ih _)
theorem z_args_ok : ∀ {as : List ZV}, oks as → ∀ i, okl (z_args i as) := by
  intro as
  induction as with
  | nil => intro _ i q hq; cases hq
  | cons v vs ih =>
    intro h i q hq
    rcases List.mem_cons.mp hq with rfl | hq
    · exact h.hd
    · exact ih h.tl _ q hq
theorem zcall_of {d j : Nat} {as : List ZV} {M : ZM} {Q : Option ZV → ZM → Prop} {D : MD} (hM : am_prog[j]? = some D) (hj : Nat.beq j 260 = false) (hb : Nat.ble (lg_sl (zms as)).length D.2.2.2.1 = true) (h : zwp D.1 D.2.1 (am_rt D.2.2.2.2.1) d (fun pc l M => zlp D.1 D.2.1 (am_rt D.2.2.2.2.1) d pc l M Q) Q 4000 0 (z_args 0 as) [] M) : zcall (d + 1) j as M Q := by
  intro g R ha
  have e : am_sem (d + 1) j (zms as) (hp g M) = am_rn D.1 D.2.1 (am_rt D.2.2.2.2.1) (am_sem d) 0 (zml (z_args 0 as)) (hp g M) := by
    rw [am_sem]
    dsimp only
    split
    · cases hj
    · rw [hM]
      dsimp only
      rw [hb, z_args_map]
      rfl
  rw [e]
  exact zlp_of h g R (z_args_ok ha 0)
/-- the bounds of the numbers that lie in the memory, where a proof wants them -/
theorem zcall_rg {d j : Nat} {as : List ZV} {M : ZM} {Q : Option ZV → ZM → Prop} (h : RG M → zcall d j as M Q) : zcall d j as M Q := fun g R ha => h R g R ha
theorem zlp_rg {C : CD} {U : List (Nat × List Nat)} {rt d pc : Nat} {l : ZL} {M : ZM} {Q : Option ZV → ZM → Prop} (h : RG M → zlp C U rt d pc l M Q) : zlp C U rt d pc l M Q := fun g R ha => h R g R ha
theorem zok_mono {o : Option RS} {g : Nat → AC} {Q Q' : Option ZV → ZM → Prop} (h : zok o g Q) (hq : ∀ r M, RG M → Q r M → Q' r M) : zok o g Q' := by
  obtain ⟨r, M', h1, h2, h3, h4⟩ := h
  exact ⟨r, M', h1, h2, h3, hq _ _ h3 h4⟩
theorem zcV_mono {d j : Nat} {as : List ZV} {M : ZM} {k k' : ZM → Prop} (h : zcV d j as M k) (hq : ∀ M, RG M → k M → k' M) : zcV d j as M k' := fun g R ha => zok_mono (h g R ha) (fun r M R h => match r, h with
  | none, h => hq M R h)
theorem zcI_mono {d j : Nat} {as : List ZV} {M : ZM} {k k' : Int → ZM → Prop} (h : zcI d j as M k) (hq : ∀ x M, RG M → k x M → k' x M) : zcI d j as M k' := fun g R ha => zok_mono (h g R ha) (fun r M R h => match r, h with
  | some (.inl x), h => hq x M R h)
theorem zcL_mono {d j : Nat} {as : List ZV} {M : ZM} {k k' : Int → ZM → Prop} (h : zcL d j as M k) (hq : ∀ x M, RG M → k x M → k' x M) : zcL d j as M k' := fun g R ha => zok_mono (h g R ha) (fun r M R h => match r, h with
  | some (.inr (.inl x)), h => hq x M R h)
/-- String.checkIndex -/
theorem z_ci {d : Nat} {i n : Int} {M : ZM} {k : ZM → Prop} (h0 : 0 ≤ i) (h1 : i < n) (h : k M) : zcV (d + 1) 260 [zI i, zI n] M k := by
  intro g R ha
  have hi : r32 i := ha.hd
  have hn : r32 n := ha.tl.hd
  refine ⟨none, M, ?_, (fun v hv => by cases hv), R, h⟩
  show am_ci [.int (zi i), .int (zi n)] (hp g M) = _
  unfold am_ci
  dsimp only
  rw [if_neg]
  · rfl
  · intro q
    rcases q with q | q
    · exact zi_neg0 h0 hi.2 q
    · rw [zi_lt hi.1 hi.2 hn.1 hn.2] at q
      exact q h1
