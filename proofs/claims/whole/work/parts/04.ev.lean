/-! one instruction that neither jumps nor calls, then what follows -/
def am_ldI (l : LV) (n : Nat) (st : List Value) (h : AH) (k : KT) : Option RS := match am_look l n with
  | some (.int x) => k l (.int x :: st) h
  | _ => none
def am_ldL (l : LV) (n : Nat) (st : List Value) (h : AH) (k : KT) : Option RS := match am_look l n with
  | some (.long x) => k l (.long x :: st) h
  | _ => none
def am_ldR (l : LV) (n : Nat) (st : List Value) (h : AH) (k : KT) : Option RS := match am_look l n with
  | some (.ref x) => k l (.ref x :: st) h
  | _ => none
def am_getf (ty : FieldType) (a ci f : Nat) (l : LV) (st : List Value) (h : AH) (k : KT) : Option RS := match ty with
  | .int => (am_fI h a ci f).bind fun x => k l (.int x :: st) h
  | .boolean => (am_fI h a ci f).bind fun x => k l (.int x :: st) h
  | .byte => (am_fI h a ci f).bind fun x => k l (.int x :: st) h
  | .long => (am_fL h a ci f).bind fun x => k l (.long x :: st) h
  | .object _ => (am_fR h a ci f).bind fun x => k l (.ref x :: st) h
  | .array _ => (am_fR h a ci f).bind fun x => k l (.ref x :: st) h
  | _ => none
def am_putf (ty : FieldType) (a ci f : Nat) (v : Value) (l : LV) (st : List Value) (h : AH) (k : KT) : Option RS := match ty, v with
  | .int, .int x => (am_pf h a ci f (.int x)).bind fun h => k l st h
  | .boolean, .int x => (am_pz h a ci f x).bind fun h => k l st h
  | .long, .long x => (am_pf h a ci f (.long x)).bind fun h => k l st h
  | .object _, .ref x => (am_pf h a ci f (.ref x)).bind fun h => k l st h
  | .array _, .ref x => (am_pf h a ci f (.ref x)).bind fun h => k l st h
  | _, _ => none
def am_dflt : FieldType → Value
  | .int => .int 0
  | .boolean => .int 0
  | .byte => .int 0
  | .long => .long 0
  | _ => .null
def am_akind : ArrayType → Option Nat
  | .int => some 100
  | .long => some 101
  | .byte => some 102
  | .boolean => some 103
  | _ => none
def am_mka (kd : Option Nat) (n : Int32) (d : Value) (l : LV) (st : List Value) (h : AH) (k : KT) : Option RS := match kd with
  | some c => if ¬ n < 0 ∧ n.toNatClampNeg ≤ 65536 then k l (.ref h.1 :: st) (am_new h (c, n.toNatClampNeg, fun _ => d)) else none
  | none => none
def am_stp (i : Instr) (r1 r2 : Nat) (v : Value) (l : LV) (st : List Value) (h : AH) (k : KT) : Option RS :=
  match i with
  | .iconst _ => k l (v :: st) h
  | .bipush _ => k l (v :: st) h
  | .sipush _ => k l (v :: st) h
  | .lconst _ => k l (v :: st) h
  | .ldc _ => k l (v :: st) h
  | .ldc_w _ => k l (v :: st) h
  | .ldc2_w _ => k l (v :: st) h
  | .getstatic _ => k l (v :: st) h
  | .iload n => am_ldI l n st h k
  | .iload_n n => am_ldI l n.val st h k
  | .lload n => am_ldL l n st h k
  | .lload_n n => am_ldL l n.val st h k
  | .aload n => am_ldR l n st h k
  | .aload_n n => am_ldR l n.val st h k
  | .istore n => match st with
    | .int x :: st => k (am_s1 l n (.int x)) st h
    | _ => none
  | .istore_n n => match st with
    | .int x :: st => k (am_s1 l n.val (.int x)) st h
    | _ => none
  | .lstore n => match st with
    | .long x :: st => k (am_s2 l n (.long x)) st h
    | _ => none
  | .lstore_n n => match st with
    | .long x :: st => k (am_s2 l n.val (.long x)) st h
    | _ => none
  | .astore n => match st with
    | .ref x :: st => k (am_s1 l n (.ref x)) st h
    | _ => none
  | .astore_n n => match st with
    | .ref x :: st => k (am_s1 l n.val (.ref x)) st h
    | _ => none
  | .iinc n _ => match am_look l n, v with
    | some (.int x), .int y => k (am_s1 l n (.int (x + y))) st h
    | _, _ => none
  | .iadd => match st with
    | .int y :: .int x :: st => k l (.int (x + y) :: st) h
    | _ => none
  | .isub => match st with
    | .int y :: .int x :: st => k l (.int (x - y) :: st) h
    | _ => none
  | .imul => match st with
    | .int y :: .int x :: st => k l (.int (x * y) :: st) h
    | _ => none
  | .idiv => match st with
    | .int y :: .int x :: st => if y = 0 then none else k l (.int (x / y) :: st) h
    | _ => none
  | .irem => match st with
    | .int y :: .int x :: st => if y = 0 then none else k l (.int (x - x / y * y) :: st) h
    | _ => none
  | .ineg => match st with
    | .int x :: st => k l (.int (-x) :: st) h
    | _ => none
  | .iand => match st with
    | .int y :: .int x :: st => k l (.int (x &&& y) :: st) h
    | _ => none
  | .ior => match st with
    | .int y :: .int x :: st => k l (.int (x ||| y) :: st) h
    | _ => none
  | .ixor => match st with
    | .int y :: .int x :: st => k l (.int (x ^^^ y) :: st) h
    | _ => none
  | .ishl => match st with
    | .int y :: .int x :: st => k l (.int (x <<< (y &&& 31)) :: st) h
    | _ => none
  | .ishr => match st with
    | .int y :: .int x :: st => k l (.int (x >>> (y &&& 31)) :: st) h
    | _ => none
  | .iushr => match st with
    | .int y :: .int x :: st => k l (.int (x.toUInt32 >>> (y.toUInt32 &&& Int32.toUInt32 31)).toInt32 :: st) h
    | _ => none
  | .ladd => match st with
    | .long y :: .long x :: st => k l (.long (x + y) :: st) h
    | _ => none
  | .lsub => match st with
    | .long y :: .long x :: st => k l (.long (x - y) :: st) h
    | _ => none
  | .lmul => match st with
    | .long y :: .long x :: st => k l (.long (x * y) :: st) h
    | _ => none
  | .ldiv => match st with
    | .long y :: .long x :: st => if y = 0 then none else k l (.long (x / y) :: st) h
    | _ => none
  | .lrem => match st with
    | .long y :: .long x :: st => if y = 0 then none else k l (.long (x - x / y * y) :: st) h
    | _ => none
  | .lneg => match st with
    | .long x :: st => k l (.long (-x) :: st) h
    | _ => none
  | .land => match st with
    | .long y :: .long x :: st => k l (.long (x &&& y) :: st) h
    | _ => none
  | .lor => match st with
    | .long y :: .long x :: st => k l (.long (x ||| y) :: st) h
    | _ => none
  | .lshl => match st with
    | .int y :: .long x :: st => k l (.long (x <<< (y.toInt64 &&& 63)) :: st) h
    | _ => none
  | .lcmp => match st with
    | .long y :: .long x :: st => k l (.int (lg_cmp x y) :: st) h
    | _ => none
  | .i2l => match st with
    | .int x :: st => k l (.long x.toInt64 :: st) h
    | _ => none
  | .l2i => match st with
    | .long x :: st => k l (.int x.toInt32 :: st) h
    | _ => none
  | .i2b => match st with
    | .int x :: st => k l (.int x.toInt8.toInt32 :: st) h
    | _ => none
  | .i2c => match st with
    | .int x :: st => k l (.int (x.toUInt32 % 65536).toInt32 :: st) h
    | _ => none
  | .dup => match st with
    | .int x :: st => k l (.int x :: .int x :: st) h
    | .ref x :: st => k l (.ref x :: .ref x :: st) h
    | _ => none
  | .dup_x1 => match st with
    | .int x :: .ref y :: st => k l (.int x :: .ref y :: .int x :: st) h
    | _ => none
  | .dup2 => match st with
    | .int x :: .ref y :: st => k l (.int x :: .ref y :: .int x :: .ref y :: st) h
    | .long x :: st => k l (.long x :: .long x :: st) h
    | _ => none
  | .pop => match st with
    | .int _ :: st => k l st h
    | _ => none
  | .pop2 => match st with
    | .long _ :: st => k l st h
    | _ => none
  | .arraylength => match st with
    | .ref a :: st => (am_len h a).bind fun x => k l (.int x :: st) h
    | _ => none
  | .iaload => match st with
    | .int j :: .ref a :: st => (am_aI h a j).bind fun x => k l (.int x :: st) h
    | _ => none
  | .laload => match st with
    | .int j :: .ref a :: st => (am_aL h a j).bind fun x => k l (.long x :: st) h
    | _ => none
  | .baload => match st with
    | .int j :: .ref a :: st => (am_aB h a j).bind fun x => k l (.int x :: st) h
    | _ => none
  | .aaload => match st with
    | .int j :: .ref a :: st => (am_aR h a j).bind fun x => k l (.ref x :: st) h
    | _ => none
  | .iastore => match st with
    | .int x :: .int j :: .ref a :: st => (am_st h 100 a j (.int x)).bind fun h => k l st h
    | _ => none
  | .lastore => match st with
    | .long x :: .int j :: .ref a :: st => (am_st h 101 a j (.long x)).bind fun h => k l st h
    | _ => none
  | .bastore => match st with
    | .int x :: .int j :: .ref a :: st => (am_stB h a j x).bind fun h => k l st h
    | _ => none
  | .aastore => match st with
    | .ref x :: .int j :: .ref a :: st => (am_stR h a j x).bind fun h => k l st h
    | _ => none
  | .getfield _ => match st with
    | .ref a :: st => am_getf (am_fty r1 r2) a r1 r2 l st h k
    | _ => none
  | .putfield _ => match st with
    | v :: .ref a :: st => am_putf (am_fty r1 r2) a r1 r2 v l st h k
    | _ => none
  | .new _ => k l (.ref h.1 :: st) (am_new h (r1, r2, fun j => am_dflt (am_fty r1 j)))
  | .newarray t => match st with
    | .int n :: st => am_mka (am_akind t) n (am_dflt (newarray.typeOf t)) l st h k
    | _ => none
  | .anewarray _ => match st with
    | .int n :: st => am_mka (some 104) n .null l st h k
    | _ => none
  | _ => none
/-! from one cut to the next -/
def am_nx (U : List (Nat × List Nat)) (L : Nat → LV → AH → Option RS) (e : Nat → LV → List Value → AH → Option RS) (pc : Nat) (l : LV) (st : List Value) (h : AH) : Option RS :=
  match am_look U pc with
  | none => e pc l st h
  | some live => match st with
    | [] => match am_pick live l with
      | some l' => L pc l' h
      | none => none
    | _ => none
def am_fork (p : Prop) [Decidable p] (a b : Option RS) : Option RS := if p then a else b
def am_ret (rt : Nat) (x : Int32) (h : AH) : Option RS := match rt with
  | 1 => some (some (.int x), h)
  | 3 => if x = 0 ∨ x = 1 then some (some (.int x), h) else none
  | 4 => if narrow .byte (.int x) = .int x then some (some (.int x), h) else none
  | 5 => if narrow .char (.int x) = .int x then some (some (.int x), h) else none
  | _ => none
def am_go (rt : Nat) (r : Option RS) (st : List Value) (k : List Value → AH → Option RS) : Option RS := match rt with
  | 0 => am_cV r (fun h => k st h)
  | 2 => am_cL r (fun x h => k (.long x :: st) h)
  | _ => am_cI r (fun x h => k (.int x :: st) h)
def am_ev (C : CD) (U : List (Nat × List Nat)) (rt : Nat) (G : GT) (L : Nat → LV → AH → Option RS) : Nat → Nat → LV → List Value → AH → Option RS
  | 0, _, _, _, _ => none
  | n + 1, pc, l, st, h =>
    match am_code C pc with
    | none => none
    | some (i, len, r1, r2, _, v) =>
      match i with
      | .goto _ => am_nx U L (am_ev C U rt G L n) r1 l st h
      | .ifCond c _ => match st with
        | .int x :: st => match c with
          | .eq => if x = 0 then am_nx U L (am_ev C U rt G L n) r1 l st h else am_nx U L (am_ev C U rt G L n) (pc + 3) l st h
          | .ne => if ¬ x = 0 then am_nx U L (am_ev C U rt G L n) r1 l st h else am_nx U L (am_ev C U rt G L n) (pc + 3) l st h
          | .lt => if x < 0 then am_nx U L (am_ev C U rt G L n) r1 l st h else am_nx U L (am_ev C U rt G L n) (pc + 3) l st h
          | .ge => if 0 ≤ x then am_nx U L (am_ev C U rt G L n) r1 l st h else am_nx U L (am_ev C U rt G L n) (pc + 3) l st h
          | .gt => if 0 < x then am_nx U L (am_ev C U rt G L n) r1 l st h else am_nx U L (am_ev C U rt G L n) (pc + 3) l st h
          | .le => if x ≤ 0 then am_nx U L (am_ev C U rt G L n) r1 l st h else am_nx U L (am_ev C U rt G L n) (pc + 3) l st h
        | _ => none
      | .if_icmp c _ => match st with
        | .int y :: .int x :: st => match c with
          | .eq => if x = y then am_nx U L (am_ev C U rt G L n) r1 l st h else am_nx U L (am_ev C U rt G L n) (pc + 3) l st h
          | .ne => if ¬ x = y then am_nx U L (am_ev C U rt G L n) r1 l st h else am_nx U L (am_ev C U rt G L n) (pc + 3) l st h
          | .lt => if x < y then am_nx U L (am_ev C U rt G L n) r1 l st h else am_nx U L (am_ev C U rt G L n) (pc + 3) l st h
          | .ge => if y ≤ x then am_nx U L (am_ev C U rt G L n) r1 l st h else am_nx U L (am_ev C U rt G L n) (pc + 3) l st h
          | .gt => if y < x then am_nx U L (am_ev C U rt G L n) r1 l st h else am_nx U L (am_ev C U rt G L n) (pc + 3) l st h
          | .le => if x ≤ y then am_nx U L (am_ev C U rt G L n) r1 l st h else am_nx U L (am_ev C U rt G L n) (pc + 3) l st h
        | _ => none
      | .tableswitch d lo _ offs => match st with
        | .int x :: st => am_sw x (am_nx U L (am_ev C U rt G L n) ((pc : Int) + d).toNat l st h) lo (offs.toList.map fun o => am_nx U L (am_ev C U rt G L n) ((pc : Int) + o).toNat l st h)
        | _ => none
      | .ireturn => match st with
        | [.int x] => am_ret rt x h
        | _ => none
      | .lreturn => match st with
        | [.long x] => match rt with
          | 2 => some (some (.long x), h)
          | _ => none
        | _ => none
      | .return_ => match st with
        | [] => match rt with
          | 0 => some (none, h)
          | _ => none
        | _ => none
      | .invokevirtual _ => match am_pop (r2 % 100) st [] with
        | some (as, .ref b :: st') => bif am_few st' && am_isK h b (r2 / 1000) then am_go (r2 / 100 % 10) (G r1 (.ref b :: as) h) st' (fun st h => am_nx U L (am_ev C U rt G L n) (pc + 3) l st h) else none
        | _ => none
      | .invokestatic _ => match r1 with
        | 9002 => match st with
          | .int k :: .int dp :: .ref b :: .int sp :: .ref a :: st' => bif Nat.ble st'.length 3 then (am_copy h a sp b dp k).bind fun h => am_nx U L (am_ev C U rt G L n) (pc + 3) l st' h else none
          | _ => none
        | 9003 => match st with
          | .int y :: .int x :: st' => bif am_few st' then am_nx U L (am_ev C U rt G L n) (pc + 3) l (.int (if x < y then y else x) :: st') h else none
          | _ => none
        | 9004 => match st with
          | .int y :: .int x :: st' => bif am_few st' then am_nx U L (am_ev C U rt G L n) (pc + 3) l (.int (if y < x then y else x) :: st') h else none
          | _ => none
        | 9005 => match st with
          | .long y :: .long x :: st' => bif am_few st' then am_nx U L (am_ev C U rt G L n) (pc + 3) l (.long (if y < x then x else y) :: st') h else none
          | _ => none
        | 9006 => match st with
          | .long y :: .long x :: st' => bif am_few st' then am_nx U L (am_ev C U rt G L n) (pc + 3) l (.long (if y < x then y else x) :: st') h else none
          | _ => none
        | j => match am_pop (r2 % 100) st [] with
          | some (as, st') => bif am_few st' then am_go (r2 / 100 % 10) (G j as h) st' (fun st h => am_nx U L (am_ev C U rt G L n) (pc + 3) l st h) else none
          | _ => none
      | .invokespecial _ => match r1 with
        | 9001 => match st with
          | .ref _ :: st' => bif am_few st' then am_nx U L (am_ev C U rt G L n) (pc + 3) l st' h else none
          | _ => none
        | j => match am_pop (r2 % 100) st [] with
          | some (as, .ref b :: st') => bif am_few st' then am_go 0 (G j (.ref b :: as) h) st' (fun st h => am_nx U L (am_ev C U rt G L n) (pc + 3) l st h) else none
          | _ => none
      | i => am_stp i r1 r2 v l st h (fun l st h => am_nx U L (am_ev C U rt G L n) (pc + len) l st h)
