/-! what each entry of a table must be: a program decides it -/
abbrev SG : Type := MethodName × Nat × Nat × Nat
/-- code, cuts, bytes, locals, what it answers, places of its words -/
abbrev MD : Type := CD × List (Nat × List Nat) × ByteArray × Nat × Option FieldType × List Nat
def am_ilen : Instr → Nat
  | .iload _ => 2
  | .lload _ => 2
  | .aload _ => 2
  | .istore _ => 2
  | .lstore _ => 2
  | .astore _ => 2
  | .bipush _ => 2
  | .ldc _ => 2
  | .newarray _ => 2
  | .sipush _ => 3
  | .ldc_w _ => 3
  | .ldc2_w _ => 3
  | .getfield _ => 3
  | .putfield _ => 3
  | .getstatic _ => 3
  | .invokevirtual _ => 3
  | .invokespecial _ => 3
  | .invokestatic _ => 3
  | .new _ => 3
  | .anewarray _ => 3
  | .iinc _ _ => 3
  | .goto _ => 3
  | .ifCond _ _ => 3
  | .if_icmp _ _ => 3
  | _ => 1
def am_cn (ci : Nat) : String := match vwCl[ci]? with
  | some q => q.1
  | none => "java/lang/String"
def am_rt : Option FieldType → Nat
  | none => 0
  | some .int => 1
  | some .long => 2
  | some .boolean => 3
  | some .byte => 4
  | some .char => 5
  | _ => 9
def am_okI (sg : List SG) (own : String) (ini : Bool) (nL : Nat) (pc : Nat) (i : Instr) (r1 r2 r3 : Nat) (v : Value) : Bool := match i with
  | .iconst n => decide (v = .int (Int32.ofInt n))
  | .bipush n => decide (v = .int (Int8.ofInt n).toInt32)
  | .sipush n => decide (v = .int (Int16.ofInt n).toInt32)
  | .lconst n => decide (v = .long (Int64.ofNat n.val))
  | .iinc k n => decide (v = .int (Int32.ofInt n)) && decide (k < nL)
  | .istore k => decide (k < nL)
  | .istore_n k => decide (k.val < nL)
  | .astore k => decide (k < nL)
  | .astore_n k => decide (k.val < nL)
  | .lstore k => decide (k + 1 < nL)
  | .lstore_n k => decide (k.val + 1 < nL)
  | .ldc k => match v with
    | .int x => am_has r3 (.constant own k x)
    | .ref a => decide (own = RX5) && (match so_si[a]? with
      | some q => Nat.beq q.1 k
      | none => false)
    | _ => false
  | .ldc_w k => match v with
    | .int x => am_has r3 (.constant own k x)
    | _ => false
  | .ldc2_w k => match v with
    | .long x => am_has r3 (.constantLong own k x)
    | _ => false
  | .getstatic k => match r1 with
    | 0 => decide (v = .ref 26) && am_has r3 (.fieldLink own k "ForgetfulRider" "LEAST_TERM" "[I")
    | 1 => decide (v = .ref 27) && am_has r3 (.fieldLink own k "ForgetfulRider" "MOST_TERM" "[I")
    | 2 => decide (v = .int 1) && am_has r3 (.fieldLink own k "java/lang/String" "COMPACT_STRINGS" "Z")
    | _ => false
  | .getfield k => if r1 = 11 then (match r2 with
      | 0 => am_has r3 (.fieldLink own k "java/lang/String" "value" "[B")
      | 1 => am_has r3 (.fieldLink own k "java/lang/String" "coder" "B")
      | _ => false)
    else match vwCl[r1]? with
      | some q => decide (r2 < q.2.2) && am_has r3 (.fieldLink own k (q.2.1 r2).1 (q.2.1 r2).2.1 (q.2.1 r2).2.2.1)
      | none => false
  | .putfield k => match vwCl[r1]? with
    | some q => (decide (r2 < q.2.2) && am_has r3 (.fieldLink own k (q.2.1 r2).1 (q.2.1 r2).2.1 (q.2.1 r2).2.2.1)) && (!(q.2.1 r2).2.2.2 || (ini && decide ((q.2.1 r2).1 = own)))
    | none => false
  | .new k => match vwCl[r1]? with
    | some q => Nat.beq r2 q.2.2 && am_has r3 (.classLink own k q.1)
    | none => false
  | .anewarray k => am_has r3 (.classLink own k "ForgetfulRider$Book")
  | .goto o => decide ((pc : Int) + o = r1)
  | .ifCond _ o => decide ((pc : Int) + o = r1)
  | .if_icmp _ o => decide ((pc : Int) + o = r1)
  | .tableswitch d lo hi offs => (decide (0 ≤ (pc : Int) + d) && offs.toList.all (fun o => decide (0 ≤ (pc : Int) + o))) && (decide (lo + offs.toList.length = hi + 1) && decide (-2147483648 ≤ lo ∧ hi ≤ 2147483647))
  | .invokevirtual k => match sg[r1]? with
    | some (y, n, t, kd) => (Nat.beq kd 1 && Nat.beq n (r2 % 100)) && (Nat.beq t (r2 / 100 % 10) && ((decide (am_cn (r2 / 1000) = y.cls) && Nat.ble (r2 / 1000) 11) && am_has r3 (.methodLink own k y)))
    | none => false
  | .invokestatic k => if r1 = 9002 then am_has r3 (.methodLink own k arraycopyName) else if r1 = 9003 then am_has r3 (.methodLink own k Lib.Math.max.name) else if r1 = 9004 then am_has r3 (.methodLink own k Lib.Math.min.name) else if r1 = 9005 then am_has r3 (.methodLink own k Lib.MathLoose.max_long.x) else if r1 = 9006 then am_has r3 (.methodLink own k Lib.MathLoose.min_long.x) else match sg[r1]? with
    | some (y, n, t, kd) => (Nat.beq kd 0 && Nat.beq n (r2 % 100)) && (Nat.beq t (r2 / 100 % 10) && am_has r3 (.methodLink own k y))
    | none => false
  | .invokespecial k => if r1 = 9001 then am_has r3 (.methodLink own k objectInit) else match sg[r1]? with
    | some (y, n, t, kd) => (Nat.beq kd 2 && Nat.beq n (r2 % 100)) && (Nat.beq t 0 && (am_has r3 (.methodLink own k y) || decide ((own, k, y) ∈ so_ns)))
    | none => false
  | _ => true
def am_okE (sg : List SG) (own : String) (ini : Bool) (nL : Nat) (bytes : ByteArray) (q : Nat × EN) : Bool :=
  (match decode bytes q.1 with
    | .ok x => decide (x = (q.2.1, q.2.2.1))
    | .error _ => false) && ((match q.2.1 with
      | .tableswitch _ _ _ _ => true
      | i => Nat.beq q.2.2.1 (am_ilen i)) && am_okI sg own ini nL q.1 q.2.1 q.2.2.2.1 q.2.2.2.2.1 q.2.2.2.2.2.1 q.2.2.2.2.2.2)
def am_okC (sg : List SG) (own : String) (ini : Bool) (nL : Nat) (bytes : ByteArray) (c : CD) : Bool := c.all fun q => q.2.all (am_okE sg own ini nL bytes)
def am_okR (y : MethodName) (n t kd : Nat) (bytes : ByteArray) (maxL : Nat) (ret : Option FieldType) (p0 p1 p2 p3 : Nat) : Bool :=
  am_has p0 (.code y bytes maxL ret) && (am_has p2 (.initialized y.cls) && (
      (match kd with
        | 0 => am_has p1 (.static y)
        | 1 => am_has p1 (.instanceMethod y) && am_has p3 (.selects y.cls y y)
        | _ => am_has p1 (.instanceMethod y) && decide (y.name = "<init>")) && (
      plainName y.cls && (decide (y.cls ≠ "java/lang/invoke/MethodHandle" ∧ y.cls ≠ "java/lang/invoke/VarHandle") && (
      decide ((parseMethodDescriptor y.desc).map (fun d => d.parameters.length) = some n) && (Nat.beq t (am_rt ret) && Nat.ble maxL 60))))))
def am_okM (sg : List SG) (q : SG × MD) : Bool := match q with
  | ((y, n, t, kd), (C, _, bytes, maxL, ret, [p0, p1, p2, p3])) => am_okC sg y.cls (Nat.beq kd 2) maxL bytes C && am_okR y n t kd bytes maxL ret p0 p1 p2 p3
  | _ => false
theorem am_okM_of {sg : List SG} {y : MethodName} {n t kd : Nat} {C : CD} {U : List (Nat × List Nat)} {bytes : ByteArray} {maxL : Nat} {ret : Option FieldType} {p0 p1 p2 p3 : Nat} (h1 : am_okC sg y.cls (Nat.beq kd 2) maxL bytes C = true) (h2 : am_okR y n t kd bytes maxL ret p0 p1 p2 p3 = true) : am_okM sg ((y, n, t, kd), (C, U, bytes, maxL, ret, [p0, p1, p2, p3])) = true := by
  show (am_okC sg y.cls (Nat.beq kd 2) maxL bytes C && am_okR y n t kd bytes maxL ret p0 p1 p2 p3) = true
  rw [h1, h2]
  rfl
theorem am_okC_step {sg : List SG} {own : String} {ini : Bool} {nL : Nat} {bytes : ByteArray} {c : CD} (a b : Nat) (h1 : am_okC sg own ini nL bytes ((c.drop a).take b) = true) (h2 : am_okC sg own ini nL bytes (c.drop (a + b)) = true) : am_okC sg own ini nL bytes (c.drop a) = true := by
  unfold am_okC at *
  rw [← List.take_append_drop b (c.drop a), List.all_append, h1, List.drop_drop, h2]
  rfl
theorem am_code_ok {sg : List SG} {own : String} {ini : Bool} {nL : Nat} {bytes : ByteArray} {c : CD} (h : am_okC sg own ini nL bytes c = true) {pc : Nat} {e : EN} (he : am_code c pc = some e) : am_okE sg own ini nL bytes (pc, e) = true := by
  unfold am_code at he
  split at he
  · cases he
  · rename_i l hl
    exact List.all_eq_true.mp (List.all_eq_true.mp h _ (am_look_mem hl)) _ (am_look_mem he)
def am_sg : List SG := [(yX0_init, 0, 0, 2),
  (yX0_copyOf, 1, 0, 1),
  (yX1_init, 2, 0, 2),
  (yX1_lay, 1, 0, 1),
  (yX1_reach, 1, 0, 1),
  (yX1_roadsFrom, 1, 1, 1),
  (yX1_layStep, 1, 0, 1),
  (yX1_freeAll, 0, 0, 1),
  (yX1_weigh, 0, 2, 1),
  (yX1_most, 2, 2, 1),
  (yX1_mean, 2, 2, 1),
  (yX1_shareAtForks, 0, 0, 1),
  (yX1_bestRoad, 2, 1, 1),
  (yX1_looksAhead, 0, 1, 1),
  (yX1_countRoads, 1, 0, 1),
  (yX1_goesOn, 2, 3, 1),
  (yX2_init, 1, 0, 2),
  (yX2_start, 1, 0, 1),
  (yX2_goOn, 2, 0, 1),
  (yX2_passRow, 1, 0, 1),
  (yX2_passOpen, 1, 0, 1),
  (yX2_countVisits, 0, 0, 1),
  (yX2_seenAlike, 1, 2, 1),
  (yX2_looksLike, 2, 3, 1),
  (yX2_secondBelief, 1, 1, 1),
  (yX2_countOne, 2, 0, 1),
  (yX2_millionths, 2, 1, 0),
  (yX2_factor, 2, 2, 1),
  (yX3_init, 0, 0, 2),
  (yX3_copyOf, 1, 0, 1),
  (yX3_copyRow, 2, 0, 0),
  (yX3_has, 1, 3, 1),
  (yX3_isKind, 2, 3, 1),
  (yX3_told, 2, 1, 1),
  (yX3_forks, 0, 1, 1),
  (yX3_forksOf, 1, 1, 1),
  (yX3_usedLooks, 0, 1, 1),
  (yX4_init, 1, 0, 2),
  (yX4_seek, 0, 2, 1),
  (yX4_tryKey, 2, 0, 1),
  (yX4_keyAhead, 0, 1, 1),
  (yX4_roadChosen, 2, 1, 1),
  (yX4_weigh, 0, 2, 1),
  (yX4_atFork, 3, 2, 1),
  (yX4_mean, 3, 2, 1),
  (yX5_init, 2, 0, 2),
  (yX5_read, 1, 1, 1),
  (yX5_readPlace, 0, 3, 1),
  (yX5_readFork, 0, 3, 1),
  (yX5_readTurn, 0, 3, 1),
  (yX5_readInn, 0, 3, 1),
  (yX5_readRoad, 1, 3, 1),
  (yX5_readEnd, 0, 3, 1),
  (yX5_readTest, 1, 3, 1),
  (yX5_readBoth, 1, 3, 1),
  (yX5_readPlain, 1, 3, 1),
  (yX5_readInBrackets, 1, 3, 1),
  (yX5_readComparison, 1, 3, 1),
  (yX5_readSum, 1, 3, 1),
  (yX5_readTerm, 1, 3, 1),
  (yX5_readPart, 1, 3, 1),
  (yX5_put, 2, 0, 1),
  (yX5_aim, 1, 0, 1),
  (yX5_isSign, 1, 3, 1),
  (yX5_takeSign, 1, 3, 1),
  (yX5_isWord, 1, 3, 1),
  (yX5_takeWord, 1, 3, 1),
  (yX5_takeNumber, 2, 3, 1),
  (yX5_advance, 0, 0, 1),
  (yX5_isLetter, 1, 3, 0),
  (yX5_isDigit, 1, 3, 0),
  (yX6_init, 1, 0, 2),
  (yX6_seekPlain, 0, 2, 1),
  (yX6_startPlain, 1, 0, 1),
  (yX6_seekDie, 1, 2, 1),
  (yX6_tellBest, 2, 2, 1),
  (yX6_firstRoad, 1, 1, 1),
  (yX6_giveFirst, 1, 0, 1),
  (yX6_usedLooks, 0, 1, 1),
  (yX6_rules, 1, 2, 1),
  (yX6_choices, 1, 1, 1),
  (yX6_choose, 2, 0, 1),
  (yX6_seek, 2, 0, 1),
  (yX6_tryLook, 2, 0, 1),
  (yX6_mayBeBest, 1, 3, 1),
  (yX6_takeRule, 1, 0, 1),
  (yX6_fewestSigns, 2, 1, 1),
  (yX6_bestSigned, 1, 2, 1),
  (yX6_startSigns, 1, 0, 1),
  (yX6_bestWithSigns, 3, 2, 1),
  (yX6_placesOf, 1, 1, 1),
  (yX7_init, 0, 0, 2),
  (yX7_tell, 4, 1, 1),
  (yX7_run, 3, 2, 1),
  (yX7_needed, 1, 1, 0),
  (yX7_said, 2, 2, 1),
  (yX7_join, 3, 2, 0),
  (yX7_checked, 1, 2, 0),
  (yX8_init, 2, 0, 2),
  (yX8_go, 1, 0, 1),
  (yX8_drawnRoad, 2, 1, 1),
  (yX9_init, 0, 0, 2),
  (yX9_feed, 5, 1, 1),
  (yX9_putFour, 1, 0, 1),
  (yX9_end, 1, 1, 1),
  (yX9_country, 0, 1, 1),
  (yX9_fault, 0, 1, 1),
  (yX9_terms, 2, 1, 1),
  (yX9_of, 2, 1, 1),
  (yX9_pays, 2, 2, 1),
  (yX9_paint, 2, 1, 1),
  (yX9_used, 0, 1, 1),
  (yX9_rule, 3, 1, 1),
  (yX9_tenths, 2, 1, 1),
  (yX9_worth, 0, 2, 1),
  (yX9_from, 2, 2, 1),
  (yX9_plain, 1, 2, 1),
  (yX9_road, 1, 1, 1),
  (yX9_follow, 0, 1, 1),
  (yX9_die, 2, 2, 1),
  (yX9_cast, 1, 1, 1),
  (yX9_power, 2, 2, 1),
  (yX9_pocket, 0, 2, 1),
  (yX9_knowing, 0, 2, 1),
  (yX9_knows, 2, 1, 1),
  (yX9_signs, 3, 1, 1),
  (yX9_signed, 1, 2, 1),
  (yX9_canSign, 1, 3, 1),
  (yX9_visits, 1, 2, 1),
  (yX9_ends, 1, 2, 1),
  (yX9_belief, 2, 1, 1),
  (yX9_bet, 2, 2, 1),
  (yX9_price, 1, 1, 1),
  (yX9_ride, 1, 1, 1),
  (yX9_rode, 1, 2, 1),
  (yX9_image, 1, 1, 1),
  (yX9_back, 1, 1, 1),
  (yX9_count, 1, 1, 1),
  (yX9_status, 0, 1, 1),
  (yX9_refuse, 1, 1, 1),
  (yX9_grant, 1, 1, 1),
  (yX9_noPlaces, 0, 3, 1),
  (yX9_isLook, 1, 3, 0),
  (yX9_isLooks, 1, 3, 0),
  (yX10_lies, 3, 3, 0),
  (yX10_refuses, 1, 1, 1),
  (yX10_good, 1, 1, 1),
  (yX10_isIn, 2, 3, 0),
  (yX10_ones, 1, 1, 0),
  (yX10_ten, 1, 2, 0),
  (yX10_init, 0, 0, 2),
  (yX10_image, 1, 1, 1),
  (yX10_back, 1, 1, 1),
  (yX10_places, 0, 1, 1),
  (yX10_day, 0, 1, 1),
  (yX10_isPlace, 1, 3, 1),
  (yX10_placeOf, 2, 1, 1),
  (yX10_isFork, 1, 3, 1),
  (yX10_isLook, 1, 3, 0),
  (yX10_feed, 5, 1, 1),
  (yX10_end, 1, 1, 1),
  (yX10_isSmall, 1, 3, 0),
  (yX10_isDigit, 1, 3, 0),
  (yX10_wordOf, 2, 1, 1),
  (yX10_splits, 1, 0, 1),
  (yX10_fine, 0, 3, 1),
  (yX10_faults, 0, 0, 1),
  (yX10_takes0, 1, 3, 1),
  (yX10_must, 1, 0, 1),
  (yX10_leaf, 0, 0, 1),
  (yX10_sign, 1, 1, 0),
  (yX10_readTest, 1, 0, 1),
  (yX10_readBoth, 1, 0, 1),
  (yX10_readPlain, 1, 0, 1),
  (yX10_readSum, 1, 0, 1),
  (yX10_readTerm, 1, 0, 1),
  (yX10_readPart, 1, 0, 1),
  (yX10_number, 2, 3, 1),
  (yX10_readPlace, 0, 0, 1),
  (yX10_country, 0, 1, 1),
  (yX10_fault, 0, 1, 1),
  (yX10_codeAt, 1, 1, 1),
  (yX10_passes0, 1, 3, 1),
  (yX10_bounded, 2, 2, 1),
  (yX10_sumOf, 1, 2, 1),
  (yX10_termOf, 1, 2, 1),
  (yX10_partOf, 1, 2, 1),
  (yX10_testOf, 1, 3, 1),
  (yX10_bothOf, 1, 3, 1),
  (yX10_plainOf, 1, 3, 1),
  (yX10_positiveOf, 1, 3, 1),
  (yX10_worthOf, 2, 1, 1),
  (yX10_looks, 0, 0, 1),
  (yX10_terms, 2, 1, 1),
  (yX10_of, 2, 1, 1),
  (yX10_pays, 2, 2, 1),
  (yX10_paint, 2, 1, 1),
  (yX10_used, 0, 1, 1),
  (yX10_rule, 3, 1, 1),
  (yX10_tenths, 2, 1, 1),
  (yX10_takesRule, 0, 0, 1),
  (yX10_next, 2, 2, 1),
  (yX10_weighs, 0, 0, 1),
  (yX10_weigh, 2, 2, 1),
  (yX10_atStart, 0, 2, 1),
  (yX10_worth, 0, 2, 1),
  (yX10_from, 2, 2, 1),
  (yX10_knowing, 0, 2, 1),
  (yX10_knows, 2, 1, 1),
  (yX10_most, 1, 1, 1),
  (yX10_plains, 0, 0, 1),
  (yX10_plain, 1, 2, 1),
  (yX10_road, 1, 1, 1),
  (yX10_follow, 0, 1, 1),
  (yX10_dices, 1, 3, 1),
  (yX10_shares, 1, 1, 1),
  (yX10_laysShare, 2, 0, 1),
  (yX10_die, 2, 2, 1),
  (yX10_cast, 1, 1, 1),
  (yX10_powerAt, 3, 2, 1),
  (yX10_power0, 4, 2, 1),
  (yX10_power, 2, 2, 1),
  (yX10_pocketAt, 3, 2, 1),
  (yX10_pocket0, 3, 2, 1),
  (yX10_pocket, 0, 2, 1),
  (yX10_forksOf, 1, 1, 1),
  (yX10_canSign, 1, 3, 1),
  (yX10_painted, 1, 2, 1),
  (yX10_signs, 3, 1, 1),
  (yX10_signed, 1, 2, 1),
  (yX10_comes, 3, 0, 1),
  (yX10_spreads, 0, 0, 1),
  (yX10_tenthsOf, 2, 1, 1),
  (yX10_roadOf, 2, 1, 1),
  (yX10_goesOn, 4, 0, 1),
  (yX10_visitsOf, 1, 2, 1),
  (yX10_visits, 1, 2, 1),
  (yX10_ends, 1, 2, 1),
  (yX10_visitsOfLook, 1, 2, 1),
  (yX10_millionths, 2, 1, 0),
  (yX10_at, 3, 1, 1),
  (yX10_over, 3, 0, 1),
  (yX10_comesSeeing, 6, 0, 1),
  (yX10_second, 1, 1, 1),
  (yX10_belief, 2, 1, 1),
  (yX10_bet, 2, 2, 1),
  (yX10_price, 1, 1, 1),
  (yX10_draws, 0, 1, 1),
  (yX10_ride, 1, 1, 1),
  (yX10_rode, 1, 2, 1),
  (yX10_count, 1, 1, 1),
  (yX10_status, 0, 1, 1),
  (yJ6_bitCount_0f7a4, 1, 1, 0),
  (yJ0_length_8abf5, 0, 1, 1),
  (yJ0_charAt_5068e, 1, 5, 1),
  (yJ0_coder_7d493, 0, 4, 1),
  (yJ0_isLatin1_aae02, 0, 3, 1),
  (yJ1_charAt_3b067, 2, 5, 0),
  (yJ7_fill_d0a16, 2, 0, 0),
  (yJ7_fill_53178, 2, 0, 0),
  (yJ0_checkIndex_df160, 2, 0, 0)]
def am_md_0 : List MD := [(qX0_init, uX0_init, cX0_init, 1, none, [275, 274, 125, 0])]
def am_md_1 : List MD := [(qX0_copyOf, uX0_copyOf, cX0_copyOf, 2, none, [1203, 1201, 125, 1202]),
  (qX1_init, uX1_init, cX1_init, 3, none, [326, 325, 127, 0])]
def am_md_2 : List MD := [(qX1_lay, uX1_lay, cX1_lay, 3, none, [850, 848, 127, 849])]
def am_md_3 : List MD := [(qX1_reach, uX1_reach, cX1_reach, 5, none, [855, 854, 127, 28])]
def am_md_4 : List MD := [(qX1_roadsFrom, uX1_roadsFrom, cX1_roadsFrom, 4, (some .int), [863, 861, 127, 862])]
def am_md_5 : List MD := [(qX1_layStep, uX1_layStep, cX1_layStep, 5, none, [867, 866, 127, 29])]
def am_md_6 : List MD := [(qX1_freeAll, uX1_freeAll, cX1_freeAll, 1, none, [1076, 1074, 127, 1075])]
def am_md_7 : List MD := [(qX1_weigh, uX1_weigh, cX1_weigh, 5, (some .long), [873, 871, 127, 872])]
def am_md_8 : List MD := [(qX1_most, uX1_most, cX1_most, 6, (some .long), [881, 880, 127, 30])]
def am_md_9 : List MD := [(qX1_mean, uX1_mean, cX1_mean, 7, (some .long), [887, 886, 127, 31])]
def am_md_10 : List MD := [(qX1_shareAtForks, uX1_shareAtForks, cX1_shareAtForks, 5, none, [877, 875, 127, 876])]
def am_md_11 : List MD := [(qX1_bestRoad, uX1_bestRoad, cX1_bestRoad, 6, (some .int), [1084, 1082, 127, 1083])]
def am_md_12 : List MD := [(qX1_looksAhead, uX1_looksAhead, cX1_looksAhead, 4, (some .int), [927, 925, 127, 926]),
  (qX1_countRoads, uX1_countRoads, cX1_countRoads, 3, none, [909, 907, 127, 908])]
def am_md_13 : List MD := [(qX1_goesOn, uX1_goesOn, cX1_goesOn, 3, (some .boolean), [1014, 1012, 127, 1013]),
  (qX2_init, uX2_init, cX2_init, 2, none, [448, 447, 130, 0]),
  (qX2_start, uX2_start, cX2_start, 2, none, [1005, 1004, 130, 41])]
def am_md_14 : List MD := [(qX2_goOn, uX2_goOn, cX2_goOn, 5, none, [1018, 1017, 130, 42])]
def am_md_15 : List MD := [(qX2_passRow, uX2_passRow, cX2_passRow, 6, none, [1026, 1025, 130, 44])]
def am_md_16 : List MD := [(qX2_passOpen, uX2_passOpen, cX2_passOpen, 7, none, [1022, 1021, 130, 43])]
def am_md_17 : List MD := [(qX2_countVisits, uX2_countVisits, cX2_countVisits, 4, none, [1133, 1131, 130, 1132])]
def am_md_18 : List MD := [(qX2_seenAlike, uX2_seenAlike, cX2_seenAlike, 5, (some .long), [1162, 1160, 130, 1161]),
  (qX2_looksLike, uX2_looksLike, cX2_looksLike, 3, (some .boolean), [1149, 1148, 130, 55])]
def am_md_19 : List MD := [(qX2_secondBelief, uX2_secondBelief, cX2_secondBelief, 10, (some .int), [1145, 1143, 130, 1144])]
def am_md_20 : List MD := [(qX2_countOne, uX2_countOne, cX2_countOne, 5, none, [1154, 1153, 130, 56])]
def am_md_21 : List MD := [(qX2_millionths, uX2_millionths, cX2_millionths, 9, (some .int), [1158, 1157, 130, 0])]
def am_md_22 : List MD := [(qX2_factor, uX2_factor, cX2_factor, 10, (some .long), [1001, 999, 130, 1000])]
def am_md_23 : List MD := [(qX3_init, uX3_init, cX3_init, 1, none, [153, 152, 123, 0])]
def am_md_24 : List MD := [(qX3_copyOf, uX3_copyOf, cX3_copyOf, 2, none, [737, 735, 123, 736])]
def am_md_25 : List MD := [(qX3_copyRow, uX3_copyRow, cX3_copyRow, 2, none, [740, 739, 123, 0]),
  (qX3_has, uX3_has, cX3_has, 2, (some .boolean), [768, 766, 123, 767]),
  (qX3_isKind, uX3_isKind, cX3_isKind, 3, (some .boolean), [780, 778, 123, 779])]
def am_md_26 : List MD := [(qX3_told, uX3_told, cX3_told, 3, (some .int), [772, 770, 123, 771])]
def am_md_27 : List MD := [(qX3_forks, uX3_forks, cX3_forks, 3, (some .int), [1217, 1215, 123, 1216]),
  (qX3_forksOf, uX3_forksOf, cX3_forksOf, 4, (some .int), [1096, 1094, 123, 1095]),
  (qX3_usedLooks, uX3_usedLooks, cX3_usedLooks, 3, (some .int), [830, 828, 123, 829]),
  (qX4_init, uX4_init, cX4_init, 2, none, [420, 419, 129, 0])]
def am_md_28 : List MD := [(qX4_seek, uX4_seek, cX4_seek, 2, (some .long), [1036, 1034, 129, 1035])]
def am_md_29 : List MD := [(qX4_tryKey, uX4_tryKey, cX4_tryKey, 7, none, [1063, 1062, 129, 49])]
def am_md_30 : List MD := [(qX4_keyAhead, uX4_keyAhead, cX4_keyAhead, 6, (some .int), [1067, 1066, 129, 50])]
def am_md_31 : List MD := [(qX4_roadChosen, uX4_roadChosen, cX4_roadChosen, 4, (some .int), [1051, 1050, 129, 47])]
def am_md_32 : List MD := [(qX4_weigh, uX4_weigh, cX4_weigh, 6, (some .long), [1043, 1042, 129, 45])]
def am_md_33 : List MD := [(qX4_atFork, uX4_atFork, cX4_atFork, 9, (some .long), [1047, 1046, 129, 46])]
def am_md_34 : List MD := [(qX4_mean, uX4_mean, cX4_mean, 8, (some .long), [1057, 1056, 129, 48])]
def am_md_35 : List MD := [(qX5_init, uX5_init, cX5_init, 3, none, [238, 237, 124, 0])]
def am_md_36 : List MD := [(qX5_read, uX5_read, cX5_read, 3, (some .int), [568, 566, 124, 567])]
def am_md_37 : List MD := [(qX5_readPlace, uX5_readPlace, cX5_readPlace, 1, (some .boolean), [588, 587, 124, 2])]
def am_md_38 : List MD := [(qX5_readFork, uX5_readFork, cX5_readFork, 3, (some .boolean), [649, 648, 124, 5])]
def am_md_39 : List MD := [(qX5_readTurn, uX5_readTurn, cX5_readTurn, 5, (some .boolean), [671, 670, 124, 10])]
def am_md_40 : List MD := [(qX5_readInn, uX5_readInn, cX5_readInn, 1, (some .boolean), [677, 676, 124, 11]),
  (qX5_readRoad, uX5_readRoad, cX5_readRoad, 2, (some .boolean), [658, 657, 124, 7])]
def am_md_41 : List MD := [(qX5_readEnd, uX5_readEnd, cX5_readEnd, 1, (some .boolean), [682, 681, 124, 12]),
  (qX5_readTest, uX5_readTest, cX5_readTest, 4, (some .boolean), [706, 705, 124, 17])]
def am_md_42 : List MD := [(qX5_readBoth, uX5_readBoth, cX5_readBoth, 4, (some .boolean), [710, 709, 124, 18]),
  (qX5_readPlain, uX5_readPlain, cX5_readPlain, 4, (some .boolean), [714, 713, 124, 19])]
def am_md_43 : List MD := [(qX5_readInBrackets, uX5_readInBrackets, cX5_readInBrackets, 2, (some .boolean), [719, 718, 124, 20]),
  (qX5_readComparison, uX5_readComparison, cX5_readComparison, 3, (some .boolean), [723, 722, 124, 21])]
def am_md_44 : List MD := [(qX5_readSum, uX5_readSum, cX5_readSum, 4, (some .boolean), [686, 685, 124, 13])]
def am_md_45 : List MD := [(qX5_readTerm, uX5_readTerm, cX5_readTerm, 4, (some .boolean), [690, 689, 124, 14])]
def am_md_46 : List MD := [(qX5_readPart, uX5_readPart, cX5_readPart, 3, (some .boolean), [694, 693, 124, 15])]
def am_md_47 : List MD := [(qX5_put, uX5_put, cX5_put, 3, none, [701, 700, 124, 16]),
  (qX5_aim, uX5_aim, cX5_aim, 2, none, [728, 727, 124, 22]),
  (qX5_isSign, uX5_isSign, cX5_isSign, 2, (some .boolean), [666, 665, 124, 9]),
  (qX5_takeSign, uX5_takeSign, cX5_takeSign, 3, (some .boolean), [662, 661, 124, 8]),
  (qX5_isWord, uX5_isWord, cX5_isWord, 3, (some .boolean), [597, 596, 124, 4]),
  (qX5_takeWord, uX5_takeWord, cX5_takeWord, 3, (some .boolean), [593, 592, 124, 3])]
def am_md_48 : List MD := [(qX5_takeNumber, uX5_takeNumber, cX5_takeNumber, 4, (some .boolean), [653, 652, 124, 6])]
def am_md_49 : List MD := [(qX5_advance, uX5_advance, cX5_advance, 2, none, [578, 577, 124, 1])]
def am_md_50 : List MD := [(qX5_isLetter, uX5_isLetter, cX5_isLetter, 1, (some .boolean), [581, 580, 124, 0]),
  (qX5_isDigit, uX5_isDigit, cX5_isDigit, 1, (some .boolean), [584, 583, 124, 0]),
  (qX6_init, uX6_init, cX6_init, 2, none, [383, 382, 128, 0]),
  (qX6_seekPlain, uX6_seekPlain, cX6_seekPlain, 1, (some .long), [900, 898, 128, 899]),
  (qX6_startPlain, uX6_startPlain, cX6_startPlain, 3, none, [905, 904, 128, 32])]
def am_md_51 : List MD := [(qX6_seekDie, uX6_seekDie, cX6_seekDie, 3, (some .long), [980, 978, 128, 979]),
  (qX6_tellBest, uX6_tellBest, cX6_tellBest, 4, (some .long), [953, 951, 128, 952]),
  (qX6_firstRoad, uX6_firstRoad, cX6_firstRoad, 3, (some .int), [961, 959, 128, 960]),
  (qX6_giveFirst, uX6_giveFirst, cX6_giveFirst, 2, none, [969, 967, 128, 968]),
  (qX6_usedLooks, uX6_usedLooks, cX6_usedLooks, 3, (some .int), [918, 917, 128, 34]),
  (qX6_rules, uX6_rules, cX6_rules, 5, (some .long), [949, 948, 128, 40])]
def am_md_52 : List MD := [(qX6_choices, uX6_choices, cX6_choices, 2, (some .int), [945, 944, 128, 39])]
def am_md_53 : List MD := [(qX6_choose, uX6_choose, cX6_choose, 5, none, [914, 913, 128, 33])]
def am_md_54 : List MD := [(qX6_seek, uX6_seek, cX6_seek, 6, none, [923, 922, 128, 35])]
def am_md_55 : List MD := [(qX6_tryLook, uX6_tryLook, cX6_tryLook, 8, none, [936, 935, 128, 37])]
def am_md_56 : List MD := [(qX6_mayBeBest, uX6_mayBeBest, cX6_mayBeBest, 3, (some .boolean), [932, 931, 128, 36]),
  (qX6_takeRule, uX6_takeRule, cX6_takeRule, 3, none, [940, 939, 128, 38]),
  (qX6_fewestSigns, uX6_fewestSigns, cX6_fewestSigns, 6, (some .int), [1104, 1102, 128, 1103])]
def am_md_57 : List MD := [(qX6_bestSigned, uX6_bestSigned, cX6_bestSigned, 5, (some .long), [1125, 1123, 128, 1124])]
def am_md_58 : List MD := [(qX6_startSigns, uX6_startSigns, cX6_startSigns, 3, none, [1108, 1107, 128, 52])]
def am_md_59 : List MD := [(qX6_bestWithSigns, uX6_bestWithSigns, cX6_bestWithSigns, 6, (some .long), [1113, 1112, 128, 53]),
  (qX6_placesOf, uX6_placesOf, cX6_placesOf, 4, (some .int), [1117, 1116, 128, 54]),
  (qX7_init, uX7_init, cX7_init, 1, none, [305, 304, 126, 0])]
def am_md_60 : List MD := [(qX7_tell, uX7_tell, cX7_tell, 9, (some .int), [786, 784, 126, 785])]
def am_md_61 : List MD := [(qX7_run, uX7_run, cX7_run, 10, (some .long), [790, 789, 126, 25])]
def am_md_62 : List MD := [(qX7_needed, uX7_needed, cX7_needed, 1, (some .int), [793, 792, 126, 0]),
  (qX7_said, uX7_said, cX7_said, 3, (some .long), [798, 797, 126, 26])]
def am_md_63 : List MD := [(qX7_join, uX7_join, cX7_join, 5, (some .long), [801, 800, 126, 0])]
def am_md_64 : List MD := [(qX7_checked, uX7_checked, cX7_checked, 2, (some .long), [804, 803, 126, 0]),
  (qX8_init, uX8_init, cX8_init, 3, none, [479, 478, 131, 0])]
def am_md_65 : List MD := [(qX8_go, uX8_go, cX8_go, 7, none, [1181, 1179, 131, 1180])]
def am_md_66 : List MD := [(qX8_drawnRoad, uX8_drawnRoad, cX8_drawnRoad, 8, (some .int), [1189, 1188, 131, 57])]
def am_md_67 : List MD := [(qX9_init, uX9_init, cX9_init, 1, none, [145, 144, 122, 0])]
def am_md_68 : List MD := [(qX9_feed, uX9_feed, cX9_feed, 6, (some .int), [552, 550, 122, 551]),
  (qX9_putFour, uX9_putFour, cX9_putFour, 3, none, [556, 555, 122, 0]),
  (qX9_end, uX9_end, cX9_end, 2, (some .int), [560, 558, 122, 559]),
  (qX9_country, uX9_country, cX9_country, 2, (some .int), [564, 562, 122, 563]),
  (qX9_fault, uX9_fault, cX9_fault, 1, (some .int), [752, 750, 122, 751])]
def am_md_69 : List MD := [(qX9_terms, uX9_terms, cX9_terms, 4, (some .int), [756, 754, 122, 755]),
  (qX9_of, uX9_of, cX9_of, 3, (some .int), [764, 762, 122, 763]),
  (qX9_pays, uX9_pays, cX9_pays, 3, (some .long), [776, 774, 122, 775])]
def am_md_70 : List MD := [(qX9_paint, uX9_paint, cX9_paint, 4, (some .int), [819, 817, 122, 818]),
  (qX9_used, uX9_used, cX9_used, 1, (some .int), [826, 824, 122, 825])]
def am_md_71 : List MD := [(qX9_rule, uX9_rule, cX9_rule, 4, (some .int), [834, 832, 122, 833]),
  (qX9_tenths, uX9_tenths, cX9_tenths, 3, (some .int), [838, 836, 122, 837]),
  (qX9_worth, uX9_worth, cX9_worth, 1, (some .long), [842, 840, 122, 841])]
def am_md_72 : List MD := [(qX9_from, uX9_from, cX9_from, 3, (some .long), [892, 890, 122, 891]),
  (qX9_plain, uX9_plain, cX9_plain, 2, (some .long), [896, 894, 122, 895]),
  (qX9_road, uX9_road, cX9_road, 2, (some .int), [957, 955, 122, 956]),
  (qX9_follow, uX9_follow, cX9_follow, 1, (some .int), [965, 963, 122, 964])]
def am_md_73 : List MD := [(qX9_die, uX9_die, cX9_die, 5, (some .long), [973, 971, 122, 972]),
  (qX9_cast, uX9_cast, cX9_cast, 2, (some .int), [993, 991, 122, 992]),
  (qX9_power, uX9_power, cX9_power, 3, (some .long), [997, 995, 122, 996]),
  (qX9_pocket, uX9_pocket, cX9_pocket, 1, (some .long), [1031, 1029, 122, 1030])]
def am_md_74 : List MD := [(qX9_knowing, uX9_knowing, cX9_knowing, 1, (some .long), [1072, 1070, 122, 1071]),
  (qX9_knows, uX9_knows, cX9_knows, 3, (some .int), [1080, 1078, 122, 1079]),
  (qX9_signs, uX9_signs, cX9_signs, 6, (some .int), [1088, 1086, 122, 1087]),
  (qX9_signed, uX9_signed, cX9_signed, 2, (some .long), [1121, 1119, 122, 1120])]
def am_md_75 : List MD := [(qX9_canSign, uX9_canSign, cX9_canSign, 3, (some .boolean), [1092, 1091, 122, 51]),
  (qX9_visits, uX9_visits, cX9_visits, 2, (some .long), [1129, 1127, 122, 1128])]
def am_md_76 : List MD := [(qX9_ends, uX9_ends, cX9_ends, 3, (some .long), [1137, 1135, 122, 1136])]
def am_md_77 : List MD := [(qX9_belief, uX9_belief, cX9_belief, 3, (some .int), [1141, 1139, 122, 1140]),
  (qX9_bet, uX9_bet, cX9_bet, 3, (some .long), [1167, 1165, 122, 1166])]
def am_md_78 : List MD := [(qX9_price, uX9_price, cX9_price, 4, (some .int), [1172, 1170, 122, 1171]),
  (qX9_ride, uX9_ride, cX9_ride, 2, (some .int), [1176, 1174, 122, 1175]),
  (qX9_rode, uX9_rode, cX9_rode, 2, (some .long), [1195, 1193, 122, 1194])]
def am_md_79 : List MD := [(qX9_image, uX9_image, cX9_image, 2, (some .int), [1199, 1197, 122, 1198]),
  (qX9_back, uX9_back, cX9_back, 2, (some .int), [1209, 1207, 122, 1208])]
def am_md_80 : List MD := [(qX9_count, uX9_count, cX9_count, 2, (some .int), [1213, 1211, 122, 1212])]
def am_md_81 : List MD := [(qX9_status, uX9_status, cX9_status, 1, (some .int), [1221, 1219, 122, 1220]),
  (qX9_refuse, uX9_refuse, cX9_refuse, 2, (some .int), [733, 732, 122, 23]),
  (qX9_grant, uX9_grant, cX9_grant, 2, (some .int), [748, 747, 122, 24]),
  (qX9_noPlaces, uX9_noPlaces, cX9_noPlaces, 1, (some .boolean), [846, 845, 122, 27]),
  (qX9_isLook, uX9_isLook, cX9_isLook, 1, (some .boolean), [822, 821, 122, 0]),
  (qX9_isLooks, uX9_isLooks, cX9_isLooks, 1, (some .boolean), [976, 975, 122, 0]),
  (qX10_lies, uX10_lies, cX10_lies, 3, (some .boolean), [1382, 1381, 132, 0]),
  (qX10_refuses, uX10_refuses, cX10_refuses, 2, (some .int), [1386, 1385, 132, 58]),
  (qX10_good, uX10_good, cX10_good, 2, (some .int), [1390, 1389, 132, 59]),
  (qX10_isIn, uX10_isIn, cX10_isIn, 2, (some .boolean), [1660, 1659, 132, 0])]
def am_md_82 : List MD := [(qX10_ones, uX10_ones, cX10_ones, 3, (some .int), [1657, 1656, 132, 0]),
  (qX10_ten, uX10_ten, cX10_ten, 4, (some .long), [1603, 1602, 132, 0])]
def am_md_83 : List MD := [(qX10_init, uX10_init, cX10_init, 2, none, [1226, 1225, 132, 0])]
def am_md_84 : List MD := [(qX10_image, uX10_image, cX10_image, 3, (some .int), [1379, 1377, 132, 1378]),
  (qX10_back, uX10_back, cX10_back, 3, (some .int), [1394, 1392, 132, 1393]),
  (qX10_places, uX10_places, cX10_places, 1, (some .int), [1496, 1495, 132, 76]),
  (qX10_day, uX10_day, cX10_day, 1, (some .int), [1517, 1516, 132, 80]),
  (qX10_isPlace, uX10_isPlace, cX10_isPlace, 2, (some .boolean), [1492, 1491, 132, 75]),
  (qX10_placeOf, uX10_placeOf, cX10_placeOf, 3, (some .int), [1500, 1499, 132, 77])]
def am_md_85 : List MD := [(qX10_isFork, uX10_isFork, cX10_isFork, 2, (some .boolean), [1572, 1571, 132, 91]),
  (qX10_isLook, uX10_isLook, cX10_isLook, 1, (some .boolean), [1568, 1567, 132, 0])]
def am_md_86 : List MD := [(qX10_feed, uX10_feed, cX10_feed, 7, (some .int), [1398, 1396, 132, 1397])]
def am_md_87 : List MD := [(qX10_end, uX10_end, cX10_end, 2, (some .int), [1402, 1400, 132, 1401]),
  (qX10_isSmall, uX10_isSmall, cX10_isSmall, 1, (some .boolean), [1413, 1412, 132, 0]),
  (qX10_isDigit, uX10_isDigit, cX10_isDigit, 1, (some .boolean), [1416, 1415, 132, 0])]
def am_md_88 : List MD := [(qX10_wordOf, uX10_wordOf, cX10_wordOf, 8, (some .int), [1420, 1419, 132, 61])]
def am_md_89 : List MD := [(qX10_splits, uX10_splits, cX10_splits, 6, none, [1410, 1409, 132, 60])]
def am_md_90 : List MD := [(qX10_fine, uX10_fine, cX10_fine, 1, (some .boolean), [1429, 1428, 132, 63]),
  (qX10_faults, uX10_faults, cX10_faults, 1, none, [1425, 1424, 132, 62]),
  (qX10_takes0, uX10_takes0, cX10_takes0, 3, (some .boolean), [1437, 1436, 132, 65]),
  (qX10_must, uX10_must, cX10_must, 2, none, [1445, 1444, 132, 67]),
  (qX10_leaf, uX10_leaf, cX10_leaf, 1, none, [1464, 1463, 132, 71]),
  (qX10_sign, uX10_sign, cX10_sign, 1, (some .int), [1448, 1447, 132, 0]),
  (qX10_readTest, uX10_readTest, cX10_readTest, 2, none, [1468, 1467, 132, 72]),
  (qX10_readBoth, uX10_readBoth, cX10_readBoth, 2, none, [1472, 1471, 132, 73])]
def am_md_91 : List MD := [(qX10_readPlain, uX10_readPlain, cX10_readPlain, 4, none, [1476, 1475, 132, 74])]
def am_md_92 : List MD := [(qX10_readSum, uX10_readSum, cX10_readSum, 2, none, [1452, 1451, 132, 68]),
  (qX10_readTerm, uX10_readTerm, cX10_readTerm, 2, none, [1456, 1455, 132, 69])]
def am_md_93 : List MD := [(qX10_readPart, uX10_readPart, cX10_readPart, 3, none, [1460, 1459, 132, 70])]
def am_md_94 : List MD := [(qX10_number, uX10_number, cX10_number, 3, (some .boolean), [1441, 1440, 132, 66])]
def am_md_95 : List MD := [(qX10_readPlace, uX10_readPlace, cX10_readPlace, 5, none, [1433, 1432, 132, 64])]
def am_md_96 : List MD := [(qX10_country, uX10_country, cX10_country, 3, (some .int), [1406, 1404, 132, 1405])]
def am_md_97 : List MD := [(qX10_fault, uX10_fault, cX10_fault, 1, (some .int), [1480, 1478, 132, 1479]),
  (qX10_codeAt, uX10_codeAt, cX10_codeAt, 2, (some .int), [1537, 1536, 132, 85]),
  (qX10_passes0, uX10_passes0, cX10_passes0, 3, (some .boolean), [1533, 1532, 132, 84]),
  (qX10_bounded, uX10_bounded, cX10_bounded, 4, (some .long), [1541, 1540, 132, 86])]
def am_md_98 : List MD := [(qX10_sumOf, uX10_sumOf, cX10_sumOf, 7, (some .long), [1521, 1520, 132, 81])]
def am_md_99 : List MD := [(qX10_termOf, uX10_termOf, cX10_termOf, 7, (some .long), [1525, 1524, 132, 82])]
def am_md_100 : List MD := [(qX10_partOf, uX10_partOf, cX10_partOf, 4, (some .long), [1529, 1528, 132, 83])]
def am_md_101 : List MD := [(qX10_testOf, uX10_testOf, cX10_testOf, 4, (some .boolean), [1547, 1546, 132, 87]),
  (qX10_bothOf, uX10_bothOf, cX10_bothOf, 4, (some .boolean), [1551, 1550, 132, 88]),
  (qX10_plainOf, uX10_plainOf, cX10_plainOf, 3, (some .boolean), [1555, 1554, 132, 89])]
def am_md_102 : List MD := [(qX10_positiveOf, uX10_positiveOf, cX10_positiveOf, 7, (some .boolean), [1559, 1558, 132, 90])]
def am_md_103 : List MD := [(qX10_worthOf, uX10_worthOf, cX10_worthOf, 7, (some .int), [1513, 1512, 132, 79])]
def am_md_104 : List MD := [(qX10_looks, uX10_looks, cX10_looks, 3, none, [1509, 1508, 132, 78])]
def am_md_105 : List MD := [(qX10_terms, uX10_terms, cX10_terms, 4, (some .int), [1484, 1482, 132, 1483])]
def am_md_106 : List MD := [(qX10_of, uX10_of, cX10_of, 5, (some .int), [1488, 1486, 132, 1487])]
def am_md_107 : List MD := [(qX10_pays, uX10_pays, cX10_pays, 3, (some .long), [1504, 1502, 132, 1503]),
  (qX10_paint, uX10_paint, cX10_paint, 4, (some .int), [1565, 1563, 132, 1564]),
  (qX10_used, uX10_used, cX10_used, 3, (some .int), [1576, 1574, 132, 1575])]
def am_md_108 : List MD := [(qX10_rule, uX10_rule, cX10_rule, 4, (some .int), [1580, 1578, 132, 1579])]
def am_md_109 : List MD := [(qX10_tenths, uX10_tenths, cX10_tenths, 3, (some .int), [1584, 1582, 132, 1583]),
  (qX10_takesRule, uX10_takesRule, cX10_takesRule, 2, none, [1592, 1591, 132, 92]),
  (qX10_next, uX10_next, cX10_next, 3, (some .long), [1608, 1607, 132, 95]),
  (qX10_weighs, uX10_weighs, cX10_weighs, 3, none, [1596, 1595, 132, 93])]
def am_md_110 : List MD := [(qX10_weigh, uX10_weigh, cX10_weigh, 14, (some .long), [1600, 1599, 132, 94])]
def am_md_111 : List MD := [(qX10_atStart, uX10_atStart, cX10_atStart, 1, (some .long), [1612, 1611, 132, 96]),
  (qX10_worth, uX10_worth, cX10_worth, 1, (some .long), [1588, 1586, 132, 1587]),
  (qX10_from, uX10_from, cX10_from, 3, (some .long), [1616, 1614, 132, 1615]),
  (qX10_knowing, uX10_knowing, cX10_knowing, 1, (some .long), [1620, 1618, 132, 1619])]
def am_md_112 : List MD := [(qX10_knows, uX10_knows, cX10_knows, 5, (some .int), [1624, 1622, 132, 1623])]
def am_md_113 : List MD := [(qX10_most, uX10_most, cX10_most, 4, (some .int), [1637, 1636, 132, 98])]
def am_md_114 : List MD := [(qX10_plains, uX10_plains, cX10_plains, 7, none, [1633, 1632, 132, 97])]
def am_md_115 : List MD := [(qX10_plain, uX10_plain, cX10_plain, 2, (some .long), [1629, 1627, 132, 1628]),
  (qX10_road, uX10_road, cX10_road, 2, (some .int), [1641, 1639, 132, 1640]),
  (qX10_follow, uX10_follow, cX10_follow, 3, (some .int), [1645, 1643, 132, 1644])]
def am_md_116 : List MD := [(qX10_dices, uX10_dices, cX10_dices, 9, (some .boolean), [1653, 1652, 132, 99])]
def am_md_117 : List MD := [(qX10_shares, uX10_shares, cX10_shares, 2, (some .int), [1664, 1663, 132, 100])]
def am_md_118 : List MD := [(qX10_laysShare, uX10_laysShare, cX10_laysShare, 6, none, [1668, 1667, 132, 101])]
def am_md_119 : List MD := [(qX10_die, uX10_die, cX10_die, 3, (some .long), [1649, 1647, 132, 1648]),
  (qX10_cast, uX10_cast, cX10_cast, 3, (some .int), [1672, 1670, 132, 1671])]
def am_md_120 : List MD := [(qX10_powerAt, uX10_powerAt, cX10_powerAt, 4, (some .long), [1684, 1683, 132, 103])]
def am_md_121 : List MD := [(qX10_power0, uX10_power0, cX10_power0, 13, (some .long), [1680, 1679, 132, 102])]
def am_md_122 : List MD := [(qX10_power, uX10_power, cX10_power, 6, (some .long), [1676, 1674, 132, 1675])]
def am_md_123 : List MD := [(qX10_pocketAt, uX10_pocketAt, cX10_pocketAt, 4, (some .long), [1696, 1695, 132, 105])]
def am_md_124 : List MD := [(qX10_pocket0, uX10_pocket0, cX10_pocket0, 11, (some .long), [1692, 1691, 132, 104])]
def am_md_125 : List MD := [(qX10_pocket, uX10_pocket, cX10_pocket, 10, (some .long), [1688, 1686, 132, 1687])]
def am_md_126 : List MD := [(qX10_forksOf, uX10_forksOf, cX10_forksOf, 4, (some .int), [1708, 1707, 132, 107]),
  (qX10_canSign, uX10_canSign, cX10_canSign, 2, (some .boolean), [1704, 1703, 132, 106])]
def am_md_127 : List MD := [(qX10_painted, uX10_painted, cX10_painted, 4, (some .long), [1713, 1712, 132, 108])]
def am_md_128 : List MD := [(qX10_signs, uX10_signs, cX10_signs, 8, (some .int), [1700, 1698, 132, 1699])]
def am_md_129 : List MD := [(qX10_signed, uX10_signed, cX10_signed, 8, (some .long), [1717, 1715, 132, 1716]),
  (qX10_comes, uX10_comes, cX10_comes, 5, none, [1729, 1728, 132, 110])]
def am_md_130 : List MD := [(qX10_spreads, uX10_spreads, cX10_spreads, 6, none, [1725, 1724, 132, 109])]
def am_md_131 : List MD := [(qX10_tenthsOf, uX10_tenthsOf, cX10_tenthsOf, 3, (some .int), [1737, 1736, 132, 112]),
  (qX10_roadOf, uX10_roadOf, cX10_roadOf, 3, (some .int), [1741, 1740, 132, 113]),
  (qX10_goesOn, uX10_goesOn, cX10_goesOn, 7, none, [1733, 1732, 132, 111])]
def am_md_132 : List MD := [(qX10_visitsOf, uX10_visitsOf, cX10_visitsOf, 5, (some .long), [1745, 1744, 132, 114]),
  (qX10_visits, uX10_visits, cX10_visits, 2, (some .long), [1721, 1719, 132, 1720]),
  (qX10_ends, uX10_ends, cX10_ends, 2, (some .long), [1749, 1747, 132, 1748]),
  (qX10_visitsOfLook, uX10_visitsOfLook, cX10_visitsOfLook, 5, (some .long), [1777, 1776, 132, 119])]
def am_md_133 : List MD := [(qX10_millionths, uX10_millionths, cX10_millionths, 14, (some .int), [1773, 1772, 132, 0]),
  (qX10_at, uX10_at, cX10_at, 4, (some .int), [1769, 1768, 132, 118])]
def am_md_134 : List MD := [(qX10_over, uX10_over, cX10_over, 5, none, [1765, 1764, 132, 117])]
def am_md_135 : List MD := [(qX10_comesSeeing, uX10_comesSeeing, cX10_comesSeeing, 9, none, [1761, 1760, 132, 116])]
def am_md_136 : List MD := [(qX10_second, uX10_second, cX10_second, 10, (some .int), [1757, 1756, 132, 115])]
def am_md_137 : List MD := [(qX10_belief, uX10_belief, cX10_belief, 5, (some .int), [1753, 1751, 132, 1752]),
  (qX10_bet, uX10_bet, cX10_bet, 3, (some .long), [1781, 1779, 132, 1780]),
  (qX10_price, uX10_price, cX10_price, 3, (some .int), [1786, 1784, 132, 1785]),
  (qX10_draws, uX10_draws, cX10_draws, 1, (some .int), [1795, 1794, 132, 120])]
def am_md_138 : List MD := [(qX10_ride, uX10_ride, cX10_ride, 8, (some .int), [1791, 1789, 132, 1790])]
def am_md_139 : List MD := [(qX10_rode, uX10_rode, cX10_rode, 2, (some .long), [1802, 1800, 132, 1801])]
def am_md_140 : List MD := [(qX10_count, uX10_count, cX10_count, 4, (some .int), [1806, 1804, 132, 1805])]
def am_md_141 : List MD := [(qX10_status, uX10_status, cX10_status, 1, (some .int), [1810, 1808, 132, 1809]),
  (qJ6_bitCount_0f7a4, uJ6_bitCount_0f7a4, cJ6_bitCount_0f7a4, 1, (some .int), [983, 982, 140, 0]),
  (qJ0_length_8abf5, uJ0_length_8abf5, cJ0_length_8abf5, 1, (some .int), [601, 599, 134, 600]),
  (qJ0_charAt_5068e, uJ0_charAt_5068e, cJ0_charAt_5068e, 2, (some .char), [611, 609, 134, 610]),
  (qJ0_coder_7d493, uJ0_coder_7d493, cJ0_coder_7d493, 1, (some .byte), [605, 603, 134, 604]),
  (qJ0_isLatin1_aae02, uJ0_isLatin1_aae02, cJ0_isLatin1_aae02, 1, (some .boolean), [615, 613, 134, 614]),
  (qJ1_charAt_3b067, uJ1_charAt_3b067, cJ1_charAt_3b067, 2, (some .char), [618, 617, 135, 0]),
  (qJ7_fill_d0a16, uJ7_fill_d0a16, cJ7_fill_d0a16, 5, none, [1009, 1008, 139, 0]),
  (qJ7_fill_53178, uJ7_fill_53178, cJ7_fill_53178, 4, none, [859, 858, 139, 0]),
  ([], [], cJ0_checkIndex_df160, 2, none, [621, 620, 134, 0])]
def am_pr_141 : List MD := am_md_141
def am_pr_140 : List MD := am_md_140 ++ am_pr_141
def am_pr_139 : List MD := am_md_139 ++ am_pr_140
def am_pr_138 : List MD := am_md_138 ++ am_pr_139
def am_pr_137 : List MD := am_md_137 ++ am_pr_138
def am_pr_136 : List MD := am_md_136 ++ am_pr_137
def am_pr_135 : List MD := am_md_135 ++ am_pr_136
def am_pr_134 : List MD := am_md_134 ++ am_pr_135
def am_pr_133 : List MD := am_md_133 ++ am_pr_134
def am_pr_132 : List MD := am_md_132 ++ am_pr_133
def am_pr_131 : List MD := am_md_131 ++ am_pr_132
def am_pr_130 : List MD := am_md_130 ++ am_pr_131
def am_pr_129 : List MD := am_md_129 ++ am_pr_130
def am_pr_128 : List MD := am_md_128 ++ am_pr_129
def am_pr_127 : List MD := am_md_127 ++ am_pr_128
def am_pr_126 : List MD := am_md_126 ++ am_pr_127
def am_pr_125 : List MD := am_md_125 ++ am_pr_126
def am_pr_124 : List MD := am_md_124 ++ am_pr_125
def am_pr_123 : List MD := am_md_123 ++ am_pr_124
def am_pr_122 : List MD := am_md_122 ++ am_pr_123
def am_pr_121 : List MD := am_md_121 ++ am_pr_122
def am_pr_120 : List MD := am_md_120 ++ am_pr_121
def am_pr_119 : List MD := am_md_119 ++ am_pr_120
def am_pr_118 : List MD := am_md_118 ++ am_pr_119
def am_pr_117 : List MD := am_md_117 ++ am_pr_118
def am_pr_116 : List MD := am_md_116 ++ am_pr_117
def am_pr_115 : List MD := am_md_115 ++ am_pr_116
def am_pr_114 : List MD := am_md_114 ++ am_pr_115
def am_pr_113 : List MD := am_md_113 ++ am_pr_114
def am_pr_112 : List MD := am_md_112 ++ am_pr_113
def am_pr_111 : List MD := am_md_111 ++ am_pr_112
def am_pr_110 : List MD := am_md_110 ++ am_pr_111
def am_pr_109 : List MD := am_md_109 ++ am_pr_110
def am_pr_108 : List MD := am_md_108 ++ am_pr_109
def am_pr_107 : List MD := am_md_107 ++ am_pr_108
def am_pr_106 : List MD := am_md_106 ++ am_pr_107
def am_pr_105 : List MD := am_md_105 ++ am_pr_106
def am_pr_104 : List MD := am_md_104 ++ am_pr_105
def am_pr_103 : List MD := am_md_103 ++ am_pr_104
def am_pr_102 : List MD := am_md_102 ++ am_pr_103
def am_pr_101 : List MD := am_md_101 ++ am_pr_102
def am_pr_100 : List MD := am_md_100 ++ am_pr_101
def am_pr_99 : List MD := am_md_99 ++ am_pr_100
def am_pr_98 : List MD := am_md_98 ++ am_pr_99
def am_pr_97 : List MD := am_md_97 ++ am_pr_98
def am_pr_96 : List MD := am_md_96 ++ am_pr_97
def am_pr_95 : List MD := am_md_95 ++ am_pr_96
def am_pr_94 : List MD := am_md_94 ++ am_pr_95
def am_pr_93 : List MD := am_md_93 ++ am_pr_94
def am_pr_92 : List MD := am_md_92 ++ am_pr_93
def am_pr_91 : List MD := am_md_91 ++ am_pr_92
def am_pr_90 : List MD := am_md_90 ++ am_pr_91
def am_pr_89 : List MD := am_md_89 ++ am_pr_90
def am_pr_88 : List MD := am_md_88 ++ am_pr_89
def am_pr_87 : List MD := am_md_87 ++ am_pr_88
def am_pr_86 : List MD := am_md_86 ++ am_pr_87
def am_pr_85 : List MD := am_md_85 ++ am_pr_86
def am_pr_84 : List MD := am_md_84 ++ am_pr_85
def am_pr_83 : List MD := am_md_83 ++ am_pr_84
def am_pr_82 : List MD := am_md_82 ++ am_pr_83
def am_pr_81 : List MD := am_md_81 ++ am_pr_82
def am_pr_80 : List MD := am_md_80 ++ am_pr_81
def am_pr_79 : List MD := am_md_79 ++ am_pr_80
def am_pr_78 : List MD := am_md_78 ++ am_pr_79
def am_pr_77 : List MD := am_md_77 ++ am_pr_78
def am_pr_76 : List MD := am_md_76 ++ am_pr_77
def am_pr_75 : List MD := am_md_75 ++ am_pr_76
def am_pr_74 : List MD := am_md_74 ++ am_pr_75
def am_pr_73 : List MD := am_md_73 ++ am_pr_74
def am_pr_72 : List MD := am_md_72 ++ am_pr_73
def am_pr_71 : List MD := am_md_71 ++ am_pr_72
def am_pr_70 : List MD := am_md_70 ++ am_pr_71
def am_pr_69 : List MD := am_md_69 ++ am_pr_70
def am_pr_68 : List MD := am_md_68 ++ am_pr_69
def am_pr_67 : List MD := am_md_67 ++ am_pr_68
def am_pr_66 : List MD := am_md_66 ++ am_pr_67
def am_pr_65 : List MD := am_md_65 ++ am_pr_66
def am_pr_64 : List MD := am_md_64 ++ am_pr_65
def am_pr_63 : List MD := am_md_63 ++ am_pr_64
def am_pr_62 : List MD := am_md_62 ++ am_pr_63
def am_pr_61 : List MD := am_md_61 ++ am_pr_62
def am_pr_60 : List MD := am_md_60 ++ am_pr_61
def am_pr_59 : List MD := am_md_59 ++ am_pr_60
def am_pr_58 : List MD := am_md_58 ++ am_pr_59
def am_pr_57 : List MD := am_md_57 ++ am_pr_58
def am_pr_56 : List MD := am_md_56 ++ am_pr_57
def am_pr_55 : List MD := am_md_55 ++ am_pr_56
def am_pr_54 : List MD := am_md_54 ++ am_pr_55
def am_pr_53 : List MD := am_md_53 ++ am_pr_54
def am_pr_52 : List MD := am_md_52 ++ am_pr_53
def am_pr_51 : List MD := am_md_51 ++ am_pr_52
def am_pr_50 : List MD := am_md_50 ++ am_pr_51
def am_pr_49 : List MD := am_md_49 ++ am_pr_50
def am_pr_48 : List MD := am_md_48 ++ am_pr_49
def am_pr_47 : List MD := am_md_47 ++ am_pr_48
def am_pr_46 : List MD := am_md_46 ++ am_pr_47
def am_pr_45 : List MD := am_md_45 ++ am_pr_46
def am_pr_44 : List MD := am_md_44 ++ am_pr_45
def am_pr_43 : List MD := am_md_43 ++ am_pr_44
def am_pr_42 : List MD := am_md_42 ++ am_pr_43
def am_pr_41 : List MD := am_md_41 ++ am_pr_42
def am_pr_40 : List MD := am_md_40 ++ am_pr_41
def am_pr_39 : List MD := am_md_39 ++ am_pr_40
def am_pr_38 : List MD := am_md_38 ++ am_pr_39
def am_pr_37 : List MD := am_md_37 ++ am_pr_38
def am_pr_36 : List MD := am_md_36 ++ am_pr_37
def am_pr_35 : List MD := am_md_35 ++ am_pr_36
def am_pr_34 : List MD := am_md_34 ++ am_pr_35
def am_pr_33 : List MD := am_md_33 ++ am_pr_34
def am_pr_32 : List MD := am_md_32 ++ am_pr_33
def am_pr_31 : List MD := am_md_31 ++ am_pr_32
def am_pr_30 : List MD := am_md_30 ++ am_pr_31
def am_pr_29 : List MD := am_md_29 ++ am_pr_30
def am_pr_28 : List MD := am_md_28 ++ am_pr_29
def am_pr_27 : List MD := am_md_27 ++ am_pr_28
def am_pr_26 : List MD := am_md_26 ++ am_pr_27
def am_pr_25 : List MD := am_md_25 ++ am_pr_26
def am_pr_24 : List MD := am_md_24 ++ am_pr_25
def am_pr_23 : List MD := am_md_23 ++ am_pr_24
def am_pr_22 : List MD := am_md_22 ++ am_pr_23
def am_pr_21 : List MD := am_md_21 ++ am_pr_22
def am_pr_20 : List MD := am_md_20 ++ am_pr_21
def am_pr_19 : List MD := am_md_19 ++ am_pr_20
def am_pr_18 : List MD := am_md_18 ++ am_pr_19
def am_pr_17 : List MD := am_md_17 ++ am_pr_18
def am_pr_16 : List MD := am_md_16 ++ am_pr_17
def am_pr_15 : List MD := am_md_15 ++ am_pr_16
def am_pr_14 : List MD := am_md_14 ++ am_pr_15
def am_pr_13 : List MD := am_md_13 ++ am_pr_14
def am_pr_12 : List MD := am_md_12 ++ am_pr_13
def am_pr_11 : List MD := am_md_11 ++ am_pr_12
def am_pr_10 : List MD := am_md_10 ++ am_pr_11
def am_pr_9 : List MD := am_md_9 ++ am_pr_10
def am_pr_8 : List MD := am_md_8 ++ am_pr_9
def am_pr_7 : List MD := am_md_7 ++ am_pr_8
def am_pr_6 : List MD := am_md_6 ++ am_pr_7
def am_pr_5 : List MD := am_md_5 ++ am_pr_6
def am_pr_4 : List MD := am_md_4 ++ am_pr_5
def am_pr_3 : List MD := am_md_3 ++ am_pr_4
def am_pr_2 : List MD := am_md_2 ++ am_pr_3
def am_pr_1 : List MD := am_md_1 ++ am_pr_2
def am_pr_0 : List MD := am_md_0 ++ am_pr_1
def am_prog : List MD := am_pr_0
