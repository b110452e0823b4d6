/-! THE START: the law's entry, in the small machine's words -/
def R_law : String := "ForgetfulRiderLaw"
def lw_P (b : Addr) (xs : List Int32) (args : Array Value) (s : State) : Prop := args = #[.ref b] ∧ s.IntsAt b xs ∧ xs.length ≤ 3072 ∧ (Jvm.Cond.and given_1 narrow_1).before args s = true
def lw_Q (_ : Array Value) (s : State) (o : Outcome) (t : State) : Prop := o = .returned (some (.int 1)) ∧ Framed s o t [] 600000 7302250
def lw_Z (below : List Frame) (a : Array Value) (s : State) : State → Prop := fun t => ∃ o, t.status = .running ∧ Ended t below o ∧ lw_Q a s o t
/-- the law's own end, with 1 on the stack, nothing written that was there before, its room as the claim has it -/
theorem lw_ret {p : Program} {l : Launch} {e : Env} {s : State} {m : MethodId} {below : List Frame} {meth : Method} {c : Code} {b : Nat} (hx : p.tables.exec = Jvm.exec) (hb : c.code = code) (hr : meth.sig.returnType = ret) (hlocks : meth.locks = false) {pc : Nat} {H : Heap} {ls : Array Slot} (hdg : decode code pc = .ok (.ireturn, 1)) : W p l e room_1 s m #[Value.ref b] below meth c H [] 600000 7302250 (lw_Z below #[Value.ref b] s) (F0 m pc ls [.int 1]) := by
  intro T hT X
  obtain ⟨fs, hret, hrun, hended, hW, hframe⟩ := X.leave (v := some (.int 1)) (hlocks := hlocks) (fun h => by rw [hr] at h; cases h)
  have hmeth' : T.vm.method? m = some meth := X.method'
  refine ⟨T.setFrames fs, ?_, .returned (some (.int 1)), hrun, hended, rfl, ⟨_, rfl⟩, hW, hframe⟩
  jvm_step X.here [X.here.top, hx, hb, hdg, hmeth', hr, ret, narrow_b1]
  (try refine ⟨rfl, ?_⟩); (try refine ⟨rfl, ?_⟩)
  first | (intro acts; rw [hret _ acts rfl rfl rfl]) | rw [hret _ _ rfl rfl rfl]
  exact Steps.refl _
/-- what holds at the law's entry: the machine, the code, the tables' words (any of lw_tbl by 'hts w (by decide +kernel)'), the script of L ints xs at the cell b, what the Statement gives of the start (any of its parts by flat_of_before) -/
def lw_At (p : Program) (s : State) (m : MethodId) (meth : Method) (c : Code) (b L : Nat) (xs : Nat → Int32) : Prop :=
  p.tables.exec = Jvm.exec ∧ c.code = code ∧ meth.sig.returnType = ret ∧ c.maxLocals = 4 ∧ s.vm.findClass R_law = some m.cls ∧ (∀ w ∈ lw_tbl, w.before #[Value.ref b] s = true) ∧ va_X b L xs s s.heap ∧ b < s.heap.size ∧ meth.locks = false ∧ (Jvm.Cond.and given_1 narrow_1).before #[Value.ref b] s = true
def am_bytes : List (List Int32) := [[102, 111, 114, 107], [116, 111], [116, 117, 114, 110], [98, 121], [105, 110, 110], [101, 110, 100], [115, 116, 101, 112], [112, 108, 97, 99, 101], [100, 97, 121], [105, 102], [110, 111, 116], [97, 110, 100], [111, 114]]
def am_low : List Int32 := [0, 1, -999, -999]
def am_high : List Int32 := [15, 10, 999, 999]
def am_h0 (n : Nat) (xs : Nat → Int32) : AH := (29, 0, fun a =>
  if a < 13 then (11, 2, fun k => if k = 0 then .ref (13 + a) else .int 0)
  else if a < 26 then (102, (am_bytes.getD (a - 13) []).length, fun j => .int ((am_bytes.getD (a - 13) []).getD j 0))
  else if a = 26 then (100, 4, fun j => .int (am_low.getD j 0))
  else if a = 27 then (100, 4, fun j => .int (am_high.getD j 0))
  else (100, n, fun j => .int (xs j)))
def am_tm (i : Nat) : Term := Term.string RX5 (so_si.getD i (0, "")).1
theorem so_str1 {args : Array Value} {s : State} {tm : Term} {byt : List Int32} {A : Nat → Prop} (hN : byt.length < 2 ^ 31) (hex : (Cond.exactly tm "java/lang/String").before args s = true) (hco : (Cond.eq (.field tm "java/lang/String" "coder" "B") (.int 0)).before args s = true)
    (har : (Cond.arrayOf (.field tm "java/lang/String" "value" "[B") .byte).before args s = true) (hle : (Cond.eq (.length (.field tm "java/lang/String" "value" "[B")) (.int (Int32.ofNat byt.length))).before args s = true)
    (hel : ∀ j : Nat, j < byt.length → (Cond.eq (.elem (.field tm "java/lang/String" "value" "[B") (.int (Int32.ofNat j))) (.int (byt.getD j 0))).before args s = true) (hA : ∀ a : Nat, a < s.heap.size → ¬ A a) :
    ∃ q : Nat × Nat, tm.eval args s none [] s = some (.ref q.1) ∧ va_O "java/lang/String" q.1 A s s.heap ∧ va_OF "java/lang/String" "coder" "B" (.int 0) q.1 A s s.heap ∧ va_OF "java/lang/String" "value" "[B" (.ref q.2) q.1 A s s.heap ∧ va_T .byte q.2 byt.length (fun j => .int (byt.getD j 0)) A s s.heap := by
  obtain ⟨a, c, cA, kA, q1, q2, q3, q4, q5, q6, -⟩ := Cond.exactly_spec (args := args) (first := s) (o := none) (s := s) (idx := []) (t := tm) (cls := "java/lang/String") hex
  obtain ⟨t, ht, hT⟩ := va_Tof (f := fun j => .int (byt.getD j 0)) (A := A) hN har (va_eqt hle) (fun j hj => va_eqt (hel j hj)) hA
  exact ⟨(a, t), q1, ⟨cA, q3, q5, by rw [q6]; exact q2, hA a (Array.getElem?_eq_some_iff.mp q3).1⟩, vk_OFof q1 (va_eqt hco) hA, vk_OFof q1 ht hA, hT⟩
theorem so_strc : ∀ i, i < 13 → ((Cond.exactly (am_tm i) "java/lang/String" ∈ flatC (Jvm.Cond.and given_1 narrow_1) ∧ Cond.eq (.field (am_tm i) "java/lang/String" "coder" "B") (.int 0) ∈ flatC (Jvm.Cond.and given_1 narrow_1)) ∧ (Cond.arrayOf (.field (am_tm i) "java/lang/String" "value" "[B") .byte ∈ flatC (Jvm.Cond.and given_1 narrow_1) ∧ Cond.eq (.length (.field (am_tm i) "java/lang/String" "value" "[B")) (.int (Int32.ofNat (am_bytes.getD i []).length)) ∈ flatC (Jvm.Cond.and given_1 narrow_1)) ∧
    ∀ j, j < (am_bytes.getD i []).length → Cond.eq (.elem (.field (am_tm i) "java/lang/String" "value" "[B") (.int (Int32.ofNat j))) (.int ((am_bytes.getD i []).getD j 0)) ∈ flatC (Jvm.Cond.and given_1 narrow_1)) := by decide +kernel
theorem so_strr : ∀ i, i < 13 → Cond.stringRef RX5 (so_si.getD i (0, "")).1 (so_si.getD i (0, "")).2 ∈ lw_tbl ∧ (am_bytes.getD i []).length < 100 := by decide +kernel
theorem so_nsr : ∀ q ∈ so_ns, Cond.methodLinkNest q.1 q.2.1 q.2.2 "ForgetfulRider" ∈ lw_tbl := by decide +kernel
theorem so_tabc (nm : String) (zs : List Int32) (h : Cond.arrayOf (.static "ForgetfulRider" nm "[I") .int ∈ flatC (Jvm.Cond.and given_1 narrow_1) ∧ Cond.eq (.length (.static "ForgetfulRider" nm "[I")) (.int 4) ∈ flatC (Jvm.Cond.and given_1 narrow_1) ∧ ∀ j, j < 4 → Cond.eq (.elem (.static "ForgetfulRider" nm "[I") (.int (Int32.ofNat j))) (.int (zs.getD j 0)) ∈ flatC (Jvm.Cond.and given_1 narrow_1)) {args : Array Value} {s : State} {A : Nat → Prop} (hg : (Jvm.Cond.and given_1 narrow_1).before args s = true) (hA : ∀ a : Nat, a < s.heap.size → ¬ A a) (hl : (Cond.laysStatic "ForgetfulRider" nm "[I").before args s = true) (hini : (Cond.initialized "ForgetfulRider").before args s = true) :
    ∃ t, va_Z "ForgetfulRider" nm "[I" (.ref t) A s s.heap ∧ va_T .int t 4 (fun j => .int (zs.getD j 0)) A s s.heap := by
  have hs := flat_of_before _ hg
  obtain ⟨h1, h2, h3⟩ := h
  obtain ⟨t, ht, hT⟩ := va_Tof (N := 4) (f := fun j => .int (zs.getD j 0)) (A := A) (by decide) (hs _ h1) (va_eqt (hs _ h2)) (fun j hj => va_eqt (hs _ (h3 j hj))) hA
  exact ⟨t, va_Zref hl hini ht hA, hT⟩
theorem so_T_cell {D : va_G} {r : Nat → Nat} {B : Nat} {U : State} {kd n t : Nat} {f : Nat → Value} {A : Nat → Prop} {H : Heap} (hkd : kd = 100 ∨ kd = 102) (h : va_T (am_aty kd) t n f A U H) (hf : ∀ j, so_V r (f j) = f j) : so_cell D r B U (kd, n, f) t H := by
  obtain ⟨cell, h1, h2, h3, h4, h5, h6, h7⟩ := h
  refine Or.inr (Or.inr ⟨?_, cell, h1, ⟨h2, h3, h4, h5, fun j hj => by rw [h6 j hj]; show some (f j) = some (so_V r (f j)); rw [hf]⟩, fun z => ?_⟩)
  · show 100 ≤ kd ∧ kd < 105
    rcases hkd with rfl | rfl <;> decide
  · have z : kd = 104 := z
    rcases hkd with rfl | rfl <;> cases z
theorem so_ini0 : Cond.initialized "ForgetfulRider" ∈ lw_tbl ∧ Cond.initialized "java/lang/String" ∈ lw_tbl ∧ Cond.initialized "jdk/internal/util/Preconditions" ∈ lw_tbl ∧ Cond.laysStatic "ForgetfulRider" "LEAST_TERM" "[I" ∈ lw_tbl ∧ Cond.laysStatic "ForgetfulRider" "MOST_TERM" "[I" ∈ lw_tbl ∧ Cond.laysStatic "java/lang/String" "COMPACT_STRINGS" "Z" ∈ lw_tbl ∧ Cond.laysStatic "jdk/internal/util/Preconditions" "SIOOBE_FORMATTER" "Ljava/util/function/BiFunction;" ∈ lw_tbl := by decide +kernel
theorem so_nar0 : Cond.eq (.static "java/lang/String" "COMPACT_STRINGS" "Z") (.int 1) ∈ flatC (Jvm.Cond.and given_1 narrow_1) ∧ Cond.isRef (.static "jdk/internal/util/Preconditions" "SIOOBE_FORMATTER" "Ljava/util/function/BiFunction;") ∈ flatC (Jvm.Cond.and given_1 narrow_1) := by decide +kernel
/-- what holds at the law's entry, in the small machine's words -/
theorem so_begin {p : Program} {s : State} {m : MethodId} {meth : Method} {c : Code} {b n : Nat} {xs : Nat → Int32} (hn : n < 2 ^ 31) (C0 : lw_At p s m meth c b n xs) : ∃ (D : va_G) (r : Nat → Nat), so_K D r s ∧ so_P D r s.heap.size (am_h0 n xs) s s.heap ∧ r 28 = b := by
  obtain ⟨hx, hb, hr, hml, hown, hts, hX, hbl, hlocks, hgv⟩ := C0
  have hA : ∀ a : Nat, a < s.heap.size → ¬ so_A s.heap.size a := fun a ha z => Nat.not_le.mpr ha z
  have hs := flat_of_before _ hgv
  have htG : ∀ w ∈ tblG, w.before #[Value.ref b] s = true := fun w hw => hts w (List.mem_filter.mp hw).1
  have hkn : ∀ k : Nat, ∃ q : ClassId × (Nat → Nat), ∀ w : vw_C, vwCl[k]? = some w → u_Kn s w.1 w.2.1 w.2.2 q.1 q.2 := by
    intro k
    cases hk : vwCl[k]? with
    | none => exact ⟨(0, fun _ => 0), fun w hw => by cases hw⟩
    | some w =>
      obtain ⟨cC, iS, hu⟩ := u_known (C := w.1) (T := w.2.1) (N := w.2.2) (n := w.2.2) htG (so_in k w hk) (htG _ (so_inst k w hk).1)
      exact ⟨(cC, iS), fun w' hw' => by cases hw'; exact hu⟩
  obtain ⟨dd, hdd⟩ := Classical.axiomOfChoice hkn
  have hst : ∀ i : Nat, ∃ q : Nat × Nat, i < 13 → ((am_tm i).eval #[Value.ref b] s none [] s = some (.ref q.1) ∧ va_O "java/lang/String" q.1 (so_A s.heap.size) s s.heap ∧ va_OF "java/lang/String" "coder" "B" (.int 0) q.1 (so_A s.heap.size) s s.heap ∧ va_OF "java/lang/String" "value" "[B" (.ref q.2) q.1 (so_A s.heap.size) s s.heap ∧ va_T .byte q.2 (am_bytes.getD i []).length (fun j => .int ((am_bytes.getD i []).getD j 0)) (so_A s.heap.size) s s.heap) := by
    intro i
    by_cases hi : i < 13
    · obtain ⟨⟨c1, c2⟩, ⟨c3, c4⟩, c5⟩ := so_strc i hi
      obtain ⟨q, hq⟩ := so_str1 (A := so_A s.heap.size) (Nat.lt_of_lt_of_le (so_strr i hi).2 (by decide)) (hs _ c1) (hs _ c2) (hs _ c3) (hs _ c4) (fun j hj => hs _ (c5 j hj)) hA
      exact ⟨q, fun _ => hq⟩
    · exact ⟨(0, 0), fun h => absurd h hi⟩
  obtain ⟨ad, had⟩ := Classical.axiomOfChoice hst
  obtain ⟨i1, i2, i3, i4, i5, i6, i7⟩ := so_ini0
  obtain ⟨t1, z1, T1⟩ := so_tabc "LEAST_TERM" am_low (by decide +kernel) hgv hA (hts _ i4) (hts _ i1)
  obtain ⟨t2, z2, T2⟩ := so_tabc "MOST_TERM" am_high (by decide +kernel) hgv hA (hts _ i5) (hts _ i1)
  have z3 : va_Z "java/lang/String" "COMPACT_STRINGS" "Z" (.int 1) (so_A s.heap.size) s s.heap := va_Zof (hts _ i6) (hts _ i2) (va_eqi (hs _ so_nar0.1)) hA
  have z4 : va_Zq "jdk/internal/util/Preconditions" "SIOOBE_FORMATTER" "Ljava/util/function/BiFunction;" (so_A s.heap.size) s s.heap := va_Zqof (hts _ i7) (hts _ i3) (hs _ so_nar0.2) hA
  obtain ⟨r, hr⟩ : ∃ r : Nat → Nat, r = fun a => if a < 13 then (ad a).1 else if a < 26 then (ad (a - 13)).2 else if a = 26 then t1 else if a = 27 then t2 else if a = 28 then b else s.heap.size + (a - 29) := ⟨_, rfl⟩
  have r1 : ∀ a, a < 13 → r a = (ad a).1 := fun a ha => by rw [hr]; simp [ha]
  have r2 : ∀ a, 13 ≤ a → a < 26 → r a = (ad (a - 13)).2 := fun a ha hb => by rw [hr]; simp [hb, Nat.not_lt.mpr ha]
  have r3 : r 26 = t1 := by rw [hr]; simp
  have r4 : r 27 = t2 := by rw [hr]; simp
  have r5 : r 28 = b := by rw [hr]; simp
  have r6 : ∀ a, 29 ≤ a → r a = s.heap.size + (a - 29) := fun a ha => by
    rw [hr]
    simp only
    rw [if_neg (by omega), if_neg (by omega), if_neg (by omega), if_neg (by omega), if_neg (by omega)]
  have lT : ∀ {ty : FieldType} {t N : Nat} {f : Nat → Value}, va_T ty t N f (so_A s.heap.size) s s.heap → t < s.heap.size := fun h => by
    obtain ⟨cell, h1, -⟩ := h
    exact (Array.getElem?_eq_some_iff.mp h1).1
  have cells : ∀ a, a < 29 → so_cell (fun k => (dd k).1, fun k => (dd k).2) r s.heap.size s ((am_h0 n xs).2.2 a) (r a) s.heap := by
    intro a ha
    by_cases ha1 : a < 13
    · obtain ⟨-, s1, s2, s3, s4⟩ := had a ha1
      rw [r1 a ha1]
      refine Or.inr (Or.inl ?_)
      have e : (am_h0 n xs).2.2 a = (11, 2, fun k => if k = 0 then .ref (13 + a) else .int 0) := by simp [am_h0, ha1]
      rw [e]
      refine ⟨rfl, rfl, s1, ?_, s2⟩
      show va_OF _ _ _ (.ref (r (13 + a))) _ _ _ _
      rw [r2 (13 + a) (by omega) (by omega), show 13 + a - 13 = a by omega]
      exact s3
    · by_cases ha2 : a < 26
      · obtain ⟨-, -, -, -, s4⟩ := had (a - 13) (by omega)
        have e : (am_h0 n xs).2.2 a = (102, (am_bytes.getD (a - 13) []).length, fun j => .int ((am_bytes.getD (a - 13) []).getD j 0)) := by simp [am_h0, ha1, ha2]
        rw [e, r2 a (by omega) ha2]
        exact so_T_cell (Or.inr rfl) s4 (fun j => rfl)
      · by_cases ha3 : a = 26
        · subst ha3
          rw [r3]
          exact so_T_cell (Or.inl rfl) T1 (fun j => rfl)
        · by_cases ha4 : a = 27
          · subst ha4
            rw [r4]
            exact so_T_cell (Or.inl rfl) T2 (fun j => rfl)
          · have ha5 : a = 28 := by omega
            subst ha5
            rw [r5]
            obtain ⟨scr, x1, x2, x3, x4, x5⟩ := hX
            exact so_T_cell (A := so_A s.heap.size) (Or.inl rfl) ⟨scr, x1, x2, x3, Nat.le_of_eq x4.symm, by rw [x4] <;> rfl, x5, hA b hbl⟩ (fun j => rfl)
  refine ⟨(fun k => (dd k).1, fun k => (dd k).2), r, ⟨fun k q hq => hdd k q hq, fun i q hq => ?_, fun q hq => va_Nw.of rfl (hts _ (so_nsr q hq))⟩, ⟨⟨by rw [r3]; exact z1, by rw [r4]; exact z2, z3, z4⟩, ⟨Nat.le_refl 29, ?_, fun a ha => ?_, fun a ha => r6 a ha⟩, cells⟩, r5⟩
  · have hi : i < 13 := (List.getElem?_eq_some_iff.mp hq).1
    have hq' : so_si.getD i (0, "") = q := by rw [List.getD_eq_getElem?_getD, hq]; rfl
    have h1 := (had i hi).1
    have h2 := (so_strr i hi).1
    unfold am_tm at h1
    rw [hq'] at h1 h2
    rw [r1 i hi]
    exact vk_R.of (hts _ h2) h1
  · show s.heap.size = s.heap.size + (29 - 29)
    omega
  · exact (cells a ha).lt
