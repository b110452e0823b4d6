/-! a piece of the small machine is a stretch of the machine -/
def so_isret (rt : Nat) (i : Instr) (x : Option Value) : Prop :=
  (i = .ireturn ∧ ∃ v, x = some (.int v) ∧ (rt = 1 ∨ (rt = 3 ∧ (v = 0 ∨ v = 1)) ∨ (rt = 4 ∧ narrow .byte (.int v) = .int v) ∨ (rt = 5 ∧ narrow .char (.int v) = .int v))) ∨ (i = .lreturn ∧ rt = 2 ∧ ∃ v, x = some (.long v)) ∨ (i = .return_ ∧ rt = 0 ∧ x = none)
theorem am_nx_le {C : CD} {U : List (Nat × List Nat)} {rt : Nat} {G : GT} (hG : am_mono G) {Lk : Nat → LV → AH → Option RS} (hL : ∀ pc l h x h', Lk pc l h = some (x, h') → am_le h h') {n pc : Nat} {l : LV} {st : List Value} {h : AH} {x : Option Value} {h' : AH} (hx : am_nx U Lk (am_ev C U rt G Lk n) pc l st h = some (x, h')) : am_le h h' := by
  rcases am_tl.nx (U := U) (e := fun L => am_ev C U rt G L n) (am_ev_tl C U rt hG n) pc l st h with ⟨o, a1, a2⟩ | ⟨pc', l', h1, a1, a2⟩
  · exact a2 x h' ((show am_nx U Lk (am_ev C U rt G Lk n) pc l st h = o from a1 Lk).symm.trans hx)
  · exact a2.tr (hL _ _ _ _ _ ((show am_nx U Lk (am_ev C U rt G Lk n) pc l st h = _ from a1 Lk).symm.trans hx))
theorem am_sw_spec {P : Prop} {x : Int32} {d res : Option RS} : ∀ (rs : List (Option RS)) (lo : Int), -2147483648 ≤ lo → lo + rs.length ≤ 2147483648 → am_sw x d lo rs = res → (d = res → (x.toInt < lo ∨ lo + rs.length ≤ x.toInt) → P) → (∀ (k : Nat) (q : Option RS), rs[k]? = some q → q = res → x.toInt = lo + k → P) → P := by
  intro rs
  induction rs with
  | nil =>
    intro lo h1 h2 h hd _
    refine hd h ?_
    simp
    omega
  | cons q rs ih =>
    intro lo h1 h2 h hd hk
    unfold am_sw at h
    have hlen : ((q :: rs).length : Int) = rs.length + 1 := by simp
    by_cases hx : x = Int32.ofInt lo
    · rw [if_pos hx] at h
      refine hk 0 q rfl h ?_
      rw [hx, Int32.toInt_ofInt_of_le (by omega) (by rw [hlen] at h2; omega)]
      simp
    · rw [if_neg hx] at h
      have hne : x.toInt ≠ lo := by
        intro e
        apply hx
        rw [← e, Int32.ofInt_toInt]
      refine ih (lo + 1) (by omega) (by rw [hlen] at h2; omega) h (fun e hc => hd e ?_) (fun k q' hq e hc => hk (k + 1) q' hq e (by rw [hc]; push_cast; omega))
      rw [hlen]
      omega
section SoEv
variable {p : Program} {L : Launch} {e : Env} {R : Room} {s : State} {m : MethodId} {args : Array Value} {below : List Frame} {meth : Method} {c : Code} {Q : State → Prop}
variable {own : String} {ini : Bool} {bytes : ByteArray} {nL : Nat} {D : va_G} {r : Nat → Nat} {B d : Nat} {h0 : AH}
set_option maxHeartbeats 4000000 in
set_option maxRecDepth 100000 in
theorem so_ev (X : so_Cx p s m args c meth own ini bytes nL D r) {C : CD} {U : List (Nat × List Nat)} {rt : Nat} {G : GT} (HC : am_okC am_sg own ini nL bytes C = true) (HA : so_all) (hG : so_G L D r B d G) (hR : d + 1 ≤ R.frames ∧ 100 * (d + 1) ≤ R.locals)
    {Lk : Nat → LV → AH → Option RS} (hLm : ∀ pc l h x h', Lk pc l h = some (x, h') → am_le h h') {res : RS} (hres : res.2.1 ≤ h0.1 + R.cells ∧ res.2.2.1 ≤ h0.2.1 + R.slots)
    (HL : ∀ pc l h H locs ls cells slots, Lk pc l h = some res → so_At D r B nL s h0 l h H locs ls cells slots → W p L e R s m args below meth c H locs cells slots Q (F0 m pc ls []))
    (HR : ∀ pc i l H locs ls cells slots, decode bytes pc = .ok (i, 1) → so_isret rt i res.1 → so_At D r B nL s h0 l res.2 H locs ls cells slots → W p L e R s m args below meth c H locs cells slots Q (F0 m pc ls ((res.1.map (so_V r)).toList))) :
    ∀ (n pc : Nat) (l : LV) (st : List Value) (h : AH) (H : Heap) (locs : List Loc) (ls : Array Slot) (cells slots : Nat), am_ev C U rt G Lk n pc l st h = some res → so_At D r B nL s h0 l h H locs ls cells slots → W p L e R s m args below meth c H locs cells slots Q (F0 m pc ls (st.map (so_V r))) := by
  intro n
  induction n with
  | zero => intro pc l st h H locs ls cells slots hev _; cases hev
  | succ n ih =>
    intro pc l st h H locs ls cells slots hev hat
    obtain ⟨hx, hb, hml, hown, hts, hK, hini, hAO⟩ := id X
    obtain ⟨hP, hS, hl, hc1, hc2⟩ := id hat
    have nx : ∀ (pc : Nat) (l : LV) (st : List Value) (h : AH) (H : Heap) (locs : List Loc) (ls : Array Slot) (cells slots : Nat), am_nx U Lk (am_ev C U rt G Lk n) pc l st h = some res → so_At D r B nL s h0 l h H locs ls cells slots → W p L e R s m args below meth c H locs cells slots Q (F0 m pc ls (st.map (so_V r))) := by
      intro pc l st h H locs ls cells slots hev hat
      unfold am_nx at hev
      split at hev
      · exact ih _ _ _ _ _ _ _ _ _ hev hat
      · split at hev
        · split at hev
          · rename_i hpk
            exact HL _ _ _ _ _ _ _ _ hev ⟨hat.1, hat.2.1, so_pick hpk hat.2.2.1, hat.2.2.2⟩
          · cases hev
        · cases hev
    have nxle : ∀ {pc : Nat} {l : LV} {st : List Value} {h : AH}, am_nx U Lk (am_ev C U rt G Lk n) pc l st h = some res → h.1 ≤ h0.1 + R.cells ∧ h.2.1 ≤ h0.2.1 + R.slots := by
      intro pc l st h hh
      have := am_nx_le (x := res.1) (h' := res.2) hG.1 hLm hh
      exact ⟨Nat.le_trans this.1 hres.1, Nat.le_trans this.2 hres.2⟩
    simp only [am_ev] at hev
    split at hev
    · cases hev
    · rename_i i len r1 r2 r3 v hcode
      have hok := am_code_ok HC hcode
      unfold am_okE at hok
      simp only [Bool.and_eq_true] at hok
      obtain ⟨hdec, hlen, hI⟩ := hok
      have hd : decode bytes pc = .ok (i, len) := by
        split at hdec
        · rename_i q hq
          rw [hq, of_decide_eq_true hdec]
        · cases hdec
      clear hdec hcode
      -- a call's way on
      have go : ∀ (j t : Nat) (as st' : List Value) (g : SG) (M : MD) (stk : List Value), am_sg[j]? = some g → am_prog[j]? = some M → g.2.2.1 = t →
          am_go t (G j as h) st' (fun st h => am_nx U Lk (am_ev C U rt G Lk n) (pc + 3) l st h) = some res →
          (∀ (x : Option Value) (h' : AH), so_Met L D r B d g.1 M as h x h' → am_le h h' → (cells + (h'.1 - h.1) ≤ R.cells ∧ slots + (h'.2.1 - h.2.1) ≤ R.slots) → va_Run p L e R s m args below meth c H locs cells slots (h'.1 - h.1) (h'.2.1 - h.2.1) (F0 m pc ls stk) (st'.map (so_V r)) (so_Q D r B x h' (as.map (so_V r)).toArray) (so_A B)) →
          W p L e R s m args below meth c H locs cells slots Q (F0 m pc ls stk) := by
        intro j t as st' g M stk hg hM ht hgo hrun
        have fin : ∀ (x : Option Value) (h' : AH) (st2 : List Value), G j as h = some (x, h') → st2.map (so_V r) = (x.map (so_V r)).toList ++ st'.map (so_V r) → am_nx U Lk (am_ev C U rt G Lk n) (pc + 3) l st2 h' = some res → W p L e R s m args below meth c H locs cells slots Q (F0 m pc ls stk) := by
          intro x h' st2 hcall hst hnx
          obtain ⟨g', M', e1, e2, hMet⟩ := hG.2 _ _ _ _ _ hcall
          cases hg.symm.trans e1
          cases hM.symm.trans e2
          have hle := hG.1 _ _ _ _ _ hcall
          have hbd := nxle hnx
          have b1 := hle.1
          have b2 := hle.2
          refine so_call (hrun x h' hMet hle ⟨by omega, by omega⟩) hS fun H1 locs1 g1 g2 => ?_
          rw [← hst]
          exact nx _ _ _ _ _ _ _ _ _ hnx ⟨g1, g2, hl, by omega, by omega⟩
        unfold am_go at hgo
        split at hgo
        · unfold am_cV at hgo
          split at hgo
          · rename_i h' hcall
            exact fin none h' st' hcall rfl hgo
          · cases hgo
        · unfold am_cL at hgo
          split at hgo
          · rename_i y h' hcall
            exact fin (some (.long y)) h' (.long y :: st') hcall rfl hgo
          · cases hgo
        · unfold am_cI at hgo
          split at hgo
          · rename_i y h' hcall
            exact fin (some (.int y)) h' (.int y :: st') hcall rfl hgo
          · cases hgo
      split at hev
      · -- goto
        cases Nat.eq_of_beq_eq_true hlen
        exact lv_goto hx hb hd (of_decide_eq_true hI) (nx _ _ _ _ _ _ _ _ _ hev hat)
      · -- ifCond
        cases Nat.eq_of_beq_eq_true hlen
        have ht := of_decide_eq_true hI
        split at hev
        · split at hev
          · refine lv_if_eq hx hb hd ht (fun z => ?_) (fun z => ?_)
            · rw [if_pos z] at hev; exact nx _ _ _ _ _ _ _ _ _ hev hat
            · rw [if_neg z] at hev; exact nx _ _ _ _ _ _ _ _ _ hev hat
          · refine lv_if_ne hx hb hd ht (fun z => ?_) (fun z => ?_)
            · rw [if_pos z] at hev; exact nx _ _ _ _ _ _ _ _ _ hev hat
            · rw [if_neg (fun q => q z)] at hev; exact nx _ _ _ _ _ _ _ _ _ hev hat
          · refine lv_if_lt hx hb hd ht (fun z => ?_) (fun z => ?_)
            · rw [if_pos z] at hev; exact nx _ _ _ _ _ _ _ _ _ hev hat
            · rw [if_neg z] at hev; exact nx _ _ _ _ _ _ _ _ _ hev hat
          · refine lv_if_ge hx hb hd ht (fun z => ?_) (fun z => ?_)
            · rw [if_pos z] at hev; exact nx _ _ _ _ _ _ _ _ _ hev hat
            · rw [if_neg z] at hev; exact nx _ _ _ _ _ _ _ _ _ hev hat
          · refine lv_if_gt hx hb hd ht (fun z => ?_) (fun z => ?_)
            · rw [if_pos z] at hev; exact nx _ _ _ _ _ _ _ _ _ hev hat
            · rw [if_neg z] at hev; exact nx _ _ _ _ _ _ _ _ _ hev hat
          · refine lv_if_le hx hb hd ht (fun z => ?_) (fun z => ?_)
            · rw [if_pos z] at hev; exact nx _ _ _ _ _ _ _ _ _ hev hat
            · rw [if_neg z] at hev; exact nx _ _ _ _ _ _ _ _ _ hev hat
        · cases hev
      · -- if_icmp
        cases Nat.eq_of_beq_eq_true hlen
        have ht := of_decide_eq_true hI
        split at hev
        · split at hev
          · refine lv_icmp_eq hx hb hd ht (fun z => ?_) (fun z => ?_)
            · rw [if_pos z] at hev; exact nx _ _ _ _ _ _ _ _ _ hev hat
            · rw [if_neg z] at hev; exact nx _ _ _ _ _ _ _ _ _ hev hat
          · refine lv_icmp_ne hx hb hd ht (fun z => ?_) (fun z => ?_)
            · rw [if_pos z] at hev; exact nx _ _ _ _ _ _ _ _ _ hev hat
            · rw [if_neg (fun q => q z)] at hev; exact nx _ _ _ _ _ _ _ _ _ hev hat
          · refine lv_icmp_lt hx hb hd ht (fun z => ?_) (fun z => ?_)
            · rw [if_pos z] at hev; exact nx _ _ _ _ _ _ _ _ _ hev hat
            · rw [if_neg z] at hev; exact nx _ _ _ _ _ _ _ _ _ hev hat
          · refine lv_icmp_ge hx hb hd ht (fun z => ?_) (fun z => ?_)
            · rw [if_pos z] at hev; exact nx _ _ _ _ _ _ _ _ _ hev hat
            · rw [if_neg z] at hev; exact nx _ _ _ _ _ _ _ _ _ hev hat
          · refine lv_icmp_gt hx hb hd ht (fun z => ?_) (fun z => ?_)
            · rw [if_pos z] at hev; exact nx _ _ _ _ _ _ _ _ _ hev hat
            · rw [if_neg z] at hev; exact nx _ _ _ _ _ _ _ _ _ hev hat
          · refine lv_icmp_le hx hb hd ht (fun z => ?_) (fun z => ?_)
            · rw [if_pos z] at hev; exact nx _ _ _ _ _ _ _ _ _ hev hat
            · rw [if_neg z] at hev; exact nx _ _ _ _ _ _ _ _ _ hev hat
        · cases hev
      · -- tableswitch
        split at hev
        · rename_i dd lo hi offs _ x st'
          simp only [am_okI, Bool.and_eq_true, decide_eq_true_eq, List.all_eq_true] at hI
          obtain ⟨⟨t1, t2⟩, t3, t4, t5⟩ := hI
          refine am_sw_spec (offs.toList.map fun o => am_nx U Lk (am_ev C U rt G Lk n) ((pc : Int) + o).toNat l st' h) lo (by omega) (by rw [List.length_map]; omega) hev (fun e hc => ?_) (fun k q hq e hc => ?_)
          · rw [List.length_map] at hc
            exact lv_tableOut hx hb hd (by omega) (by omega) (nx _ _ _ _ _ _ _ _ _ e hat)
          · rw [List.getElem?_map] at hq
            cases ho : offs.toList[k]? with
            | none => rw [ho] at hq; cases hq
            | some o =>
              rw [ho] at hq
              cases hq
              have hk := (List.getElem?_eq_some_iff.mp ho).1
              have h0' := t2 o (List.mem_of_getElem? ho)
              refine lv_tableIn (off := o) (tgt := ((pc : Int) + o).toNat) hx hb hd (by omega) (by omega) ?_ (by omega) (nx _ _ _ _ _ _ _ _ _ e hat)
              rw [hc, show (lo + (k : Int) - lo).toNat = k by omega, ← Array.getElem?_toList]
              exact ho
        · cases hev
      · -- ireturn
        cases Nat.eq_of_beq_eq_true hlen
        split at hev
        · rename_i x
          unfold am_ret at hev
          split at hev
          · cases hev
            exact HR _ _ l _ _ _ _ _ hd (Or.inl ⟨rfl, x, rfl, Or.inl rfl⟩) hat
          · split at hev
            · rename_i hz
              cases hev
              exact HR _ _ l _ _ _ _ _ hd (Or.inl ⟨rfl, x, rfl, Or.inr (Or.inl ⟨rfl, hz⟩)⟩) hat
            · cases hev
          · split at hev
            · rename_i hz
              cases hev
              exact HR _ _ l _ _ _ _ _ hd (Or.inl ⟨rfl, x, rfl, Or.inr (Or.inr (Or.inl ⟨rfl, hz⟩))⟩) hat
            · cases hev
          · split at hev
            · rename_i hz
              cases hev
              exact HR _ _ l _ _ _ _ _ hd (Or.inl ⟨rfl, x, rfl, Or.inr (Or.inr (Or.inr ⟨rfl, hz⟩))⟩) hat
            · cases hev
          · cases hev
        · cases hev
      · -- lreturn
        cases Nat.eq_of_beq_eq_true hlen
        split at hev
        · rename_i x
          split at hev
          · cases hev
            exact HR _ _ l _ _ _ _ _ hd (Or.inr (Or.inl ⟨rfl, rfl, x, rfl⟩)) hat
          · cases hev
        · cases hev
      · -- return
        cases Nat.eq_of_beq_eq_true hlen
        split at hev
        · split at hev
          · cases hev
            exact HR _ _ l _ _ _ _ _ hd (Or.inr (Or.inr ⟨rfl, rfl, rfl⟩)) hat
          · cases hev
        · cases hev
      · -- invokevirtual
        cases Nat.eq_of_beq_eq_true hlen
        simp only [am_okI] at hI
        split at hI
        · rename_i y na t kd hsg
          simp only [Bool.and_eq_true, decide_eq_true_eq] at hI
          obtain ⟨⟨k1, k2⟩, k3, ⟨k4, k5⟩, k6⟩ := hI
          have k1 := Nat.eq_of_beq_eq_true k1
          have k2 := Nat.eq_of_beq_eq_true k2
          have k3 := Nat.eq_of_beq_eq_true k3
          have k5 := Nat.le_of_ble_eq_true k5
          split at hev
          · rename_i as b st' hpop
            cases hbf : (am_few st' && am_isK h b (r2 / 1000)) with
            | false => rw [hbf] at hev; cases hev
            | true =>
              rw [hbf] at hev
              simp only [Bool.and_eq_true] at hbf
              have hlen4 := hbf.1
              obtain ⟨ts, p1, p2, p3⟩ := am_pop_spec _ _ _ _ _ hpop
              obtain ⟨M, hM⟩ := so_prog_of hsg
              obtain ⟨o1, o2, o3, ⟨-, o4, -⟩, o5, o6, o7, o8, o9⟩ := so_okM (HA _ _ _ hsg hM)
              obtain ⟨i1, i2⟩ := o4 k1
              refine go r1 _ _ st' (y, na, t, kd) M _ hsg hM k3 hev (fun x h' hMet hle hf => ?_)
              have hst : st.map (so_V r) = (as.map (so_V r)).reverse ++ .ref (r b) :: st'.map (so_V r) := by
                rw [p1, p3]
                simp [so_V]
              refine va_runV (As := as.map (so_V r)) (C := y.cls) ⟨hx, hb, hml, hown, hts⟩ hMet ⟨so_callB X (HA _ _ _ hsg hM) hR (am_has_mem k6), hts _ i1, hts _ i2⟩ ⟨so_blind, ?_, so_pre (as := .ref b :: as) hK hAO hP⟩ rfl (by rw [p3]; simp [p2, k2]) hl.1 hst (lv_room (rest := st.map (so_V r)) (so_catsW st' hlen4 r)) hd hf
              rw [← k4]
              exact so_recv hK hP k5 hbf.2
          · cases hev
        · cases hI
      · -- invokestatic
        cases Nat.eq_of_beq_eq_true hlen
        split at hev
        · split at hev
          · rename_i k dp b sp a st'
            cases hbf : Nat.ble st'.length 3 with
            | false => rw [hbf] at hev; cases hev
            | true =>
              rw [hbf] at hev
              have hlen3 := Nat.le_of_ble_eq_true hbf
              obtain ⟨h', hcp, hev⟩ := Option.bind_eq_some_iff.mp hev
              have hsz := am_copy_sz hcp
              simp only [am_okI, if_true] at hI
              have := so_cats st' (by omega) r
              exact so_copy X hP hS hcp hl.1 (am_has_mem hI) (by omega) (by omega) hd fun H1 locs1 g1 g2 => nx _ _ _ _ _ _ _ _ _ hev ⟨g1, g2, hl, hc1.trans hsz.1.symm, hc2.trans hsz.2.symm⟩
          · cases hev
        · split at hev
          · rename_i y x st'
            cases hbf : am_few st' with
            | false => rw [hbf] at hev; cases hev
            | true =>
              rw [hbf] at hev
              have hlen4 := hbf
              simp [am_okI] at hI
              have := so_catsW st' hlen4 r
              have hbd := nxle hev
              exact va_mmax hx hb (hml.trans hl.1.symm) hown (hts _ (am_has_mem hI)) (hts _ so_math.2.1.1) (hts _ so_math.1) (hts _ so_math.2.1.2) (by omega) (by omega) (by omega) (by omega) hd (nx _ _ _ _ _ _ _ _ _ hev hat)
          · cases hev
        · split at hev
          · rename_i y x st'
            cases hbf : am_few st' with
            | false => rw [hbf] at hev; cases hev
            | true =>
              rw [hbf] at hev
              have hlen4 := hbf
              simp [am_okI] at hI
              have := so_catsW st' hlen4 r
              have hbd := nxle hev
              exact va_mmin hx hb (hml.trans hl.1.symm) hown (hts _ (am_has_mem hI)) (hts _ so_math.2.2.1.1) (hts _ so_math.1) (hts _ so_math.2.2.1.2) (by omega) (by omega) (by omega) (by omega) hd (nx _ _ _ _ _ _ _ _ _ hev hat)
          · cases hev
        · split at hev
          · rename_i y x st'
            cases hbf : am_few st' with
            | false => rw [hbf] at hev; cases hev
            | true =>
              rw [hbf] at hev
              have hlen4 := hbf
              simp [am_okI] at hI
              have := so_catsW st' hlen4 r
              have hbd := nxle hev
              exact va_mmax_long hx hb (hml.trans hl.1.symm) hown (hts _ (am_has_mem hI)) (hts _ so_math.2.2.2.1.1) (hts _ so_math.1) (hts _ so_math.2.2.2.1.2) (by omega) (by omega) (by omega) (by omega) hd (nx _ _ _ _ _ _ _ _ _ hev hat)
          · cases hev
        · split at hev
          · rename_i y x st'
            cases hbf : am_few st' with
            | false => rw [hbf] at hev; cases hev
            | true =>
              rw [hbf] at hev
              have hlen4 := hbf
              simp [am_okI] at hI
              have := so_catsW st' hlen4 r
              have hbd := nxle hev
              exact va_mmin_long hx hb (hml.trans hl.1.symm) hown (hts _ (am_has_mem hI)) (hts _ so_math.2.2.2.2.1) (hts _ so_math.1) (hts _ so_math.2.2.2.2.2) (by omega) (by omega) (by omega) (by omega) hd (nx _ _ _ _ _ _ _ _ _ hev hat)
          · cases hev
        · rename_i hne hne3 hne4 hne5 hne6
          simp only [am_okI] at hI
          rw [if_neg hne, if_neg hne3, if_neg hne4, if_neg hne5, if_neg hne6] at hI
          split at hI
          · rename_i y na t kd hsg
            simp only [Bool.and_eq_true, decide_eq_true_eq] at hI
            obtain ⟨⟨k1, k2⟩, k3, k6⟩ := hI
            have k1 := Nat.eq_of_beq_eq_true k1
            have k2 := Nat.eq_of_beq_eq_true k2
            have k3 := Nat.eq_of_beq_eq_true k3
            split at hev
            · rename_i as st' hpop
              cases hbf : am_few st' with
              | false => rw [hbf] at hev; cases hev
              | true =>
                rw [hbf] at hev
                have hlen4 := hbf
                obtain ⟨ts, p1, p2, p3⟩ := am_pop_spec _ _ _ _ _ hpop
                obtain ⟨M, hM⟩ := so_prog_of hsg
                obtain ⟨o1, o2, o3, ⟨o4, -, -⟩, o5, o6, o7, o8, o9⟩ := so_okM (HA _ _ _ hsg hM)
                refine go _ _ _ st' (y, na, t, kd) M _ hsg hM k3 hev (fun x h' hMet hle hf => ?_)
                have hst : st.map (so_V r) = (as.map (so_V r)).reverse ++ st'.map (so_V r) := by
                  rw [p1, p3]
                  simp
                exact va_runS (As := as.map (so_V r)) ⟨hx, hb, hml, hown, hts⟩ hMet ⟨so_callB X (HA _ _ _ hsg hM) hR (am_has_mem k6), hts _ (o4 k1)⟩ ⟨so_blind, so_pre hK hAO hP⟩ rfl (by rw [p3]; simp [p2, k2]) hl.1 hst (lv_room (rest := st.map (so_V r)) (so_catsW st' hlen4 r)) hd hf
            · cases hev
          · cases hI
      · -- invokespecial
        cases Nat.eq_of_beq_eq_true hlen
        split at hev
        · split at hev
          · rename_i a st'
            cases hbf : am_few st' with
            | false => rw [hbf] at hev; cases hev
            | true =>
              rw [hbf] at hev
              have hlen4 := hbf
              simp only [am_okI, if_true] at hI
              have := so_catsW st' hlen4 r
              exact W.objInit hx hb hown (hts _ (am_has_mem hI)) (hts _ so_obj.1) (hts _ so_obj.2) rfl (hl.1.trans hml.symm) rfl hd (by omega) (by show 2 * 0 + _ + 12 ≤ _; omega) (nx _ _ _ _ _ _ _ _ _ hev hat)
          · cases hev
        · rename_i hne
          simp only [am_okI] at hI
          rw [if_neg hne] at hI
          split at hI
          · rename_i y na t kd hsg
            simp only [Bool.and_eq_true, Bool.or_eq_true, decide_eq_true_eq] at hI
            obtain ⟨⟨k1, k2⟩, k3, k6⟩ := hI
            have k1 := Nat.eq_of_beq_eq_true k1
            have k2 := Nat.eq_of_beq_eq_true k2
            have k3 := Nat.eq_of_beq_eq_true k3
            split at hev
            · rename_i as b st' hpop
              cases hbf : am_few st' with
              | false => rw [hbf] at hev; cases hev
              | true =>
                rw [hbf] at hev
                have hlen4 := hbf
                obtain ⟨ts, p1, p2, p3⟩ := am_pop_spec _ _ _ _ _ hpop
                obtain ⟨M, hM⟩ := so_prog_of hsg
                have hok := HA _ _ _ hsg hM
                obtain ⟨o1, o2, o3, ⟨-, -, o4⟩, o5, o6, o7, o8, o9⟩ := so_okM hok
                obtain ⟨i1, i2⟩ := o4 k1
                have hret : M.2.2.2.2.1 = none := am_rt_none (o8.symm.trans k3)
                refine go _ _ _ st' (y, na, t, kd) M _ hsg hM k3 hev (fun x h' hMet hle hf => ?_)
                have hst : st.map (so_V r) = (as.map (so_V r)).reverse ++ .ref (r b) :: st'.map (so_V r) := by
                  rw [p1, p3]
                  simp [so_V]
                rcases k6 with k6 | k6
                · have hB := so_callB (h := h) (h' := h') X hok hR (am_has_mem k6)
                  unfold so_Met at hMet
                  rw [hret] at hB hMet
                  exact va_runI (As := as.map (so_V r)) (b := r b) ⟨hx, hb, hml, hown, hts⟩ hMet ⟨hB, i2, hts _ i1⟩ ⟨so_blind, so_pre (as := .ref b :: as) hK hAO hP⟩ rfl (by rw [p3]; simp [p2, k2]) hl.1 hst (lv_room (rest := st.map (so_V r)) (so_catsW st' hlen4 r)) hd hf
                · have hB := so_callN (h := h) (h' := h') X hok hR (hK.2.2 _ k6)
                  unfold so_Met at hMet
                  rw [hret] at hB hMet
                  exact va_runIN (As := as.map (so_V r)) (b := r b) ⟨hx, hb, hml, hown, hts⟩ hMet ⟨hB, i2, hts _ i1⟩ ⟨so_blind, so_pre (as := .ref b :: as) hK hAO hP⟩ rfl (by rw [p3]; simp [p2, k2]) hl.1 hst (lv_room (rest := st.map (so_V r)) (so_catsW st' hlen4 r)) hd hf
            · cases hev
          · cases hI
      · -- the rest
        rename_i hn1 hn2 hn3 hn4 hn5 hn6 hn7 hn8 hn9 hn10
        have hlen' : len = am_ilen i := by
          cases i <;> first | exact Nat.eq_of_beq_eq_true hlen | exact absurd rfl (hn4 _ _ _ _)
        subst hlen'
        exact so_stp X hd hI hev hat (fun l' st' h' hk => nxle hk) (fun l' st' h' H' locs' ls' cells' slots' hk hat' => nx _ _ _ _ _ _ _ _ _ hk hat')
end SoEv
