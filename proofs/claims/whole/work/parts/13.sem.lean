/-! every call of the small machine is a call of the machine -/
theorem so_slen (r : Nat → Nat) (as : List Value) : (lg_sl (as.map (so_V r))).length = (lg_sl as).length := by
  induction as with
  | nil => rfl
  | cons v as ih =>
    simp only [lg_sl, List.map_cons, List.flatMap_cons, List.length_append] at ih ⊢
    rw [so_V_cat, ih]
    split <;> rfl
theorem so_args (r : Nat → Nat) : ∀ (as : List Value) (i : Nat), so_L r (lv_args i as) = lv_args i (as.map (so_V r)) := by
  intro as
  induction as with
  | nil => intro i; rfl
  | cons v as ih =>
    intro i
    simp only [lv_args, List.map_cons, so_L] at ih ⊢
    rw [ih, so_V_cat]
theorem am_rt_1 {ret : Option FieldType} (h : am_rt ret = 1) : ret = some .int := by
  cases ret with
  | none => simp [am_rt] at h
  | some t => cases t <;> simp [am_rt] at h <;> rfl
theorem am_rt_2 {ret : Option FieldType} (h : am_rt ret = 2) : ret = some .long := by
  cases ret with
  | none => simp [am_rt] at h
  | some t => cases t <;> simp [am_rt] at h <;> rfl
theorem am_rt_3 {ret : Option FieldType} (h : am_rt ret = 3) : ret = some .boolean := by
  cases ret with
  | none => simp [am_rt] at h
  | some t => cases t <;> simp [am_rt] at h <;> rfl
theorem am_rt_4 {ret : Option FieldType} (h : am_rt ret = 4) : ret = some .byte := by
  cases ret with
  | none => simp [am_rt] at h
  | some t => cases t <;> simp [am_rt] at h <;> rfl
theorem am_rt_5 {ret : Option FieldType} (h : am_rt ret = 5) : ret = some .char := by
  cases ret with
  | none => simp [am_rt] at h
  | some t => cases t <;> simp [am_rt] at h <;> rfl
theorem so_nar_z {v : Int32} (h : v = 0 ∨ v = 1) : narrow .boolean (.int v) = .int v := by
  rcases h with rfl | rfl <;> rfl
section SoSem
variable {p : Program} {L : Launch} {e : Env} {R : Room} {s : State} {m : MethodId} {args : Array Value} {below : List Frame} {meth : Method} {c : Code} {Q : State → Prop}
variable {own : String} {ini : Bool} {bytes : ByteArray} {nL : Nat} {D : va_G} {r : Nat → Nat} {B d : Nat} {h0 : AH}
theorem so_run (X : so_Cx p s m args c meth own ini bytes nL D r) {C : CD} {U : List (Nat × List Nat)} {rt : Nat} {G : GT} (HC : am_okC am_sg own ini nL bytes C = true) (HA : so_all) (hG : so_G L D r B d G) (hR : d + 1 ≤ R.frames ∧ 100 * (d + 1) ≤ R.locals)
    {res : RS} (hres : res.2.1 ≤ h0.1 + R.cells ∧ res.2.2.1 ≤ h0.2.1 + R.slots)
    (HR : ∀ pc i l H locs ls cells slots, decode bytes pc = .ok (i, 1) → so_isret rt i res.1 → so_At D r B nL s h0 l res.2 H locs ls cells slots → W p L e R s m args below meth c H locs cells slots Q (F0 m pc ls ((res.1.map (so_V r)).toList))) :
    ∀ (n pc : Nat) (l : LV) (h : AH) (H : Heap) (locs : List Loc) (ls : Array Slot) (cells slots : Nat), am_run C U rt G n pc l h = some res → so_At D r B nL s h0 l h H locs ls cells slots → W p L e R s m args below meth c H locs cells slots Q (F0 m pc ls []) := by
  intro n
  induction n with
  | zero => intro pc l h H locs ls cells slots hev _; cases hev
  | succ n ih =>
    intro pc l h H locs ls cells slots hev hat
    exact so_ev X HC HA hG hR (fun pc l h x h' hx => am_run_mono C U rt hG.1 n pc l h x h' hx) hres (fun pc l h H locs ls cells slots hk hat' => ih pc l h H locs ls cells slots hk hat') HR 4000 pc l [] h H locs ls cells slots hev hat
end SoSem
set_option maxHeartbeats 4000000 in
theorem so_meth {L : Launch} {D : va_G} {r : Nat → Nat} {B d : Nat} {G : GT} (HA : so_all) (hG : so_G L D r B d G) {g : SG} {M : MD} (hok : am_okM am_sg (g, M) = true) {as : List Value} {h h' : AH} {x : Option Value} (hb : Nat.ble (lg_sl as).length M.2.2.2.1 = true) (hrn : am_rn M.1 M.2.1 (am_rt M.2.2.2.2.1) G 0 (lv_args 0 as) h = some (x, h')) : so_Met L D r B (d + 1) g.1 M as h x h' := by
  obtain ⟨o1, o2, o3, o4, o5, o6, o7, o8, o9⟩ := so_okM hok
  obtain ⟨n, hrun⟩ := am_rn_some hrn
  have hle := am_run_mono _ _ _ hG.1 _ _ _ _ _ _ hrun
  unfold so_Met
  refine Met.ofW (cc := M.2.2.1) (maxL := M.2.2.2.1) (ret := M.2.2.2.2.1) o5 rfl ?_
  intro p e s m args below meth c s₁ Bd hml hv
  obtain ⟨rfl, ⟨hK, hAO⟩, hP⟩ := hv
  have hts0 := atoms_spec (ws := so_ws g.1 M.2.2.1 M.2.2.2.1 M.2.2.2.2.1) Bd.pre
  have hts : ∀ w ∈ tblG, w.before (as.map (so_V r)).toArray s = true := fun w hw => hts0 w (List.mem_cons_of_mem _ hw)
  have hown : s.vm.findClass g.1.cls = some m.cls := findClass_of_methodNamed Bd.named
  have hr := Bd.returns
  have hlocks := Bd.notSynchronized
  have hini : Nat.beq g.2.2.2 2 = true → meth.name = "<init>" := fun z => ((name_of_methodNamed Bd.named Bd.method).1).trans (o4.2.2 (Nat.eq_of_beq_eq_true z)).2
  have X : so_Cx p s m (as.map (so_V r)).toArray c meth g.1.cls (Nat.beq g.2.2.2 2) M.2.2.1 M.2.2.2.1 D r := ⟨Bd.exec, Bd.bytes, hml, hown, hts, hK, hini, hAO⟩
  have hl := lv_entry (as.map (so_V r)) (n := M.2.2.2.1) (by rw [so_slen]; exact Nat.le_of_ble_eq_true hb)
  rw [← so_args] at hl
  rw [lg_entry_eq]
  refine so_run (h0 := h) X o1 HA hG (R := (headSpec (so_ws g.1 M.2.2.1 M.2.2.2.1 M.2.2.2.2.1) (so_rm (d + 1) h h')).room) ⟨Nat.le_refl _, Nat.le_refl _⟩ (res := (x, h')) ⟨?_, ?_⟩ ?_ n 0 (lv_args 0 as) h s.heap [] _ 0 0 hrun ⟨hP, va_S.rf, hl, Nat.zero_add _, Nat.zero_add _⟩
  · show h'.1 ≤ h.1 + (h'.1 - h.1)
    omega
  · show h'.2.1 ≤ h.2.1 + (h'.2.1 - h.2.1)
    omega
  · intro pc i l H locs ls cells slots hd hret hat
    obtain ⟨hP', hS', -, c1, c2⟩ := hat
    have e1 : h'.1 - h.1 = cells := by
      have : cells + h.1 = h'.1 := c1
      omega
    have e2 : h'.2.1 - h.2.1 = slots := by
      have : slots + h.2.1 = h'.2.1 := c2
      omega
    rw [e1, e2]
    have post : ∀ t : State, t.heap = H → s.WarmedH t.vm → so_Q D r B x h' (as.map (so_V r)).toArray s (.returned (x.map (so_V r))) t := fun t ht hW => ⟨rfl, by rw [ht]; exact hP'.moved hW.alike, hS'.F ht⟩
    rcases hret with ⟨rfl, v, hxv, hz⟩ | ⟨rfl, hz, v, hxv⟩ | ⟨rfl, hz, hxv⟩
    · dsimp only at hxv
      subst hxv
      rcases hz with z | ⟨z, z2⟩ | ⟨z, z2⟩ | ⟨z, z2⟩
      · exact W.iret Bd.exec Bd.bytes (hr.trans (am_rt_1 z)) post hS'.2.2 hd
      · exact W.zret Bd.exec Bd.bytes (hr.trans (am_rt_3 z)) (so_nar_z z2) post hS'.2.2 hd
      · exact W.zret Bd.exec Bd.bytes (hr.trans (am_rt_4 z)) z2 post hS'.2.2 hd
      · exact W.zret Bd.exec Bd.bytes (hr.trans (am_rt_5 z)) z2 post hS'.2.2 hd
    · dsimp only at hxv
      subst hxv
      exact W.lret Bd.exec Bd.bytes (hr.trans (am_rt_2 hz)) post hS'.2.2 hd
    · dsimp only at hxv
      subst hxv
      exact W.vret Bd.exec Bd.bytes (hr.trans (am_rt_none hz)) post hS'.2.2 hd
/-! String.checkIndex, by hand -/
theorem zc0_0 : decode cJ0_checkIndex_df160 0 = .ok (.iload_n 0, 1) := by decide +kernel
theorem zc0_1 : decode cJ0_checkIndex_df160 1 = .ok (.iload_n 1, 1) := by decide +kernel
theorem zc0_2 : decode cJ0_checkIndex_df160 2 = .ok (.getstatic 1053, 3) := by decide +kernel
theorem zc0_5 : decode cJ0_checkIndex_df160 5 = .ok (.invokestatic 1059, 3) := by decide +kernel
theorem zc0_8 : decode cJ0_checkIndex_df160 8 = .ok (.pop, 1) := by decide +kernel
theorem zc0_9 : decode cJ0_checkIndex_df160 9 = .ok (.return_, 1) := by decide +kernel
theorem zc3_0 : decode cJ3_checkIndex_8e157 0 = .ok (.iload_n 0, 1) := by decide +kernel
theorem zc3_1 : decode cJ3_checkIndex_8e157 1 = .ok (.ifCond .lt 8, 3) := by decide +kernel
theorem zc3_4 : decode cJ3_checkIndex_8e157 4 = .ok (.iload_n 0, 1) := by decide +kernel
theorem zc3_5 : decode cJ3_checkIndex_8e157 5 = .ok (.iload_n 1, 1) := by decide +kernel
theorem zc3_6 : decode cJ3_checkIndex_8e157 6 = .ok (.if_icmp .lt 10, 3) := by decide +kernel
theorem zc3_9 : decode cJ3_checkIndex_8e157 9 = .ok (.aload_n 2, 1) := by decide +kernel
theorem zc3_10 : decode cJ3_checkIndex_8e157 10 = .ok (.iload_n 0, 1) := by decide +kernel
theorem zc3_11 : decode cJ3_checkIndex_8e157 11 = .ok (.iload_n 1, 1) := by decide +kernel
theorem zc3_12 : decode cJ3_checkIndex_8e157 12 = .ok (.invokestatic 95, 3) := by decide +kernel
theorem zc3_15 : decode cJ3_checkIndex_8e157 15 = .ok (.athrow, 1) := by decide +kernel
theorem zc3_16 : decode cJ3_checkIndex_8e157 16 = .ok (.iload_n 0, 1) := by decide +kernel
theorem zc3_17 : decode cJ3_checkIndex_8e157 17 = .ok (.ireturn, 1) := by decide +kernel
theorem zc0_md : am_prog[260]? = some ([], [], cJ0_checkIndex_df160, 2, none, [621, 620, 134, 0]) := by rfl
theorem zc0_sg : am_sg[260]? = some (yJ0_checkIndex_df160, 2, 0, 0) := by rfl
theorem zc0_fl : Cond.fieldLink RJ0 1053 "jdk/internal/util/Preconditions" "SIOOBE_FORMATTER" "Ljava/util/function/BiFunction;" ∈ tblG := am_has_mem (k := 622) (by decide +kernel)
theorem zc0_ml : Cond.methodLink RJ0 1059 yJ3_checkIndex_8e157 ∈ tblG := am_has_mem (k := 624) (by decide +kernel)
theorem zc3_code : Cond.code yJ3_checkIndex_8e157 cJ3_checkIndex_8e157 3 (some .int) ∈ tblG := am_has_mem (k := 626) (by decide +kernel)
theorem zc3_init : Cond.initialized yJ3_checkIndex_8e157.cls ∈ tblG := am_has_mem (k := 136) (by decide +kernel)
theorem zc3_st : Cond.static yJ3_checkIndex_8e157 ∈ tblG := am_has_mem (k := 625) (by decide +kernel)
theorem so_ci3 (L : Launch) (D : va_G) (r : Nat → Nat) (B : Nat) (h : AH) (i n : Int32) (fv : Value) (h1 : ¬ i < 0) (h2 : i < n) (hfv : fv.category = 1) :
    Met L yJ3_checkIndex_8e157 (so_ws yJ3_checkIndex_8e157 cJ3_checkIndex_8e157 3 (some .int)) { frames := 0, cells := 0, slots := 0, locals := 0 } (va_Pc [.int i, .int n, fv] (fun U => so_P D r B h U U.heap)) (so_Q D r B (some (.int i)) h) 0 0 (so_A B) := by
  refine Met.ofW (cc := cJ3_checkIndex_8e157) (maxL := 3) (ret := some .int) (by decide +kernel) rfl ?_
  intro p e s m args below meth c s₁ Bd hml hv
  obtain ⟨rfl, hP⟩ := hv
  have hx := Bd.exec
  have hb := Bd.bytes
  have hr := Bd.returns
  have hlocks := Bd.notSynchronized
  have hl := lv_entry ([.int i, .int n, fv]) (n := 3) (by cases fv <;> first | exact Nat.le_refl 3 | cases hfv)
  rw [lg_entry_eq]
  generalize (lg_sl ([.int i, .int n, fv]) ++ List.replicate (3 - (lg_sl ([.int i, .int n, fv])).length) Slot.unset).toArray = ls at hl ⊢
  have hl : lv_has ls 3 [(0, .int i), (1, .int n), (2, fv)] := by
    refine ⟨hl.1, hl.2.1, fun q hq => hl.2.2 q ?_⟩
    simpa [lv_args, Value.category] using hq
  refine lv_iload_n hx hb zc3_0 rfl (lv_at hl 0 rfl) ?_
  refine lv_if_lt (tgt := 9) hx hb zc3_1 (by decide) (fun z => absurd z h1) (fun _ => ?_)
  refine lv_iload_n hx hb zc3_4 rfl (lv_at hl 0 rfl) ?_
  refine lv_iload_n hx hb zc3_5 rfl (lv_at hl 1 rfl) ?_
  refine lv_icmp_lt (tgt := 16) hx hb zc3_6 (by decide) (fun _ => ?_) (fun z => absurd h2 z)
  refine lv_iload_n hx hb zc3_16 rfl (lv_at hl 0 rfl) ?_
  exact W.iret hx hb hr (fun t ht hW => ⟨rfl, by rw [ht]; exact hP.moved hW.alike, (va_S.rf (A := so_A B)).F ht⟩) (fun q hq => by cases hq) zc3_17
theorem so_ci (L : Launch) (D : va_G) (r : Nat → Nat) (B d : Nat) (h : AH) (i n : Int32) (h1 : ¬ i < 0) (h2 : i < n) (M : MD) (hM : am_prog[260]? = some M) : so_Met L D r B (d + 1) yJ0_checkIndex_df160 M [.int i, .int n] h none h := by
  cases (zc0_md.symm.trans hM)
  unfold so_Met
  dsimp only
  refine Met.ofW (cc := cJ0_checkIndex_df160) (maxL := 2) (ret := none) (by decide +kernel) rfl ?_
  intro p e s m args below meth c s₁ Bd hml hv
  obtain ⟨rfl, ⟨hK, hAO⟩, hP⟩ := hv
  have hx := Bd.exec
  have hb := Bd.bytes
  have hr := Bd.returns
  have hlocks := Bd.notSynchronized
  have hts0 := atoms_spec (ws := so_ws yJ0_checkIndex_df160 cJ0_checkIndex_df160 2 none) Bd.pre
  have hts : ∀ w ∈ tblG, w.before ([.int i, .int n].map (so_V r)).toArray s = true := fun w hw => hts0 w (List.mem_cons_of_mem _ hw)
  have hown : s.vm.findClass RJ0 = some m.cls := findClass_of_methodNamed Bd.named
  have hl := lv_entry ([.int i, .int n]) (n := 2) (Nat.le_of_ble_eq_true rfl)
  show W p L e _ s m #[.int i, .int n] below meth c s.heap [] 0 0 _ (entryFrame m ([.int i, .int n] : List Value).toArray 2)
  rw [lg_entry_eq]
  generalize (lg_sl ([.int i, .int n]) ++ List.replicate (2 - (lg_sl ([.int i, .int n])).length) Slot.unset).toArray = ls at hl ⊢
  have hl : lv_has ls 2 [(0, .int i), (1, .int n)] := hl
  have hS : va_S (so_A B) s.heap s.heap [] := va_S.rf
  have hZ : ∃ fv : Value, fv.category = 1 ∧ va_Z "jdk/internal/util/Preconditions" "SIOOBE_FORMATTER" "Ljava/util/function/BiFunction;" fv (so_A B) s s.heap := by
    rcases hP.1.2.2.2 with z | ⟨t, z⟩
    · exact ⟨_, rfl, z⟩
    · exact ⟨_, rfl, z⟩
  obtain ⟨fv, hfv, hZ⟩ := hZ
  refine lv_iload_n hx hb zc0_0 rfl (lv_at hl 0 rfl) ?_
  refine lv_iload_n hx hb zc0_1 rfl (lv_at hl 1 rfl) ?_
  obtain ⟨cf, kf, fi, f, a, cell, z1, z2, z3, z4, z5, z6, z7, z8⟩ := hZ
  refine W.gets hx hb hown (hts _ zc0_fl) z1 z2 z3 z4 z5 (fun e => by rw [e] at z6; cases z6) z7 rfl zc0_2 ?_
  have hrun := va_runS (R := (headSpec (so_ws yJ0_checkIndex_df160 cJ0_checkIndex_df160 2 none) (so_rm (d + 1) h h)).room) (H := s.heap) (locs := []) (cells := 0) (slots := 0) (As := [.int i, .int n, fv]) (rest := []) (g := F0 m 5 ls [fv, .int n, .int i]) (n := 3) (nL := 2) (bytes := cJ3_checkIndex_8e157) (maxL := 3) (ret := some .int) (below := below) (e := e) (meth := meth) (index := 1059) ⟨hx, hb, hml, hown, hts⟩ (so_ci3 L D r B h i n fv h1 h2 hfv)
    ⟨⟨rfl, rfl, by show 0 + 1 ≤ d + 1; omega, by show 8 + (3 + 11) + 0 ≤ 100 * (d + 1); omega, so_words hts zc3_code, List.mem_cons_self, hts _ zc3_code, hts _ zc3_init, by decide +kernel, fun sig hsig => by
        have h3 : (parseMethodDescriptor yJ3_checkIndex_8e157.desc).map (fun d => d.parameters.length) = some 3 := by decide +kernel
        rw [hsig] at h3
        exact (Option.some.inj h3).symm, hts _ zc0_ml⟩, hts _ zc3_st⟩ ⟨fun a U g mk q => ⟨q.1, so_P.moved (u := U) (U := U.calling g mk a) (Vm.Alike.refl U.vm) q.2⟩, fun U hU hW => ⟨rfl, by show so_P D r B h U U.heap; rw [hU]; exact hP.moved hW.alike⟩⟩ rfl rfl hl.1 rfl (Nat.le_of_ble_eq_true rfl) zc0_5 ⟨Nat.zero_le _, Nat.zero_le _⟩
  refine so_call (x := some (.int i)) hrun hS fun H1 locs1 g1 g2 => ?_
  refine lv_pop (va := .int i) (rest := []) hx hb zc0_8 rfl ?_
  have e1 : h.1 - h.1 = 0 + 0 := Nat.sub_self _
  have e2 : h.2.1 - h.2.1 = 0 + 0 := Nat.sub_self _
  rw [e1, e2]
  exact W.vret hx hb hr (fun t ht hW => ⟨rfl, by rw [ht]; exact g1.moved hW.alike, g2.F ht⟩) g2.2.2 zc0_9
theorem so_sem {L : Launch} {D : va_G} {r : Nat → Nat} {B : Nat} (HA : so_all) : ∀ d, so_G L D r B d (am_sem d) := by
  intro d
  induction d with
  | zero => exact ⟨am_sem_mono 0, fun j as h x h' hx => by cases hx⟩
  | succ d ih =>
    refine ⟨am_sem_mono (d + 1), fun j as h x h' hx => ?_⟩
    simp only [am_sem] at hx
    split at hx
    · unfold am_ci at hx
      split at hx
      · rename_i i n
        split at hx
        · cases hx
        · rename_i hc
          cases hx
          obtain ⟨M, hM⟩ := so_prog_of zc0_sg
          exact ⟨_, M, zc0_sg, hM, so_ci L D r B d _ i n (fun z => hc (Or.inl z)) (Classical.byContradiction fun z => hc (Or.inr z)) M hM⟩
      · cases hx
    · split at hx
      · cases hx
      · rename_i M hM
        cases hb : Nat.ble (lg_sl as).length M.2.2.2.1 with
        | false => rw [hb] at hx; cases hx
        | true =>
          rw [hb] at hx
          have hlt := (List.getElem?_eq_some_iff.mp hM).1
          rw [so_lens] at hlt
          have hg := List.getElem?_eq_getElem hlt
          exact ⟨_, M, hg, hM, so_meth HA ih (HA _ _ _ hg hM) hb hx⟩
