/-! one instruction that neither jumps nor calls -/
theorem am_st_sz {h h' : AH} {kd a : Nat} {i : Int32} {v : Value} (hf : am_st h kd a i v = some h') : h'.1 = h.1 ∧ h'.2.1 = h.2.1 := by
  unfold am_st at hf
  split at hf
  · split at hf
    · cases hf
      exact ⟨rfl, rfl⟩
    · cases hf
  · cases hf
theorem am_pf_sz {h h' : AH} {a ci k : Nat} {v : Value} (hf : am_pf h a ci k v = some h') : h'.1 = h.1 ∧ h'.2.1 = h.2.1 := by
  unfold am_pf at hf
  split at hf
  · split at hf
    · cases hf
      exact ⟨rfl, rfl⟩
    · cases hf
  · cases hf
theorem so_dflt1 (t : FieldType) (h : (match t with | .int | .boolean | .byte | .long | .object _ | .array _ => true | _ => false) = true) (r : Nat → Nat) : defaultValue t = so_V r (am_dflt t) := by
  cases t <;> first | rfl | cases h
theorem so_dflt_all : ∀ (ci : Nat) (q : vw_C), vwCl[ci]? = some q → ∀ k, k < q.2.2 → (match am_fty ci k with | .int | .boolean | .byte | .long | .object _ | .array _ => true | _ => false) = true := so_cls (P := fun ci q => ∀ k, k < q.2.2 → (match am_fty ci k with | .int | .boolean | .byte | .long | .object _ | .array _ => true | _ => false) = true) (by decide +kernel) (by decide +kernel) (by decide +kernel) (by decide +kernel) (by decide +kernel) (by decide +kernel) (by decide +kernel) (by decide +kernel) (by decide +kernel) (by decide +kernel) (by decide +kernel)
theorem so_dflt {r : Nat → Nat} (ci : Nat) (q : vw_C) (hq : vwCl[ci]? = some q) (k : Nat) (hk : k < q.2.2) : defaultValue (am_fty ci k) = so_V r (am_dflt (am_fty ci k)) := so_dflt1 _ (so_dflt_all ci q hq k hk) r
theorem so_akind {r : Nat → Nat} {t : ArrayType} {kd : Nat} (h : am_akind t = some kd) : Cond.arrayClass (newarray.typeOf t) ∈ tblG ∧ defaultValue (newarray.typeOf t) = am_dflt (newarray.typeOf t) ∧ newarray.typeOf t = am_aty kd ∧ (100 ≤ kd ∧ kd < 104 + 1) ∧ so_V r (am_dflt (newarray.typeOf t)) = am_dflt (newarray.typeOf t) ∧ componentBytes (newarray.typeOf t) ≤ 8 := by
  cases t <;> first | (cases h; exact ⟨so_ac_int, rfl, rfl, by decide, rfl, by decide⟩) | (cases h; exact ⟨so_ac_long, rfl, rfl, by decide, rfl, by decide⟩) | (cases h; exact ⟨so_ac_byte, rfl, rfl, by decide, rfl, by decide⟩) | (cases h; exact ⟨so_ac_boolean, rfl, rfl, by decide, rfl, by decide⟩) | cases h
theorem so_akind_lt {t : ArrayType} {kd : Nat} (h : am_akind t = some kd) : kd < 104 := by
  cases t <;> cases h <;> decide
section SoStp
variable {p : Program} {L : Launch} {e : Env} {R : Room} {s : State} {m : MethodId} {args : Array Value} {below : List Frame} {meth : Method} {c : Code} {H : Heap} {locs : List Loc} {cells slots : Nat} {Q : State → Prop}
variable {own : String} {ini : Bool} {bytes : ByteArray} {nL : Nat} {D : va_G} {r : Nat → Nat} {B pc : Nat} {ls : Array Slot} {h0 h : AH}
set_option maxHeartbeats 4000000 in
set_option maxRecDepth 100000 in
theorem so_stp (X : so_Cx p s m args c meth own ini bytes nL D r) {sg : List SG} {i : Instr} {r1 r2 r3 : Nat} {v : Value} (hd : decode bytes pc = .ok (i, am_ilen i)) (hI : am_okI sg own ini nL pc i r1 r2 r3 v = true) {l : LV} {st : List Value} {k : KT} {res : RS} (hev : am_stp i r1 r2 v l st h k = some res) (hat : so_At D r B nL s h0 l h H locs ls cells slots)
    (hlim : ∀ l' st' h', k l' st' h' = some res → h'.1 ≤ h0.1 + R.cells ∧ h'.2.1 ≤ h0.2.1 + R.slots)
    (kk : ∀ l' st' h' H' locs' ls' cells' slots', k l' st' h' = some res → so_At D r B nL s h0 l' h' H' locs' ls' cells' slots' → W p L e R s m args below meth c H' locs' cells' slots' Q (F0 m (pc + am_ilen i) ls' (st'.map (so_V r)))) : W p L e R s m args below meth c H locs cells slots Q (F0 m pc ls (st.map (so_V r))) := by
  obtain ⟨hx, hb, hml, hown, hts, hK, hini, hAO⟩ := id X
  obtain ⟨hP, hS, hl, hc1, hc2⟩ := id hat
  unfold am_stp at hev
  split at hev
  -- iconst
  · have hv := of_decide_eq_true hI
    subst hv
    exact lv_iconst hx hb hd rfl (kk _ _ _ _ _ _ _ _ hev hat)
  -- bipush
  · have hv := of_decide_eq_true hI
    subst hv
    exact lv_bipush hx hb hd rfl (kk _ _ _ _ _ _ _ _ hev hat)
  -- sipush
  · have hv := of_decide_eq_true hI
    subst hv
    exact lv_sipush hx hb hd rfl (kk _ _ _ _ _ _ _ _ hev hat)
  -- lconst
  · have hv := of_decide_eq_true hI
    subst hv
    exact lv_lconst hx hb hd rfl (kk _ _ _ _ _ _ _ _ hev hat)
  -- ldc
  · simp only [am_okI] at hI
    split at hI
    · exact lv_ldc hx hb hown (hts _ (am_has_mem hI)) hd (kk _ _ _ _ _ _ _ _ hev hat)
    · simp only [Bool.and_eq_true, decide_eq_true_eq] at hI
      obtain ⟨ho, hI⟩ := hI
      split at hI
      · rename_i q hq
        have hqk := Nat.eq_of_beq_eq_true hI
        have hZ := hK.2.1 _ q hq
        rw [hqk, ← ho] at hZ
        exact va_ldcS hx hb hown hZ hd (kk _ _ _ _ _ _ _ _ hev hat)
      · cases hI
    · cases hI
  -- ldc_w
  · simp only [am_okI] at hI
    split at hI
    · exact lv_ldcw hx hb hown (hts _ (am_has_mem hI)) hd (kk _ _ _ _ _ _ _ _ hev hat)
    · cases hI
  -- ldc2_w
  · simp only [am_okI] at hI
    split at hI
    · exact lv_ldc2 hx hb hown (hts _ (am_has_mem hI)) hd (kk _ _ _ _ _ _ _ _ hev hat)
    · cases hI
  -- getstatic
  · simp only [am_okI] at hI
    split at hI
    · simp only [Bool.and_eq_true, decide_eq_true_eq] at hI
      obtain ⟨rfl, hI⟩ := hI
      exact so_gets X hP.1.1 (am_has_mem hI) hd (kk _ _ _ _ _ _ _ _ hev hat)
    · simp only [Bool.and_eq_true, decide_eq_true_eq] at hI
      obtain ⟨rfl, hI⟩ := hI
      exact so_gets X hP.1.2.1 (am_has_mem hI) hd (kk _ _ _ _ _ _ _ _ hev hat)
    · simp only [Bool.and_eq_true, decide_eq_true_eq] at hI
      obtain ⟨rfl, hI⟩ := hI
      exact so_gets X hP.1.2.2.1 (am_has_mem hI) hd (kk _ _ _ _ _ _ _ _ hev hat)
    · cases hI
  -- iload
  · unfold am_ldI at hev
    split at hev
    · rename_i hlk
      exact lv_iload hx hb hd (so_look hlk hl) (kk _ _ _ _ _ _ _ _ hev hat)
    · cases hev
  -- iload_n
  · unfold am_ldI at hev
    split at hev
    · rename_i hlk
      exact lv_iload_n hx hb hd rfl (so_look hlk hl) (kk _ _ _ _ _ _ _ _ hev hat)
    · cases hev
  -- lload
  · unfold am_ldL at hev
    split at hev
    · rename_i hlk
      exact lv_lload hx hb hd (so_look hlk hl) (kk _ _ _ _ _ _ _ _ hev hat)
    · cases hev
  -- lload_n
  · unfold am_ldL at hev
    split at hev
    · rename_i hlk
      exact lv_lload_n hx hb hd rfl (so_look hlk hl) (kk _ _ _ _ _ _ _ _ hev hat)
    · cases hev
  -- aload
  · unfold am_ldR at hev
    split at hev
    · rename_i hlk
      exact lv_aload hx hb hd (so_look hlk hl) (kk _ _ _ _ _ _ _ _ hev hat)
    · cases hev
  -- aload_n
  · unfold am_ldR at hev
    split at hev
    · rename_i hlk
      exact lv_aload_n hx hb hd rfl (so_look hlk hl) (kk _ _ _ _ _ _ _ _ hev hat)
    · cases hev
  -- istore
  · split at hev
    · exact lv_istore hx hb hd hl (of_decide_eq_true hI) (so_s1 r l _ (.int _)) (fun ls' hl' => kk _ _ _ _ _ _ _ _ hev ⟨hP, hS, hl', hc1, hc2⟩)
    · cases hev
  -- istore_n
  · split at hev
    · exact lv_istore_n hx hb hd rfl hl (of_decide_eq_true hI) (so_s1 r l _ (.int _)) (fun ls' hl' => kk _ _ _ _ _ _ _ _ hev ⟨hP, hS, hl', hc1, hc2⟩)
    · cases hev
  -- lstore
  · split at hev
    · exact lv_lstore hx hb hd hl (of_decide_eq_true hI) (so_s2 r l _ (.long _)) (fun ls' hl' => kk _ _ _ _ _ _ _ _ hev ⟨hP, hS, hl', hc1, hc2⟩)
    · cases hev
  -- lstore_n
  · split at hev
    · exact lv_lstore_n hx hb hd rfl hl (of_decide_eq_true hI) (so_s2 r l _ (.long _)) (fun ls' hl' => kk _ _ _ _ _ _ _ _ hev ⟨hP, hS, hl', hc1, hc2⟩)
    · cases hev
  -- astore
  · split at hev
    · exact lv_astore hx hb hd hl (of_decide_eq_true hI) (so_s1 r l _ (.ref _)) (fun ls' hl' => kk _ _ _ _ _ _ _ _ hev ⟨hP, hS, hl', hc1, hc2⟩)
    · cases hev
  -- astore_n
  · split at hev
    · exact lv_astore_n hx hb hd rfl hl (of_decide_eq_true hI) (so_s1 r l _ (.ref _)) (fun ls' hl' => kk _ _ _ _ _ _ _ _ hev ⟨hP, hS, hl', hc1, hc2⟩)
    · cases hev
  -- iinc
  · split at hev
    · rename_i x y hlk
      simp only [am_okI, Bool.and_eq_true, decide_eq_true_eq] at hI
      obtain ⟨hI1, hI2⟩ := hI
      cases hI1
      obtain ⟨k0, hk0⟩ := List.getElem?_of_mem (List.mem_map.mpr ⟨_, am_look_mem hlk, rfl⟩ : _ ∈ so_L r l)
      exact lv_iinc hx hb hd hl hk0 rfl hI2 (so_s1 r l _ (.int _)) (fun ls' hl' => kk _ _ _ _ _ _ _ _ hev ⟨hP, hS, hl', hc1, hc2⟩)
    · cases hev
  -- iadd
  · split at hev
    · exact lv_iadd hx hb hd (kk _ _ _ _ _ _ _ _ hev hat)
    · cases hev
  -- isub
  · split at hev
    · exact lv_isub hx hb hd (kk _ _ _ _ _ _ _ _ hev hat)
    · cases hev
  -- imul
  · split at hev
    · exact lv_imul hx hb hd (kk _ _ _ _ _ _ _ _ hev hat)
    · cases hev
  -- idiv
  · split at hev
    · split at hev
      · cases hev
      · rename_i hne
        exact lv_idiv hx hb hd hne (kk _ _ _ _ _ _ _ _ hev hat)
    · cases hev
  -- irem
  · split at hev
    · split at hev
      · cases hev
      · rename_i hne
        exact lv_irem hx hb hd hne (kk _ _ _ _ _ _ _ _ hev hat)
    · cases hev
  -- ineg
  · split at hev
    · exact lv_ineg hx hb hd (kk _ _ _ _ _ _ _ _ hev hat)
    · cases hev
  -- iand
  · split at hev
    · exact lv_iand hx hb hd (kk _ _ _ _ _ _ _ _ hev hat)
    · cases hev
  -- ior
  · split at hev
    · exact lv_ior hx hb hd (kk _ _ _ _ _ _ _ _ hev hat)
    · cases hev
  -- ixor
  · split at hev
    · exact lv_ixor hx hb hd (kk _ _ _ _ _ _ _ _ hev hat)
    · cases hev
  -- ishl
  · split at hev
    · exact lv_ishl hx hb hd (kk _ _ _ _ _ _ _ _ hev hat)
    · cases hev
  -- ishr
  · split at hev
    · exact lv_ishr hx hb hd (kk _ _ _ _ _ _ _ _ hev hat)
    · cases hev
  -- iushr
  · split at hev
    · exact lv_iushr hx hb hd rfl (kk _ _ _ _ _ _ _ _ hev hat)
    · cases hev
  -- ladd
  · split at hev
    · exact lv_ladd hx hb hd (kk _ _ _ _ _ _ _ _ hev hat)
    · cases hev
  -- lsub
  · split at hev
    · exact lv_lsub hx hb hd (kk _ _ _ _ _ _ _ _ hev hat)
    · cases hev
  -- lmul
  · split at hev
    · exact lv_lmul hx hb hd (kk _ _ _ _ _ _ _ _ hev hat)
    · cases hev
  -- ldiv
  · split at hev
    · split at hev
      · cases hev
      · rename_i hne
        exact lv_ldiv hx hb hd hne (kk _ _ _ _ _ _ _ _ hev hat)
    · cases hev
  -- lrem
  · split at hev
    · split at hev
      · cases hev
      · rename_i hne
        exact lv_lrem hx hb hd hne (kk _ _ _ _ _ _ _ _ hev hat)
    · cases hev
  -- lneg
  · split at hev
    · exact lv_lneg hx hb hd (kk _ _ _ _ _ _ _ _ hev hat)
    · cases hev
  -- land
  · split at hev
    · exact lv_land hx hb hd (kk _ _ _ _ _ _ _ _ hev hat)
    · cases hev
  -- lor
  · split at hev
    · exact lv_lor hx hb hd (kk _ _ _ _ _ _ _ _ hev hat)
    · cases hev
  -- lshl
  · split at hev
    · exact lv_lshl hx hb hd rfl (kk _ _ _ _ _ _ _ _ hev hat)
    · cases hev
  -- lcmp
  · split at hev
    · exact W.lcmp hx hb hd (kk _ _ _ _ _ _ _ _ hev hat)
    · cases hev
  -- i2l
  · split at hev
    · exact lv_i2l hx hb hd rfl (kk _ _ _ _ _ _ _ _ hev hat)
    · cases hev
  -- l2i
  · split at hev
    · exact lv_l2i hx hb hd rfl (kk _ _ _ _ _ _ _ _ hev hat)
    · cases hev
  -- i2b
  · split at hev
    · exact lv_i2b hx hb hd rfl (kk _ _ _ _ _ _ _ _ hev hat)
    · cases hev
  -- i2c
  · split at hev
    · exact lv_i2c hx hb hd rfl (kk _ _ _ _ _ _ _ _ hev hat)
    · cases hev
  -- dup
  · split at hev
    · exact lv_dup hx hb hd rfl (kk _ _ _ _ _ _ _ _ hev hat)
    · exact lv_dup hx hb hd rfl (kk _ _ _ _ _ _ _ _ hev hat)
    · cases hev
  -- dup_x1
  · split at hev
    · exact lv_dup_x1 hx hb hd rfl rfl (kk _ _ _ _ _ _ _ _ hev hat)
    · cases hev
  -- dup2
  · split at hev
    · exact lv_dup2_11 hx hb hd rfl rfl (kk _ _ _ _ _ _ _ _ hev hat)
    · exact lv_dup2_2 hx hb hd rfl (kk _ _ _ _ _ _ _ _ hev hat)
    · cases hev
  -- pop
  · split at hev
    · rename_i x _
      exact lv_pop (va := .int x) hx hb hd rfl (kk _ _ _ _ _ _ _ _ hev hat)
    · cases hev
  -- pop2
  · split at hev
    · rename_i x _
      exact lv_pop2_2 (va := .long x) hx hb hd rfl (kk _ _ _ _ _ _ _ _ hev hat)
    · cases hev
  -- arraylength
  · split at hev
    · obtain ⟨x, hx1, hev⟩ := Option.bind_eq_some_iff.mp hev
      unfold am_len at hx1
      split at hx1
      · rename_i hc
        split at hx1
        · rename_i hk
          cases hx1
          obtain ⟨-, cell, g1, g2, -⟩ := so_arr hP hc hk.1
          exact W.alen hx hb g1 g2.1 g2.2.2.2.1 rfl rfl hd (kk _ _ _ _ _ _ _ _ hev hat)
        · cases hx1
      · cases hx1
    · cases hev
  -- iaload
  · split at hev
    · obtain ⟨x, hx1, hev⟩ := Option.bind_eq_some_iff.mp hev
      unfold am_aI at hx1
      split at hx1
      · rename_i hA
        cases hx1
        obtain ⟨n, cell, g1, g2, g3, g4⟩ := so_a_of hP (by decide) hA
        exact W.iald hx hb g1 g2.1 g2.2.1 g3 g4 rfl rfl hd (kk _ _ _ _ _ _ _ _ hev hat)
      · cases hx1
    · cases hev
  -- laload
  · split at hev
    · obtain ⟨x, hx1, hev⟩ := Option.bind_eq_some_iff.mp hev
      unfold am_aL at hx1
      split at hx1
      · rename_i hA
        cases hx1
        obtain ⟨n, cell, g1, g2, g3, g4⟩ := so_a_of hP (by decide) hA
        exact W.lald hx hb g1 g2.1 g2.2.1 g3 g4 rfl rfl hd (kk _ _ _ _ _ _ _ _ hev hat)
      · cases hx1
    · cases hev
  -- baload
  · split at hev
    · obtain ⟨x, hx1, hev⟩ := Option.bind_eq_some_iff.mp hev
      unfold am_aB at hx1
      split at hx1
      · rename_i hA
        cases hx1
        obtain ⟨n, cell, g1, g2, g3, g4⟩ := so_a_of hP (by decide) hA
        exact W.bald hx hb g1 g2.1 g2.2.1 g3 g4 rfl rfl hd (kk _ _ _ _ _ _ _ _ hev hat)
      · split at hx1
        · rename_i hA
          cases hx1
          obtain ⟨n, cell, g1, g2, g3, g4⟩ := so_a_of hP (by decide) hA
          exact W.zald hx hb g1 g2.1 g2.2.1 g3 g4 rfl rfl hd (kk _ _ _ _ _ _ _ _ hev hat)
        · cases hx1
    · cases hev
  -- aaload
  · split at hev
    · obtain ⟨x, hx1, hev⟩ := Option.bind_eq_some_iff.mp hev
      unfold am_aR at hx1
      split at hx1
      · rename_i hA
        cases hx1
        obtain ⟨n, cell, g1, g2, g3, g4⟩ := so_a_of hP (by decide) hA
        exact W.aald hx hb g1 g2.1 rfl g2.2.1 g3 g4 rfl rfl hd (kk _ _ _ _ _ _ _ _ hev hat)
      · cases hx1
    · cases hev
  -- iastore
  · split at hev
    · obtain ⟨h', hx1, hev⟩ := Option.bind_eq_some_iff.mp hev
      obtain ⟨cell, g1, g2, g3, g4, -, g5⟩ := so_st_of hP hS (by decide) hx1
      have hsz := am_st_sz hx1
      exact W.iast hx hb g1 g2 g3 g4 rfl rfl hd fun H' d1 d2 d3 => kk _ _ _ _ _ _ _ _ hev ⟨(g5 H' d1 d2 d3).1, (g5 H' d1 d2 d3).2, hl, hc1.trans hsz.1.symm, hc2.trans hsz.2.symm⟩
    · cases hev
  -- lastore
  · split at hev
    · obtain ⟨h', hx1, hev⟩ := Option.bind_eq_some_iff.mp hev
      obtain ⟨cell, g1, g2, g3, g4, -, g5⟩ := so_st_of hP hS (by decide) hx1
      have hsz := am_st_sz hx1
      exact W.last hx hb g1 g2 g3 g4 rfl rfl hd fun H' d1 d2 d3 => kk _ _ _ _ _ _ _ _ hev ⟨(g5 H' d1 d2 d3).1, (g5 H' d1 d2 d3).2, hl, hc1.trans hsz.1.symm, hc2.trans hsz.2.symm⟩
    · cases hev
  -- bastore
  · split at hev
    · obtain ⟨h', hx1, hev⟩ := Option.bind_eq_some_iff.mp hev
      unfold am_stB at hx1
      split at hx1
      · split at hx1
        · obtain ⟨cell, g1, g2, g3, g4, -, g5⟩ := so_st_of hP hS (by decide) hx1
          have hsz := am_st_sz hx1
          exact W.bast hx hb g1 g2 g3 g4 rfl rfl hd fun H' d1 d2 d3 => kk _ _ _ _ _ _ _ _ hev ⟨(g5 H' d1 d2 d3).1, (g5 H' d1 d2 d3).2, hl, hc1.trans hsz.1.symm, hc2.trans hsz.2.symm⟩
        · split at hx1
          · obtain ⟨cell, g1, g2, g3, g4, -, g5⟩ := so_st_of hP hS (by decide) hx1
            have hsz := am_st_sz hx1
            exact W.zast hx hb g1 g2 g3 g4 rfl rfl hd fun H' d1 d2 d3 => kk _ _ _ _ _ _ _ _ hev ⟨(g5 H' d1 d2 d3).1, (g5 H' d1 d2 d3).2, hl, hc1.trans hsz.1.symm, hc2.trans hsz.2.symm⟩
          · cases hx1
      · cases hx1
    · cases hev
  -- aastore
  · split at hev
    · obtain ⟨h', hx1, hev⟩ := Option.bind_eq_some_iff.mp hev
      unfold am_stR at hx1
      split at hx1
      · rename_i hcv
        split at hx1
        · rename_i hc0
          subst hc0
          obtain ⟨cell, g1, g2, g3, g4, g6, g5⟩ := so_st_of hP hS (by decide) hx1
          have hsz := am_st_sz hx1
          obtain ⟨qv, b1, b2, cellV, v1, v2, v3, v4⟩ := so_obj_at hP hcv (by decide)
          obtain ⟨hSv, hcls⟩ := hK.1 0 qv b1
          cases b1
          obtain ⟨kA, comp, k1, k2, k3, -⟩ := g6 rfl
          have hcomp : comp = D.1 0 := Option.some.inj (k3.symm.trans hcls.1)
          subst hcomp
          obtain ⟨kC, hkC, -⟩ := id hcls.2
          refine W.aast hx hb g1 g2.1 g3 k1 k2 rfl hkC ⟨fun z => g4 (Or.inl z), Nat.not_le.mp fun z => g4 (Or.inr z)⟩ v1 (fun q z => by rw [v3] at z; cases z) (by rw [v2]; exact hkC) (by rw [v2]; exact va_assign hcls) rfl rfl hd fun H' d1 d2 d3 => kk _ _ _ _ _ _ _ _ hev ⟨(g5 H' d1 d2 d3).1, (g5 H' d1 d2 d3).2, hl, hc1.trans hsz.1.symm, hc2.trans hsz.2.symm⟩
        · cases hx1
      · cases hx1
    · cases hev
  -- getfield
  · split at hev
    · unfold am_getf at hev
      split at hev
      · obtain ⟨x, hx1, hev⟩ := Option.bind_eq_some_iff.mp hev
        unfold am_fI at hx1
        split at hx1
        · rename_i hA
          cases hx1
          exact so_getf X hP hd hI hA (kk _ _ _ _ _ _ _ _ hev hat)
        · cases hx1
      · obtain ⟨x, hx1, hev⟩ := Option.bind_eq_some_iff.mp hev
        unfold am_fI at hx1
        split at hx1
        · rename_i hA
          cases hx1
          exact so_getf X hP hd hI hA (kk _ _ _ _ _ _ _ _ hev hat)
        · cases hx1
      · obtain ⟨x, hx1, hev⟩ := Option.bind_eq_some_iff.mp hev
        unfold am_fI at hx1
        split at hx1
        · rename_i hA
          cases hx1
          exact so_getf X hP hd hI hA (kk _ _ _ _ _ _ _ _ hev hat)
        · cases hx1
      · obtain ⟨x, hx1, hev⟩ := Option.bind_eq_some_iff.mp hev
        unfold am_fL at hx1
        split at hx1
        · rename_i hA
          cases hx1
          exact so_getf X hP hd hI hA (kk _ _ _ _ _ _ _ _ hev hat)
        · cases hx1
      · obtain ⟨x, hx1, hev⟩ := Option.bind_eq_some_iff.mp hev
        unfold am_fR at hx1
        split at hx1
        · rename_i hA
          cases hx1
          exact so_getf X hP hd hI hA (kk _ _ _ _ _ _ _ _ hev hat)
        · cases hx1
      · obtain ⟨x, hx1, hev⟩ := Option.bind_eq_some_iff.mp hev
        unfold am_fR at hx1
        split at hx1
        · rename_i hA
          cases hx1
          exact so_getf X hP hd hI hA (kk _ _ _ _ _ _ _ _ hev hat)
        · cases hx1
      · cases hev
    · cases hev
  -- putfield
  · split at hev
    · unfold am_putf at hev
      split at hev
      · rename_i hty
        obtain ⟨h', hx1, hev⟩ := Option.bind_eq_some_iff.mp hev
        have hsz := am_pf_sz hx1
        exact so_putf X hP hS hd hI hx1 (by rw [hty]; rfl) (by rw [hty]; rfl) fun H1 locs1 g1 g2 => kk _ _ _ _ _ _ _ _ hev ⟨g1, g2, hl, hc1.trans hsz.1.symm, hc2.trans hsz.2.symm⟩
      · rename_i hty
        obtain ⟨h', hx1, hev⟩ := Option.bind_eq_some_iff.mp hev
        unfold am_pz at hx1
        split at hx1
        · rename_i hz
          have hsz := am_pf_sz hx1
          exact so_putf X hP hS hd hI hx1 (by rw [hty]; rcases hz with rfl | rfl <;> rfl) (by rw [hty]; rcases hz with rfl | rfl <;> rfl) fun H1 locs1 g1 g2 => kk _ _ _ _ _ _ _ _ hev ⟨g1, g2, hl, hc1.trans hsz.1.symm, hc2.trans hsz.2.symm⟩
        · cases hx1
      · rename_i hty
        obtain ⟨h', hx1, hev⟩ := Option.bind_eq_some_iff.mp hev
        have hsz := am_pf_sz hx1
        exact so_putf X hP hS hd hI hx1 (by rw [hty]; rfl) (by rw [hty]; rfl) fun H1 locs1 g1 g2 => kk _ _ _ _ _ _ _ _ hev ⟨g1, g2, hl, hc1.trans hsz.1.symm, hc2.trans hsz.2.symm⟩
      · rename_i hty
        obtain ⟨h', hx1, hev⟩ := Option.bind_eq_some_iff.mp hev
        have hsz := am_pf_sz hx1
        exact so_putf X hP hS hd hI hx1 (by rw [hty]; rfl) (by rw [hty]; rfl) fun H1 locs1 g1 g2 => kk _ _ _ _ _ _ _ _ hev ⟨g1, g2, hl, hc1.trans hsz.1.symm, hc2.trans hsz.2.symm⟩
      · rename_i hty
        obtain ⟨h', hx1, hev⟩ := Option.bind_eq_some_iff.mp hev
        have hsz := am_pf_sz hx1
        exact so_putf X hP hS hd hI hx1 (by rw [hty]; rfl) (by rw [hty]; rfl) fun H1 locs1 g1 g2 => kk _ _ _ _ _ _ _ _ hev ⟨g1, g2, hl, hc1.trans hsz.1.symm, hc2.trans hsz.2.symm⟩
      · cases hev
    · cases hev
  -- new
  · simp only [am_okI] at hI
    split at hI
    · rename_i q hq
      simp only [Bool.and_eq_true] at hI
      obtain ⟨hN, hI⟩ := hI
      have hN := Nat.eq_of_beq_eq_true hN
      subst hN
      obtain ⟨i1, i2⟩ := so_inst _ q hq
      have hKn := hK.1 _ q hq
      have hlm := hlim _ _ _ hev
      have hr1 : h.1 + 1 ≤ h0.1 + R.cells := hlm.1
      have hr2 : h.2.1 + q.2.2 ≤ h0.2.1 + R.slots := hlm.2
      refine W.newcK hx hb hown (hts _ (am_has_mem hI)) (hts _ i1) (hts _ i2) rfl hd (by omega) (by omega) hKn.2.1 rfl fun H1 kC hkC e1 z1 o1 => ?_
      have hborn := u_born (am_fty _) hts (so_in _ q hq) hKn hkC e1 (so_ty _ q hq)
      have hc11 : r1 < 11 := by
        have := (List.getElem?_eq_some_iff.mp hq).1
        simpa [vwCl] using this
      obtain ⟨g1, g2⟩ := hP.new (c := (r1, q.2.2, fun j => am_dflt (am_fty r1 j))) z1 o1 (Or.inl ⟨hc11, ⟨q, hq, rfl⟩, hborn.to (fun j hj => by rw [so_dflt r1 q hq j hj])⟩)
      have := kk _ _ _ H1 locs ls (cells + 1) (slots + q.2.2) hev ⟨g1, ⟨Nat.le_trans hS.1 (by omega), fun x a1 a2 => (o1 x (Nat.lt_of_lt_of_le a1 hS.1)).trans (hS.2.1 x a1 a2), hS.2.2⟩, hl, by show cells + 1 + h0.1 = h.1 + 1; omega, by show slots + q.2.2 + h0.2.1 = h.2.1 + q.2.2; omega⟩
      rw [show (Value.ref H.size :: st.map (so_V r)) = (Value.ref h.1 :: st).map (so_V r) by rw [← g2]; rfl]
      exact this
    · cases hI
  -- newarray
  · split at hev
    · unfold am_mka at hev
      split at hev
      · rename_i kd hkd
        split at hev
        · rename_i hn
          have hlm := hlim _ _ _ hev
          have hr1 : h.1 + 1 ≤ h0.1 + R.cells := hlm.1
          obtain ⟨b1, b2, b3, b4, b5, b6⟩ := so_akind hkd
          rename_i x _ _
          have hr2 : h.2.1 + x.toNatClampNeg ≤ h0.2.1 + R.slots := hlm.2
          refine va_newaK hx hb (hts _ b1) rfl hd rfl hn.1 rfl (by have := Nat.mul_le_mul hn.2 b6; omega) (by omega) (by omega) rfl fun H1 cA e1 z1 o1 hA hNm => ?_
          rw [b2] at e1
          rw [b3] at hA
          obtain ⟨⟨g1, g2⟩, g3⟩ := so_new_arr hP hS b4 e1 z1 o1 hA (fun z => absurd z (Nat.ne_of_lt (so_akind_lt hkd))) b5
          have := kk _ _ _ H1 locs ls (cells + 1) (slots + x.toNatClampNeg) hev ⟨g1, g3, hl, by show cells + 1 + h0.1 = h.1 + 1; omega, by show slots + x.toNatClampNeg + h0.2.1 = h.2.1 + x.toNatClampNeg; omega⟩
          rw [← g2]
          exact this
        · cases hev
      · cases hev
    · cases hev
  -- anewarray
  · split at hev
    · unfold am_mka at hev
      split at hev
      · rename_i kd hkd
        cases hkd
        split at hev
        · rename_i hn
          have hlm := hlim _ _ _ hev
          have hr1 : h.1 + 1 ≤ h0.1 + R.cells := hlm.1
          rename_i x _ _
          have hr2 : h.2.1 + x.toNatClampNeg ≤ h0.2.1 + R.slots := hlm.2
          refine W.anew hx hb hown (hts _ (am_has_mem hI)) (va_AO.use hAO) rfl hd rfl hn.1 (by omega) (by omega) (by omega) fun cA kA comp f1 f2 f3 f4 => ?_
          have z1 : (H.push ({ cls := cA, slots := Array.replicate x.toNatClampNeg .null, vm := .none } : Cell)).size = H.size + 1 := Array.size_push _
          have e1 : (H.push ({ cls := cA, slots := Array.replicate x.toNatClampNeg .null, vm := .none } : Cell))[H.size]? = some (arrV cA x.toNatClampNeg (fun _ => .null)) := by rw [Array.getElem?_push_size, ← arrV_new]
          have o1 : ∀ q : Nat, q < H.size → (H.push ({ cls := cA, slots := Array.replicate x.toNatClampNeg .null, vm := .none } : Cell))[q]? = H[q]? := fun q hq => by rw [Array.getElem?_push, if_neg (Nat.ne_of_lt hq)]
          obtain ⟨⟨g1, g2⟩, g3⟩ := so_new_arr (kd := 104) hP hS (by decide) e1 z1 o1 (fun N z => ⟨(fun k h => by cases h), kA, f2, comp, f3⟩) (fun _ => ⟨kA, comp, f2, f3, f4, f1⟩) rfl
          have := kk _ _ _ _ locs ls (cells + 1) (slots + x.toNatClampNeg) hev ⟨g1, g3, hl, by show cells + 1 + h0.1 = h.1 + 1; omega, by show slots + x.toNatClampNeg + h0.2.1 = h.2.1 + x.toNatClampNeg; omega⟩
          rw [← g2]
          exact this
        · cases hev
      · cases hev
    · cases hev
  · cases hev
end SoStp
