/-! calls -/
def so_rm (d : Nat) (h h' : AH) : Room := { frames := d, cells := h'.1 - h.1, slots := h'.2.1 - h.2.1, locals := 100 * d }
def so_Q (D : va_G) (r : Nat → Nat) (B : Nat) (x : Option Value) (h' : AH) : Array Value → State → Outcome → State → Prop := fun _ st o t => o = .returned (x.map (so_V r)) ∧ so_P D r B h' t t.heap ∧ va_F (so_A B) st t
def so_ws (y : MethodName) (bytes : ByteArray) (maxL : Nat) (ret : Option FieldType) : List Cond := .code y bytes maxL ret :: tblG
def so_Pc (D : va_G) (r : Nat → Nat) (B : Nat) (as : List Value) (h : AH) : Array Value → State → Prop := va_Pc (as.map (so_V r)) (fun U => (so_K D r U ∧ va_AO "ForgetfulRider$Book" U) ∧ so_P D r B h U U.heap)
def so_Met (L : Launch) (D : va_G) (r : Nat → Nat) (B d : Nat) (y : MethodName) (M : MD) (as : List Value) (h : AH) (x : Option Value) (h' : AH) : Prop :=
  Met L y (so_ws y M.2.2.1 M.2.2.2.1 M.2.2.2.2.1) (so_rm d h h') (so_Pc D r B as h) (so_Q D r B x h') (h'.1 - h.1) (h'.2.1 - h.2.1) (so_A B)
/-- every call of G is a call of the machine -/
def so_G (L : Launch) (D : va_G) (r : Nat → Nat) (B d : Nat) (G : GT) : Prop := am_mono G ∧ ∀ j as h x h', G j as h = some (x, h') → ∃ g M, am_sg[j]? = some g ∧ am_prog[j]? = some M ∧ so_Met L D r B d g.1 M as h x h'
/-- every table was checked -/
def so_all : Prop := ∀ (j : Nat) (g : SG) (M : MD), am_sg[j]? = some g → am_prog[j]? = some M → am_okM am_sg (g, M) = true
theorem am_rt_none {ret : Option FieldType} (h : am_rt ret = 0) : ret = none := by
  cases ret with
  | none => rfl
  | some t => cases t <;> simp [am_rt] at h
theorem so_lens : am_prog.length = am_sg.length := by decide +kernel
theorem so_prog_of {j : Nat} {g : SG} (h : am_sg[j]? = some g) : ∃ M, am_prog[j]? = some M := by
  have h1 := (List.getElem?_eq_some_iff.mp h).1
  exact ⟨am_prog[j]'(by rw [so_lens]; exact h1), List.getElem?_eq_getElem _⟩
theorem so_okM {g : SG} {M : MD} (h : am_okM am_sg (g, M) = true) : (am_okC am_sg g.1.cls (Nat.beq g.2.2.2 2) M.2.2.2.1 M.2.2.1 M.1 = true) ∧ Cond.code g.1 M.2.2.1 M.2.2.2.1 M.2.2.2.2.1 ∈ tblG ∧ Cond.initialized g.1.cls ∈ tblG ∧
    ((g.2.2.2 = 0 → Cond.static g.1 ∈ tblG) ∧ (g.2.2.2 = 1 → Cond.instanceMethod g.1 ∈ tblG ∧ Cond.selects g.1.cls g.1 g.1 ∈ tblG) ∧ (g.2.2.2 = 2 → Cond.instanceMethod g.1 ∈ tblG ∧ g.1.name = "<init>")) ∧
    plainName g.1.cls = true ∧ (g.1.cls ≠ "java/lang/invoke/MethodHandle" ∧ g.1.cls ≠ "java/lang/invoke/VarHandle") ∧ (parseMethodDescriptor g.1.desc).map (fun d => d.parameters.length) = some g.2.1 ∧ g.2.2.1 = am_rt M.2.2.2.2.1 ∧ M.2.2.2.1 ≤ 60 := by
  obtain ⟨y, n, t, kd⟩ := g
  obtain ⟨C, U, bytes, maxL, ret, ps⟩ := M
  unfold am_okM at h
  split at h
  · rename_i y' n' t' kd' C' U' bytes' maxL' ret' p0 p1 p2 p3 heq
    cases heq
    simp only [am_okR, Bool.and_eq_true, decide_eq_true_eq] at h
    obtain ⟨h1, h2, h3, h4, h5, h6, h7, h8, h9⟩ := h
    refine ⟨h1, am_has_mem h2, am_has_mem h3, ⟨fun z => ?_, fun z => ?_, fun z => ?_⟩, h5, h6, h7, Nat.eq_of_beq_eq_true h8, Nat.le_of_ble_eq_true h9⟩
    · dsimp only at z; subst z; exact am_has_mem h4
    · dsimp only at z; subst z; simp only [Bool.and_eq_true] at h4; exact ⟨am_has_mem h4.1, am_has_mem h4.2⟩
    · dsimp only at z; subst z; simp only [Bool.and_eq_true, decide_eq_true_eq] at h4; exact ⟨am_has_mem h4.1, h4.2⟩
  · cases h
theorem am_pop_spec : ∀ (n : Nat) (st acc as rest : List Value), am_pop n st acc = some (as, rest) → ∃ ts, st = ts ++ rest ∧ ts.length = n ∧ as = ts.reverse ++ acc := by
  intro n
  induction n with
  | zero =>
    intro st acc as rest h
    unfold am_pop at h
    cases h
    exact ⟨[], rfl, rfl, rfl⟩
  | succ n ih =>
    intro st acc as rest h
    cases st with
    | nil => unfold am_pop at h; cases h
    | cons v st =>
      unfold am_pop at h
      obtain ⟨ts, h1, h2, h3⟩ := ih _ _ _ _ h
      exact ⟨v :: ts, by rw [h1]; rfl, by simp [h2], by rw [h3]; simp⟩
theorem so_words {s : State} {args : Array Value} (hts : ∀ w ∈ tblG, w.before args s = true) {y : MethodName} {bytes : ByteArray} {maxL : Nat} {ret : Option FieldType} (hc : Cond.code y bytes maxL ret ∈ tblG) : ∀ w ∈ so_ws y bytes maxL ret, ∀ (a' : Array Value) (U : State), s.WarmedH U.vm → w.before a' U = true := by
  intro w hw a' U hW
  have hw' : w ∈ tblG := by
    rcases List.mem_cons.mp hw with rfl | h
    · exact hc
    · exact h
  exact word_at hW (tblG_good hw') (hts w hw')
theorem so_blind {D : va_G} {r : Nat → Nat} {B : Nat} {as : List Value} {h : AH} : FrameBlind (so_Pc D r B as h) := by
  intro a U g mk q
  obtain ⟨q1, ⟨q2, q3⟩, q4⟩ := q
  exact ⟨q1, ⟨so_K.same rfl q2, va_AO.moved (u := U) (U := U.calling g mk a) (Vm.Alike.refl U.vm) q3⟩, so_P.moved (u := U) (U := U.calling g mk a) (Vm.Alike.refl U.vm) q4⟩
theorem so_pre {D : va_G} {r : Nat → Nat} {B : Nat} {as : List Value} {h : AH} {s : State} {H : Heap} (hK : so_K D r s) (hAO : va_AO "ForgetfulRider$Book" s) (hP : so_P D r B h s H) : ∀ U : State, U.heap = H → s.WarmedH U.vm → so_Pc D r B as h (as.map (so_V r)).toArray U := by
  intro U hU hW
  exact ⟨rfl, ⟨hK.warm hW, hAO.moved hW.alike⟩, by rw [hU]; exact hP.moved hW.alike⟩
theorem so_cats : ∀ (st : List Value), st.length ≤ 4 → ∀ (r : Nat → Nat), ((st.map (so_V r)).map fun v => v.category).sum ≤ 8 := by
  intro st h r
  have key : ∀ st : List Value, ((st.map (so_V r)).map fun v => v.category).sum ≤ 2 * st.length := by
    intro st
    induction st with
    | nil => simp
    | cons v st ih =>
      simp only [List.map_cons, List.sum_cons, List.length_cons]
      have : (so_V r v).category ≤ 2 := by rcases lv_cat (so_V r v) with z | z <;> omega
      omega
  have := key st
  omega
theorem so_catsW (st : List Value) (h : am_few st = true) (r : Nat → Nat) : ((st.map (so_V r)).map fun v => v.category).sum ≤ 8 := by
  have key : ∀ st : List Value, ((st.map (so_V r)).map fun v => v.category).sum = am_wid st := by
    intro st
    induction st with
    | nil => rfl
    | cons v st ih =>
      simp only [List.map_cons, List.sum_cons, am_wid]
      have : (so_V r v).category = v.category := by cases v <;> rfl
      omega
  rw [key st]
  exact Nat.le_of_ble_eq_true h
section SoCalls
variable {p : Program} {L : Launch} {e : Env} {R : Room} {s : State} {m : MethodId} {args : Array Value} {below : List Frame} {meth : Method} {c : Code} {H : Heap} {locs : List Loc} {cells slots : Nat} {Q : State → Prop}
variable {own : String} {ini : Bool} {bytes : ByteArray} {nL : Nat} {D : va_G} {r : Nat → Nat} {B pc d : Nat} {ls : Array Slot} {h0 h h' : AH} {rest st0 : List Value} {x : Option Value} {mc ms : Nat} {a : Array Value}
theorem so_call (hr : va_Run p L e R s m args below meth c H locs cells slots mc ms (F0 m pc ls st0) rest (so_Q D r B x h' a) (so_A B)) (hS : va_S (so_A B) s.heap H locs)
    (kk : ∀ (H1 : Heap) (locs1 : List Loc), so_P D r B h' s H1 → va_S (so_A B) s.heap H1 locs1 → W p L e R s m args below meth c H1 locs1 (cells + mc) (slots + ms) Q (F0 m (pc + 3) ls ((x.map (so_V r)).toList ++ rest))) : W p L e R s m args below meth c H locs cells slots Q (F0 m pc ls st0) := by
  intro T hT X
  obtain ⟨v, st₀, t, T', Lc, g0, X', hL, e1, e2, ⟨hv, hp, hz, hk⟩, st⟩ := hr T hT X
  cases hv
  rw [g0] at hz hk
  have hvm : t.vm.Alike s.vm := by rw [← e2]; exact X'.warmed.alike.symm
  obtain ⟨t2, a1, b1⟩ := kk T'.heap (locs ++ Lc) (by rw [e1]; exact hp.moved hvm)
    ⟨Nat.le_trans hS.1 (by rw [e1]; exact hz), fun q q1 q2 => by rw [e1, hk q (Nat.lt_of_lt_of_le q1 hS.1) q2]; exact hS.2.1 q q1 q2, fun q hq => by
      rcases List.mem_append.mp hq with z | z
      · exact hS.2.2 q z
      · exact hL q z⟩ T' rfl X'
  exact ⟨t2, st t2 a1, b1⟩
theorem so_recv (hK : so_K D r s) (hP : so_P D r B h s H) {b ci : Nat} (hci : ci ≤ 11) (hk : am_isK h b ci = true) : ∃ cell : Cell, H[r b]? = some cell ∧ cell.vm.isStatics = false ∧ s.vm.findClass (am_cn ci) = some cell.cls := by
  unfold am_isK at hk
  split at hk
  · rename_i c' n f hc
    have hce := Nat.eq_of_beq_eq_true hk
    subst hce
    by_cases h11 : c' < 11
    · obtain ⟨q, e1, e2, cell, g1, g2, g3, g4⟩ := so_obj_at hP hc h11
      refine ⟨cell, g1, by rw [g3]; rfl, ?_⟩
      unfold am_cn
      rw [e1, g2]
      exact (hK.1 c' q e1).2.1
    · have : c' = 11 := by omega
      subst this
      obtain ⟨a1, a2⟩ := am_cell_of hc
      have a3 := hP.2.2 b a1
      rw [a2] at a3
      rcases a3 with ⟨z, -⟩ | ⟨-, -, ⟨cell, g1, g2, g3, -⟩, -⟩ | ⟨z, -⟩
      · exact absurd z (show ¬ (11 : Nat) < 11 by decide)
      · exact ⟨cell, g1, g2, g3⟩
      · exact absurd z.1 (show ¬ (100 : Nat) ≤ 11 by decide)
  · cases hk
/-- the words and the room of a call -/
theorem so_callB (X : so_Cx p s m args c meth own ini bytes nL D r) {g : SG} {M : MD} (hok : am_okM am_sg (g, M) = true) (hR : d + 1 ≤ R.frames ∧ 100 * (d + 1) ≤ R.locals) {k : Nat} (hlink : Cond.methodLink own k g.1 ∈ tblG) :
    CallB R s args own k g.1 M.2.2.1 M.2.2.2.1 M.2.2.2.2.1 (so_ws g.1 M.2.2.1 M.2.2.2.1 M.2.2.2.2.1) (so_rm d h h') (h'.1 - h.1) (h'.2.1 - h.2.1) g.2.1 := by
  obtain ⟨hx, hb, hml, hown, hts, hK, hini, hAO⟩ := X
  obtain ⟨o1, o2, o3, -, -, o4, o5, o6, o7⟩ := so_okM hok
  refine ⟨rfl, rfl, hR.1, by show 8 + (M.2.2.2.1 + 11) + 100 * d ≤ R.locals; omega, so_words hts o2, List.mem_cons_self, hts _ o2, hts _ o3, o4, fun sig hsig => ?_, hts _ hlink⟩
  rw [hsig] at o5
  exact (Option.some.inj o5).symm
theorem so_callN (X : so_Cx p s m args c meth own ini bytes nL D r) {g : SG} {M : MD} (hok : am_okM am_sg (g, M) = true) (hR : d + 1 ≤ R.frames ∧ 100 * (d + 1) ≤ R.locals) {k : Nat} {host : String} (hlink : va_Nw (.methodLinkNest own k g.1 host) s) :
    va_CN R s args own k g.1 host M.2.2.1 M.2.2.2.1 M.2.2.2.2.1 (so_ws g.1 M.2.2.1 M.2.2.2.1 M.2.2.2.2.1) (so_rm d h h') (h'.1 - h.1) (h'.2.1 - h.2.1) g.2.1 := by
  obtain ⟨hx, hb, hml, hown, hts, hK, hini, hAO⟩ := X
  obtain ⟨o1, o2, o3, -, -, o4, o5, o6, o7⟩ := so_okM hok
  refine ⟨⟨rfl, rfl, hR.1, by show 8 + (M.2.2.2.1 + 11) + 100 * d ≤ R.locals; omega, so_words hts o2, List.mem_cons_self⟩, hts _ o2, hts _ o3, o4, fun sig hsig => ?_, va_Nw.use rfl hlink⟩
  rw [hsig] at o5
  exact (Option.some.inj o5).symm
theorem so_AR.pairs {U : State} {ty : FieldType} {n : Nat} (at_ : Nat) : ∀ (xs : List Value) (i : Nat) (cell : Cell) (V : Nat → Value), so_AR U ty n V cell → so_AR U ty n (fun k => if at_ + i ≤ k ∧ k < at_ + i + xs.length then xs.getD (k - (at_ + i)) .null else V k) (cell.storePairs at_ (xs.zipIdx i))
  | [], i, ce, V, hA => by
    have e : (fun k => if at_ + i ≤ k ∧ k < at_ + i + ([] : List Value).length then ([] : List Value).getD (k - (at_ + i)) .null else V k) = V := by
      funext k
      rw [if_neg (by simp only [List.length_nil]; omega)]
    rw [e]
    exact hA
  | x :: xs, i, ce, V, hA => by
    rw [List.zipIdx_cons]
    have h1 : so_AR U ty n (fun k => if k = at_ + i then x else V k) (ce.setSlot (at_ + i) x) := hA.setSlot _ _ (fun k _ => rfl)
    have h2 := so_AR.pairs at_ xs (i + 1) _ _ h1
    have e : (fun k => if at_ + i ≤ k ∧ k < at_ + i + (x :: xs).length then (x :: xs).getD (k - (at_ + i)) .null else V k) = (fun k => if at_ + (i + 1) ≤ k ∧ k < at_ + (i + 1) + xs.length then xs.getD (k - (at_ + (i + 1))) .null else if k = at_ + i then x else V k) := by
      funext k
      by_cases hk : k = at_ + i
      · subst hk
        rw [if_pos (by simp only [List.length_cons]; omega), if_neg (by omega), if_pos rfl]
        simp
      · by_cases hh : at_ + (i + 1) ≤ k ∧ k < at_ + (i + 1) + xs.length
        · rw [if_pos hh, if_pos (by simp only [List.length_cons]; omega)]
          have e : k - (at_ + i) = (k - (at_ + (i + 1))) + 1 := by omega
          rw [e, List.getD_cons_succ]
        · rw [if_neg hh, if_neg (by simp only [List.length_cons]; omega), if_neg hk]
    rw [e]
    exact h2
theorem so_copy (X : so_Cx p s m args c meth own ini bytes nL D r) (hP : so_P D r B h s H) (hS : va_S (so_A B) s.heap H locs) {a0 b0 : Nat} {sp dp n : Int32} (hf : am_copy h a0 sp b0 dp n = some h') (hsz : ls.size = nL) {k : Nat} (hlink : Cond.methodLink own k arraycopyName ∈ tblG)
    (hframes : 1 ≤ R.frames) (hlocals : (rest.map fun v => v.category).sum + 18 ≤ R.locals) (hdg : decode bytes pc = .ok (.invokestatic k, 3))
    (kk : ∀ (H1 : Heap) (locs1 : List Loc), so_P D r B h' s H1 → va_S (so_A B) s.heap H1 locs1 → W p L e R s m args below meth c H1 locs1 cells slots Q (F0 m (pc + 3) ls rest)) : W p L e R s m args below meth c H locs cells slots Q (F0 m pc ls (.int n :: .int dp :: .ref (r b0) :: .int sp :: .ref (r a0) :: rest)) := by
  obtain ⟨hx, hb, hml, hown, hts, hK, hini, hAO⟩ := X
  have nn : ∀ z : Int32, ¬ z < 0 → z.toInt = (z.toNatClampNeg : Int) := by
    intro z hz
    have hz0 : (0 : Int) ≤ z.toInt := by
      have := Int32.not_lt.mp hz
      simpa using Int32.le_iff_toInt_le.mp this
    show z.toInt = ((z.toInt.toNat : Nat) : Int)
    omega
  unfold am_copy at hf
  split at hf
  · rename_i c1 m1 f c2 m2 g hca hcb
    split at hf
    · rename_i hcnd
      cases hf
      obtain ⟨⟨rfl, rfl, hold⟩, ⟨n1, n2, n3⟩, l1, l2, hfit⟩ := hcnd
      obtain ⟨-, cs, s1, s2, -⟩ := so_arr hP hca (by decide)
      obtain ⟨-, cd, d1, d2, -⟩ := so_arr hP hcb (by decide)
      intro T hT XX
      obtain ⟨sO, ks, hks, cm0, hkk0⟩ := id s2.1
      obtain ⟨dO, kd, hkd, cm1, hkk1⟩ := id d2.1
      have hget : ∀ i, i < n.toNatClampNeg → cs.slots.getD (sp.toNatClampNeg + i) .null = so_V r (f (sp.toNatClampNeg + i)) := by
        intro i hi
        rw [Array.getD_eq_getD_getElem?, s2.2.2.2.2 _ (by omega)]
        rfl
      have hint : ∀ i, i < n.toNatClampNeg → ∃ z, f (sp.toNatClampNeg + i) = .int z := by
        intro i hi
        have := hfit i hi
        cases hz : f (sp.toNatClampNeg + i) with
        | int z => exact ⟨z, rfl⟩
        | _ => rw [hz] at this; simp [fits] at this
      obtain ⟨vm', X', step⟩ := XX.arraycopy hx hown (hts _ hlink) (hts _ so_acp.1) (hts _ so_acp.2.1) (hts _ so_acp.2.2) (src := r a0) (dst := r b0) (cs := cs) (cd := cd) (srcPos := sp) (destPos := dp) (n := n) (by rw [hT]; exact s1) (by rw [hT]; exact d1)
        sO dO s2.2.1 d2.2.1 hks hkd hkk0 hkk1 (by rfl) n1 n2 n3
        (by rw [nn sp n1, nn n n3]; have := s2.2.2.1; omega)
        (by rw [nn dp n2, nn n n3]; have := d2.2.2.1; omega)
        (fun vm₁ _ i hi => by
          obtain ⟨z, hz⟩ := hint i hi
          rw [hget i hi, hz]
          exact ⟨rfl, trivial⟩)
        (g := F0 m pc ls (.int n :: .int dp :: .ref (r b0) :: .int sp :: .ref (r a0) :: rest)) rfl (by rw [hml]; exact hsz) (rest := rest) rfl (by rw [hb]; exact hdg) hframes (by
          show 2 * 0 + _ + _ ≤ _
          have hw : nativeFrameWords "java/lang/System" "arraycopy" 5 = 7 := (by decide)
          omega)
      have hstr : cs.stretch sp.toNatClampNeg n.toNatClampNeg = (List.range n.toNatClampNeg).map (fun i => so_V r (f (sp.toNatClampNeg + i))) := by
        unfold Cell.stretch
        apply List.map_congr_left
        intro i hi
        exact hget i (List.mem_range.mp hi)
      have hl : r b0 < H.size := (Array.getElem?_eq_some_iff.mp d1).1
      have hA := so_A_of hP hold
      have hheap : ((T.setVm vm').setCell (r b0) (copied cs cd sp dp n)).heap = H.setIfInBounds (r b0) (copied cs cd sp dp n) := by rw [← hT]; rfl
      have oq : ∀ q : Nat, q ≠ r b0 → (H.setIfInBounds (r b0) (copied cs cd sp dp n))[q]? = H[q]? := fun q hq => by simp [Array.getElem?_setIfInBounds, Ne.symm hq]
      have hself : (H.setIfInBounds (r b0) (copied cs cd sp dp n))[r b0]? = some (copied cs cd sp dp n) := by simp [Array.getElem?_setIfInBounds, hl]
      have hcop : so_AR s .int m2 (fun k => so_V r (va_cpy f g sp.toNatClampNeg dp.toNatClampNeg n.toNatClampNeg k)) (copied cs cd sp dp n) := by
        have h1 := so_AR.pairs dp.toNatClampNeg (cs.stretch sp.toNatClampNeg n.toNatClampNeg) 0 cd _ d2
        have e : (fun k => if dp.toNatClampNeg + 0 ≤ k ∧ k < dp.toNatClampNeg + 0 + (cs.stretch sp.toNatClampNeg n.toNatClampNeg).length then (cs.stretch sp.toNatClampNeg n.toNatClampNeg).getD (k - (dp.toNatClampNeg + 0)) .null else so_V r (g k)) = (fun k => so_V r (va_cpy f g sp.toNatClampNeg dp.toNatClampNeg n.toNatClampNeg k)) := by
          funext k
          rw [hstr]
          simp only [va_cpy, List.length_map, List.length_range, Nat.add_zero]
          by_cases hh : dp.toNatClampNeg ≤ k ∧ k < dp.toNatClampNeg + n.toNatClampNeg
          · rw [if_pos hh, if_pos hh, List.getD_eq_getElem?_getD, List.getElem?_map, List.getElem?_range (by omega)]
            rfl
          · rw [if_neg hh, if_neg hh]
        rw [e] at h1
        exact h1
      obtain ⟨t, a1, b1⟩ := kk _ (locs ++ (cs.stretch sp.toNatClampNeg n.toNatClampNeg).zipIdx.map fun q => ⟨r b0, dp.toNatClampNeg + q.2⟩) (hP.set hold (by simp) oq (Or.inr (Or.inr ⟨⟨show (100 : Nat) ≤ 100 by decide, show (100 : Nat) < 105 by decide⟩, _, hself, hcop, fun z => absurd z (show ¬ (100 : Nat) = 104 by decide)⟩))) ⟨by simp; exact hS.1, fun q g1 g2 => by
          rw [oq q (fun e => g2 (by rw [e]; exact hA))]
          exact hS.2.1 q g1 g2, fun q hq => by
          rcases List.mem_append.mp hq with z | z
          · exact hS.2.2 q z
          · obtain ⟨y, -, hy⟩ := List.mem_map.mp z
            rw [← hy]
            exact hA⟩ _ hheap X'
      exact ⟨t, step t a1, b1⟩
    · cases hf
  · cases hf
end SoCalls
