/-! WHERE THE SMALL MACHINE'S CELLS LIE in the machine's heap -/
def tblG : List Cond := lw_tbl.filter goodWord
/-- the words by their places, table by table -/
def am_tblAt (k : Nat) : Option Cond :=
  bif Nat.ble 121 k then (bif Nat.ble 361 k then (bif Nat.ble 601 k then (bif Nat.ble 841 k then (bif Nat.ble 1081 k then (bif Nat.ble 1321 k then (bif Nat.ble 1561 k then (bif Nat.ble 1801 k then tables_1_8[k - 1801]? else tables_1_7[k - 1561]?) else tables_1_6[k - 1321]?) else tables_1_5[k - 1081]?) else tables_1_4[k - 841]?) else tables_1_3[k - 601]?) else tables_1_2[k - 361]?) else tables_1_1[k - 121]?) else (k2_sels lw_privs)[k]?
theorem am_tblAt_mem {k : Nat} {w : Cond} (h : am_tblAt k = some w) : w ∈ lw_tbl := by
  have hd : lw_tbl = k2_sels lw_privs ++ (tables_1_1 ++ (tables_1_2 ++ (tables_1_3 ++ (tables_1_4 ++ (tables_1_5 ++ (tables_1_6 ++ (tables_1_7 ++ tables_1_8))))))) := rfl
  unfold am_tblAt at h
  simp only [hd, List.mem_append]
  cases h1 : Nat.ble 121 k <;> rw [h1] at h <;> simp only [cond_true, cond_false] at h
  · exact Or.inl (List.mem_of_getElem? h)
  cases h2 : Nat.ble 361 k <;> rw [h2] at h <;> simp only [cond_true, cond_false] at h
  · exact Or.inr (Or.inl (List.mem_of_getElem? h))
  cases h3 : Nat.ble 601 k <;> rw [h3] at h <;> simp only [cond_true, cond_false] at h
  · exact Or.inr (Or.inr (Or.inl (List.mem_of_getElem? h)))
  cases h4 : Nat.ble 841 k <;> rw [h4] at h <;> simp only [cond_true, cond_false] at h
  · exact Or.inr (Or.inr (Or.inr (Or.inl (List.mem_of_getElem? h))))
  cases h5 : Nat.ble 1081 k <;> rw [h5] at h <;> simp only [cond_true, cond_false] at h
  · exact Or.inr (Or.inr (Or.inr (Or.inr (Or.inl (List.mem_of_getElem? h)))))
  cases h6 : Nat.ble 1321 k <;> rw [h6] at h <;> simp only [cond_true, cond_false] at h
  · exact Or.inr (Or.inr (Or.inr (Or.inr (Or.inr (Or.inl (List.mem_of_getElem? h))))))
  cases h7 : Nat.ble 1561 k <;> rw [h7] at h <;> simp only [cond_true, cond_false] at h
  · exact Or.inr (Or.inr (Or.inr (Or.inr (Or.inr (Or.inr (Or.inl (List.mem_of_getElem? h)))))))
  cases h8 : Nat.ble 1801 k <;> rw [h8] at h <;> simp only [cond_true, cond_false] at h
  · exact Or.inr (Or.inr (Or.inr (Or.inr (Or.inr (Or.inr (Or.inr (Or.inl (List.mem_of_getElem? h))))))))
  · exact Or.inr (Or.inr (Or.inr (Or.inr (Or.inr (Or.inr (Or.inr (Or.inr (List.mem_of_getElem? h))))))))
def am_has (k : Nat) (w : Cond) : Bool := match am_tblAt k with
  | some w' => decide (w' = w) && goodWord w
  | none => false
theorem am_has_mem {k : Nat} {w : Cond} (h : am_has k w = true) : w ∈ tblG := by
  unfold am_has at h
  split at h
  · rename_i w' hw
    simp only [Bool.and_eq_true, decide_eq_true_eq] at h
    obtain ⟨rfl, hg⟩ := h
    exact List.mem_filter.mpr ⟨am_tblAt_mem hw, hg⟩
  · cases h
theorem tblG_good {w : Cond} (h : w ∈ tblG) : (w.onTables && w.keeps) = true ∨ ∃ ty, w = .arrayClass ty := good_of_word (List.mem_filter.mp h).2
def so_V (r : Nat → Nat) : Value → Value
  | .ref a => .ref (r a)
  | v => v
theorem so_V_cat (r : Nat → Nat) (v : Value) : (so_V r v).category = v.category := by cases v <;> rfl
theorem so_V_int (r : Nat → Nat) (x : Int32) : so_V r (.int x) = .int x := rfl
def so_L (r : Nat → Nat) (l : LV) : LV := l.map (fun q => (q.1, so_V r q.2))
theorem am_look_mem {α : Type} {l : List (Nat × α)} {i : Nat} {v : α} (h : am_look l i = some v) : (i, v) ∈ l := by
  induction l with
  | nil => cases h
  | cons q l ih =>
    unfold am_look at h
    cases hb : Nat.beq q.1 i with
    | true =>
      rw [hb] at h
      cases h
      have := Nat.eq_of_beq_eq_true hb
      subst this
      exact List.mem_cons_self
    | false =>
      rw [hb] at h
      exact List.mem_cons_of_mem _ (ih h)
theorem so_look {r : Nat → Nat} {l : LV} {i : Nat} {v : Value} (h : am_look l i = some v) {ls : Array Slot} {nL : Nat} (hl : lv_has ls nL (so_L r l)) : ls[i]? = some (.val (so_V r v)) :=
  hl.2.2 (i, so_V r v) (List.mem_map.mpr ⟨(i, v), am_look_mem h, rfl⟩)
theorem so_s1 (r : Nat → Nat) (l : LV) (i : Nat) (v : Value) : (i, so_V r v) :: (so_L r l).filter (fun q => !(q.1 == i) && !(q.1 + 1 == i && q.2.category == 2)) = so_L r (am_s1 l i v) := by
  simp [am_s1, so_L, List.filter_map, Function.comp_def, so_V_cat]
theorem so_s2 (r : Nat → Nat) (l : LV) (i : Nat) (v : Value) : (i, so_V r v) :: (so_L r l).filter (fun q => !(q.1 == i) && (!(q.1 == i + 1) && !(q.1 + 1 == i && q.2.category == 2))) = so_L r (am_s2 l i v) := by
  simp [am_s2, so_L, List.filter_map, Function.comp_def, so_V_cat]
theorem am_pick_sub : ∀ (live : List Nat) (l l' : LV), am_pick live l = some l' → ∀ q ∈ l', q ∈ l := by
  intro live
  induction live with
  | nil =>
    intro l l' h q hq
    cases h
    cases hq
  | cons i is ih =>
    intro l l' h q hq
    unfold am_pick at h
    split at h
    · cases h
    · rename_i v hv
      split at h
      · cases h
      · rename_i r' hr
        cases h
        rcases List.mem_cons.mp hq with rfl | hq
        · exact am_look_mem hv
        · exact ih l r' hr q hq
theorem so_pick {r : Nat → Nat} {live : List Nat} {l l' : LV} (h : am_pick live l = some l') {ls : Array Slot} {nL : Nat} (hl : lv_has ls nL (so_L r l)) : lv_has ls nL (so_L r l') := by
  refine ⟨hl.1, hl.2.1, fun q hq => ?_⟩
  obtain ⟨p, hp, rfl⟩ := List.mem_map.mp hq
  exact hl.2.2 _ (List.mem_map.mpr ⟨p, am_pick_sub _ _ _ h p hp, rfl⟩)
def so_A (B : Nat) : Nat → Prop := fun q => B ≤ q
def so_AR (U : State) (ty : FieldType) (n : Nat) (V : Nat → Value) (cell : Cell) : Prop :=
  U.isArrayOf cell ty ∧ cell.vm ≠ .unknown ∧ n ≤ cell.slots.size ∧ cell.slots.size.toInt32 = Int32.ofNat n ∧ ∀ j, j < n → cell.slots[j]? = some (V j)
def so_cell (D : va_G) (r : Nat → Nat) (B : Nat) (U : State) (c : AC) (t : Nat) (H : Heap) : Prop :=
  (c.1 < 11 ∧ (∃ q, vwCl[c.1]? = some q ∧ q.2.2 = c.2.1) ∧ t_OB t (D.1 c.1) c.2.1 (D.2 c.1) H (fun k => so_V r (c.2.2 k)))
  ∨ (c.1 = 11 ∧ c.2.1 = 2 ∧ va_O "java/lang/String" t (so_A B) U H ∧ va_OF "java/lang/String" "value" "[B" (so_V r (c.2.2 0)) t (so_A B) U H ∧ va_OF "java/lang/String" "coder" "B" (so_V r (c.2.2 1)) t (so_A B) U H)
  ∨ ((100 ≤ c.1 ∧ c.1 < 105) ∧ ∃ cell : Cell, H[t]? = some cell ∧ so_AR U (am_aty c.1) c.2.1 (fun k => so_V r (c.2.2 k)) cell ∧ (c.1 = 104 → va_RA U cell.cls (.object "ForgetfulRider$Book")))
theorem so_cell.moved {D : va_G} {r : Nat → Nat} {B : Nat} {u U : State} {c : AC} {t : Nat} {H : Heap} (hvm : u.vm.Alike U.vm) (h : so_cell D r B u c t H) : so_cell D r B U c t H := by
  rcases h with h | ⟨h1, h2, h3, h4, h5⟩ | ⟨h1, cell, h2, ⟨h3, h3'⟩, h4⟩
  · exact Or.inl h
  · exact Or.inr (Or.inl ⟨h1, h2, h3.moved hvm, h4.moved hvm, h5.moved hvm⟩)
  · exact Or.inr (Or.inr ⟨h1, cell, h2, ⟨State.isArrayOf_alike hvm h3, h3'⟩, fun z => (h4 z).moved hvm⟩)
theorem so_OF_kept {o n d : String} {v : Value} {t : Nat} {A : Nat → Prop} {U : State} {H H1 : Heap} (hq : H1[t]? = H[t]?) (h : va_OF o n d v t A U H) : va_OF o n d v t A U H1 := by
  obtain ⟨cf, k, i, f, cell, h1, h2, h3, h4⟩ := h
  exact ⟨cf, k, i, f, cell, h1, h2, hq.trans h3, h4⟩
theorem so_cell.kept {D : va_G} {r : Nat → Nat} {B : Nat} {U : State} {c : AC} {t : Nat} {H H1 : Heap} (hq : H1[t]? = H[t]?) (h : so_cell D r B U c t H) : so_cell D r B U c t H1 := by
  rcases h with ⟨h1, h2, h3⟩ | ⟨h1, h2, ⟨cell, h3, h3'⟩, h4, h5⟩ | ⟨h1, cell, h2, h3⟩
  · exact Or.inl ⟨h1, h2, h3.kept hq⟩
  · exact Or.inr (Or.inl ⟨h1, h2, ⟨cell, hq.trans h3, h3'⟩, so_OF_kept hq h4, so_OF_kept hq h5⟩)
  · exact Or.inr (Or.inr ⟨h1, cell, hq.trans h2, h3⟩)
theorem so_cell.lt {D : va_G} {r : Nat → Nat} {B : Nat} {U : State} {c : AC} {t : Nat} {H : Heap} (h : so_cell D r B U c t H) : t < H.size := by
  rcases h with ⟨-, -, cell, h, -⟩ | ⟨-, -, ⟨cell, h, -⟩, -⟩ | ⟨-, cell, h, -⟩ <;> exact (Array.getElem?_eq_some_iff.mp h).1
def so_Z (r : Nat → Nat) (B : Nat) (U : State) (H : Heap) : Prop :=
  va_Z "ForgetfulRider" "LEAST_TERM" "[I" (.ref (r 26)) (so_A B) U H ∧ va_Z "ForgetfulRider" "MOST_TERM" "[I" (.ref (r 27)) (so_A B) U H ∧ va_Z "java/lang/String" "COMPACT_STRINGS" "Z" (.int 1) (so_A B) U H ∧ va_Zq "jdk/internal/util/Preconditions" "SIOOBE_FORMATTER" "Ljava/util/function/BiFunction;" (so_A B) U H
def so_P (D : va_G) (r : Nat → Nat) (B : Nat) (h : AH) (U : State) (H : Heap) : Prop :=
  so_Z r B U H ∧ (am_old ≤ h.1 ∧ H.size = B + (h.1 - am_old) ∧ (∀ a, a < am_old → r a < B) ∧ ∀ a, am_old ≤ a → r a = B + (a - am_old)) ∧ ∀ a, a < h.1 → so_cell D r B U (h.2.2 a) (r a) H
theorem so_Z.moved {r : Nat → Nat} {B : Nat} {u U : State} {H : Heap} (hvm : u.vm.Alike U.vm) (h : so_Z r B u H) : so_Z r B U H := ⟨h.1.moved hvm, h.2.1.moved hvm, h.2.2.1.moved hvm, h.2.2.2.moved hvm⟩
theorem so_Z.kept {r : Nat → Nat} {B : Nat} {U : State} {H H1 : Heap} (h : so_Z r B U H) (hq : ∀ a : Nat, a < H.size → ¬ so_A B a → H1[a]? = H[a]?) : so_Z r B U H1 := ⟨h.1.kept hq, h.2.1.kept hq, h.2.2.1.kept hq, h.2.2.2.kept hq⟩
theorem so_P.moved {D : va_G} {r : Nat → Nat} {B : Nat} {h : AH} {u U : State} {H : Heap} (hvm : u.vm.Alike U.vm) (hP : so_P D r B h u H) : so_P D r B h U H := ⟨hP.1.moved hvm, hP.2.1, fun a ha => (hP.2.2 a ha).moved hvm⟩
theorem so_ne {r : Nat → Nat} {B n a b : Nat} (h : (∀ a, a < n → r a < B) ∧ ∀ a, n ≤ a → r a = B + (a - n)) (ha : n ≤ a) (hab : b ≠ a) : r b ≠ r a := by
  have h1 := h.2 a ha
  by_cases hb : b < n
  · have := h.1 b hb
    omega
  · have := h.2 b (by omega)
    omega
theorem so_A_of {D : va_G} {r : Nat → Nat} {B : Nat} {h : AH} {U : State} {H : Heap} (hP : so_P D r B h U H) {a : Nat} (ha : am_old ≤ a) : so_A B (r a) := by
  have h1 := hP.2.1.2.2.2 a ha
  show B ≤ r a
  rw [h1]
  exact Nat.le_add_right _ _
theorem so_P.set {D : va_G} {r : Nat → Nat} {B : Nat} {h : AH} {U : State} {H H1 : Heap} (hP : so_P D r B h U H) {a : Nat} (ha : am_old ≤ a) {c : AC} (z : H1.size = H.size) (oq : ∀ q : Nat, q ≠ r a → H1[q]? = H[q]?) (hc : so_cell D r B U c (r a) H1) : so_P D r B (am_set h a c) U H1 := by
  have hA := so_A_of hP ha
  obtain ⟨hZ, ⟨h1, h2, h3⟩, h4⟩ := hP
  refine ⟨hZ.kept fun q _ hq => oq q (fun e => hq (e ▸ hA)), ⟨h1, by rw [z]; exact h2, h3⟩, fun b hb => ?_⟩
  show so_cell D r B U (va_up h.2.2 a c b) (r b) H1
  by_cases hab : b = a
  · subst hab
    simp only [va_up, if_true]
    exact hc
  · simp only [va_up, if_neg hab]
    exact (h4 b hb).kept (oq _ (so_ne h3 ha hab))
theorem so_P.new {D : va_G} {r : Nat → Nat} {B : Nat} {h : AH} {U : State} {H H1 : Heap} (hP : so_P D r B h U H) {c : AC} (z : H1.size = H.size + 1) (oq : ∀ q : Nat, q < H.size → H1[q]? = H[q]?) (hc : so_cell D r B U c H.size H1) : so_P D r B (am_new h c) U H1 ∧ r h.1 = H.size := by
  obtain ⟨hZ, ⟨h1, h2, h3⟩, h4⟩ := hP
  have hr : r h.1 = H.size := by rw [h3.2 h.1 h1, h2]
  refine ⟨⟨hZ.kept fun q hq _ => oq q hq, ⟨Nat.le_succ_of_le h1, ?_, h3⟩, fun b hb => ?_⟩, hr⟩
  · show H1.size = B + (h.1 + 1 - am_old)
    rw [z, h2]
    have : am_old ≤ h.1 := h1
    omega
  · show so_cell D r B U (va_up h.2.2 h.1 c b) (r b) H1
    by_cases hab : b = h.1
    · subst hab
      simp only [va_up, if_true]
      rw [hr]
      exact hc
    · simp only [va_up, if_neg hab]
      have hb' : b < h.1 := by
        have : b < h.1 + 1 := hb
        omega
      exact (h4 b hb').kept (oq _ (h4 b hb').lt)
def so_si : List (Nat × String) := [(88, "fork"), (118, "to"), (97, "turn"), (124, "by"), (102, "inn"), (107, "end"), (177, "step"), (182, "place"), (183, "day"), (135, "if"), (160, "not"), (158, "and"), (143, "or")]
def so_ns : List (String × Nat × MethodName) := [(RX9, 22, yX3_init), (RX9, 38, yX0_init), (RX0, 9, yX3_init), (RX9, 53, yX7_init)]
def so_K (D : va_G) (r : Nat → Nat) (U : State) : Prop :=
  (∀ (c : Nat) (q : vw_C), vwCl[c]? = some q → u_Kn U q.1 q.2.1 q.2.2 (D.1 c) (D.2 c)) ∧ (∀ (i : Nat) (q : Nat × String), so_si[i]? = some q → vk_R RX5 q.1 q.2 (r i) U) ∧ ∀ q ∈ so_ns, va_Nw (.methodLinkNest q.1 q.2.1 q.2.2 "ForgetfulRider") U
theorem so_K.warm {D : va_G} {r : Nat → Nat} {s U : State} (hW : s.WarmedH U.vm) (h : so_K D r s) : so_K D r U := ⟨fun c q hq => u_Kn_moved hW.alike (h.1 c q hq), fun i q hi => (h.2.1 i q hi).warm hW, fun q hq => va_Nw.warmM hW (h.2.2 q hq)⟩
theorem so_K.same {D : va_G} {r : Nat → Nat} {s U : State} (hv : U.vm = s.vm) (h : so_K D r s) : so_K D r U := ⟨fun c q hq => u_Kn_moved (by rw [hv]; exact Vm.Alike.refl _) (h.1 c q hq), fun i q hi => (h.2.1 i q hi).same hv, fun q hq => va_Nw.same rfl hv.symm (h.2.2 q hq)⟩
/-- the facts of the classes, by their numbers -/
theorem so_cls {P : Nat → vw_C → Prop} (h0 : P 0 (RX0, TX0, 3)) (h1 : P 1 (RX1, TX1, 11)) (h2 : P 2 (RX2, TX2, 7)) (h3 : P 3 (RX3, TX3, 11)) (h4 : P 4 (RX4, TX4, 7)) (h5 : P 5 (RX5, TX5, 10)) (h6 : P 6 (RX6, TX6, 10)) (h7 : P 7 (RX7, TX7, 4)) (h8 : P 8 (RX8, TX8, 5)) (h9 : P 9 (RX9, TX9, 16)) (h10 : P 10 (RX10, TX10, 49)) : ∀ (ci : Nat) (q : vw_C), vwCl[ci]? = some q → P ci q := by
  intro ci q hq
  match ci, hq with
  | 0, hq => cases hq; exact h0
  | 1, hq => cases hq; exact h1
  | 2, hq => cases hq; exact h2
  | 3, hq => cases hq; exact h3
  | 4, hq => cases hq; exact h4
  | 5, hq => cases hq; exact h5
  | 6, hq => cases hq; exact h6
  | 7, hq => cases hq; exact h7
  | 8, hq => cases hq; exact h8
  | 9, hq => cases hq; exact h9
  | 10, hq => cases hq; exact h10
  | k + 11, hq => simp [vwCl] at hq
theorem so_ty : ∀ (ci : Nat) (q : vw_C), vwCl[ci]? = some q → ∀ k, k < q.2.2 → parseFieldDescriptor (q.2.1 k).2.2.1 = some (am_fty ci k) := so_cls (P := fun ci q => ∀ k, k < q.2.2 → parseFieldDescriptor (q.2.1 k).2.2.1 = some (am_fty ci k)) tyX0_ok tyX1_ok tyX2_ok tyX3_ok tyX4_ok tyX5_ok tyX6_ok tyX7_ok tyX8_ok tyX9_ok tyX10_ok
theorem so_nm : ∀ (ci : Nat) (q : vw_C), vwCl[ci]? = some q → ∀ a, a < q.2.2 → ∀ b, b < q.2.2 → a ≠ b → (q.2.1 a).2.1 ≠ (q.2.1 b).2.1 := so_cls (P := fun _ q => ∀ a, a < q.2.2 → ∀ b, b < q.2.2 → a ≠ b → (q.2.1 a).2.1 ≠ (q.2.1 b).2.1) nmX0 nmX1 nmX2 nmX3 nmX4 nmX5 nmX6 nmX7 nmX8 nmX9 nmX10
theorem so_in_X0 : ((List.range 3).zip [293, 295, 297]).all (fun q => am_has q.2 (u_lay RX0 TX0 q.1)) = true := by decide +kernel
theorem so_in_X1 : ((List.range 11).zip [356, 358, 360, 362, 364, 366, 368, 370, 372, 374, 376]).all (fun q => am_has q.2 (u_lay RX1 TX1 q.1)) = true := by decide +kernel
theorem so_in_X2 : ((List.range 7).zip [460, 462, 464, 466, 468, 470, 472]).all (fun q => am_has q.2 (u_lay RX2 TX2 q.1)) = true := by decide +kernel
theorem so_in_X3 : ((List.range 11).zip [209, 211, 213, 215, 217, 219, 221, 223, 225, 227, 229]).all (fun q => am_has q.2 (u_lay RX3 TX3 q.1)) = true := by decide +kernel
theorem so_in_X4 : ((List.range 7).zip [429, 431, 433, 435, 437, 439, 441]).all (fun q => am_has q.2 (u_lay RX4 TX4 q.1)) = true := by decide +kernel
theorem so_in_X5 : ((List.range 10).zip [250, 252, 254, 256, 258, 260, 262, 264, 266, 268]).all (fun q => am_has q.2 (u_lay RX5 TX5 q.1)) = true := by decide +kernel
theorem so_in_X6 : ((List.range 10).zip [395, 397, 399, 401, 403, 405, 407, 409, 411, 413]).all (fun q => am_has q.2 (u_lay RX6 TX6 q.1)) = true := by decide +kernel
theorem so_in_X7 : ((List.range 4).zip [311, 313, 315, 317]).all (fun q => am_has q.2 (u_lay RX7 TX7 q.1)) = true := by decide +kernel
theorem so_in_X8 : ((List.range 5).zip [489, 491, 493, 495, 497]).all (fun q => am_has q.2 (u_lay RX8 TX8 q.1)) = true := by decide +kernel
theorem so_in_X9 : ((List.range 16).zip [516, 518, 520, 522, 524, 526, 528, 530, 532, 534, 536, 538, 540, 542, 544, 546]).all (fun q => am_has q.2 (u_lay RX9 TX9 q.1)) = true := by decide +kernel
theorem so_in_X10 : ((List.range 49).zip [1277, 1279, 1281, 1283, 1285, 1287, 1289, 1291, 1293, 1295, 1297, 1299, 1301, 1303, 1305, 1307, 1309, 1311, 1313, 1315, 1317, 1319, 1321, 1323, 1325, 1327, 1329, 1331, 1333, 1335, 1337, 1339, 1341, 1343, 1345, 1347, 1349, 1351, 1353, 1355, 1357, 1359, 1361, 1363, 1365, 1367, 1369, 1371, 1373]).all (fun q => am_has q.2 (u_lay RX10 TX10 q.1)) = true := by decide +kernel
theorem so_in_of {C : String} {T : u_T} {N : Nat} {ps : List Nat} (hl : ps.length = N) (h : ((List.range N).zip ps).all (fun q => am_has q.2 (u_lay C T q.1)) = true) : ∀ w ∈ u_ws C T N, w ∈ tblG := by
  intro w hw
  obtain ⟨k, hk, rfl⟩ := List.mem_map.mp hw
  have hk' : k < N := List.mem_range.mp hk
  have hm : (k, ps[k]'(by omega)) ∈ (List.range N).zip ps := by
    have : ((List.range N).zip ps)[k]? = some (k, ps[k]'(by omega)) := by
      rw [List.getElem?_zip_eq_some]
      exact ⟨by simp [hk'], List.getElem?_eq_getElem (by omega)⟩
    exact List.mem_of_getElem? this
  exact am_has_mem (List.all_eq_true.mp h _ hm)
theorem so_in : ∀ (ci : Nat) (q : vw_C), vwCl[ci]? = some q → ∀ w ∈ u_ws q.1 q.2.1 q.2.2, w ∈ tblG := so_cls (P := fun _ q => ∀ w ∈ u_ws q.1 q.2.1 q.2.2, w ∈ tblG) (so_in_of rfl so_in_X0) (so_in_of rfl so_in_X1) (so_in_of rfl so_in_X2) (so_in_of rfl so_in_X3) (so_in_of rfl so_in_X4) (so_in_of rfl so_in_X5) (so_in_of rfl so_in_X6) (so_in_of rfl so_in_X7) (so_in_of rfl so_in_X8) (so_in_of rfl so_in_X9) (so_in_of rfl so_in_X10)
theorem so_inst : ∀ (ci : Nat) (q : vw_C), vwCl[ci]? = some q → Cond.instantiable q.1 q.2.2 ∈ tblG ∧ Cond.initialized q.1 ∈ tblG := so_cls (P := fun _ q => Cond.instantiable q.1 q.2.2 ∈ tblG ∧ Cond.initialized q.1 ∈ tblG) ⟨am_has_mem (k := 272) (by decide +kernel), am_has_mem (k := 125) (by decide +kernel)⟩ ⟨am_has_mem (k := 323) (by decide +kernel), am_has_mem (k := 127) (by decide +kernel)⟩ ⟨am_has_mem (k := 445) (by decide +kernel), am_has_mem (k := 130) (by decide +kernel)⟩ ⟨am_has_mem (k := 150) (by decide +kernel), am_has_mem (k := 123) (by decide +kernel)⟩ ⟨am_has_mem (k := 417) (by decide +kernel), am_has_mem (k := 129) (by decide +kernel)⟩ ⟨am_has_mem (k := 235) (by decide +kernel), am_has_mem (k := 124) (by decide +kernel)⟩ ⟨am_has_mem (k := 380) (by decide +kernel), am_has_mem (k := 128) (by decide +kernel)⟩ ⟨am_has_mem (k := 302) (by decide +kernel), am_has_mem (k := 126) (by decide +kernel)⟩ ⟨am_has_mem (k := 476) (by decide +kernel), am_has_mem (k := 131) (by decide +kernel)⟩ ⟨am_has_mem (k := 142) (by decide +kernel), am_has_mem (k := 122) (by decide +kernel)⟩ ⟨am_has_mem (k := 1223) (by decide +kernel), am_has_mem (k := 132) (by decide +kernel)⟩
theorem so_ac_int : Cond.arrayClass .int ∈ tblG := am_has_mem (k := 233) (by decide +kernel)
theorem so_ac_long : Cond.arrayClass .long ∈ tblG := am_has_mem (k := 321) (by decide +kernel)
theorem so_ac_byte : Cond.arrayClass .byte ∈ tblG := am_has_mem (k := 232) (by decide +kernel)
theorem so_ac_boolean : Cond.arrayClass .boolean ∈ tblG := am_has_mem (k := 320) (by decide +kernel)
theorem so_over : Cond.arrayOver (.object "ForgetfulRider$Book") ∈ lw_tbl := List.mem_of_getElem? (i := 300) (by decide +kernel)
theorem so_obj : Cond.instanceMethod objectInit ∈ tblG ∧ Cond.code objectInit ⟨#[0xb1]⟩ 1 none ∈ tblG := ⟨am_has_mem (k := 147) (by decide +kernel), am_has_mem (k := 148) (by decide +kernel)⟩
theorem so_acp : Cond.native arraycopyName ∈ tblG ∧ Cond.static arraycopyName ∈ tblG ∧ Cond.initialized "java/lang/System" ∈ tblG := ⟨am_has_mem (k := 744) (by decide +kernel), am_has_mem (k := 743) (by decide +kernel), am_has_mem (k := 138) (by decide +kernel)⟩
theorem so_math : Cond.initialized "java/lang/Math" ∈ tblG ∧ (Cond.static Lib.Math.max.name ∈ tblG ∧ Cond.code Lib.Math.max.name Lib.Math.max.code 2 (some .int) ∈ tblG) ∧ (Cond.static Lib.Math.min.name ∈ tblG ∧ Cond.code Lib.Math.min.name Lib.Math.min.code 2 (some .int) ∈ tblG) ∧ (Cond.static Lib.MathLoose.max_long.x ∈ tblG ∧ Cond.code Lib.MathLoose.max_long.x Lib.MathLoose.max_long.code 4 (some .long) ∈ tblG) ∧ (Cond.static Lib.MathLoose.min_long.x ∈ tblG ∧ Cond.code Lib.MathLoose.min_long.x Lib.MathLoose.min_long.code 4 (some .long) ∈ tblG) := ⟨am_has_mem (k := 133) (by decide +kernel), ⟨am_has_mem (k := 573) (by decide +kernel), am_has_mem (k := 574) (by decide +kernel)⟩, ⟨am_has_mem (k := 570) (by decide +kernel), am_has_mem (k := 571) (by decide +kernel)⟩, ⟨am_has_mem (k := 814) (by decide +kernel), am_has_mem (k := 815) (by decide +kernel)⟩, ⟨am_has_mem (k := 811) (by decide +kernel), am_has_mem (k := 812) (by decide +kernel)⟩⟩

