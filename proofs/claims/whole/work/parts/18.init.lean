/-! THE START: both objects made, by running their constructors in the kernel -/
def px_nil : AH := (0, 0, fun _ => (0, 0, fun _ => .null))
def px_after (o : Option RS) : AH := match o with
  | some (_, h) => h
  | none => px_nil
def px_void (o : Option RS) : Bool := match o with
  | some (none, _) => true
  | _ => false
def px_m9 (n : Nat) (xs : Nat → Int32) : AH := am_new (am_h0 n xs) (9, 16, fun j => am_dflt (am_fty 9 j))
def px_h1 (n : Nat) (xs : Nat → Int32) : AH := px_after (am_semC 6 101 [.ref 29] (px_m9 n xs))
def px_m10 (n : Nat) (xs : Nat → Int32) : AH := am_new (px_h1 n xs) (10, 49, fun j => am_dflt (am_fty 10 j))
def px_h2 (n : Nat) (xs : Nat → Int32) : AH := px_after (am_semC 6 150 [.ref 113] (px_m10 n xs))
def px_vB (t : Nat) (v : Value) : Bool := match t, v with
  | 0, .int _ => true
  | 1, .long _ => true
  | t + 2, .ref x => Nat.beq x t
  | _, _ => false
theorem px_vB_ok {t : Nat} {v : Value} (h : px_vB t v = true) : px_v t v := by
  unfold px_vB at h
  split at h
  · exact ⟨_, rfl⟩
  · exact ⟨_, rfl⟩
  · have := Nat.eq_of_beq_eq_true h
    subst this
    rfl
  · cases h
def px_cellB (w a : Nat) (c : AC) : Bool := Nat.beq c.1 (px_t a).1 && (Nat.beq c.2.1 (px_t a).2 && (List.range (px_t a).2).all (fun i => px_vB (px_tg w a i) (c.2.2 i)))
def px_facts : List (Nat × Nat × Int) := [(29, 1, 0), (29, 2, -1), (29, 15, 0), (31, 0, 0), (42, 2, 0), (42, 3, 0), (42, 4, 0), (42, 5, 3), (42, 6, 0), (42, 7, 0), (42, 8, 0), (42, 9, 0), (44, 0, 0), (55, 0, 0), (55, 1, 10), (55, 2, 0), (55, 3, 0), (56, 0, 10), (56, 1, 0), (56, 2, 0), (56, 3, 10), (56, 4, 0), (56, 5, 0), (56, 6, 10), (56, 7, 0), (56, 8, 0), (56, 9, 10), (56, 10, 0), (56, 11, 0), (56, 12, 10), (56, 13, 0), (56, 14, 0), (56, 15, 10), (56, 16, 0), (56, 17, 0), (59, 0, 0), (73, 0, 0), (86, 0, 0), (86, 1, 0), (87, 1, 0), (87, 2, 0), (87, 3, 0), (89, 5, 0), (89, 8, 0), (96, 4, 0), (96, 5, 0), (96, 6, 0), (96, 7, 1), (96, 8, 0), (96, 9, 0), (100, 6, 0), (106, 3, 1), (106, 5, 0), (106, 6, 0), (110, 3, -1), (110, 4, 0), (112, 0, 0), (112, 1, 0), (112, 2, 0), (112, 3, 0), (113, 0, 0), (113, 1, 0), (113, 9, 0), (113, 10, -1), (113, 14, 0), (113, 15, 0), (113, 16, 0), (113, 17, 0), (113, 19, 0), (113, 20, 0), (113, 21, 0), (113, 22, 0), (113, 23, 0), (113, 26, -1), (113, 29, 0), (113, 32, 0), (113, 33, 0), (113, 34, 0), (113, 43, 0), (113, 44, 0), (113, 46, -1), (113, 47, 0), (113, 48, 0), (114, 0, 0), (114, 1, 0), (114, 2, 0), (114, 3, 0), (114, 4, 0), (114, 5, 0), (114, 6, 0), (115, 160, 10), (115, 161, 0), (115, 162, 0), (115, 163, 10), (115, 164, 0), (115, 165, 0), (115, 166, 10), (115, 167, 0), (115, 168, 0), (115, 169, 10), (115, 170, 0), (115, 171, 0), (115, 172, 10), (115, 173, 0), (115, 174, 0), (115, 175, 10), (115, 176, 0), (115, 177, 0), (115, 178, 0), (115, 179, 10), (115, 180, 0), (115, 181, 0), (115, 182, 0), (115, 183, 0), (117, 0, 0), (117, 1, 0), (118, 0, 102), (118, 1, 111), (118, 2, 114), (118, 3, 107), (118, 4, 32), (118, 5, 116), (118, 6, 111), (118, 7, 32), (118, 8, 116), (118, 9, 117), (118, 10, 114), (118, 11, 110), (118, 12, 32), (118, 13, 98), (118, 14, 121), (118, 15, 32), (118, 16, 105), (118, 17, 110), (118, 18, 110), (118, 19, 32), (118, 20, 101), (118, 21, 110), (118, 22, 100), (118, 23, 32), (118, 24, 105), (118, 25, 102), (118, 26, 32), (118, 27, 111), (118, 28, 114), (118, 29, 32), (118, 30, 97), (118, 31, 110), (118, 32, 100), (118, 33, 32), (118, 34, 110), (118, 35, 111), (118, 36, 116), (118, 37, 32), (118, 38, 115), (118, 39, 116), (118, 40, 101), (118, 41, 112), (118, 42, 32), (118, 43, 112), (118, 44, 108), (118, 45, 97), (118, 46, 99), (118, 47, 101), (118, 48, 32), (118, 49, 100), (118, 50, 97), (118, 51, 121), (118, 52, 32)]
def px_startB (n : Nat) (xs : Nat → Int32) : Bool :=
  (px_void (am_semC 6 101 [.ref 29] (px_m9 n xs)) && Nat.beq (px_h1 n xs).1 113) && ((px_void (am_semC 6 150 [.ref 113] (px_m10 n xs)) && (Nat.beq (px_h2 n xs).1 140 && Nat.beq (px_h2 n xs).2.1 17062)) && ((List.range 111).all (fun k => px_cellB 107 (k + 29) ((px_h2 n xs).2.2 (k + 29))) && px_facts.all (fun q => decide (px_n (px_h2 n xs) q.1 q.2.1 = q.2.2))))
noncomputable def px_e : Nat × (Nat → Int32) := Classical.epsilon (fun q : Nat × (Nat → Int32) => ¬ px_startB q.1 q.2 = true)
theorem px_start_e : px_startB px_e.1 px_e.2 = true := by decide +kernel
theorem px_start (n : Nat) (xs : Nat → Int32) : px_startB n xs = true := Classical.byContradiction fun hh => (Classical.epsilon_spec (p := fun q : Nat × (Nat → Int32) => ¬ px_startB q.1 q.2 = true) ⟨(n, xs), hh⟩) px_start_e
theorem px_void_spec {o : Option RS} (h : px_void o = true) : o = some (none, px_after o) := by
  unfold px_void at h
  split at h
  · rfl
  · cases h
theorem px_begin (n : Nat) (xs : Nat → Int32) : am_sem 6 101 [.ref 29] (px_m9 n xs) = some (none, px_h1 n xs) ∧ (px_h1 n xs).1 = 113 ∧ am_sem 6 150 [.ref 113] (px_m10 n xs) = some (none, px_h2 n xs) ∧ px_ok 107 (px_h2 n xs) ∧ (px_h2 n xs).2.2 28 = (100, n, fun j => .int (xs j)) ∧ ∀ q ∈ px_facts, px_n (px_h2 n xs) q.1 q.2.1 = q.2.2 := by
  have h0 := px_start n xs
  simp only [px_startB, Bool.and_eq_true] at h0
  obtain ⟨⟨h1, h2⟩, ⟨h3, h4, h5⟩, h6, h7⟩ := h0
  have e1 := px_void_spec h1
  have e2 := px_void_spec h3
  have h2 := Nat.eq_of_beq_eq_true h2
  have s1 := am_semC_ok _ _ _ _ _ e1
  have s2 := am_semC_ok _ _ _ _ _ e2
  have o1 := ol_sem_mono 6 _ _ _ _ _ s1
  have o2 := ol_sem_mono 6 _ _ _ _ _ s2
  have oo : ol_le (am_h0 n xs) (px_h2 n xs) := (ol_new.tr o1).tr (ol_new.tr o2)
  have od := (oo (Nat.le_refl 29)).2
  refine ⟨s1, h2, s2, ⟨⟨Nat.eq_of_beq_eq_true h4, Nat.eq_of_beq_eq_true h5⟩, Or.inl rfl, fun a ha => ?_, fun a ha1 ha2 => ?_⟩, ?_, fun q hq => ?_⟩
  · rw [od a (by omega)]
    simp only [am_h0]
    by_cases q1 : a < 13
    · simp [q1]
    · by_cases q2 : a < 26
      · simp [q1, q2]
      · by_cases q3 : a = 26
        · simp [q3]
        · by_cases q4 : a = 27
          · simp [q4]
          · omega
  · have := List.all_eq_true.mp h6 (a - 29) (List.mem_range.mpr (by omega))
    rw [show a - 29 + 29 = a by omega] at this
    simp only [px_cellB, Bool.and_eq_true] at this
    exact ⟨Nat.eq_of_beq_eq_true this.1, Nat.eq_of_beq_eq_true this.2.1, fun i hi => px_vB_ok (List.all_eq_true.mp this.2.2 i (List.mem_range.mpr hi))⟩
  · rw [od 28 (by omega)]
    rfl
  · exact of_decide_eq_true (List.all_eq_true.mp h7 q hq)
