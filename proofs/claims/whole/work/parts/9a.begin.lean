/-! THE START, in whole numbers -/
def px_eqB (v w : Value) : Bool := match v, w with
  | .int x, .int y => decide (x = y)
  | .ref a, .ref b => Nat.beq a b
  | _, _ => false
theorem px_eqB_ok {v w : Value} (h : px_eqB v w = true) : v = w := by
  unfold px_eqB at h
  split at h
  · have := of_decide_eq_true h
    rw [this]
  · have := Nat.eq_of_beq_eq_true h
    rw [this]
  · cases h
def st_oldB : Bool := (List.range 28).all (fun a => Nat.beq (zk a) ((am_h0 0 (fun _ => 0)).2.2 a).1 && (Nat.beq (zn a) ((am_h0 0 (fun _ => 0)).2.2 a).2.1 && (List.range (zn a)).all (fun i => px_eqB (((am_h0 0 (fun _ => 0)).2.2 a).2.2 i) (zval (zg a i) ((zold.getD a []).getD i 0)) && decide ((zg a i = 0 ∧ -2147483648 ≤ (zold.getD a []).getD i 0 ∧ (zold.getD a []).getD i 0 ≤ 2147483647) ∨ 3 ≤ zg a i))))
theorem st_old0 : st_oldB = true := by decide +kernel
theorem st_old {a : Nat} (ha : a < 28) : zk a = ((am_h0 0 (fun _ => 0)).2.2 a).1 ∧ zn a = ((am_h0 0 (fun _ => 0)).2.2 a).2.1 ∧ ∀ i, i < zn a → ((am_h0 0 (fun _ => 0)).2.2 a).2.2 i = zval (zg a i) ((zold.getD a []).getD i 0) ∧ zrt (zg a i) ((zold.getD a []).getD i 0) := by
  have h := List.all_eq_true.mp st_old0 a (List.mem_range.mpr ha)
  simp only [Bool.and_eq_true] at h
  obtain ⟨h1, h2, h3⟩ := h
  refine ⟨Nat.eq_of_beq_eq_true h1, Nat.eq_of_beq_eq_true h2, fun i hi => ?_⟩
  have q := List.all_eq_true.mp h3 i (List.mem_range.mpr hi)
  simp only [Bool.and_eq_true] at q
  refine ⟨px_eqB_ok q.1, ?_⟩
  rcases of_decide_eq_true q.2 with ⟨e, r⟩ | e
  · rw [e]; exact r
  · obtain ⟨t, ht⟩ : ∃ t, zg a i = t + 3 := ⟨zg a i - 3, by omega⟩
    rw [ht]; exact trivial
def st_objB : Bool := ((List.range 111).map (fun k => k + 29)).all (fun a => Nat.beq (zk a) (px_t a).1 && (Nat.beq (zn a) (px_t a).2 && (!(Nat.beq (zk a) 999) && (Nat.ble 100 (zk a) || (List.range (zn a)).all (fun i => decide ((a = 106 ∧ (i = 1 ∨ i = 2) ∧ zg a i = 2 ∧ px_tg 107 a i = i + 108) ∨ (¬ (a = 106 ∧ (i = 1 ∨ i = 2)) ∧ ((zg a i = 0 ∧ px_tg 107 a i = 0) ∨ (zg a i = 1 ∧ px_tg 107 a i = 1) ∨ (zg a i = px_tg 107 a i + 1 ∧ 2 ≤ px_tg 107 a i)))))))))
theorem st_obj0 : st_objB = true := by decide +kernel
theorem st_obj (a : Nat) (a1 : a < 140) (a0 : 29 ≤ a) : zk a = (px_t a).1 ∧ zn a = (px_t a).2 ∧ zk a ≠ 999 ∧ (zk a < 100 → ∀ i, i < zn a → (a = 106 ∧ (i = 1 ∨ i = 2) ∧ zg a i = 2 ∧ px_tg 107 a i = i + 108) ∨ (¬ (a = 106 ∧ (i = 1 ∨ i = 2)) ∧ ((zg a i = 0 ∧ px_tg 107 a i = 0) ∨ (zg a i = 1 ∧ px_tg 107 a i = 1) ∨ (zg a i = px_tg 107 a i + 1 ∧ 2 ≤ px_tg 107 a i)))) := by
  have h := List.all_eq_true.mp st_obj0 a (List.mem_map.mpr ⟨a - 29, List.mem_range.mpr (by omega), by omega⟩)
  simp only [Bool.and_eq_true] at h
  obtain ⟨h1, h2, h3, h4⟩ := h
  refine ⟨Nat.eq_of_beq_eq_true h1, Nat.eq_of_beq_eq_true h2, fun z => ?_, fun z i hi => ?_⟩
  · rw [z] at h3
    cases h3
  · rcases (Bool.or_eq_true _ _).mp h4 with q | q
    · have := Nat.le_of_ble_eq_true q
      omega
    · exact of_decide_eq_true (List.all_eq_true.mp q i (List.mem_range.mpr hi))
theorem st_arr {a i : Nat} (hk : 100 ≤ zk a) (e : zk a = (px_t a).1) : (zg a i = 0 ∧ px_tg 107 a i = 0) ∨ (zg a i = 1 ∧ px_tg 107 a i = 1) ∨ (zg a i = px_tg 107 a i + 1 ∧ 2 ≤ px_tg 107 a i) := by
  unfold zg px_tg
  rw [← e, Nat.ble_eq_true_of_le hk]
  cases Nat.beq (zk a) 101 <;> cases Nat.beq (zk a) 104 <;> cases Nat.beq i 0 <;> first | exact Or.inl ⟨rfl, rfl⟩ | exact Or.inr (Or.inl ⟨rfl, rfl⟩) | exact Or.inr (Or.inr ⟨rfl, Nat.le_of_ble_eq_true rfl⟩)
theorem st_out {a : Nat} (h : 140 ≤ a) : zk a = 999 := by
  unfold zk zt
  rw [List.getD_eq_getElem?_getD, List.getElem?_eq_none (show zt_tab.length ≤ a from Nat.le_trans (by decide +kernel) h)]
  rfl
def st_M (h : AH) : ZM := fun a i => if a < 28 then (zold.getD a []).getD i.toNat 0 else if a = 106 ∧ (i = 1 ∨ i = 2) then i + 106 else px_n h a i.toNat
theorem st_M_n {h : AH} {a : Nat} {i : Int} (ha : 28 ≤ a) (hi : ¬ (a = 106 ∧ (i = 1 ∨ i = 2))) : st_M h a i = px_n h a i.toNat := by
  unfold st_M
  rw [if_neg (by omega), if_neg hi]
theorem st_val {h : AH} (H : px_ok 107 h) {a i : Nat} (a0 : 29 ≤ a) (a1 : a < 140) (hi : i < zn a) : (h.2.2 a).2.2 i = zval (zg a i) (st_M h a i) ∧ zrt (zg a i) (st_M h a i) := by
  obtain ⟨o1, o2, o3, o4⟩ := st_obj a a1 a0
  obtain ⟨g1, g2, g3⟩ := H.2.2.2 a a0 a1
  have gv := g3 i (by rw [← o2]; exact hi)
  have gen : ¬ (a = 106 ∧ (i = 1 ∨ i = 2)) → ((zg a i = 0 ∧ px_tg 107 a i = 0) ∨ (zg a i = 1 ∧ px_tg 107 a i = 1) ∨ (zg a i = px_tg 107 a i + 1 ∧ 2 ≤ px_tg 107 a i)) → (h.2.2 a).2.2 i = zval (zg a i) (st_M h a i) ∧ zrt (zg a i) (st_M h a i) := by
    intro no w
    have em : st_M h a (i : Int) = px_n h a i := st_M_n (by omega) (by omega)
    rw [em]
    rcases w with ⟨w1, w2⟩ | ⟨w1, w2⟩ | ⟨w1, w2⟩
    · rw [w2] at gv
      obtain ⟨x, hx⟩ := gv
      rw [w1]
      refine ⟨?_, ?_⟩
      · show _ = Value.int (zi (px_n h a i))
        rw [px_n_i h hx, hx]
      · show r32 (px_n h a i)
        unfold px_n
        rw [hx]
        exact r32_toInt x
    · rw [w2] at gv
      obtain ⟨x, hx⟩ := gv
      rw [w1]
      refine ⟨?_, ?_⟩
      · show _ = Value.long (zl (px_n h a i))
        rw [px_n_l h hx, hx]
      · show r64 (px_n h a i)
        unfold px_n
        rw [hx]
        exact r64_toInt x
    · obtain ⟨s, hs⟩ : ∃ s, px_tg 107 a i = s + 2 := ⟨px_tg 107 a i - 2, by omega⟩
      rw [hs] at gv w1
      rw [w1]
      exact ⟨gv, trivial⟩
  by_cases hk : zk a < 100
  · rcases o4 hk i hi with ⟨w1, w2, w3, w4⟩ | ⟨w1, w2⟩
    · rw [w3]
      subst w1
      rw [w4] at gv
      rcases w2 with rfl | rfl
      · exact ⟨gv, Or.inl rfl⟩
      · exact ⟨gv, Or.inr rfl⟩
    · exact gen w1 w2
  · refine gen (fun q => ?_) (st_arr (by omega) o1)
    rw [q.1] at hk
    exact hk (by decide)
theorem st_hp {h : AH} (H : px_ok 107 h) : h = hp h.2.2 (st_M h) ∧ RG (st_M h) := by
  have cell : ∀ a, zk a ≠ 999 → a < 140 ∧ a ≠ 28 := fun a ha => by
    refine ⟨?_, fun q => ha (by rw [q]; rfl)⟩
    by_cases z : a < 140
    · exact z
    · exact absurd (st_out (by omega)) ha
  have old : ∀ a i : Nat, a < 28 → st_M h a i = (zold.getD a []).getD i 0 := fun a i ha => if_pos ha
  refine ⟨?_, fun a i ha hi => ?_⟩
  · have e3 : h.2.2 = fun a => if zk a = 999 then h.2.2 a else (zk a, zn a, zf h.2.2 (st_M h) a) := by
      funext a
      by_cases ha : zk a = 999
      · rw [if_pos ha]
      · rw [if_neg ha]
        obtain ⟨c1, c2⟩ := cell a ha
        by_cases a2 : a < 28
        · have e := H.2.2.1 a a2
          obtain ⟨o1, o2, o3⟩ := st_old a2
          have z : zf h.2.2 (st_M h) a = (h.2.2 a).2.2 := by
            funext i
            unfold zf
            by_cases hi : i < zn a
            · rw [if_pos hi, old a i a2, e, (o3 i hi).1]
            · rw [if_neg hi]
          rw [z, o1, o2, ← e]
        · obtain ⟨o1, o2, -, -⟩ := st_obj a c1 (by omega)
          obtain ⟨g1, g2, g3⟩ := H.2.2.2 a (by omega) c1
          have z : zf h.2.2 (st_M h) a = (h.2.2 a).2.2 := by
            funext i
            unfold zf
            by_cases hi : i < zn a
            · rw [if_pos hi, (st_val H (by omega) c1 hi).1]
            · rw [if_neg hi]
          rw [z, o1, o2, ← g1, ← g2]
    exact Prod.ext H.1.1 (Prod.ext H.1.2 e3)
  · obtain ⟨c1, c2⟩ := cell a ha
    by_cases a2 : a < 28
    · rw [old a i a2]
      exact ⟨((st_old a2).2.2 i hi).2, fun _ => rfl⟩
    · exact ⟨(st_val H (by omega) c1 hi).2, fun q => absurd q a2⟩
theorem st_f29 : ∀ q ∈ [(29, 1, (0 : Int)), (29, 2, -1), (29, 15, 0), (44, 0, 0), (86, 0, 0), (86, 1, 0), (110, 3, -1), (110, 4, 0), (112, 0, 0), (112, 1, 0), (112, 2, 0), (112, 3, 0), (113, 0, 0), (113, 1, 0), (113, 9, 0), (113, 10, -1), (113, 26, -1), (113, 29, 0), (113, 46, -1), (113, 47, 0), (114, 1, 0), (114, 2, 0), (114, 3, 0), (114, 6, 0), (115, 182, 0), (115, 183, 0), (117, 0, 0), (117, 1, 0)], q ∈ px_facts := by decide +kernel
def st_rl : List Int := [10, 0, 0, 10, 0, 0, 10, 0, 0, 10, 0, 0, 10, 0, 0, 10, 0, 0]
def st_tm : List Int := [0, 10, 0, 0]
theorem st_fr : ∀ k < 18, (56, k, st_rl.getD k 0) ∈ px_facts ∧ (115, 160 + k, st_rl.getD k 0) ∈ px_facts := by decide +kernel
theorem st_ft : ∀ k < 4, (55, k, st_tm.getD k 0) ∈ px_facts ∧ (115, 178 + k, st_tm.getD k 0) ∈ px_facts := by decide +kernel
theorem st_fw : ∀ k < 53, (118, k, zwords.getD k 0) ∈ px_facts := by decide +kernel
theorem st_J {h : AH} (F : ∀ q ∈ px_facts, px_n h q.1 q.2.1 = q.2.2) : J 0 (st_M h) := by
  have f : ∀ (a i : Nat) (x : Int), 28 ≤ a → a ≠ 106 → (a, i, x) ∈ px_facts → st_M h a (i : Int) = x := fun a i x ha h6 hq => by
    rw [st_M_n ha (fun q => h6 q.1)]
    exact F _ hq
  have g : ∀ (a i : Nat) (x : Int), 28 ≤ a → a ≠ 106 → (a, i, x) ∈ [(29, 1, (0 : Int)), (29, 2, -1), (29, 15, 0), (44, 0, 0), (86, 0, 0), (86, 1, 0), (110, 3, -1), (110, 4, 0), (112, 0, 0), (112, 1, 0), (112, 2, 0), (112, 3, 0), (113, 0, 0), (113, 1, 0), (113, 9, 0), (113, 10, -1), (113, 26, -1), (113, 29, 0), (113, 46, -1), (113, 47, 0), (114, 1, 0), (114, 2, 0), (114, 3, 0), (114, 6, 0), (115, 182, 0), (115, 183, 0), (117, 0, 0), (117, 1, 0)] → st_M h a (i : Int) = x := fun a i x ha h6 hq => f a i x ha h6 (st_f29 _ hq)
  have r56 : ∀ k : Nat, k < 18 → st_M h 56 (k : Int) = st_rl.getD k 0 ∧ st_M h 115 ((160 + k : Nat) : Int) = st_rl.getD k 0 := fun k hk => ⟨f 56 k _ (by decide) (by decide) (st_fr k hk).1, f 115 (160 + k) _ (by decide) (by decide) (st_fr k hk).2⟩
  have r55 : ∀ k : Nat, k < 4 → st_M h 55 (k : Int) = st_tm.getD k 0 ∧ st_M h 115 ((178 + k : Nat) : Int) = st_tm.getD k 0 := fun k hk => ⟨f 55 k _ (by decide) (by decide) (st_ft k hk).1, f 115 (178 + k) _ (by decide) (by decide) (st_ft k hk).2⟩
  have a1 : st_M h 29 1 = 0 := g 29 1 0 (by decide) (by decide) (by decide)
  have a2 : st_M h 29 2 = -1 := g 29 2 (-1) (by decide) (by decide) (by decide)
  have a3 : st_M h 29 15 = 0 := g 29 15 0 (by decide) (by decide) (by decide)
  have a4 : st_M h 44 0 = 0 := g 44 0 0 (by decide) (by decide) (by decide)
  have a5 : st_M h 86 0 = 0 := g 86 0 0 (by decide) (by decide) (by decide)
  have a6 : st_M h 86 1 = 0 := g 86 1 0 (by decide) (by decide) (by decide)
  have a7 : st_M h 110 3 = -1 := g 110 3 (-1) (by decide) (by decide) (by decide)
  have a8 : st_M h 110 4 = 0 := g 110 4 0 (by decide) (by decide) (by decide)
  have b0 : st_M h 112 0 = 0 := g 112 0 0 (by decide) (by decide) (by decide)
  have b1 : st_M h 112 1 = 0 := g 112 1 0 (by decide) (by decide) (by decide)
  have b2 : st_M h 112 2 = 0 := g 112 2 0 (by decide) (by decide) (by decide)
  have b3 : st_M h 112 3 = 0 := g 112 3 0 (by decide) (by decide) (by decide)
  have d0 : st_M h 113 0 = 0 := g 113 0 0 (by decide) (by decide) (by decide)
  have d1 : st_M h 113 1 = 0 := g 113 1 0 (by decide) (by decide) (by decide)
  have d9 : st_M h 113 9 = 0 := g 113 9 0 (by decide) (by decide) (by decide)
  have d10 : st_M h 113 10 = -1 := g 113 10 (-1) (by decide) (by decide) (by decide)
  have d26 : st_M h 113 26 = -1 := g 113 26 (-1) (by decide) (by decide) (by decide)
  have d29 : st_M h 113 29 = 0 := g 113 29 0 (by decide) (by decide) (by decide)
  have d46 : st_M h 113 46 = -1 := g 113 46 (-1) (by decide) (by decide) (by decide)
  have d47 : st_M h 113 47 = 0 := g 113 47 0 (by decide) (by decide) (by decide)
  have e1 : st_M h 114 1 = 0 := g 114 1 0 (by decide) (by decide) (by decide)
  have e2 : st_M h 114 2 = 0 := g 114 2 0 (by decide) (by decide) (by decide)
  have e3 : st_M h 114 3 = 0 := g 114 3 0 (by decide) (by decide) (by decide)
  have e6 : st_M h 114 6 = 0 := g 114 6 0 (by decide) (by decide) (by decide)
  have k182 : st_M h 115 182 = 0 := g 115 182 0 (by decide) (by decide) (by decide)
  have k183 : st_M h 115 183 = 0 := g 115 183 0 (by decide) (by decide) (by decide)
  have i0 : st_M h 117 0 = 0 := g 117 0 0 (by decide) (by decide) (by decide)
  have i1 : st_M h 117 1 = 0 := g 117 1 0 (by decide) (by decide) (by decide)
  have t0 : st_M h 115 178 = 0 := (r55 0 (by decide)).2
  have t1 : st_M h 115 179 = 10 := (r55 1 (by decide)).2
  have t2 : st_M h 115 180 = 0 := (r55 2 (by decide)).2
  have t3 : st_M h 115 181 = 0 := (r55 3 (by decide)).2
  refine ⟨?_, ?_, ?_, ?_, ?_, ?_, ?_, ?_⟩
  · unfold JT
    rw [a1, a2, d9, d10]
    exact ⟨⟨rfl, by decide, by decide⟩, rfl, fun i j0 j1 => by omega⟩
  · unfold JR
    rw [a3, d0, b0, b1, b2, b3, e1, e2, e3, e6]
    exact ⟨rfl, ⟨rfl, by decide, by decide⟩, ⟨rfl, by decide, by decide⟩, ⟨rfl, by decide, by decide⟩, ⟨rfl, by decide, by decide⟩⟩
  · refine ⟨⟨by rw [k182]; omega, by rw [t0]; omega, by rw [t1]; omega, by rw [t2]; omega, by rw [t3]; omega, fun l l0 l1 => ?_, by rw [k183]; omega, fun p p0 p1 => by rw [k182] at p1; omega⟩, ?_, fun p p0 p1 => by rw [k182] at p1; omega, fun i j0 j1 => ?_, fun i j0 j1 => ?_⟩
    · have q1 := (r56 (3 * l).toNat (by omega)).2
      have q2 := (r56 (3 * l + 1).toNat (by omega)).2
      have q3 := (r56 (3 * l + 2).toNat (by omega)).2
      rw [show ((160 + (3 * l).toNat : Nat) : Int) = 160 + 3 * l by omega] at q1
      rw [show ((160 + (3 * l + 1).toNat : Nat) : Int) = 161 + 3 * l by omega] at q2
      rw [show ((160 + (3 * l + 2).toNat : Nat) : Int) = 162 + 3 * l by omega] at q3
      rw [q1, q2, q3]
      rcases (by omega : l = 0 ∨ l = 1 ∨ l = 2 ∨ l = 3 ∨ l = 4 ∨ l = 5) with rfl | rfl | rfl | rfl | rfl | rfl <;> decide
    · show st_M h 44 0 = st_M h 115 182
      rw [a4, k182]
    · have q := r55 i.toNat (by omega)
      rw [show ((178 + i.toNat : Nat) : Int) = 178 + i by omega, show ((i.toNat : Nat) : Int) = i by omega] at q
      show st_M h 55 i = st_M h 115 (178 + i)
      rw [q.1, q.2]
    · have q := r56 i.toNat (by omega)
      rw [show ((160 + i.toNat : Nat) : Int) = 160 + i by omega, show ((i.toNat : Nat) : Int) = i by omega] at q
      show st_M h 56 i = st_M h 115 (160 + i)
      rw [q.1, q.2]
  · unfold JI
    rw [a5, a6, i0, i1]
    exact ⟨⟨rfl, Or.inl rfl⟩, ⟨rfl, Or.inl rfl⟩, fun q => by omega, fun q => by omega⟩
  · unfold JP
    rw [a7, a8, d46, d47]
    exact ⟨⟨rfl, by decide, by decide⟩, rfl, fun i j0 j1 => by omega⟩
  · unfold JW
    rw [d1, d26]
    exact ⟨⟨by decide, by decide⟩, ⟨by decide, by decide⟩, fun q => by omega⟩
  · exact ⟨d29, fun i hi => f 118 i _ (by decide) (by decide) (st_fw i hi)⟩
  · left
    constructor
    · rfl
    · rfl
theorem st_Inv {h : AH} (H : px_ok 107 h) (F : ∀ q ∈ px_facts, px_n h q.1 q.2.1 = q.2.2) : InvH 0 h := ⟨h.2.2, st_M h, (st_hp H).1, (st_hp H).2, st_J F⟩
