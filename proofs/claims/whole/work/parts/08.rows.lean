/-! one instruction of the small machine is one instruction of the machine: cells -/
def so_Cx (p : Program) (s : State) (m : MethodId) (args : Array Value) (c : Code) (meth : Method) (own : String) (ini : Bool) (bytes : ByteArray) (nL : Nat) (D : va_G) (r : Nat → Nat) : Prop :=
  p.tables.exec = Jvm.exec ∧ c.code = bytes ∧ c.maxLocals = nL ∧ s.vm.findClass own = some m.cls ∧ (∀ w ∈ tblG, w.before args s = true) ∧ so_K D r s ∧ (ini = true → meth.name = "<init>") ∧ va_AO "ForgetfulRider$Book" s
def so_At (D : va_G) (r : Nat → Nat) (B nL : Nat) (s : State) (h0 : AH) (l : LV) (h : AH) (H : Heap) (locs : List Loc) (ls : Array Slot) (cells slots : Nat) : Prop :=
  so_P D r B h s H ∧ va_S (so_A B) s.heap H locs ∧ lv_has ls nL (so_L r l) ∧ cells + h0.1 = h.1 ∧ slots + h0.2.1 = h.2.1
theorem am_cell_of {h : AH} {a : Nat} {c : AC} (hc : am_cell h a = some c) : a < h.1 ∧ h.2.2 a = c := by
  unfold am_cell at hc
  split at hc
  · rename_i hlt
    exact ⟨hlt, Option.some.inj hc⟩
  · cases hc
theorem so_arr {D : va_G} {r : Nat → Nat} {B : Nat} {h : AH} {U : State} {H : Heap} (hP : so_P D r B h U H) {a : Nat} {c n : Nat} {f : Nat → Value} (hc : am_cell h a = some (c, n, f)) (hk : 100 ≤ c) :
    c < 105 ∧ ∃ cell : Cell, H[r a]? = some cell ∧ so_AR U (am_aty c) n (fun k => so_V r (f k)) cell ∧ (c = 104 → va_RA U cell.cls (.object "ForgetfulRider$Book")) := by
  obtain ⟨h1, h2⟩ := am_cell_of hc
  have h3 := hP.2.2 a h1
  rw [h2] at h3
  rcases h3 with ⟨z, -⟩ | ⟨z, -⟩ | ⟨z, cell, h4⟩
  · exact absurd z (by show ¬ c < 11; omega)
  · exact absurd z (by show ¬ c = 11; omega)
  · exact ⟨z.2, cell, h4⟩
theorem so_obj_at {D : va_G} {r : Nat → Nat} {B : Nat} {h : AH} {U : State} {H : Heap} (hP : so_P D r B h U H) {a : Nat} {c n : Nat} {f : Nat → Value} (hc : am_cell h a = some (c, n, f)) (hk : c < 11) :
    ∃ q : vw_C, vwCl[c]? = some q ∧ q.2.2 = n ∧ t_OB (r a) (D.1 c) n (D.2 c) H (fun k => so_V r (f k)) := by
  obtain ⟨h1, h2⟩ := am_cell_of hc
  have h3 := hP.2.2 a h1
  rw [h2] at h3
  rcases h3 with ⟨-, ⟨q, h4, h5⟩, h6⟩ | ⟨z, -⟩ | ⟨z, -⟩
  · exact ⟨q, h4, h5, h6⟩
  · exact absurd z (by show ¬ c = 11; omega)
  · exact absurd z.1 (by show ¬ 100 ≤ c; omega)
theorem so_in_bounds {n : Nat} {i : Int32} {cell : Cell} (h : ¬ (i < 0 ∨ n ≤ i.toNatClampNeg)) (hn : n ≤ cell.slots.size) : ¬ (i < 0 ∨ cell.slots.size ≤ i.toNatClampNeg) := by
  intro q
  rcases q with q | q
  · exact h (Or.inl q)
  · exact h (Or.inr (by omega))
theorem so_AR.setSlot {U : State} {ty : FieldType} {n : Nat} {V : Nat → Value} {cell : Cell} (hA : so_AR U ty n V cell) (j : Nat) (v : Value) {V' : Nat → Value} (hV : ∀ k, k < n → V' k = if k = j then v else V k) : so_AR U ty n V' (cell.setSlot j v) := by
  obtain ⟨h1, h2, h3, h4, h5⟩ := hA
  refine ⟨h1, h2, ?_, ?_, fun k hk => ?_⟩
  · show n ≤ (cell.slots.setIfInBounds j v).size
    rw [Array.size_setIfInBounds]; exact h3
  · show (cell.slots.setIfInBounds j v).size.toInt32 = _
    rw [Array.size_setIfInBounds]; exact h4
  · show (cell.slots.setIfInBounds j v)[k]? = _
    rw [hV k hk]
    by_cases hkj : k = j
    · subst hkj
      rw [if_pos rfl, Array.getElem?_setIfInBounds_self_of_lt (by omega)]
    · rw [if_neg hkj, Array.getElem?_setIfInBounds_ne (fun e => hkj e.symm)]
      exact h5 k hk
section SoRows
variable {p : Program} {L : Launch} {e : Env} {R : Room} {s : State} {m : MethodId} {args : Array Value} {below : List Frame} {meth : Method} {c : Code} {H : Heap} {locs : List Loc} {cells slots : Nat} {Q : State → Prop}
variable {own : String} {ini : Bool} {bytes : ByteArray} {nL : Nat} {D : va_G} {r : Nat → Nat} {B pc : Nat} {ls : Array Slot} {rest : List Value} {h : AH}
theorem so_gets (X : so_Cx p s m args c meth own ini bytes nL D r) {C n d : String} {v : Value} {A : Nat → Prop} (hZ : va_Z C n d v A s H) {index : Nat} (hlink : Cond.fieldLink own index C n d ∈ tblG) (hdg : decode bytes pc = .ok (.getstatic index, 3))
    (kk : W p L e R s m args below meth c H locs cells slots Q (F0 m (pc + 3) ls (v :: rest))) : W p L e R s m args below meth c H locs cells slots Q (F0 m pc ls rest) := by
  obtain ⟨hx, hb, -, hown, hts, -⟩ := X
  obtain ⟨cf, kf, fi, f, a, cell, h1, h2, h3, h4, h5, h6, h7, h8⟩ := hZ
  exact W.gets hx hb hown (hts _ hlink) h1 h2 h3 h4 h5 (fun e => by rw [e] at h6; cases h6) h7 rfl hdg kk
theorem so_getf (X : so_Cx p s m args c meth own ini bytes nL D r) (hP : so_P D r B h s H) {sg : List SG} {r1 r2 r3 k a : Nat} {v w : Value} (hd : decode bytes pc = .ok (.getfield k, 3)) (hI : am_okI sg own ini nL pc (.getfield k) r1 r2 r3 v = true) (hf : am_f h a r1 r2 = some w)
    (kk : W p L e R s m args below meth c H locs cells slots Q (F0 m (pc + 3) ls (so_V r w :: rest))) : W p L e R s m args below meth c H locs cells slots Q (F0 m pc ls (.ref (r a) :: rest)) := by
  obtain ⟨hx, hb, -, hown, hts, hK, -, -⟩ := X
  unfold am_f at hf
  split at hf
  · rename_i c' n f hc
    split at hf
    · rename_i hcn
      obtain ⟨rfl, hlt⟩ := hcn
      cases hf
      simp only [am_okI] at hI
      split at hI
      · rename_i h11
        obtain ⟨a1, a2⟩ := am_cell_of hc
        have a3 := hP.2.2 a a1
        rw [a2] at a3
        rcases a3 with ⟨z, -⟩ | ⟨z, z2, z3, z4, z5⟩ | ⟨z, -⟩
        · exact absurd z (by show ¬ c' < 11; omega)
        · split at hI
          · obtain ⟨cf, kf, fi, fd, cell, g1, g2, g3, g4, g5, g6⟩ := z4
            exact W.getf hx hb hown (hts _ (am_has_mem hI)) g1 g2 g3 g4 g5 rfl rfl hd kk
          · obtain ⟨cf, kf, fi, fd, cell, g1, g2, g3, g4, g5, g6⟩ := z5
            exact W.getf hx hb hown (hts _ (am_has_mem hI)) g1 g2 g3 g4 g5 rfl rfl hd kk
          · cases hI
        · exact absurd z.1 (by show ¬ 100 ≤ c'; omega)
      · split at hI
        · rename_i q hq
          simp only [Bool.and_eq_true, decide_eq_true_eq] at hI
          have hc11 : c' < 11 := by
            have := (List.getElem?_eq_some_iff.mp hq).1
            simpa [vwCl] using this
          obtain ⟨q', e1, e2, cell, g1, g2, g3, g4⟩ := so_obj_at hP hc hc11
          cases hq.symm.trans e1
          obtain ⟨hS, hfc, kC, hkC, hkind⟩ := hK.1 c' q hq
          obtain ⟨cf, kf, fi, fd, hi, hsl⟩ := hS r2 hI.1
          refine W.getf hx hb hown (hts _ (am_has_mem hI.2)) hi (u_facts hfc hkC (u_lays hts (so_in c' q hq) hI.1) hi).1 g1 (by rw [g3]; exact fun h => by cases h) ?_ rfl rfl hd kk
          rw [hsl]
          exact g4 r2 hlt
        · cases hI
    · cases hf
  · cases hf
theorem so_putf (X : so_Cx p s m args c meth own ini bytes nL D r) (hP : so_P D r B h s H) (hS0 : va_S (so_A B) s.heap H locs) {sg : List SG} {r1 r2 r3 k a : Nat} {v w : Value} {h' : AH} (hd : decode bytes pc = .ok (.putfield k, 3)) (hI : am_okI sg own ini nL pc (.putfield k) r1 r2 r3 v = true) (hf : am_pf h a r1 r2 w = some h')
    (hn : narrow (am_fty r1 r2) (so_V r w) = so_V r w) (hfit : fits (am_fty r1 r2) (so_V r w) = true)
    (kk : ∀ (H1 : Heap) (locs1 : List Loc), so_P D r B h' s H1 → va_S (so_A B) s.heap H1 locs1 → W p L e R s m args below meth c H1 locs1 cells slots Q (F0 m (pc + 3) ls rest)) : W p L e R s m args below meth c H locs cells slots Q (F0 m pc ls (so_V r w :: .ref (r a) :: rest)) := by
  obtain ⟨hx, hb, -, hown, hts, hK, hini, -⟩ := X
  unfold am_pf at hf
  split at hf
  · rename_i c' n f hc
    split at hf
    · rename_i hcn
      obtain ⟨rfl, hlt, hold⟩ := hcn
      cases hf
      simp only [am_okI] at hI
      split at hI
      · rename_i q hq
        simp only [Bool.and_eq_true, decide_eq_true_eq, Bool.or_eq_true, Bool.not_eq_true'] at hI
        obtain ⟨⟨hk, hlink⟩, hfin⟩ := hI
        have hc11 : c' < 11 := by
          have := (List.getElem?_eq_some_iff.mp hq).1
          simpa [vwCl] using this
        obtain ⟨q', e1, e2, cell, g1, g2, g3, g4⟩ := so_obj_at hP hc hc11
        cases hq.symm.trans e1
        obtain ⟨hS, hfc, kC, hkC, hkind⟩ := hK.1 c' q hq
        have hin := so_in c' q hq
        have hty := so_ty c' q hq
        have hap : ∀ x y, x < q.2.2 → y < q.2.2 → x ≠ y → (D.2 c') x ≠ (D.2 c') y := by
          intro x y hx' hy' hne
          obtain ⟨_, _, _, fa, hia, ea⟩ := hS x hx'
          obtain ⟨_, _, _, fb, hib, eb⟩ := hS y hy'
          rw [← ea, ← eb]
          refine u_apart (u_lays hts hin hx') (u_lays hts hin hy') hia hib ?_
          rw [(State.fieldFound?_type hia (hty x hx')).1, (State.fieldFound?_type hib (hty y hy')).1]
          exact so_nm c' q hq x hx' y hy' hne
        obtain ⟨cf, kf, fi, fd, hi, hsl⟩ := hS r2 hk
        have hlay := hts _ (hin _ (u_in_lay hk))
        have hst := (u_facts hfc hkC (u_lays hts hin hk) hi).1
        have fin : ∀ H' : Heap, H'[r a]? = some (cell.setSlot fd.slot (so_V r w)) → H'.size = H.size → (∀ q : Nat, q ≠ r a → H'[q]? = H[q]?) → W p L e R s m args below meth c H' (locs ++ [⟨r a, fd.slot⟩]) cells slots Q (F0 m (pc + 3) ls rest) := by
          intro H' d1 d2 d3
          refine kk H' _ (hP.set hold d2 d3 (Or.inl ⟨hc11, ⟨q, hq, e2⟩, ?_⟩)) (hS0.put d2 d3 (so_A_of hP hold))
          rw [hsl] at d1
          have d4 := t_set (by rw [e2]; exact g4) hap hk (so_V r w)
          refine t_OB.to (V := updV (fun k => so_V r (f k)) r2 (so_V r w)) ⟨_, d1, g2, g3, by rw [← e2]; exact d4⟩ (fun j _ => ?_)
          show updV _ _ _ _ = so_V r (va_up f r2 w j)
          unfold updV va_up
          by_cases hj : j = r2
          · rw [if_pos hj, if_pos hj]
          · rw [if_neg hj, if_neg hj]
        have hslot : fd.slot < cell.slots.size := by rw [hsl]; exact k2_hasslot (g4 r2 hlt)
        unfold u_lay at hlay
        rcases Bool.eq_false_or_eq_true (q.2.1 r2).2.2.2 with hfi | hfi
        · rw [if_pos hfi] at hlay
          rcases hfin with z | ⟨z1, z2⟩
          · rw [hfi] at z; cases z
          · have hcf : m.cls = cf := by
              obtain ⟨_, _, c2, _, _, _, -, -, hf', -, -, -, hown2, -⟩ := Cond.laysFinal_spec hlay
              have e1 : c2 = cf := by have := hi.symm.trans hf'; simp at this; exact this.1.symm
              rw [z2] at hown2
              rw [← e1]; exact Option.some.inj (hown.symm.trans hown2)
            have h6 := u_fits hfc hkC hkind (Or.inr hlay) hi (hty r2 hk) hn hfit
            exact W.putFinK hx hb hown (hts _ (am_has_mem hlink)) hi hst hcf (hini z1) (by rw [g2]; exact h6) g1 g3 hslot rfl rfl hd fin
        · rw [if_neg (by rw [hfi]; decide)] at hlay
          have h6 := u_store hfc hkC hkind hlay hi (hty r2 hk) hn hfit
          exact W.putK hx hb (f := fd) ⟨hown, hts _ (am_has_mem hlink), ⟨_, _, _, hi⟩, hst⟩ (by rw [g2]; exact h6) g1 g3 hslot rfl rfl hd fin
      · cases hI
    · cases hf
  · cases hf
theorem so_a_of {kd a : Nat} {j : Int32} {w : Value} (hP : so_P D r B h s H) (hkd : 100 ≤ kd) (hf : am_a h kd a j = some w) : ∃ (n : Nat) (cell : Cell), H[r a]? = some cell ∧ so_AR s (am_aty kd) n (fun k => so_V r ((h.2.2 a).2.2 k)) cell ∧ ¬ (j < 0 ∨ cell.slots.size ≤ j.toNatClampNeg) ∧ cell.slots[j.toNatClampNeg]? = some (so_V r w) := by
  unfold am_a at hf
  split at hf
  · rename_i c' n f hc
    split at hf
    · rename_i hcn
      obtain ⟨rfl, hb⟩ := hcn
      cases hf
      obtain ⟨-, cell, g1, g2, -⟩ := so_arr hP hc hkd
      obtain ⟨-, a2⟩ := am_cell_of hc
      refine ⟨n, cell, g1, by rw [a2]; exact g2, so_in_bounds hb g2.2.2.1, g2.2.2.2.2 _ (Nat.not_le.mp fun q => hb (Or.inr q))⟩
    · cases hf
  · cases hf
theorem so_st_of {kd a : Nat} {j : Int32} {w : Value} {h' : AH} (hP : so_P D r B h s H) (hS0 : va_S (so_A B) s.heap H locs) (hkd : 100 ≤ kd) (hf : am_st h kd a j w = some h') : ∃ (cell : Cell), H[r a]? = some cell ∧ s.isArrayOf cell (am_aty kd) ∧ cell.vm ≠ .unknown ∧ ¬ (j < 0 ∨ cell.slots.size ≤ j.toNatClampNeg) ∧ (kd = 104 → va_RA s cell.cls (.object "ForgetfulRider$Book")) ∧
    ∀ H' : Heap, H'[r a]? = some (cell.setSlot j.toNatClampNeg (so_V r w)) → H'.size = H.size → (∀ q : Nat, q ≠ r a → H'[q]? = H[q]?) → so_P D r B h' s H' ∧ va_S (so_A B) s.heap H' (locs ++ [⟨r a, j.toNatClampNeg⟩]) := by
  unfold am_st at hf
  split at hf
  · rename_i c' n f hc
    split at hf
    · rename_i hcn
      obtain ⟨rfl, hb, hold⟩ := hcn
      cases hf
      obtain ⟨h105, cell, g1, g2, g3⟩ := so_arr hP hc hkd
      refine ⟨cell, g1, g2.1, g2.2.1, so_in_bounds hb g2.2.2.1, g3, fun H' d1 d2 d3 => ⟨hP.set hold d2 d3 (Or.inr (Or.inr ⟨⟨hkd, h105⟩, _, d1, g2.setSlot _ _ (fun k _ => ?_), g3⟩)), hS0.put d2 d3 (so_A_of hP hold)⟩⟩
      show so_V r (va_up f j.toNatClampNeg w k) = _
      unfold va_up
      by_cases hk : k = j.toNatClampNeg
      · rw [if_pos hk, if_pos hk]
      · rw [if_neg hk, if_neg hk]
    · cases hf
  · cases hf
theorem so_new_arr (hP : so_P D r B h s H) (hS0 : va_S (so_A B) s.heap H locs) {H1 : Heap} {cA : ClassId} {kd n : Nat} {d : Value} (hkd : 100 ≤ kd ∧ kd < 105) (e1 : H1[H.size]? = some (arrV cA n (fun _ => d))) (z1 : H1.size = H.size + 1) (o1 : ∀ q : Nat, q < H.size → H1[q]? = H[q]?) (hA : ArrOfT s cA (am_aty kd)) (hR : kd = 104 → va_RA s cA (.object "ForgetfulRider$Book")) (hdv : so_V r d = d) :
    (so_P D r B (am_new h (kd, n, fun _ => d)) s H1 ∧ r h.1 = H.size) ∧ va_S (so_A B) s.heap H1 locs := by
  refine ⟨hP.new z1 o1 (Or.inr (Or.inr ⟨hkd, _, e1, ⟨hA n _, (fun q => by cases q), (by rw [arrV_size]; exact Nat.le_refl _), (by rw [arrV_size] <;> rfl), fun j hj => ?_⟩, hR⟩)), ⟨Nat.le_trans hS0.1 (by omega), fun x g1 g2 => (o1 x (Nat.lt_of_lt_of_le g1 hS0.1)).trans (hS0.2.1 x g1 g2), hS0.2.2⟩⟩
  rw [arrV_read _ _ hj]
  show some d = some (so_V r d)
  rw [hdv]
end SoRows
