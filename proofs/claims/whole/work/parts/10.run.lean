/-! runs of the small machine -/
def am_run (C : CD) (U : List (Nat × List Nat)) (rt : Nat) (G : GT) : Nat → Nat → LV → AH → Option RS
  | 0, _, _, _ => none
  | n + 1, pc, l, h => am_ev C U rt G (am_run C U rt G n) 4000 pc l [] h
/-- the small machine's answer, however long it takes -/
noncomputable def am_rn (C : CD) (U : List (Nat × List Nat)) (rt : Nat) (G : GT) (pc : Nat) (l : LV) (h : AH) : Option RS :=
  @dite (Option RS) (∃ n, (am_run C U rt G n pc l h).isSome = true) (Classical.propDecidable _) (fun hx => am_run C U rt G hx.choose pc l h) (fun _ => none)
def am_le (h h' : AH) : Prop := h.1 ≤ h'.1 ∧ h.2.1 ≤ h'.2.1
theorem am_le.rf {h : AH} : am_le h h := ⟨Nat.le_refl _, Nat.le_refl _⟩
theorem am_le.tr {a b c : AH} (h1 : am_le a b) (h2 : am_le b c) : am_le a c := ⟨Nat.le_trans h1.1 h2.1, Nat.le_trans h1.2 h2.2⟩
theorem am_le.eq {h h' : AH} (e : h'.1 = h.1 ∧ h'.2.1 = h.2.1) : am_le h h' := ⟨Nat.le_of_eq e.1.symm, Nat.le_of_eq e.2.symm⟩
/-- an instruction goes on in one way alone, or not at all -/
def am_sel (h : AH) (F : KT → Option RS) : Prop := (∀ k, F k = none) ∨ ∃ l' st' h', (∀ k, F k = k l' st' h') ∧ am_le h h'
theorem am_sel.no {h : AH} : am_sel h (fun _ => none) := Or.inl fun _ => rfl
theorem am_sel.go {h h' : AH} {l : LV} {st : List Value} (he : am_le h h') : am_sel h (fun k => k l st h') := Or.inr ⟨l, st, h', fun _ => rfl, he⟩
theorem am_sel.bind {α : Type} {h : AH} {o : Option α} {f : α → KT → Option RS} (hf : ∀ x, o = some x → am_sel h (f x)) : am_sel h (fun k => o.bind fun x => f x k) := by
  cases o with
  | none => exact am_sel.no
  | some x => exact hf x rfl
theorem am_stB_sz {h h' : AH} {a : Nat} {i x : Int32} (hf : am_stB h a i x = some h') : h'.1 = h.1 ∧ h'.2.1 = h.2.1 := by
  unfold am_stB at hf
  split at hf
  · split at hf
    · exact am_st_sz hf
    · split at hf
      · exact am_st_sz hf
      · cases hf
  · cases hf
theorem am_stR_sz {h h' : AH} {a x : Nat} {i : Int32} (hf : am_stR h a i x = some h') : h'.1 = h.1 ∧ h'.2.1 = h.2.1 := by
  unfold am_stR at hf
  split at hf
  · split at hf
    · exact am_st_sz hf
    · cases hf
  · cases hf
theorem am_pz_sz {h h' : AH} {a ci k : Nat} {x : Int32} (hf : am_pz h a ci k x = some h') : h'.1 = h.1 ∧ h'.2.1 = h.2.1 := by
  unfold am_pz at hf
  split at hf
  · exact am_pf_sz hf
  · cases hf
theorem am_copy_sz {h h' : AH} {a b : Nat} {sp dp n : Int32} (hf : am_copy h a sp b dp n = some h') : h'.1 = h.1 ∧ h'.2.1 = h.2.1 := by
  unfold am_copy at hf
  split at hf
  · split at hf
    · cases hf
      exact ⟨rfl, rfl⟩
    · cases hf
  · cases hf
theorem am_stp_sel (i : Instr) (r1 r2 : Nat) (v : Value) (l : LV) (st : List Value) (h : AH) : am_sel h (am_stp i r1 r2 v l st h) := by
  unfold am_stp
  split <;> first
    | exact am_sel.no
    | exact am_sel.go am_le.rf
    | exact am_sel.go ⟨Nat.le_succ _, Nat.le_add_right _ _⟩
    | (unfold am_ldI; split <;> first | exact am_sel.no | exact am_sel.go am_le.rf)
    | (unfold am_ldL; split <;> first | exact am_sel.no | exact am_sel.go am_le.rf)
    | (unfold am_ldR; split <;> first | exact am_sel.no | exact am_sel.go am_le.rf)
    | (split <;> first
        | exact am_sel.no
        | exact am_sel.go am_le.rf
        | (split <;> first | exact am_sel.no | exact am_sel.go am_le.rf)
        | (unfold am_getf; split <;> first | exact am_sel.no | exact am_sel.bind fun _ _ => am_sel.go am_le.rf)
        | (unfold am_putf; split <;> first | exact am_sel.no | exact am_sel.bind fun _ hx => am_sel.go (am_le.eq (am_pf_sz hx)) | exact am_sel.bind fun _ hx => am_sel.go (am_le.eq (am_pz_sz hx)))
        | (unfold am_mka; split <;> first | exact am_sel.no | (split <;> first | exact am_sel.no | exact am_sel.go ⟨Nat.le_succ _, Nat.le_add_right _ _⟩))
        | exact am_sel.bind fun _ _ => am_sel.go am_le.rf
        | exact am_sel.bind fun _ hx => am_sel.go (am_le.eq (am_st_sz hx))
        | exact am_sel.bind fun _ hx => am_sel.go (am_le.eq (am_stB_sz hx))
        | exact am_sel.bind fun _ hx => am_sel.go (am_le.eq (am_stR_sz hx)))
/-- a piece ends with an answer of its own, or at a cut, whatever lies behind -/
def am_tl (h : AH) (F : (Nat → LV → AH → Option RS) → Option RS) : Prop := (∃ o, (∀ L, F L = o) ∧ ∀ x h', o = some (x, h') → am_le h h') ∨ ∃ pc' l' h', (∀ L, F L = L pc' l' h') ∧ am_le h h'
theorem am_tl.no {h : AH} : am_tl h (fun _ => none) := Or.inl ⟨none, fun _ => rfl, fun _ _ z => by cases z⟩
theorem am_tl.out {h : AH} {x : Option Value} : am_tl h (fun _ => some (x, h)) := Or.inl ⟨_, fun _ => rfl, fun _ _ z => by cases z; exact am_le.rf⟩
theorem am_tl.le {h h1 : AH} {F : (Nat → LV → AH → Option RS) → Option RS} (he : am_le h h1) (hF : am_tl h1 F) : am_tl h F := by
  rcases hF with ⟨o, h1, h2⟩ | ⟨pc', l', h', h1, h2⟩
  · exact Or.inl ⟨o, h1, fun x h' z => he.tr (h2 x h' z)⟩
  · exact Or.inr ⟨pc', l', h', h1, he.tr h2⟩
theorem am_tl.nx {U : List (Nat × List Nat)} {e : (Nat → LV → AH → Option RS) → Nat → LV → List Value → AH → Option RS} (he : ∀ pc l st h, am_tl h (fun L => e L pc l st h)) (pc : Nat) (l : LV) (st : List Value) (h : AH) : am_tl h (fun L => am_nx U L (e L) pc l st h) := by
  unfold am_nx
  cases am_look U pc with
  | none => exact he _ _ _ _
  | some live =>
    cases st with
    | nil =>
      dsimp only
      cases am_pick live l with
      | none => exact am_tl.no
      | some l' => exact Or.inr ⟨_, _, _, fun _ => rfl, am_le.rf⟩
    | cons => exact am_tl.no
theorem am_tl.ite {h : AH} {c : Prop} [Decidable c] {F F' : (Nat → LV → AH → Option RS) → Option RS} (h1 : am_tl h F) (h2 : am_tl h F') : am_tl h (fun L => if c then F L else F' L) := by
  by_cases hc : c
  · simp only [if_pos hc]; exact h1
  · simp only [if_neg hc]; exact h2
theorem am_tl.bif {h : AH} {c : Bool} {F : (Nat → LV → AH → Option RS) → Option RS} (h1 : am_tl h F) : am_tl h (fun L => bif c then F L else none) := by
  cases c with
  | true => exact h1
  | false => exact am_tl.no
theorem am_tl.sw {h : AH} {x : Int32} : ∀ (fs : List ((Nat → LV → AH → Option RS) → Option RS)) (lo : Int) (d : (Nat → LV → AH → Option RS) → Option RS), am_tl h d → (∀ f ∈ fs, am_tl h f) → am_tl h (fun L => am_sw x (d L) lo (fs.map (fun f => f L))) := by
  intro fs
  induction fs with
  | nil => intro lo d hd _; exact hd
  | cons f fs ih =>
    intro lo d hd hf
    exact am_tl.ite (hf f List.mem_cons_self) (ih (lo + 1) d hd (fun g hg => hf g (List.mem_cons_of_mem _ hg)))
def am_mono (G : GT) : Prop := ∀ j as h x h', G j as h = some (x, h') → am_le h h'
theorem am_tl.go {G : GT} (hG : am_mono G) {j rt : Nat} {as : List Value} {h : AH} {st : List Value} {k : (Nat → LV → AH → Option RS) → List Value → AH → Option RS} (hk : ∀ st h, am_tl h (fun L => k L st h)) : am_tl h (fun L => am_go rt (G j as h) st (k L)) := by
  cases hg : G j as h with
  | none =>
    unfold am_go am_cV am_cL am_cI
    split <;> exact am_tl.no
  | some q =>
    obtain ⟨x, h'⟩ := q
    have hle := hG _ _ _ _ _ hg
    unfold am_go
    split
    · unfold am_cV
      split
      · rename_i hq
        cases hq
        exact am_tl.le hle (hk _ _)
      · exact am_tl.no
    · unfold am_cL
      split
      · rename_i hq
        cases hq
        exact am_tl.le hle (hk _ _)
      · exact am_tl.no
    · unfold am_cI
      split
      · rename_i hq
        cases hq
        exact am_tl.le hle (hk _ _)
      · exact am_tl.no
theorem am_ev_tl (C : CD) (U : List (Nat × List Nat)) (rt : Nat) {G : GT} (hG : am_mono G) : ∀ (n pc : Nat) (l : LV) (st : List Value) (h : AH), am_tl h (fun L => am_ev C U rt G L n pc l st h) := by
  intro n
  induction n with
  | zero => intro pc l st h; exact am_tl.no
  | succ n ih =>
    intro pc l st h
    have nx : ∀ pc l st h, am_tl h (fun L => am_nx U L (am_ev C U rt G L n) pc l st h) := fun pc l st h => am_tl.nx (e := fun L => am_ev C U rt G L n) ih pc l st h
    have key : ∀ (i : Instr) (r1 r2 : Nat) (v : Value) (len : Nat), am_tl h (fun L => am_stp i r1 r2 v l st h (fun l st h => am_nx U L (am_ev C U rt G L n) (pc + len) l st h)) := by
      intro i r1 r2 v len
      rcases am_stp_sel i r1 r2 v l st h with h1 | ⟨l', st', h', h1, h2⟩
      · simp only [h1]; exact am_tl.no
      · simp only [h1]; exact am_tl.le h2 (nx _ _ _ _)
    simp only [am_ev]
    split
    · exact am_tl.no
    · split
      · exact nx _ _ _ _
      · split
        · split <;> exact am_tl.ite (nx _ _ _ _) (nx _ _ _ _)
        · exact am_tl.no
      · split
        · split <;> exact am_tl.ite (nx _ _ _ _) (nx _ _ _ _)
        · exact am_tl.no
      · split
        · rename_i d lo hi offs heq _ x st'
          have := am_tl.sw (x := x) (h := h) (offs.toList.map fun o => fun L => am_nx U L (am_ev C U rt G L n) ((pc : Int) + o).toNat l st' h) lo (fun L => am_nx U L (am_ev C U rt G L n) ((pc : Int) + d).toNat l st' h) (nx _ _ _ _) (fun f hf => by
            obtain ⟨o, -, rfl⟩ := List.mem_map.mp hf
            exact nx _ _ _ _)
          simp only [List.map_map, Function.comp_def] at this
          exact this
        · exact am_tl.no
      · split
        · unfold am_ret
          split
          · exact am_tl.out
          · exact am_tl.ite am_tl.out am_tl.no
          · exact am_tl.ite am_tl.out am_tl.no
          · exact am_tl.ite am_tl.out am_tl.no
          · exact am_tl.no
        · exact am_tl.no
      · split
        · split
          · exact am_tl.out
          · exact am_tl.no
        · exact am_tl.no
      · split
        · split
          · exact am_tl.out
          · exact am_tl.no
        · exact am_tl.no
      · split
        · exact am_tl.bif (am_tl.go hG fun st h => nx _ _ _ _)
        · exact am_tl.no
      · split
        · split
          · refine am_tl.bif ?_
            generalize ho : am_copy _ _ _ _ _ _ = o
            cases o with
            | none => exact am_tl.no
            | some h1 => exact am_tl.le (am_le.eq (am_copy_sz ho)) (nx _ _ _ _)
          · exact am_tl.no
        · split
          · exact am_tl.bif (nx _ _ _ _)
          · exact am_tl.no
        · split
          · exact am_tl.bif (nx _ _ _ _)
          · exact am_tl.no
        · split
          · exact am_tl.bif (nx _ _ _ _)
          · exact am_tl.no
        · split
          · exact am_tl.bif (nx _ _ _ _)
          · exact am_tl.no
        · split
          · exact am_tl.bif (am_tl.go hG fun st h => nx _ _ _ _)
          · exact am_tl.no
      · split
        · split
          · exact am_tl.bif (nx _ _ _ _)
          · exact am_tl.no
        · split
          · exact am_tl.bif (am_tl.go hG fun st h => nx _ _ _ _)
          · exact am_tl.no
      · exact key _ _ _ _ _

theorem am_run_succ (C : CD) (U : List (Nat × List Nat)) (rt : Nat) {G : GT} (hG : am_mono G) : ∀ (n pc : Nat) (l : LV) (h : AH) (x : RS), am_run C U rt G n pc l h = some x → am_run C U rt G (n + 1) pc l h = some x := by
  intro n
  induction n with
  | zero => intro pc l h x hx; cases hx
  | succ n ih =>
    intro pc l h x hx
    have h1 : am_ev C U rt G (am_run C U rt G n) 4000 pc l [] h = some x := hx
    show am_ev C U rt G (am_run C U rt G (n + 1)) 4000 pc l [] h = some x
    rcases am_ev_tl C U rt hG 4000 pc l [] h with ⟨o, a1, -⟩ | ⟨pc', l', h', a1, -⟩
    · rw [show am_ev C U rt G (am_run C U rt G (n + 1)) 4000 pc l [] h = o from a1 _, ← show am_ev C U rt G (am_run C U rt G n) 4000 pc l [] h = o from a1 _]
      exact h1
    · rw [show am_ev C U rt G (am_run C U rt G (n + 1)) 4000 pc l [] h = _ from a1 _]
      rw [show am_ev C U rt G (am_run C U rt G n) 4000 pc l [] h = _ from a1 _] at h1
      exact ih _ _ _ _ h1
theorem am_run_le (C : CD) (U : List (Nat × List Nat)) (rt : Nat) {G : GT} (hG : am_mono G) {n m pc : Nat} {l : LV} {h : AH} {x : RS} (hnm : n ≤ m) (hx : am_run C U rt G n pc l h = some x) : am_run C U rt G m pc l h = some x := by
  induction hnm with
  | refl => exact hx
  | step _ ih => exact am_run_succ C U rt hG _ _ _ _ _ ih
theorem am_rn_some {C : CD} {U : List (Nat × List Nat)} {rt : Nat} {G : GT} {pc : Nat} {l : LV} {h : AH} {x : RS} (hx : am_rn C U rt G pc l h = some x) : ∃ n, am_run C U rt G n pc l h = some x := by
  unfold am_rn at hx
  by_cases hc : ∃ n, (am_run C U rt G n pc l h).isSome = true
  · rw [dif_pos hc] at hx
    exact ⟨_, hx⟩
  · rw [dif_neg hc] at hx
    cases hx
theorem am_rn_of {C : CD} {U : List (Nat × List Nat)} {rt : Nat} {G : GT} (hG : am_mono G) {pc n : Nat} {l : LV} {h : AH} {x : RS} (hx : am_run C U rt G n pc l h = some x) : am_rn C U rt G pc l h = some x := by
  unfold am_rn
  have hc : ∃ n, (am_run C U rt G n pc l h).isSome = true := ⟨n, by rw [hx]; rfl⟩
  rw [dif_pos hc]
  have h1 := hc.choose_spec
  obtain ⟨y, hy⟩ := Option.isSome_iff_exists.mp h1
  rcases Nat.le_total n hc.choose with h2 | h2
  · exact am_run_le C U rt hG h2 hx
  · have := am_run_le C U rt hG h2 hy
    rw [hx] at this
    rw [hy, this]
/-- a run, unfolded to the next cuts -/
theorem am_rn_eq (C : CD) (U : List (Nat × List Nat)) (rt : Nat) {G : GT} (hG : am_mono G) (pc : Nat) (l : LV) (h : AH) : am_rn C U rt G pc l h = am_ev C U rt G (am_rn C U rt G) 4000 pc l [] h := by
  apply Option.ext
  intro x
  rcases am_ev_tl C U rt hG 4000 pc l [] h with ⟨o, a1, -⟩ | ⟨pc', l', h', a1, -⟩
  · rw [show am_ev C U rt G (am_rn C U rt G) 4000 pc l [] h = o from a1 _]
    constructor
    · intro hx
      obtain ⟨n, hn⟩ := am_rn_some hx
      cases n with
      | zero => cases hn
      | succ n => exact (show am_ev C U rt G (am_run C U rt G n) 4000 pc l [] h = o from a1 _).symm.trans hn
    · intro hx
      exact am_rn_of hG (n := 1) ((show am_ev C U rt G (am_run C U rt G 0) 4000 pc l [] h = o from a1 _).trans hx)
  · rw [show am_ev C U rt G (am_rn C U rt G) 4000 pc l [] h = _ from a1 _]
    constructor
    · intro hx
      obtain ⟨n, hn⟩ := am_rn_some hx
      cases n with
      | zero => cases hn
      | succ n => exact am_rn_of hG ((show am_ev C U rt G (am_run C U rt G n) 4000 pc l [] h = _ from a1 _).symm.trans hn)
    · intro hx
      obtain ⟨n, hn⟩ := am_rn_some hx
      exact am_rn_of hG (n := n + 1) ((show am_ev C U rt G (am_run C U rt G n) 4000 pc l [] h = _ from a1 _).trans hn)
theorem am_run_mono (C : CD) (U : List (Nat × List Nat)) (rt : Nat) {G : GT} (hG : am_mono G) : ∀ (n pc : Nat) (l : LV) (h : AH) (x : Option Value) (h' : AH), am_run C U rt G n pc l h = some (x, h') → am_le h h' := by
  intro n
  induction n with
  | zero => intro pc l h x h' hx; cases hx
  | succ n ih =>
    intro pc l h x h' hx
    rcases am_ev_tl C U rt hG 4000 pc l [] h with ⟨o, a1, a2⟩ | ⟨pc', l', h1, a1, a2⟩
    · exact a2 x h' ((show am_ev C U rt G (am_run C U rt G n) 4000 pc l [] h = o from a1 _).symm.trans hx)
    · exact a2.tr (ih _ _ _ _ _ ((show am_ev C U rt G (am_run C U rt G n) 4000 pc l [] h = _ from a1 _).symm.trans hx))
/-- String.checkIndex: walked by hand -/
def am_ci (as : List Value) (h : AH) : Option RS := match as with
  | [.int i, .int n] => if i < 0 ∨ ¬ i < n then none else some (none, h)
  | _ => none
/-- a call of method j, calls within one another at most d deep -/
noncomputable def am_sem : Nat → GT
  | 0 => fun _ _ _ => none
  | d + 1 => fun j as h => match j with
    | 260 => am_ci as h
    | j => match am_prog[j]? with
      | none => none
      | some M => bif Nat.ble (lg_sl as).length M.2.2.2.1 then am_rn M.1 M.2.1 (am_rt M.2.2.2.2.1) (am_sem d) 0 (lv_args 0 as) h else none
theorem am_sem_mono : ∀ d, am_mono (am_sem d) := by
  intro d
  induction d with
  | zero => intro j as h x h' hx; cases hx
  | succ d ih =>
    intro j as h x h' hx
    simp only [am_sem] at hx
    split at hx
    · unfold am_ci at hx
      split at hx
      · split at hx
        · cases hx
        · cases hx
          exact am_le.rf
      · cases hx
    · split at hx
      · cases hx
      · rename_i M hM
        cases hb : Nat.ble (lg_sl as).length M.2.2.2.1 with
        | false => rw [hb] at hx; cases hx
        | true =>
          rw [hb] at hx
          obtain ⟨n, hn⟩ := am_rn_some hx
          exact am_run_mono _ _ _ ih _ _ _ _ _ _ hn
