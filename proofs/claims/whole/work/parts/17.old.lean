/-! cells that stood before the law began stay as they are -/
def ol_le (h h' : AH) : Prop := 29 ≤ h.1 → 29 ≤ h'.1 ∧ ∀ a, a < 29 → h'.2.2 a = h.2.2 a
theorem ol_le.rf {h : AH} : ol_le h h := fun q => ⟨q, fun _ _ => rfl⟩
theorem ol_le.tr {a b c : AH} (h1 : ol_le a b) (h2 : ol_le b c) : ol_le a c := fun q => ⟨(h2 (h1 q).1).1, fun x hx => ((h2 (h1 q).1).2 x hx).trans ((h1 q).2 x hx)⟩
theorem ol_set {h : AH} {a : Nat} {c : AC} (ha : am_old ≤ a) : ol_le h (am_set h a c) := fun q => ⟨q, fun x hx => by
  show va_up h.2.2 a c x = _
  unfold va_up
  rw [if_neg (by have : 29 ≤ a := ha; omega)]⟩
theorem ol_new {h : AH} {c : AC} : ol_le h (am_new h c) := fun q => ⟨Nat.le_succ_of_le q, fun x hx => by
  show va_up h.2.2 h.1 c x = _
  unfold va_up
  rw [if_neg (by omega)]⟩
theorem ol_pf {h h' : AH} {a ci k : Nat} {v : Value} (hf : am_pf h a ci k v = some h') : ol_le h h' := by
  unfold am_pf at hf
  split at hf
  · split at hf
    · rename_i hcn
      cases hf
      exact ol_set hcn.2.2
    · cases hf
  · cases hf
theorem ol_pz {h h' : AH} {a ci k : Nat} {x : Int32} (hf : am_pz h a ci k x = some h') : ol_le h h' := by
  unfold am_pz at hf
  split at hf
  · exact ol_pf hf
  · cases hf
theorem ol_st {h h' : AH} {kd a : Nat} {i : Int32} {v : Value} (hf : am_st h kd a i v = some h') : ol_le h h' := by
  unfold am_st at hf
  split at hf
  · split at hf
    · rename_i hcn
      cases hf
      exact ol_set hcn.2.2
    · cases hf
  · cases hf
theorem ol_stB {h h' : AH} {a : Nat} {i x : Int32} (hf : am_stB h a i x = some h') : ol_le h h' := by
  unfold am_stB at hf
  split at hf
  · split at hf
    · exact ol_st hf
    · split at hf
      · exact ol_st hf
      · cases hf
  · cases hf
theorem ol_stR {h h' : AH} {a x : Nat} {i : Int32} (hf : am_stR h a i x = some h') : ol_le h h' := by
  unfold am_stR at hf
  split at hf
  · split at hf
    · exact ol_st hf
    · cases hf
  · cases hf
theorem ol_copy {h h' : AH} {a b : Nat} {sp dp n : Int32} (hf : am_copy h a sp b dp n = some h') : ol_le h h' := by
  unfold am_copy at hf
  split at hf
  · split at hf
    · rename_i hcnd
      cases hf
      exact ol_set hcnd.1.2.2
    · cases hf
  · cases hf
/-- an instruction goes on in one way alone, or not at all -/
def ol_sel (h : AH) (F : KT → Option RS) : Prop := (∀ k, F k = none) ∨ ∃ l' st' h', (∀ k, F k = k l' st' h') ∧ ol_le h h'
theorem ol_sel.no {h : AH} : ol_sel h (fun _ => none) := Or.inl fun _ => rfl
theorem ol_sel.go {h h' : AH} {l : LV} {st : List Value} (he : ol_le h h') : ol_sel h (fun k => k l st h') := Or.inr ⟨l, st, h', fun _ => rfl, he⟩
theorem ol_sel.bind {α : Type} {h : AH} {o : Option α} {f : α → KT → Option RS} (hf : ∀ x, o = some x → ol_sel h (f x)) : ol_sel h (fun k => o.bind fun x => f x k) := by
  cases o with
  | none => exact ol_sel.no
  | some x => exact hf x rfl
theorem ol_stp_sel (i : Instr) (r1 r2 : Nat) (v : Value) (l : LV) (st : List Value) (h : AH) : ol_sel h (am_stp i r1 r2 v l st h) := by
  unfold am_stp
  split <;> first
    | exact ol_sel.no
    | exact ol_sel.go ol_le.rf
    | exact ol_sel.go ol_new
    | (unfold am_ldI; split <;> first | exact ol_sel.no | exact ol_sel.go ol_le.rf)
    | (unfold am_ldL; split <;> first | exact ol_sel.no | exact ol_sel.go ol_le.rf)
    | (unfold am_ldR; split <;> first | exact ol_sel.no | exact ol_sel.go ol_le.rf)
    | (split <;> first
        | exact ol_sel.no
        | exact ol_sel.go ol_le.rf
        | (split <;> first | exact ol_sel.no | exact ol_sel.go ol_le.rf)
        | (unfold am_getf; split <;> first | exact ol_sel.no | exact ol_sel.bind fun _ _ => ol_sel.go ol_le.rf)
        | (unfold am_putf; split <;> first | exact ol_sel.no | exact ol_sel.bind fun _ hx => ol_sel.go (ol_pf hx) | exact ol_sel.bind fun _ hx => ol_sel.go (ol_pz hx))
        | (unfold am_mka; split <;> first | exact ol_sel.no | (split <;> first | exact ol_sel.no | exact ol_sel.go ol_new))
        | exact ol_sel.bind fun _ _ => ol_sel.go ol_le.rf
        | exact ol_sel.bind fun _ hx => ol_sel.go (ol_st hx)
        | exact ol_sel.bind fun _ hx => ol_sel.go (ol_stB hx)
        | exact ol_sel.bind fun _ hx => ol_sel.go (ol_stR hx))
/-- a piece ends with an answer of its own, or at a cut, whatever lies behind -/
def ol_tl (h : AH) (F : (Nat → LV → AH → Option RS) → Option RS) : Prop := (∃ o, (∀ L, F L = o) ∧ ∀ x h', o = some (x, h') → ol_le h h') ∨ ∃ pc' l' h', (∀ L, F L = L pc' l' h') ∧ ol_le h h'
theorem ol_tl.no {h : AH} : ol_tl h (fun _ => none) := Or.inl ⟨none, fun _ => rfl, fun _ _ z => by cases z⟩
theorem ol_tl.out {h : AH} {x : Option Value} : ol_tl h (fun _ => some (x, h)) := Or.inl ⟨_, fun _ => rfl, fun _ _ z => by cases z; exact ol_le.rf⟩
theorem ol_tl.le {h h1 : AH} {F : (Nat → LV → AH → Option RS) → Option RS} (he : ol_le h h1) (hF : ol_tl h1 F) : ol_tl h F := by
  rcases hF with ⟨o, h1, h2⟩ | ⟨pc', l', h', h1, h2⟩
  · exact Or.inl ⟨o, h1, fun x h' z => he.tr (h2 x h' z)⟩
  · exact Or.inr ⟨pc', l', h', h1, he.tr h2⟩
theorem ol_tl.nx {U : List (Nat × List Nat)} {e : (Nat → LV → AH → Option RS) → Nat → LV → List Value → AH → Option RS} (he : ∀ pc l st h, ol_tl h (fun L => e L pc l st h)) (pc : Nat) (l : LV) (st : List Value) (h : AH) : ol_tl h (fun L => am_nx U L (e L) pc l st h) := by
  unfold am_nx
  cases am_look U pc with
  | none => exact he _ _ _ _
  | some live =>
    cases st with
    | nil =>
      dsimp only
      cases am_pick live l with
      | none => exact ol_tl.no
      | some l' => exact Or.inr ⟨_, _, _, fun _ => rfl, ol_le.rf⟩
    | cons => exact ol_tl.no
theorem ol_tl.ite {h : AH} {c : Prop} [Decidable c] {F F' : (Nat → LV → AH → Option RS) → Option RS} (h1 : ol_tl h F) (h2 : ol_tl h F') : ol_tl h (fun L => if c then F L else F' L) := by
  by_cases hc : c
  · simp only [if_pos hc]; exact h1
  · simp only [if_neg hc]; exact h2
theorem ol_tl.bif {h : AH} {c : Bool} {F : (Nat → LV → AH → Option RS) → Option RS} (h1 : ol_tl h F) : ol_tl h (fun L => bif c then F L else none) := by
  cases c with
  | true => exact h1
  | false => exact ol_tl.no
theorem ol_tl.sw {h : AH} {x : Int32} : ∀ (fs : List ((Nat → LV → AH → Option RS) → Option RS)) (lo : Int) (d : (Nat → LV → AH → Option RS) → Option RS), ol_tl h d → (∀ f ∈ fs, ol_tl h f) → ol_tl h (fun L => am_sw x (d L) lo (fs.map (fun f => f L))) := by
  intro fs
  induction fs with
  | nil => intro lo d hd _; exact hd
  | cons f fs ih =>
    intro lo d hd hf
    exact ol_tl.ite (hf f List.mem_cons_self) (ih (lo + 1) d hd (fun g hg => hf g (List.mem_cons_of_mem _ hg)))
def ol_mono (G : GT) : Prop := ∀ j as h x h', G j as h = some (x, h') → ol_le h h'
theorem ol_tl.go {G : GT} (hG : ol_mono G) {j rt : Nat} {as : List Value} {h : AH} {st : List Value} {k : (Nat → LV → AH → Option RS) → List Value → AH → Option RS} (hk : ∀ st h, ol_tl h (fun L => k L st h)) : ol_tl h (fun L => am_go rt (G j as h) st (k L)) := by
  cases hg : G j as h with
  | none =>
    unfold am_go am_cV am_cL am_cI
    split <;> exact ol_tl.no
  | some q =>
    obtain ⟨x, h'⟩ := q
    have hle := hG _ _ _ _ _ hg
    unfold am_go
    split
    · unfold am_cV
      split
      · rename_i hq
        cases hq
        exact ol_tl.le hle (hk _ _)
      · exact ol_tl.no
    · unfold am_cL
      split
      · rename_i hq
        cases hq
        exact ol_tl.le hle (hk _ _)
      · exact ol_tl.no
    · unfold am_cI
      split
      · rename_i hq
        cases hq
        exact ol_tl.le hle (hk _ _)
      · exact ol_tl.no
theorem ol_ev_tl (C : CD) (U : List (Nat × List Nat)) (rt : Nat) {G : GT} (hG : ol_mono G) : ∀ (n pc : Nat) (l : LV) (st : List Value) (h : AH), ol_tl h (fun L => am_ev C U rt G L n pc l st h) := by
  intro n
  induction n with
  | zero => intro pc l st h; exact ol_tl.no
  | succ n ih =>
    intro pc l st h
    have nx : ∀ pc l st h, ol_tl h (fun L => am_nx U L (am_ev C U rt G L n) pc l st h) := fun pc l st h => ol_tl.nx (e := fun L => am_ev C U rt G L n) ih pc l st h
    have key : ∀ (i : Instr) (r1 r2 : Nat) (v : Value) (len : Nat), ol_tl h (fun L => am_stp i r1 r2 v l st h (fun l st h => am_nx U L (am_ev C U rt G L n) (pc + len) l st h)) := by
      intro i r1 r2 v len
      rcases ol_stp_sel i r1 r2 v l st h with h1 | ⟨l', st', h', h1, h2⟩
      · simp only [h1]; exact ol_tl.no
      · simp only [h1]; exact ol_tl.le h2 (nx _ _ _ _)
    simp only [am_ev]
    split
    · exact ol_tl.no
    · split
      · exact nx _ _ _ _
      · split
        · split <;> exact ol_tl.ite (nx _ _ _ _) (nx _ _ _ _)
        · exact ol_tl.no
      · split
        · split <;> exact ol_tl.ite (nx _ _ _ _) (nx _ _ _ _)
        · exact ol_tl.no
      · split
        · rename_i d lo hi offs heq _ x st'
          have := ol_tl.sw (x := x) (h := h) (offs.toList.map fun o => fun L => am_nx U L (am_ev C U rt G L n) ((pc : Int) + o).toNat l st' h) lo (fun L => am_nx U L (am_ev C U rt G L n) ((pc : Int) + d).toNat l st' h) (nx _ _ _ _) (fun f hf => by
            obtain ⟨o, -, rfl⟩ := List.mem_map.mp hf
            exact nx _ _ _ _)
          simp only [List.map_map, Function.comp_def] at this
          exact this
        · exact ol_tl.no
      · split
        · unfold am_ret
          split
          · exact ol_tl.out
          · exact ol_tl.ite ol_tl.out ol_tl.no
          · exact ol_tl.ite ol_tl.out ol_tl.no
          · exact ol_tl.ite ol_tl.out ol_tl.no
          · exact ol_tl.no
        · exact ol_tl.no
      · split
        · split
          · exact ol_tl.out
          · exact ol_tl.no
        · exact ol_tl.no
      · split
        · split
          · exact ol_tl.out
          · exact ol_tl.no
        · exact ol_tl.no
      · split
        · exact ol_tl.bif (ol_tl.go hG fun st h => nx _ _ _ _)
        · exact ol_tl.no
      · split
        · split
          · refine ol_tl.bif ?_
            generalize ho : am_copy _ _ _ _ _ _ = o
            cases o with
            | none => exact ol_tl.no
            | some h1 => exact ol_tl.le (ol_copy ho) (nx _ _ _ _)
          · exact ol_tl.no
        · split
          · exact ol_tl.bif (nx _ _ _ _)
          · exact ol_tl.no
        · split
          · exact ol_tl.bif (nx _ _ _ _)
          · exact ol_tl.no
        · split
          · exact ol_tl.bif (nx _ _ _ _)
          · exact ol_tl.no
        · split
          · exact ol_tl.bif (nx _ _ _ _)
          · exact ol_tl.no
        · split
          · exact ol_tl.bif (ol_tl.go hG fun st h => nx _ _ _ _)
          · exact ol_tl.no
      · split
        · split
          · exact ol_tl.bif (nx _ _ _ _)
          · exact ol_tl.no
        · split
          · exact ol_tl.bif (ol_tl.go hG fun st h => nx _ _ _ _)
          · exact ol_tl.no
      · exact key _ _ _ _ _

theorem ol_run_mono (C : CD) (U : List (Nat × List Nat)) (rt : Nat) {G : GT} (hG : ol_mono G) : ∀ (n pc : Nat) (l : LV) (h : AH) (x : Option Value) (h' : AH), am_run C U rt G n pc l h = some (x, h') → ol_le h h' := by
  intro n
  induction n with
  | zero => intro pc l h x h' hx; cases hx
  | succ n ih =>
    intro pc l h x h' hx
    rcases ol_ev_tl C U rt hG 4000 pc l [] h with ⟨o, a1, a2⟩ | ⟨pc', l', h1, a1, a2⟩
    · exact a2 x h' ((show am_ev C U rt G (am_run C U rt G n) 4000 pc l [] h = o from a1 _).symm.trans hx)
    · exact a2.tr (ih _ _ _ _ _ ((show am_ev C U rt G (am_run C U rt G n) 4000 pc l [] h = _ from a1 _).symm.trans hx))
theorem ol_sem_mono : ∀ d, ol_mono (am_sem d) := by
  intro d
  induction d with
  | zero => intro j as h x h' hx; cases hx
  | succ d ih =>
    intro j as h x h' hx
    simp only [am_sem] at hx
    split at hx
    · unfold am_ci at hx
      split at hx
      · split at hx
        · cases hx
        · cases hx
          exact ol_le.rf
      · cases hx
    · split at hx
      · cases hx
      · rename_i M hM
        cases hb : Nat.ble (lg_sl as).length M.2.2.2.1 with
        | false => rw [hb] at hx; cases hx
        | true =>
          rw [hb] at hx
          obtain ⟨n, hn⟩ := am_rn_some hx
          exact ol_run_mono _ _ _ ih _ _ _ _ _ _ hn
/-! a small machine that a program can run: it answers as the other -/
theorem am_sw_mono {x : Int32} {y : RS} : ∀ (rs rs' : List (Option RS)) (d d' : Option RS) (lo : Int), rs.length = rs'.length → (∀ (k : Nat) (q q' : Option RS), rs[k]? = some q → rs'[k]? = some q' → q = some y → q' = some y) → (d = some y → d' = some y) → am_sw x d lo rs = some y → am_sw x d' lo rs' = some y := by
  intro rs
  induction rs with
  | nil =>
    intro rs' d d' lo hl hk hd h
    cases rs' with
    | nil => exact hd h
    | cons => simp at hl
  | cons q rs ih =>
    intro rs' d d' lo hl hk hd h
    cases rs' with
    | nil => simp at hl
    | cons q' rs' =>
      unfold am_sw at h ⊢
      by_cases hx : x = Int32.ofInt lo
      · rw [if_pos hx] at h ⊢
        exact hk 0 q q' rfl rfl h
      · rw [if_neg hx] at h ⊢
        exact ih rs' d d' (lo + 1) (by simpa using hl) (fun k a b h1 h2 => hk (k + 1) a b h1 h2) hd h
theorem am_go_sel (t : Nat) (q : RS) (st : List Value) : (∀ k, am_go t (some q) st k = none) ∨ ∃ st', ∀ k, am_go t (some q) st k = k st' q.2 := by
  obtain ⟨x, h⟩ := q
  match t with
  | 0 =>
    cases x with
    | none => exact Or.inr ⟨_, fun k => rfl⟩
    | some v => exact Or.inl fun k => rfl
  | 1 =>
    cases x with
    | none => exact Or.inl fun k => rfl
    | some v =>
      cases v <;> first | exact Or.inl fun k => rfl | exact Or.inr ⟨_, fun k => rfl⟩
  | 2 =>
    cases x with
    | none => exact Or.inl fun k => rfl
    | some v =>
      cases v <;> first | exact Or.inl fun k => rfl | exact Or.inr ⟨_, fun k => rfl⟩
  | n + 3 =>
    cases x with
    | none => exact Or.inl fun k => rfl
    | some v =>
      cases v <;> first | exact Or.inl fun k => rfl | exact Or.inr ⟨_, fun k => rfl⟩
theorem am_ev_G (C : CD) (U : List (Nat × List Nat)) (rt : Nat) {G G' : GT} (hG : ∀ j as h y, G j as h = some y → G' j as h = some y) {L L' : Nat → LV → AH → Option RS} (hL : ∀ pc l h y, L pc l h = some y → L' pc l h = some y) : ∀ (n pc : Nat) (l : LV) (st : List Value) (h : AH) (y : RS), am_ev C U rt G L n pc l st h = some y → am_ev C U rt G' L' n pc l st h = some y := by
  intro n
  induction n with
  | zero => intro pc l st h y hy; cases hy
  | succ n ih =>
    intro pc l st h y
    have nx : ∀ pc l st h, am_nx U L (am_ev C U rt G L n) pc l st h = some y → am_nx U L' (am_ev C U rt G' L' n) pc l st h = some y := by
      intro pc l st h
      unfold am_nx
      split
      · exact ih _ _ _ _ _
      · split
        · split
          · exact hL _ _ _ _
          · intro z; cases z
        · intro z; cases z
    have go : ∀ t j as st' pc', am_go t (G j as h) st' (fun st h => am_nx U L (am_ev C U rt G L n) pc' l st h) = some y → am_go t (G' j as h) st' (fun st h => am_nx U L' (am_ev C U rt G' L' n) pc' l st h) = some y := by
      intro t j as st' pc' hgo
      cases hc : G j as h with
      | none =>
        rw [hc] at hgo
        unfold am_go am_cV am_cL am_cI at hgo
        split at hgo <;> cases hgo
      | some q =>
        rw [hG _ _ _ _ hc]
        rw [hc] at hgo
        rcases am_go_sel t q st' with h1 | ⟨st2, h1⟩
        · rw [h1] at hgo; cases hgo
        · rw [h1] at hgo ⊢
          exact nx _ _ _ _ hgo
    have key : ∀ (i : Instr) (r1 r2 : Nat) (v : Value) (len : Nat), am_stp i r1 r2 v l st h (fun l st h => am_nx U L (am_ev C U rt G L n) (pc + len) l st h) = some y → am_stp i r1 r2 v l st h (fun l st h => am_nx U L' (am_ev C U rt G' L' n) (pc + len) l st h) = some y := by
      intro i r1 r2 v len hy
      rcases am_stp_sel i r1 r2 v l st h with h1 | ⟨l', st', h', h1, h2⟩
      · rw [h1] at hy; cases hy
      · rw [h1] at hy ⊢
        exact nx _ _ _ _ hy
    simp only [am_ev]
    split
    · intro z; cases z
    · split
      · exact nx _ _ _ _
      · split
        · split <;> (split <;> exact nx _ _ _ _)
        · intro z; cases z
      · split
        · split <;> (split <;> exact nx _ _ _ _)
        · intro z; cases z
      · split
        · rename_i d lo hi offs heq _ x st'
          refine am_sw_mono _ _ _ _ _ (by simp) (fun k q q' h1 h2 => ?_) (nx _ _ _ _)
          rw [List.getElem?_map] at h1 h2
          intro hq
          generalize offs.toList[k]? = o at h1 h2
          cases o with
          | none => cases h1
          | some o =>
            cases h1
            cases h2
            exact nx _ _ _ _ hq
        · intro z; cases z
      · exact id
      · exact id
      · exact id
      · split
        · rename_i b st' _
          generalize (am_few _ && am_isK h _ _) = bb
          cases bb with
          | true => exact go _ _ _ _ _
          | false => intro z; cases z
        · intro z; cases z
      · split
        · split
          · generalize Nat.ble _ 3 = bb
            cases bb with
            | true =>
              simp only [cond_true]
              generalize am_copy _ _ _ _ _ _ = o
              cases o with
              | none => intro z; cases z
              | some h1 => exact nx _ _ _ _
            | false => intro z; cases z
          · intro z; cases z
        · split
          · generalize am_few _ = bb
            cases bb with
            | true => exact nx _ _ _ _
            | false => intro z; cases z
          · intro z; cases z
        · split
          · generalize am_few _ = bb
            cases bb with
            | true => exact nx _ _ _ _
            | false => intro z; cases z
          · intro z; cases z
        · split
          · generalize am_few _ = bb
            cases bb with
            | true => exact nx _ _ _ _
            | false => intro z; cases z
          · intro z; cases z
        · split
          · generalize am_few _ = bb
            cases bb with
            | true => exact nx _ _ _ _
            | false => intro z; cases z
          · intro z; cases z
        · split
          · generalize am_few _ = bb
            cases bb with
            | true => exact go _ _ _ _ _
            | false => intro z; cases z
          · intro z; cases z
      · split
        · split
          · generalize am_few _ = bb
            cases bb with
            | true => exact nx _ _ _ _
            | false => intro z; cases z
          · intro z; cases z
        · split
          · generalize am_few _ = bb
            cases bb with
            | true => simp only [cond_true]; exact go 0 _ _ _ _
            | false => intro z; cases z
          · intro z; cases z
      · exact key _ _ _ _ _
def am_semC : Nat → GT
  | 0 => fun _ _ _ => none
  | d + 1 => fun j as h => match am_prog[j]? with
    | none => none
    | some M => bif Nat.ble (lg_sl as).length M.2.2.2.1 then am_run M.1 M.2.1 (am_rt M.2.2.2.2.1) (am_semC d) 100 0 (lv_args 0 as) h else none
theorem am_run_G (C : CD) (U : List (Nat × List Nat)) (rt : Nat) {G G' : GT} (hG : ∀ j as h y, G j as h = some y → G' j as h = some y) : ∀ (n pc : Nat) (l : LV) (h : AH) (y : RS), am_run C U rt G n pc l h = some y → am_run C U rt G' n pc l h = some y := by
  intro n
  induction n with
  | zero => intro pc l h y hy; cases hy
  | succ n ih =>
    intro pc l h y hy
    exact am_ev_G C U rt hG ih 4000 pc l [] h y hy
theorem am_semC_ok : ∀ d j as h y, am_semC d j as h = some y → am_sem d j as h = some y := by
  intro d
  induction d with
  | zero => intro j as h y hy; cases hy
  | succ d ih =>
    intro j as h y hy
    simp only [am_semC] at hy
    simp only [am_sem]
    split at hy
    · cases hy
    · rename_i M hM
      cases hb : Nat.ble (lg_sl as).length M.2.2.2.1 with
      | false => rw [hb] at hy; cases hy
      | true =>
        rw [hb] at hy
        have hy : am_run M.1 M.2.1 (am_rt M.2.2.2.2.1) (am_semC d) 100 0 (lv_args 0 as) h = some y := hy
        split
        · cases (zc0_md.symm.trans hM)
          cases hy
        · rw [hM]
          dsimp only
          rw [hb]
          exact am_rn_of (am_sem_mono d) (am_run_G _ _ _ ih _ _ _ _ _ hy)
theorem am_sem_succ : ∀ d j as h y, am_sem d j as h = some y → am_sem (d + 1) j as h = some y := by
  intro d
  induction d with
  | zero => intro j as h y hy; cases hy
  | succ d ih =>
    intro j as h y hy
    simp only [am_sem] at hy
    rw [am_sem]
    dsimp only
    split at hy
    · exact hy
    · rename_i hne
      split
      · rename_i hM
        rw [hM] at hy
        cases hy
      · rename_i M hM
        rw [hM] at hy
        dsimp only at hy
        · cases hb : Nat.ble (lg_sl as).length M.2.2.2.1 with
          | false => rw [hb] at hy; cases hy
          | true =>
            rw [hb] at hy
            obtain ⟨n, hn⟩ := am_rn_some (show am_rn M.1 M.2.1 (am_rt M.2.2.2.2.1) (am_sem d) 0 (lv_args 0 as) h = some y from hy)
            exact am_rn_of (am_sem_mono (d + 1)) (am_run_G _ _ _ ih _ _ _ _ _ hn)
theorem am_sem_le {k d : Nat} {j : Nat} {as : List Value} {h : AH} {y : RS} (hy : am_sem k j as h = some y) (hk : k ≤ d) : am_sem d j as h = some y := by
  induction hk with
  | refl => exact hy
  | step _ ih => exact am_sem_succ _ _ _ _ _ ih
