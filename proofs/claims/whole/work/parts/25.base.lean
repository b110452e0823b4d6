/-! calls of class and reference, one behind the other -/
def InvH (t : Nat) (h : AH) : Prop := ∃ g M, h = hp g M ∧ RG M ∧ J t M
theorem zst_I {d a b : Nat} {as : List ZV} (has : oks as) (H : ∀ t M, t < 512 → RG M → J t M → zcI d a (zA 29 :: as) M (fun x M1 => zcI d b (zA 113 :: as) M1 (fun y M2 => x = y ∧ J (t + 1) M2))) : lx_stI InvH d a b (zms as) := by
  rintro t h ht ⟨g, M, rfl, R, hJ⟩
  obtain ⟨r, M1, e1, o1, R1, k1⟩ := H t M ht R hJ g R (oks.cons trivial has)
  match r, k1, e1 with
  | some (.inl x), k1, e1 =>
    obtain ⟨r2, M2, e2, o2, R2, k2⟩ := k1 g R1 (oks.cons trivial has)
    match r2, k2, e2 with
    | some (.inl y), k2, e2 =>
      obtain ⟨rfl, hJ2⟩ := k2
      exact ⟨zi x, hp g M1, hp g M2, e1, e2, ⟨rfl, rfl⟩, g, M2, rfl, R2, hJ2⟩
theorem zst_L {d a b : Nat} {as : List ZV} (has : oks as) (H : ∀ t M, t < 512 → RG M → J t M → zcL d a (zA 29 :: as) M (fun x M1 => zcL d b (zA 113 :: as) M1 (fun y M2 => x = y ∧ J (t + 1) M2))) : lx_stL InvH d a b (zms as) := by
  rintro t h ht ⟨g, M, rfl, R, hJ⟩
  obtain ⟨r, M1, e1, o1, R1, k1⟩ := H t M ht R hJ g R (oks.cons trivial has)
  match r, k1, e1 with
  | some (.inr (.inl x)), k1, e1 =>
    obtain ⟨r2, M2, e2, o2, R2, k2⟩ := k1 g R1 (oks.cons trivial has)
    match r2, k2, e2 with
    | some (.inr (.inl y)), k2, e2 =>
      obtain ⟨rfl, hJ2⟩ := k2
      exact ⟨zl x, hp g M1, hp g M2, e1, e2, ⟨rfl, rfl⟩, g, M2, rfl, R2, hJ2⟩
theorem zup_row {M : ZM} {a b : Nat} {j x : Int} (h : b ≠ a) : zup M a j x b = M b := by
  funext i
  exact zup_ne (fun q => h q.1)
theorem zcp_row {M : ZM} {a b c : Nat} {sp dp n : Int} (h : c ≠ b) : zcp M a sp b dp n c = M c := by
  funext i
  exact zcp_ne (fun q => h q.1)
/-- places that no call asks of the next one -/
def scr (b : Nat) (i : Int) : Bool := (Nat.ble 31 b && Nat.ble b 42) || ((Nat.ble 87 b && Nat.ble b 109) || ((Nat.ble 120 b && Nat.ble b 138) || (Nat.beq b 113 && ((decide (11 ≤ i) && decide (i ≤ 26)) || (decide (30 ≤ i) && decide (i ≤ 45) || decide (48 ≤ i))))))
def fr (M M' : ZM) : Prop := ∀ b i, scr b i = false → M' b i = M b i
theorem fr.rf {M : ZM} : fr M M := fun _ _ _ => rfl
theorem fr.tr {M M1 M2 : ZM} (h1 : fr M M1) (h2 : fr M1 M2) : fr M M2 := fun b i h => (h2 b i h).trans (h1 b i h)
theorem fr.up {M : ZM} {a : Nat} {j x : Int} (h : scr a j = true) : fr M (zup M a j x) := fun b i hb => zup_ne (fun q => by rw [q.1, q.2, h] at hb; cases hb)
theorem fr.row {M M' : ZM} (h : fr M M') (b : Nat) (hb : ((Nat.ble 31 b && Nat.ble b 42) || ((Nat.ble 87 b && Nat.ble b 109) || ((Nat.ble 120 b && Nat.ble b 138) || Nat.beq b 113))) = false) : M' b = M b := by
  funext i
  apply h
  simp only [Bool.or_eq_false_iff] at hb
  unfold scr
  rw [hb.1, hb.2.1, hb.2.2.1, hb.2.2.2]
  rfl
theorem fr.f {M M' : ZM} (h : fr M M') (i : Int) (hi : ((decide (11 ≤ i) && decide (i ≤ 26)) || (decide (30 ≤ i) && decide (i ≤ 45) || decide (48 ≤ i))) = false) : M' 113 i = M 113 i := by
  apply h
  unfold scr
  rw [hi]
  rfl
theorem fr.bk {M M' : ZM} (h : fr M M') {K : Int → Int} {a : Nat} (ha : a = 44 ∨ a = 59 ∨ a = 73) (hb : BK K (bL M a)) : BK K (bL M' a) := by
  refine hb.congr (fun j hj => ?_)
  show M' (a + j) = M (a + j)
  funext i
  apply h
  unfold scr
  have e1 : Nat.ble (a + j) 42 = false := by
    cases hq : Nat.ble (a + j) 42 with
    | false => rfl
    | true => have := Nat.le_of_ble_eq_true hq; omega
  have e2 : Nat.ble 87 (a + j) = false := by
    cases hq : Nat.ble 87 (a + j) with
    | false => rfl
    | true => have := Nat.le_of_ble_eq_true hq; omega
  have e3 : Nat.ble 120 (a + j) = false := by
    cases hq : Nat.ble 120 (a + j) with
    | false => rfl
    | true => have := Nat.le_of_ble_eq_true hq; omega
  have e4 : Nat.beq (a + j) 113 = false := by
    cases hq : Nat.beq (a + j) 113 with
    | false => rfl
    | true => have := Nat.eq_of_beq_eq_true hq; omega
  rw [e1, e2, e3, e4]
  simp
def JV (M : ZM) : Prop := (-1 ≤ M 113 26 ∧ M 113 26 ≤ M 113 1) ∧ (M 113 26 = M 113 1 → ∀ p s, 0 ≤ p → p < M 115 182 → 0 ≤ s → s ≤ 10 → M 126 (11 * p + s) = if M 115 (10 * p) = 3 then EW M p s else 0)
theorem fr.ew {M M' : ZM} (h : fr M M') (p s : Int) : EW M' p s = EW M p s := by
  unfold EW tTell
  show (if M' 52 p < M' 53 p ∧ tRun (M' 54) (mEnv s p (M' 115 179)) (M' 53 p) 401 (M' 52 p) [] ≠ 1 then 0 else if tRun (M' 54) (mEnv s p (M' 115 179)) (M' 52 p) 401 (M' 51 p) [] = NOTH then 0 else max (-999) (min 999 (tRun (M' 54) (mEnv s p (M' 115 179)) (M' 52 p) 401 (M' 51 p) []))) = _
  rw [h.row 51 rfl, h.row 52 rfl, h.row 53 rfl, h.row 54 rfl, h.row 115 rfl]
/-- a call that only tells -/
theorem J.frame {t : Nat} {M M' : ZM} (h : J t M) (f : fr M M') (hF : JF M') (hV : JV M') : J (t + 1) M' := by
  obtain ⟨h1, h2, h3, h4, h5, h6, h7, h8⟩ := h
  refine ⟨?_, ?_, ?_, ?_, ?_, ?_, ?_, hF⟩
  · unfold JT at *
    rw [f.row 29 rfl, f.row 30 rfl, f.row 119 rfl, f.f 9 rfl, f.f 10 rfl]
    exact h1
  · unfold JR at *
    rw [f.row 29 rfl, f.row 112 rfl, f.row 114 rfl, f.f 0 rfl]
    obtain ⟨a, b, c, d, e⟩ := h2
    refine ⟨a, ⟨b.1, b.2.1, by omega⟩, ⟨c.1, c.2.1, by omega⟩, ⟨d.1, d.2.1, by omega⟩, ⟨e.1, e.2.1, by omega⟩⟩
  · rw [f.row 115 rfl]
    exact f.bk (Or.inl rfl) h3
  · unfold JI at *
    rw [f.row 86 rfl, f.row 117 rfl, f.row 116 rfl]
    exact ⟨h4.1, h4.2.1, fun q => f.bk (Or.inr (Or.inl rfl)) (h4.2.2.1 q), fun q => f.bk (Or.inr (Or.inr rfl)) (h4.2.2.2 q)⟩
  · unfold JP at *
    rw [f.row 110 rfl, f.row 111 rfl, f.row 139 rfl, f.f 46 rfl, f.f 47 rfl]
    exact h5
  · unfold JW at *
    refine ⟨?_, hV⟩
    rw [f.f 1 rfl]
    exact ⟨h6.1.1, by omega⟩
  · unfold JX at *
    rw [f.row 118 rfl, f.f 29 rfl]
    exact h7
theorem J.jv {t : Nat} {M : ZM} (h : J t M) : JV M := h.2.2.2.2.2.1.2
theorem J.jf {t : Nat} {M : ZM} (h : J t M) : JF M := h.2.2.2.2.2.2.2
theorem JF.fr {M M' : ZM} (h : JF M) (e : M' 106 = M 106) : JF M' := by
  unfold JF at *
  rw [e]
  exact h
theorem JV.fr {M M' : ZM} (h : JV M) (f : fr M M') (e : M' 126 = M 126) (e2 : M' 113 26 = M 113 26) : JV M' := by
  unfold JV at *
  rw [e, e2, f.f 1 rfl, f.row 115 rfl]
  refine ⟨h.1, fun q p s a b c d => ?_⟩
  rw [h.2 q p s a b c d, f.ew]
