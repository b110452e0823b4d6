/-! SUMS are small; where a reading ends -/
theorem pP_bdm (c v : Int → Int) : ∀ (n m : Nat) (dp i lv : Int) (h : ME) (j lv' : Int) (f : ME), 6 ≤ m → m ≤ 10 → (m = 7 ∨ m = 9 → BDM h) → pP c v n m dp i lv h = (j, lv', some f) → BDM f := by
  intro n
  induction n with
  | zero => intro m dp i lv h j lv' f _ _ _ H; cases H
  | succ n ih =>
    intro m dp i lv h j lv' f h6 h10 hh H
    rcases (by omega : m = 6 ∨ m = 7 ∨ m = 8 ∨ m = 9 ∨ m = 10) with rfl | rfl | rfl | rfl | rfl
    · rw [pP_6] at H
      obtain ⟨i1, lv1, h1, e1, e2⟩ := pB_some H
      exact ih 7 _ _ _ _ _ _ _ (by decide) (by decide) (fun _ => ih 8 _ _ _ _ _ _ _ (by decide) (by decide) (fun z => by omega) e1) e2
    · rw [pP_7] at H
      split at H
      · obtain ⟨i1, lv1, h1, e1, e2⟩ := pB_some H
        refine ih 7 _ _ _ _ _ _ _ (by decide) (by decide) (fun _ => ?_) e2
        refine BDM_two ?_ ?_ (hh (Or.inl rfl)) (ih 8 _ _ _ _ _ _ _ (by decide) (by decide) (fun z => by omega) e1)
        · split <;> omega
        · split <;> omega
      · cases H; exact hh (Or.inl rfl)
    · rw [pP_8] at H
      obtain ⟨i1, lv1, h1, e1, e2⟩ := pB_some H
      exact ih 9 _ _ _ _ _ _ _ (by decide) (by decide) (fun _ => ih 10 _ _ _ _ _ _ _ (by decide) (by decide) (fun z => by omega) e1) e2
    · rw [pP_9] at H
      split at H
      · obtain ⟨i1, lv1, h1, e1, e2⟩ := pB_some H
        refine ih 9 _ _ _ _ _ _ _ (by decide) (by decide) (fun _ => ?_) e2
        refine BDM_two ?_ ?_ (hh (Or.inr rfl)) (ih 10 _ _ _ _ _ _ _ (by decide) (by decide) (fun z => by omega) e1)
        · split <;> omega
        · split <;> omega
      · cases H; exact hh (Or.inr rfl)
    · rw [pP_10] at H
      split at H
      · split at H
        · cases H
        · obtain ⟨i1, lv1, h1, e1, e2⟩ := pB_some H
          split at e2
          · cases e2
            exact ih 6 _ _ _ _ _ _ _ (by decide) (by decide) (fun z => by omega) e1
          · cases e2
      · split at H
        · next hl =>
          split at H
          · cases H
          · cases H
            exact BDM_leaf hl
        · cases H
/-- what the TOKENS are for both -/
def TKC (c v : Int → Int) (t : Int) : Prop := (0 ≤ t ∧ t ≤ 400) ∧ (∀ i, t ≤ i → c i = 0) ∧ ∀ i, 0 ≤ i → i ≤ t → 0 ≤ v i ∧ v i ≤ 10000009
theorem pP_rg {c v : Int → Int} {T : Int} (h : TKC c v T) {n m : Nat} {dp i lv : Int} {hh : ME} (hm : m ≤ 10) (i0 : 0 ≤ i) (i1 : i ≤ T) (d0 : 0 ≤ dp) (d8 : dp ≤ 8) (l0 : 0 ≤ lv) (l1 : lv ≤ 50) (hn : 12 * (T + 1 - i) + rk m ≤ n) : rdG T i lv (pP c v n m dp i lv hh) := by
  refine (rd_all (M0 := fun x k => if x = 121 then c k else if x = 122 then v k else 0) (T := T) ⟨h.1, h.2.1, fun j j0 j1 => ⟨?_, ?_, ?_, h.2.2 j j0 j1⟩⟩ n m dp i lv hh hm i0 i1 d0 d8 l0 l1 hn).1
  · dsimp only; rw [if_pos rfl]
  · dsimp only; rw [if_neg (by decide), if_pos rfl]
  · dsimp only; rw [if_neg (by decide), if_neg (by decide)]; omega
theorem mNot2 (f : ME) : mNot (mNot f) = f := by
  funext e
  unfold mNot
  cases f e with
  | none => rfl
  | some a => dsimp only; rw [show 1 - (1 - a) = a by omega]
/-! texts that agree -/
theorem rnn_cg {p : Int → Bool} {T T' : Int → Int} {L : Int} : ∀ (n : Nat) (k : Int), (L - k).toNat = n → 0 ≤ k → (∀ i, 0 ≤ i → i < L → T' i = T i) → rnn p T' L k = rnn p T L k := by
  intro n
  induction n with
  | zero => intro k hk k0 h; rw [rnn_eq, rnn_eq p T, if_neg (by omega), if_neg (by omega)]
  | succ n ih =>
    intro k hk k0 h
    rw [rnn_eq, rnn_eq p T, h k k0 (by omega), ih (k + 1) (by omega) (by omega) h]
theorem tE_cg {T T' : Int → Int} {L f : Int} (f0 : 0 ≤ f) (h : ∀ i, 0 ≤ i → i < L → T' i = T i) : tE T' L f = tE T L f := by
  unfold tE
  by_cases c : f < L
  · rw [if_pos c, if_pos c, h f f0 c, rnn_cg _ f rfl f0 h, rnn_cg _ f rfl f0 h]
  · rw [if_neg c, if_neg c]
theorem tS_cg {T T' : Int → Int} {L : Int} (L0 : 0 ≤ L) (h : ∀ i, 0 ≤ i → i < L → T' i = T i) : ∀ i : Nat, tS T' L i = tS T L i ∧ tP T' L i = tP T L i := by
  intro i
  induction i with
  | zero => exact ⟨rfl, rnn_cg _ _ rfl (Int.le_refl _) h⟩
  | succ i ih =>
    have r := tS_rg T L0 i
    have r1 := tS_rg T L0 (i + 1)
    have e : tS T' L (i + 1) = tS T L (i + 1) := by
      show tE T' L (tP T' L i) = tE T L (tP T L i)
      rw [ih.2, tE_cg (by omega) h]
    refine ⟨e, ?_⟩
    unfold tP
    rw [e]
    exact rnn_cg _ _ rfl (by omega) h
theorem WM_cg {T T' : Int → Int} {L f e : Int} {w : List Int} (f0 : 0 ≤ f) (e1 : e ≤ L) (h : ∀ i, 0 ≤ i → i < L → T' i = T i) : WM T' f e w ↔ WM T f e w := by
  refine ⟨fun y => ⟨y.1, fun i hi => ?_⟩, fun y => ⟨y.1, fun i hi => ?_⟩⟩
  · rw [← y.2 i hi, h (f + i) (by omega) (by have := y.1; omega)]
  · rw [← y.2 i hi, h (f + i) (by omega) (by have := y.1; omega)]
theorem wNo_cg {T T' : Int → Int} {L f e : Int} (f0 : 0 ≤ f) (e1 : e ≤ L) (h : ∀ i, 0 ≤ i → i < L → T' i = T i) : wNo T' f e = wNo T f e := by
  have : ∀ m n : Nat, wSeek T' f e m n = wSeek T f e m n := by
    intro m
    induction m with
    | zero => intro n; rfl
    | succ m ih =>
      intro n
      show (if WM T' f e (wd (ord n)) then _ else _) = (if WM T f e (wd (ord n)) then _ else _)
      rw [ih]
      by_cases c : WM T f e (wd (ord n))
      · rw [if_pos c, if_pos ((WM_cg f0 e1 h).mpr c)]
      · rw [if_neg c, if_neg (fun z => c ((WM_cg f0 e1 h).mp z))]
  exact this 13 0
theorem vN_cg {T T' : Int → Int} {L f : Int} (f0 : 0 ≤ f) (h : ∀ i, 0 ≤ i → i < L → T' i = T i) : ∀ n : Nat, f + n ≤ L → vN T' f n = vN T f n := by
  intro n
  induction n with
  | zero => intro _; rfl
  | succ n ih =>
    intro hn
    rw [vN_s, vN_s, ih (by omega), h (f + n) (by omega) (by omega)]
theorem tC_cg {T T' : Int → Int} {L f : Int} (f0 : 0 ≤ f) (h : ∀ i, 0 ≤ i → i < L → T' i = T i) : tC T' L f = tC T L f ∧ tN T' L f = tN T L f := by
  unfold tC tN
  by_cases c : f < L
  · have r := (tE_rg T (L := L) (f := f)).2 c
    rw [if_pos c, if_pos c, if_pos c, if_pos c, tE_cg f0 h, h f f0 c, wNo_cg f0 r.2 h, vN_cg f0 h _ (by omega)]
    exact ⟨rfl, rfl⟩
  · rw [if_neg c, if_neg c, if_neg c, if_neg c]; exact ⟨rfl, rfl⟩
