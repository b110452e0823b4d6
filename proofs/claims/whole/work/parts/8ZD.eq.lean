/-! the TOKENS of a TEXT as two rows; what code tells -/
theorem rnn_in {p : Int → Bool} {T : Int → Int} {L : Int} : ∀ (n : Nat) (k : Int), (L - k).toNat = n → ∀ x, k ≤ x → x < rnn p T L k → p (T x) = true := by
  intro n
  induction n with
  | zero =>
    intro k hk x x0 x1
    rw [rnn_eq, if_neg (by omega)] at x1
    omega
  | succ n ih =>
    intro k hk x x0 x1
    rw [rnn_eq] at x1
    by_cases h : k < L ∧ p (T k) = true
    · rw [if_pos h] at x1
      by_cases e : x = k
      · rw [e]; exact h.2
      · exact ih (k + 1) (by omega) x (by omega) x1
    · rw [if_neg h] at x1; omega
theorem tN_rg {T : Int → Int} {L f : Int} : 0 ≤ tN T L f ∧ tN T L f ≤ 10000009 := by
  unfold tN
  by_cases h : f < L
  · rw [if_pos h]
    by_cases l : lB (T f) = true
    · rw [if_pos l]; omega
    · rw [if_neg l]
      by_cases d : dB (T f) = true
      · rw [if_pos d]
        refine vN_nn (L := L) _ (fun k hk => ?_)
        have e : tE T L f = rnn dB T L f := by unfold tE; rw [if_pos h, if_neg l, if_pos d]
        rw [e] at hk
        have := rnn_in (p := dB) (T := T) (L := L) _ f rfl (f + k) (by omega) (by omega)
        unfold dB at this
        have := of_decide_eq_true this
        exact this
      · rw [if_neg d]; omega
  · rw [if_neg h]; omega
theorem tP_end {T : Int → Int} {L : Int} {t : Nat} (h : tP T L t = L) : ∀ k : Nat, tP T L (t + k) = L := by
  intro k
  induction k with
  | zero => exact h
  | succ k ih =>
    show rnn bB T L (tE T L (tP T L (t + k))) = L
    rw [ih]
    have e : tE T L L = L := by unfold tE; rw [if_neg (by omega)]
    rw [e, rnn_eq, if_neg (by omega)]
def cF (T : Int → Int) (L t : Int) : Int → Int := fun i => if 0 ≤ i ∧ i < t then tC T L (tP T L i.toNat) else 0
def vF (T : Int → Int) (L t : Int) : Int → Int := fun i => if 0 ≤ i ∧ i < t then tN T L (tP T L i.toNat) else 0
section TK
variable {T T' : Int → Int} {L : Int} {t : Nat}
theorem cF_end (h : tP T L t = L) {i : Int} (hi : (t : Int) ≤ i) : tP T L i.toNat = L ∧ tC T L (tP T L i.toNat) = 0 ∧ tN T L (tP T L i.toNat) = 0 := by
  have e := tP_end h (i.toNat - t)
  rw [show t + (i.toNat - t) = i.toNat by omega] at e
  rw [e]
  refine ⟨rfl, ?_, ?_⟩
  · unfold tC; rw [if_neg (by omega)]
  · unfold tN; rw [if_neg (by omega)]
theorem cF_tkc (hB : BYT T L) (tL : (t : Int) ≤ L) : TKC (cF T L t) (vF T L t) t := by
  have := hB.1
  refine ⟨by omega, fun i hi => if_neg (by omega), fun i i0 i1 => ?_⟩
  unfold vF
  by_cases h : 0 ≤ i ∧ i < (t : Int)
  · rw [if_pos h]; exact tN_rg
  · rw [if_neg h]; omega
theorem cF_cvt (hB : BYT T L) (h : tP T L t = L) (ag : ∀ i, 0 ≤ i → i < L → T' i = T i) : CVT T' L (cF T L t) (vF T L t) := by
  intro i i0
  have r := tS_rg T hB.1.1 i.toNat
  rw [(tS_cg hB.1.1 ag i.toNat).2, (tC_cg (f := tP T L i.toNat) (by omega) ag).1, (tC_cg (f := tP T L i.toNat) (by omega) ag).2]
  unfold cF vF
  by_cases z : 0 ≤ i ∧ i < (t : Int)
  · rw [if_pos z, if_pos z]; exact ⟨rfl, rfl⟩
  · rw [if_neg z, if_neg z]
    have := cF_end h (i := i) (by omega)
    exact ⟨this.2.1.symm, this.2.2.symm⟩
theorem cF_fin (hB : BYT T L) (h : tP T L t = L) (lt : ∀ i : Nat, i < t → tP T L i < L) (ag : ∀ i, 0 ≤ i → i < L → T' i = T i) : ∀ j : Int, 0 ≤ j → (tK T' L (tP T' L j.toNat) = 3 ↔ (t : Int) ≤ j) := by
  intro j j0
  have r := tS_rg T hB.1.1 j.toNat
  rw [(tS_cg hB.1.1 ag j.toNat).2]
  have hB' : BYT T' L := ⟨hB.1, fun i a b => by rw [ag i a b]; exact hB.2 i a b⟩
  rw [(tk_num (f := tP T L j.toNat) hB' (by omega)).2.2.2]
  constructor
  · intro w
    by_cases z : (t : Int) ≤ j
    · exact z
    · have := lt j.toNat (by omega); omega
  · intro w
    rw [(cF_end h w).1]
    exact Int.le_refl _
end TK
theorem tRun_fuel2 {co e : Int → Int} {to : Int} : ∀ (k k' : Nat) (i : Int) (st : List Int), 400 - i ≤ k → 400 - i ≤ k' → tRun co e to (k + 1) i st = tRun co e to (k' + 1) i st := by
  intro k
  induction k with
  | zero =>
    intro k' i st h h'
    unfold tRun
    rw [if_neg (by omega), if_neg (by omega)]
  | succ k ih =>
    intro k' i st h h'
    by_cases hi : i < to ∧ i < 400
    · obtain ⟨k', rfl⟩ : ∃ m, k' = m + 1 := ⟨k' - 1, by omega⟩
      have nx : ∀ (j : Int) (s : List Int), i < j → tRun co e to (k + 1) j s = tRun co e to (k' + 1) j s := fun j s hj => ih k' j s (by omega) (by omega)
      have e1 : ∀ s, tRun co e to (k + 1) (i + 1) s = tRun co e to (k' + 1) (i + 1) s := fun s => nx _ s (by omega)
      have e2 : ∀ s, tRun co e to (k + 1) (max i (co i / 16 - 1) + 1) s = tRun co e to (k' + 1) (max i (co i / 16 - 1) + 1) s := fun s => nx _ s (by omega)
      show (if i < to ∧ i < 400 then _ else _) = (if i < to ∧ i < 400 then _ else _)
      rw [if_pos hi, if_pos hi]
      split
      · rfl
      · split
        · exact e1 _
        · cases st with
          | nil => rfl
          | cons b st1 =>
            dsimp only
            split
            · cases st1 with
              | nil => rfl
              | cons a st2 =>
                dsimp only
                split
                · rfl
                · exact e1 _
            · split
              · exact e1 _
              · split <;> split <;> first | exact e2 _ | exact e1 _
    · show (if i < to ∧ i < 400 then _ else _) = (if i < to ∧ i < 400 then _ else _)
      rw [if_neg hi, if_neg hi]
theorem tRn_end {co e : Int → Int} {to i : Int} {st : List Int} (h : to ≤ i) : tRn co e to i st = st.getLastD NOTH := by
  unfold tRn tRun
  rw [if_neg (by omega)]
theorem tRun_cm {co e : Int → Int} {n0 n1 hg : Int} {f : ME} (h : CMS co n0 n1 hg f) (g : hg ≤ 32) (he : ENV e) (h4 : n1 ≤ 400) {co' : Int → Int} (ag : ∀ i, n0 ≤ i → i < n1 → co' i = co i) : tRun co' e n1 401 n0 [] = match f e with
  | none => NOTH
  | some x => x := by
  have r := h.rg
  have e1 : tRun co' e n1 401 n0 [] = tRn co' e n1 n0 [] := tRun_fuel2 400 _ n0 [] (by omega) (by omega)
  rw [e1, (h co' ag).2 e n1 [] he (Int.le_refl _) h4 (by show (0 : Int) + hg ≤ 32; omega)]
  cases f e with
  | none => rfl
  | some x => dsimp only; rw [tRn_end (Int.le_refl _)]; rfl
theorem CMS_ne {co : Int → Int} {n0 n1 hg : Int} {f : ME} (h : CMS co n0 n1 hg f) (g : hg ≤ 31) (h4 : n0 < 400) : n0 < n1 := by
  have r := h.rg
  by_cases z : n0 < n1
  · exact z
  · exfalso
    have e : n1 = n0 := by omega
    subst e
    have q := (h (fun _ => 11) (fun i a b => by omega)).2 (fun _ => 0) (n1 + 1) [0] (fun _ _ _ => ⟨show (0 : Int) ≤ 0 by decide, show (0 : Int) ≤ 20 by decide⟩) (by omega) (by omega) (by show ((1 : Nat) : Int) + hg ≤ 32; omega)
    have a : ∀ b st, (st.length : Int) < 31 → tRn (fun _ => 11) (fun _ => 0) (n1 + 1) n1 (b :: st) = ((1 - b) :: st).getLastD NOTH := fun b st hs => by
      rw [tRn_eq r.1 (by omega) h4, if_neg (by show ¬ 32 ≤ st.length + 1; omega), if_neg (by decide)]
      dsimp only
      rw [if_neg (by decide), if_pos (by decide), tRn_end (Int.le_refl _)]
    rw [a 0 [] (by decide)] at q
    cases hf : f (fun _ => 0) with
    | none => rw [hf] at q; exact absurd (show (1 : Int) = NOTH from q) (by decide)
    | some x =>
      rw [hf] at q
      dsimp only at q
      rw [a x [0] (by decide)] at q
      exact absurd (show (1 : Int) = 0 from q) (by decide)
theorem EQ_of {c v K : Int → Int} {L : LB} {f : Int → Int} {M : ZM} {p n1 : Int} (h : CE c v 5000 f M p n1) (n4 : n1 ≤ 400) (p0 : 0 ≤ p) (p1 : p ≤ 15) (ec : cTok K = c) (ev : vTok K = v) (e9 : K (10 * p + 9) = f 9) (e7 : L 7 p = M 38 p) (e8 : L 8 p = M 39 p) (e99 : L 9 p = M 40 p) (eC : ∀ i, 0 ≤ i → i < 400 → L 10 i = M 41 i) : EQ K L p := by
  obtain ⟨⟨u1, u2, u3, u4, u5⟩, lv, j, lv1, a, w1, w2, w3, w4⟩ := h
  have en : ∀ s d, 0 ≤ s → s ≤ 10 → 1 ≤ d → d ≤ 10 → ENV (mEnv s p d) := fun s d s0 s1 d0 d1 i i0 i1 => by
    unfold mEnv
    by_cases a : i = 0
    · rw [if_pos a]; omega
    · rw [if_neg a]
      by_cases b : i = 1
      · rw [if_pos b]; omega
      · rw [if_neg b]; omega
  have sm : ∀ s d, 0 ≤ s → s ≤ 10 → 1 ≤ d → d ≤ 10 → (if tRun (L 10) (mEnv s p d) (M 39 p) 401 (M 38 p) [] = NOTH then 0 else max (-999) (min 999 (tRun (L 10) (mEnv s p d) (M 39 p) 401 (M 38 p) []))) = (match a (mEnv s p d) with
      | none => 0
      | some x => max (-999) (min 999 x)) := fun s d s0 s1 d0 d1 => by
    have he := en s d s0 s1 d0 d1
    rw [tRun_cm w3 (by decide) he (by omega) (fun i a b => eC i (by omega) (by omega))]
    cases ha : a (mEnv s p d) with
    | none => rw [if_pos rfl]
    | some x =>
      have := w2 _ he x ha
      dsimp only
      rw [if_neg (by unfold NOTH; omega)]
  by_cases hj : c j = 7
  · rw [if_pos hj] at w4
    obtain ⟨j2, lv2, t, x1, x2, x3⟩ := w4
    refine ⟨⟨by omega, by omega, by omega⟩, mEnd a (some t), ⟨lv, j, lv1, a, ?_, ?_⟩, fun s d s0 s1 d0 d1 => ?_⟩
    · rw [ec, ev, e9]; exact w1
    · rw [ec, ev, if_pos hj]; exact ⟨j2, lv2, t, x1, rfl⟩
    · have he := en s d s0 s1 d0 d1
      have lt := CMS_ne x2 (by decide) x3
      have hy : tRun (L 10) (mEnv s p d) (M 40 p) 401 (M 39 p) [] = 1 ↔ t (mEnv s p d) = some 1 := by
        rw [tRun_cm x2 (by decide) he (by omega) (fun i a b => eC i (by omega) (by omega))]
        cases t (mEnv s p d) with
        | none => exact ⟨fun z => absurd z (by decide), fun z => by cases z⟩
        | some x => exact ⟨fun z => by have z : x = 1 := z; rw [z], fun z => by cases z; rfl⟩
      have mE : mEnd a (some t) (mEnv s p d) = if t (mEnv s p d) = some 1 then (match a (mEnv s p d) with
        | none => 0
        | some x => max (-999) (min 999 x)) else 0 := rfl
      unfold tTell
      rw [e7, e8, e99, sm s d s0 s1 d0 d1, mE]
      by_cases hx : t (mEnv s p d) = some 1
      · rw [if_neg (fun z => z.2 (hy.mpr hx)), if_pos hx]
      · rw [if_pos ⟨lt, fun z => hx (hy.mp z)⟩, if_neg hx]
  · rw [if_neg hj] at w4
    refine ⟨⟨by omega, by omega, by omega⟩, mEnd a none, ⟨lv, j, lv1, a, ?_, ?_⟩, fun s d s0 s1 d0 d1 => ?_⟩
    · rw [ec, ev, e9]; exact w1
    · rw [ec, if_neg hj]
    · have mE : mEnd a none (mEnv s p d) = (match a (mEnv s p d) with
        | none => 0
        | some x => max (-999) (min 999 x)) := if_pos rfl
      unfold tTell
      rw [e7, e8, e99, sm s d s0 s1 d0 d1, mE, if_neg (fun z => by omega)]
