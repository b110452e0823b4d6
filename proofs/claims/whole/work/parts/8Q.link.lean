/-! the class's TOKENS by the reference's codes -/
theorem wd_inj : ∀ a < 13, ∀ b < 13, (wd a).length = (wd b).length → (∀ i < (wd a).length, (wd a).getD i 0 = (wd b).getD i 0) → a = b := by decide +kernel
theorem rno_ok : ∀ a < 13, 1 ≤ rno a ∧ rno a ≤ 13 ∧ ∃ n < 13, ord n = a ∧ rno a = (n : Int) + 1 := by decide +kernel
theorem WM_uniq {T : Int → Int} {f e : Int} {a b : Nat} (ha : a < 13) (hb : b < 13) (h1 : WM T f e (wd a)) (h2 : WM T f e (wd b)) : a = b := by
  have hl : (wd a).length = (wd b).length := by have := h1.1; have := h2.1; omega
  exact wd_inj a ha b hb hl (fun i hi => by rw [← h1.2 i hi, ← h2.2 i (by omega)])
theorem wSeek_v {T : Int → Int} {f e : Int} : ∀ m n : Nat, n + m = 13 → (∃ k < 13, n ≤ k ∧ WM T f e (wd (ord k)) ∧ wSeek T f e m n = (k : Int) + 1) ∨ ((∀ k < 13, n ≤ k → ¬ WM T f e (wd (ord k))) ∧ wSeek T f e m n = 0) := by
  intro m
  induction m with
  | zero => intro n hn; exact Or.inr ⟨fun k hk h => by omega, rfl⟩
  | succ m ih =>
    intro n hn
    have e1 : wSeek T f e (m + 1) n = if WM T f e (wd (ord n)) then (n : Int) + 1 else wSeek T f e m (n + 1) := rfl
    by_cases h : WM T f e (wd (ord n))
    · rw [e1, if_pos h]
      exact Or.inl ⟨n, by omega, Nat.le_refl _, h, rfl⟩
    · rw [e1, if_neg h]
      rcases ih (n + 1) (by omega) with ⟨k, k1, k2, k3, k4⟩ | ⟨g1, g2⟩
      · exact Or.inl ⟨k, k1, by omega, k3, k4⟩
      · refine Or.inr ⟨fun k hk hn' => ?_, g2⟩
        by_cases q : k = n
        · rw [q]; exact h
        · exact g1 k hk (by omega)
theorem wNo_v {T : Int → Int} {f e : Int} {a : Nat} (ha : a < 13) : (wNo T f e = rno a ↔ WM T f e (wd a)) ∧ 0 ≤ wNo T f e ∧ wNo T f e ≤ 13 := by
  obtain ⟨r1, r2, n, hn, on, rn⟩ := rno_ok a ha
  rcases wSeek_v (T := T) (f := f) (e := e) 13 0 rfl with ⟨k, k1, -, k3, k4⟩ | ⟨g1, g2⟩
  · have k4 : wNo T f e = (k : Int) + 1 := k4
    refine ⟨⟨fun h => ?_, fun h => ?_⟩, by omega, by omega⟩
    · have : k = n := by omega
      rw [this, on] at k3
      exact k3
    · have := WM_uniq (ord_ok k k1).1 ha k3 h
      rw [k4, ← this, (ord_ok k k1).2.1]
  · have g2 : wNo T f e = 0 := g2
    refine ⟨⟨fun h => by omega, fun h => ?_⟩, by omega, by omega⟩
    exact absurd (by rw [on]; exact h) (g1 n hn (by omega))
theorem z255 {x : Int} (h0 : -128 ≤ x) (h1 : x ≤ 127) : 0 ≤ zand x 255 ∧ zand x 255 ≤ 255 := by
  have : ∀ j : Nat, j < 256 → 0 ≤ zand ((j : Int) - 128) 255 ∧ zand ((j : Int) - 128) 255 ≤ 255 := by decide +kernel
  have q := this (x + 128).toNat (by omega)
  rw [show ((x + 128).toNat : Int) - 128 = x by omega] at q
  exact q
/-- bytes -/
def BYT (T : Int → Int) (L : Int) : Prop := (0 ≤ L ∧ L ≤ 400) ∧ ∀ i, 0 ≤ i → i < L → -128 ≤ T i ∧ T i ≤ 127
theorem tk_sign {T : Int → Int} {L f q : Int} (hB : BYT T L) (f0 : 0 ≤ f) (q0 : 0 ≤ q) : (tK T L f = 2 ∧ tV T L f = q) ↔ tC T L f = 100 + q := by
  unfold tK tV tC
  by_cases h : f < L
  · rw [if_pos h, if_pos h, if_pos h]
    have z := z255 (hB.2 f f0 h).1 (hB.2 f f0 h).2
    by_cases l : lB (T f) = true
    · rw [if_pos l, if_pos l, if_pos l]
      have := (wNo_v (T := T) (f := f) (e := tE T L f) (a := 0) (by decide)).2
      omega
    · rw [if_neg l, if_neg l, if_neg l]
      by_cases d : dB (T f) = true
      · rw [if_pos d, if_pos d, if_pos d]; omega
      · rw [if_neg d, if_neg d, if_neg d]; omega
  · rw [if_neg h, if_neg h, if_neg h]; omega
theorem tk_word {T : Int → Int} {L f : Int} {a : Nat} (hB : BYT T L) (f0 : 0 ≤ f) (ha : a < 13) : (tK T L f = 0 ∧ WM T f (tE T L f) (wd a)) ↔ tC T L f = rno a := by
  have r := rno_ok a ha
  have w := wNo_v (T := T) (f := f) (e := tE T L f) ha
  unfold tK tC
  by_cases h : f < L
  · rw [if_pos h, if_pos h]
    have z := z255 (hB.2 f f0 h).1 (hB.2 f f0 h).2
    by_cases l : lB (T f) = true
    · rw [if_pos l, if_pos l]
      exact ⟨fun y => w.1.mpr y.2, fun y => ⟨rfl, w.1.mp y⟩⟩
    · rw [if_neg l, if_neg l]
      by_cases d : dB (T f) = true
      · rw [if_pos d, if_pos d]; exact ⟨fun y => by omega, fun y => by omega⟩
      · rw [if_neg d, if_neg d]; exact ⟨fun y => by omega, fun y => by omega⟩
  · rw [if_neg h, if_neg h]; exact ⟨fun y => by omega, fun y => by omega⟩
theorem tk_num {T : Int → Int} {L f : Int} (hB : BYT T L) (f0 : 0 ≤ f) : (tK T L f = 1 ↔ tC T L f = 50) ∧ (tK T L f = 1 → tV T L f = min 9999 (tN T L f)) ∧ (tK T L f = 0 → tV T L f = 0) ∧ (tK T L f = 3 ↔ L ≤ f) := by
  unfold tK tV tC tN
  by_cases h : f < L
  · rw [if_pos h, if_pos h, if_pos h, if_pos h]
    have z := z255 (hB.2 f f0 h).1 (hB.2 f f0 h).2
    by_cases l : lB (T f) = true
    · rw [if_pos l, if_pos l, if_pos l, if_pos l]
      have := (wNo_v (T := T) (f := f) (e := tE T L f) (a := 0) (by decide)).2
      omega
    · rw [if_neg l, if_neg l, if_neg l, if_neg l]
      by_cases d : dB (T f) = true
      · rw [if_pos d, if_pos d, if_pos d, if_pos d]
        exact ⟨⟨fun _ => rfl, fun _ => rfl⟩, fun _ => rfl, fun y => by omega, ⟨fun y => by omega, fun y => by omega⟩⟩
      · rw [if_neg d, if_neg d, if_neg d, if_neg d]; omega
  · rw [if_neg h, if_neg h, if_neg h, if_neg h]; omega
/-- the class stands at TOKEN i -/
def CAT (T : Int → Int) (L : Int) (i : Nat) (M : ZM) : Prop := M 30 = T ∧ M 42 2 = L ∧ M 42 3 = tP T L i ∧ M 42 4 = tS T L (i + 1) ∧ M 42 5 = tK T L (tP T L i) ∧ M 42 6 = tV T L (tP T L i)
/-- .. and goes on by one -/
def ADV (T : Int → Int) (L : Int) (i : Nat) (M M' : ZM) : Prop := (∀ x, x ≠ 42 → M' x = M x) ∧ (∀ j, j ≠ 3 → j ≠ 4 → j ≠ 5 → j ≠ 6 → M' 42 j = M 42 j) ∧ CAT T L i M'
section LK
variable {T : Int → Int} {L : Int} {i : Nat} {M : ZM} {d : Nat}
theorem CAT.cg (h : CAT T L i M) {M' : ZM} (e : M' 30 = M 30) (e2 : ∀ j, 2 ≤ j → j ≤ 6 → M' 42 j = M 42 j) : CAT T L i M' := by
  unfold CAT at *
  rw [e, e2 2 (by omega) (by omega), e2 3 (by omega) (by omega), e2 4 (by omega) (by omega), e2 5 (by omega) (by omega), e2 6 (by omega) (by omega)]
  exact h
theorem c_adv (hB : BYT T L) (hS : CAT T L i M) {Q : ZM → Prop} (hQ : ∀ M', ADV T L (i + 1) M M' → Q M') : zcV (d + 2) 68 [zA 42] M Q := by
  obtain ⟨s0, s1, s2, s3, s4, s5⟩ := hS
  have r := tS_rg T hB.1.1 (i + 1)
  subst s0
  exact c_advance s1 hB.1.2 s3 r.1 r.2.1 (fun M' r' k' e3 e4 e5 e6 => hQ M' ⟨r', k', r' 30 (by decide), by rw [k' 2 (by omega) (by omega) (by omega) (by omega)]; exact s1, e3, e4, e5, e6⟩)
theorem c_isSignT (hB : BYT T L) (hS : CAT T L i M) {q : Int} (q0 : 0 ≤ q) {Q : Int → ZM → Prop} (h1 : tC T L (tP T L i) = 100 + q → Q 1 M) (h0 : tC T L (tP T L i) ≠ 100 + q → Q 0 M) : zcI (d + 1) 63 [zA 42, zI q] M Q := by
  obtain ⟨s0, s1, s2, s3, s4, s5⟩ := hS
  have r := tS_rg T hB.1.1 i
  have k := tk_sign (f := tP T L i) (q := q) hB (by omega) q0
  apply vX5_isSign
  rw [s4, s5]
  exact ⟨fun z => ⟨Or.inl rfl, h0 (fun y => z (k.mpr y).1)⟩, fun z => ⟨fun y => ⟨Or.inl rfl, h0 (fun w => y (k.mpr w).2)⟩, fun y => ⟨Or.inr rfl, h1 (k.mp ⟨z, y⟩)⟩⟩⟩
theorem c_takeSignT (hB : BYT T L) (hS : CAT T L i M) {q : Int} (q0 : 0 ≤ q) {Q : Int → ZM → Prop} (h1 : tC T L (tP T L i) = 100 + q → ∀ M', ADV T L (i + 1) M M' → Q 1 M') (h0 : tC T L (tP T L i) ≠ 100 + q → Q 0 M) : zcI (d + 3) 64 [zA 42, zI q] M Q := by
  apply vX5_takeSign
  exact c_isSignT hB hS q0 (fun z => ⟨fun y => by omega, fun _ => c_adv hB hS (fun M' a => ⟨Or.inr rfl, h1 z M' a⟩)⟩) (fun z => ⟨fun _ => ⟨Or.inl rfl, h0 z⟩, fun y => absurd rfl y⟩)
theorem c_isWordT (hB : BYT T L) (hS : CAT T L i M) {a : Nat} (ha : a < 13) {Q : Int → ZM → Prop} (h1 : tC T L (tP T L i) = rno a → Q 1 M) (h0 : tC T L (tP T L i) ≠ rno a → Q 0 M) : zcI (d + 4) 65 [zA 42, zA a] M Q := by
  obtain ⟨s0, s1, s2, s3, s4, s5⟩ := hS
  have r := tS_rg T hB.1.1 i
  have r1 := tS_rg T hB.1.1 (i + 1)
  have hb := hB.1.2
  have e : tS T L (i + 1) = tE T L (tP T L i) := rfl
  have g := (tE_rg T (L := L) (f := tP T L i)).1
  have k := tk_word (f := tP T L i) hB (by omega) ha
  refine c_isWord ha (by rw [s2]; omega) (by rw [s2, s3, e]; exact g) (by rw [s3]; omega) (fun y w => h1 (k.mp ?_)) (fun no => h0 (fun y => no ?_))
  · rw [s4] at y
    rw [s0, s2, s3, e] at w
    exact ⟨y, w⟩
  · rw [s0, s2, s3, s4, e]
    exact k.mpr y
theorem c_takeWordT (hB : BYT T L) (hS : CAT T L i M) {a : Nat} (ha : a < 13) {Q : Int → ZM → Prop} (h1 : tC T L (tP T L i) = rno a → ∀ M', ADV T L (i + 1) M M' → Q 1 M') (h0 : tC T L (tP T L i) ≠ rno a → Q 0 M) : zcI (d + 5) 66 [zA 42, zA a] M Q := by
  apply vX5_takeWord
  exact c_isWordT hB hS ha (fun z => ⟨fun y => by omega, fun _ => c_adv hB hS (fun M' b => ⟨Or.inr rfl, h1 z M' b⟩)⟩) (fun z => ⟨fun _ => ⟨Or.inl rfl, h0 z⟩, fun y => absurd rfl y⟩)
theorem c_takeNumberT (hB : BYT T L) (hS : CAT T L i M) {lo hi : Int} (hi1 : hi ≤ 1000) {Q : Int → ZM → Prop} (h1 : tC T L (tP T L i) = 50 → lo ≤ tN T L (tP T L i) → tN T L (tP T L i) ≤ hi → ∀ M', ADV T L (i + 1) M M' → Q 1 M') (h0 : ¬ (tC T L (tP T L i) = 50 ∧ lo ≤ tN T L (tP T L i) ∧ tN T L (tP T L i) ≤ hi) → Q 0 M) (lo1 : lo ≤ 9999) : zcI (d + 3) 67 [zA 42, zI lo, zI hi] M Q := by
  obtain ⟨s0, s1, s2, s3, s4, s5⟩ := id hS
  have r := tS_rg T hB.1.1 i
  obtain ⟨k1, k2, k3, k4⟩ := tk_num (f := tP T L i) hB (by omega)
  have no : ¬ (tC T L (tP T L i) = 50 ∧ lo ≤ tN T L (tP T L i) ∧ tN T L (tP T L i) ≤ hi) → wX5_takeNumber (d + 2) 28 [(0, zA 42)] M Q := by
    intro h
    apply vX5_takeNumber_28
    exact ⟨fun _ => ⟨Or.inl rfl, h0 h⟩, fun z => absurd rfl z⟩
  apply vX5_takeNumber
  rw [s4, s5]
  refine ⟨fun z => no (fun y => z (k1.mpr y.1)), fun z => ?_⟩
  have kv := k2 z
  rw [kv]
  exact ⟨fun y => no (fun w => by omega), fun y => ⟨fun x => no (fun w => by omega), fun x => ⟨fun w => by omega, fun _ => c_adv hB hS (fun M' a => ⟨Or.inr rfl, h1 (k1.mp z) (by omega) (by omega) M' a⟩)⟩⟩⟩
end LK
