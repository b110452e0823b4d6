/-! the TOKENS of the reference -/
/-- the reference's number of the class's word a -/
def rno (a : Nat) : Int := [1, 2, 3, 4, 5, 6, 11, 12, 13, 7, 10, 9, 8].getD a 0
/-- the class's word that the reference has n-th, and where it begins -/
def ord (n : Nat) : Nat := [0, 1, 2, 3, 4, 5, 9, 12, 11, 10, 6, 7, 8].getD n 0
def off (n : Nat) : Nat := [0, 5, 8, 13, 16, 20, 24, 27, 30, 34, 38, 43, 49, 53].getD n 53
theorem ord_ok : ∀ n < 13, ord n < 13 ∧ rno (ord n) = (n : Int) + 1 ∧ off (n + 1) = off n + (wd (ord n)).length + 1 ∧ off n + (wd (ord n)).length < 53 ∧ zwords.getD (off n + (wd (ord n)).length) 0 = 32 ∧ ∀ i < (wd (ord n)).length, zwords.getD (off n + i) 0 = (wd (ord n)).getD i 0 ∧ (wd (ord n)).getD i 0 ≠ 32 := by decide +kernel
def wSeek (T : Int → Int) (f e : Int) : Nat → Nat → Int
  | 0, _ => 0
  | m + 1, n => if WM T f e (wd (ord n)) then (n : Int) + 1 else wSeek T f e m (n + 1)
def wNo (T : Int → Int) (f e : Int) : Int := wSeek T f e 13 0
theorem m_wordOf {d : Nat} {M : ZM} {f e : Int} {Q : Int → ZM → Prop} (hX : ∀ i : Nat, i < 53 → M 118 i = zwords.getD i 0) (f0 : 0 ≤ f) (fe : f ≤ e) (e4 : e ≤ 400) (hQ : Q (wNo (M 119) f e) M) : zcI (d + 1) 163 [zA 113, zI f, zI e] M Q := by
  apply vX10_wordOf
  have l5 : ∀ (m n : Nat), n + m = 13 → wNo (M 119) f e = wSeek (M 119) f e m n → wX10_wordOf d 5 [(0, zA 113), (1, zI f), (2, zI e), (3, zI ((n : Int) + 1)), (4, zI (off n : Int))] M Q := by
    intro m
    induction m with
    | zero =>
      intro n hn hw
      obtain rfl : n = 13 := by omega
      apply vX10_wordOf_5
      rw [hw] at hQ
      exact ⟨fun _ => hQ, fun z => absurd (show (53 : Int) ≤ ((off 13 : Nat) : Int) by decide) z⟩
    | succ m ih =>
      intro n hn hw
      obtain ⟨o1, o2, o3, o4, o5, o6⟩ := ord_ok n (by omega)
      have hw' : wNo (M 119) f e = if WM (M 119) f e (wd (ord n)) then (n : Int) + 1 else wSeek (M 119) f e m (n + 1) := hw
      have nxt : ¬ WM (M 119) f e (wd (ord n)) → r32 (((wd (ord n)).length : Int) + 1) ∧ r32 ((off n : Int) + (((wd (ord n)).length : Int) + 1)) ∧ r32 ((n : Int) + 1 + 1) ∧ wX10_wordOf d 5 [(0, zA 113), (1, zI f), (2, zI e), (3, zI ((n : Int) + 1 + 1)), (4, zI ((off n : Int) + (((wd (ord n)).length : Int) + 1)))] M Q := by
        intro hno
        rw [if_neg hno] at hw'
        have := ih (n + 1) (by omega) hw'
        rw [o3, show ((n + 1 : Nat) : Int) = (n : Int) + 1 by omega, show ((off n + (wd (ord n)).length + 1 : Nat) : Int) = (off n : Int) + (((wd (ord n)).length : Int) + 1) by omega] at this
        exact ⟨⟨by omega, by omega⟩, ⟨by omega, by omega⟩, ⟨by omega, by omega⟩, this⟩
      have l57 : ∀ (k i : Nat) (sm : Int), i + k = (wd (ord n)).length → (sm = 0 ∨ sm = 1) → (sm = 1 → e - f = ((wd (ord n)).length : Int) ∧ ∀ j : Nat, j < i → M 119 (f + j) = (wd (ord n)).getD j 0) → (sm = 0 → ¬ WM (M 119) f e (wd (ord n))) → wX10_wordOf d 57 [(0, zA 113), (1, zI f), (2, zI e), (3, zI ((n : Int) + 1)), (4, zI (off n : Int)), (5, zI ((wd (ord n)).length : Int)), (6, zI sm), (7, zI (i : Int))] M Q := by
        intro k
        induction k with
        | zero =>
          intro i sm hi s01 s1 s0
          apply vX10_wordOf_57
          refine ⟨fun _ => ⟨fun z => nxt (s0 z), fun z => ?_⟩, fun z => by omega⟩
          have := s1 (by omega)
          rw [if_pos ⟨this.1, fun j hj => this.2 j (by omega)⟩] at hw'
          rw [hw'] at hQ
          exact hQ
        | succ k ihk =>
          intro i sm hi s01 s1 s0
          apply vX10_wordOf_57
          refine ⟨fun z => by omega, fun _ => ⟨fun z => ⟨fun _ => nxt (s0 z), fun y => absurd z y⟩, fun z => ?_⟩⟩
          have q := s1 (by omega)
          have x := hX (off n + i) (by omega)
          rw [(o6 i (by omega)).1] at x
          have x : M 118 ((off n : Int) + (i : Int)) = (wd (ord n)).getD i 0 := by rw [← x]; congr 1
          rw [x]
          refine ⟨⟨by omega, by omega⟩, ⟨by omega, by omega⟩, ⟨by omega, by omega⟩, ⟨by omega, by omega⟩, fun ne => ⟨⟨by omega, by omega⟩, ?_⟩, fun eq => ⟨⟨by omega, by omega⟩, ?_⟩⟩
          · have := ihk (i + 1) 0 (by omega) (Or.inl rfl) (fun z => by omega) (fun _ w => ne (w.2 i (by omega)).symm)
            rw [show ((i + 1 : Nat) : Int) = (i : Int) + 1 by omega] at this
            exact this
          · have := ihk (i + 1) 1 (by omega) (Or.inr rfl) (fun _ => ⟨q.1, fun j hj => by
              by_cases c : j = i
              · rw [c]; exact eq.symm
              · exact q.2 j (by omega)⟩) (fun z => by omega)
            rw [show ((i + 1 : Nat) : Int) = (i : Int) + 1 by omega] at this
            exact this
      have l18 : ∀ (k i : Nat), i + k = (wd (ord n)).length → wX10_wordOf d 18 [(0, zA 113), (1, zI f), (2, zI e), (3, zI ((n : Int) + 1)), (4, zI (off n : Int)), (5, zI (i : Int))] M Q := by
        intro k
        induction k with
        | zero =>
          intro i hi
          obtain rfl : i = (wd (ord n)).length := by omega
          have x := hX (off n + (wd (ord n)).length) o4
          rw [o5] at x
          have x : M 118 ((off n : Int) + ((wd (ord n)).length : Int)) = 32 := by rw [← x]; congr 1
          apply vX10_wordOf_18
          rw [x]
          exact ⟨⟨by omega, by omega⟩, ⟨by omega, by omega⟩, fun _ => ⟨⟨by omega, by omega⟩, fun ne => l57 (wd (ord n)).length 0 0 (by omega) (Or.inl rfl) (fun z => by omega) (fun _ w => ne w.1.symm), fun eq => l57 (wd (ord n)).length 0 1 (by omega) (Or.inr rfl) (fun _ => ⟨eq.symm, fun j hj => by omega⟩) (fun z => by omega)⟩, fun z => absurd rfl z⟩
        | succ k ihk =>
          intro i hi
          have x := hX (off n + i) (by omega)
          rw [(o6 i (by omega)).1] at x
          have x : M 118 ((off n : Int) + (i : Int)) = (wd (ord n)).getD i 0 := by rw [← x]; congr 1
          apply vX10_wordOf_18
          rw [x]
          refine ⟨⟨by omega, by omega⟩, ⟨by omega, by omega⟩, fun z => absurd z (o6 i (by omega)).2, fun _ => ⟨⟨by omega, by omega⟩, ?_⟩⟩
          have := ihk (i + 1) (by omega)
          rw [show ((i + 1 : Nat) : Int) = (i : Int) + 1 by omega] at this
          exact this
      apply vX10_wordOf_5
      exact ⟨fun z => by omega, fun _ => l18 (wd (ord n)).length 0 (by omega)⟩
  have := l5 13 0 (by omega) rfl
  exact this
/-- code and number of a TOKEN at f -/
def tC (T : Int → Int) (L f : Int) : Int := if f < L then (if lB (T f) = true then wNo T f (tE T L f) else if dB (T f) = true then 50 else 100 + zand (T f) 255) else 0
def tN (T : Int → Int) (L f : Int) : Int := if f < L then (if lB (T f) = true then 0 else if dB (T f) = true then vN T f (tE T L f - f).toNat else 0) else 0
def SPL (T : Int → Int) (L : Int) (M M' : ZM) (t : Nat) : Prop := (∀ x, x ≠ 113 → x ≠ 121 → x ≠ 122 → x ≠ 123 → M' x = M x) ∧ (∀ k, k ≠ 14 → M' 113 k = M 113 k) ∧ M' 113 14 = t ∧ (t : Int) ≤ L ∧ (∀ i : Nat, i < t → tP T L i < L) ∧ ∀ i : Nat, i < t → M' 123 i = tP T L i ∧ M' 121 i = tC T L (tP T L i) ∧ M' 122 i = tN T L (tP T L i)
theorem m_splits {d : Nat} {M : ZM} {L : Int} {Q : ZM → Prop} (hX : ∀ i : Nat, i < 53 → M 118 i = zwords.getD i 0) (L0 : 0 ≤ L) (L4 : L ≤ 400) (hb : ∀ i, 0 ≤ i → i < L → -128 ≤ M 119 i ∧ M 119 i ≤ 127) (hQ : ∀ M' t, SPL (M 119) L M M' t → tP (M 119) L t = L → M' 123 t = L → M' 121 t = 0 → M' 122 t = 0 → Q M') : zcV (d + 2) 164 [zA 113, zI L] M Q := by
  apply vX10_splits
  refine zset ?_
  have l7 : ∀ (n : Nat) (k : Int) (t : Nat) (M1 : ZM), (L - k).toNat = n → 0 ≤ k → k ≤ L → (t : Int) ≤ k → SPL (M 119) L M M1 t → tP (M 119) L t = rnn bB (M 119) L k → wX10_splits (d + 1) 7 [(0, zA 113), (1, zI L), (2, zI k)] M1 Q := by
    intro n
    induction n using Nat.strongRecOn with
    | ind n ih =>
      intro k t M1 hn k0 k1 tk hS hp
      obtain ⟨s1, s2, s3, s4, s5, s6⟩ := id hS
      have t119 : M1 119 = M 119 := s1 119 (by decide) (by decide) (by decide) (by decide)
      apply vX10_splits_7
      refine ⟨fun z => ?_, fun z => ⟨⟨by omega, by omega⟩, fun nb => ⟨⟨by omega, by omega⟩, ?_⟩, fun ib => ⟨⟨by omega, by omega⟩, ih (L - (k + 1)).toNat (by omega) (k + 1) t M1 rfl (by omega) (by omega) (by omega) hS ?_⟩⟩⟩
      · obtain rfl : k = L := by omega
        have pk : tP (M 119) k t = k := by rw [hp, rnn_eq, if_neg (by omega)]
        rw [s3]
        refine ⟨⟨by omega, by omega⟩, zset ?_⟩
        rw [zup_row (by decide), s3]
        refine ⟨⟨by omega, by omega⟩, zset ?_⟩
        rw [zup_row (by decide), zup_row (by decide), s3]
        refine ⟨⟨by omega, by omega⟩, zset (hQ _ t ⟨fun x h1 h2 h3 h4 => by rw [zup_row h3, zup_row h2, zup_row h4, s1 x h1 h2 h3 h4], fun j hj => by rw [zup_row (by decide), zup_row (by decide), zup_row (by decide), s2 j hj], by rw [zup_row (by decide), zup_row (by decide), zup_row (by decide), s3], s4, s5, fun i hi => ⟨?_, ?_, ?_⟩⟩ pk ?_ ?_ ?_)⟩
        · rw [zup_row (by decide), zup_row (by decide), zup_at, if_neg (by omega)]; exact (s6 i hi).1
        · rw [zup_row (by decide), zup_at, if_neg (by omega), zup_row (by decide)]; exact (s6 i hi).2.1
        · rw [zup_at, if_neg (by omega), zup_row (by decide), zup_row (by decide)]; exact (s6 i hi).2.2
        · rw [zup_row (by decide), zup_row (by decide), zup_eq]
        · rw [zup_row (by decide), zup_eq]
        · rw [zup_eq]
      · -- a TOKEN at k
        rw [t119] at nb ⊢
        have pk : tP (M 119) L t = k := by rw [hp, rnn_eq, if_neg (fun y => nb (by have := y.2; unfold bB at this; exact of_decide_eq_true this))]
        have kl : k < L := by omega
        have hbk := hb k k0 kl
        have er := tE_rg (M 119) (L := L) (f := k)
        have eb := er.2 kl
        have sn : tS (M 119) L (t + 1) = tE (M 119) L k := by show tE (M 119) L (tP (M 119) L t) = _; rw [pk]
        -- with its end
        have k100 : wX10_splits (d + 1) 100 [(0, zA 113), (1, zI L), (2, zI k), (3, zI (M 119 k)), (4, zI (tE (M 119) L k))] M1 Q := by
          have fin : ∀ M2 : ZM, (∀ x, x ≠ 113 → x ≠ 121 → x ≠ 122 → x ≠ 123 → M2 x = M x) → (∀ j, M2 113 j = M1 113 j) → (∀ i : Nat, i < t → M2 123 i = M1 123 i ∧ M2 121 i = M1 121 i ∧ M2 122 i = M1 122 i) → M2 123 t = k → M2 121 t = tC (M 119) L k → M2 122 t = tN (M 119) L k → r32 (M2 113 14 + 1) ∧ ∀ M3, M3 = zup M2 113 14 (M2 113 14 + 1) → wX10_splits (d + 1) 7 [(0, zA 113), (1, zI L), (2, zI (tE (M 119) L k))] M3 Q := by
            intro M2 r2 q2 a2 e3 e1 e2
            rw [q2, s3]
            refine ⟨⟨by omega, by omega⟩, zset (ih (L - tE (M 119) L k).toNat (by omega) (tE (M 119) L k) (t + 1) _ rfl (by omega) eb.2 (by omega) ⟨fun x h1 h2 h3 h4 => by rw [zup_row h1, r2 x h1 h2 h3 h4], fun j hj => by rw [zup_at, if_neg hj, q2, s2 j hj], by rw [zup_eq]; omega, by omega, fun i hi => ?_, fun i hi => ?_⟩ ?_)⟩
            · by_cases c : i = t
              · rw [c, pk]; exact kl
              · exact s5 i (by omega)
            · rw [zup_row (by decide), zup_row (by decide), zup_row (by decide)]
              by_cases c : i = t
              · rw [c, pk]; exact ⟨e3, e1, e2⟩
              · have a := a2 i (by omega)
                rw [a.1, a.2.1, a.2.2]; exact s6 i (by omega)
            · unfold tP; rw [sn]
          apply vX10_splits_100
          rw [s3]
          refine ⟨⟨by omega, by omega⟩, zset ?_⟩
          rw [zup_row (by decide), s3]
          refine ⟨⟨by omega, by omega⟩, zset ?_⟩
          generalize hM2 : zup (zup M1 123 (t : Int) k) 122 (t : Int) 0 = M2
          have r2 : ∀ x, x ≠ 122 → x ≠ 123 → M2 x = M1 x := fun x h1 h2 => by rw [← hM2, zup_row h1, zup_row h2]
          have m3 : ∀ j, M2 123 j = if j = t then k else M1 123 j := fun j => by rw [← hM2, zup_row (by decide), zup_at]
          have m2 : ∀ j, M2 122 j = if j = t then 0 else M1 122 j := fun j => by rw [← hM2, zup_at, zup_row (by decide)]
          have g14 : M2 113 14 = t := by rw [r2 113 (by decide) (by decide)]; exact s3
          have u119 : M2 119 = M 119 := by rw [r2 119 (by decide) (by decide)]; exact t119
          -- what is no number
          have plain : dB (M 119 k) = false → ∀ c : Int, c = tC (M 119) L k → 0 = tN (M 119) L k → wX10_splits (d + 1) 169 [(0, zA 113), (1, zI L), (3, zI (M 119 k)), (4, zI (tE (M 119) L k)), (5, zI k)] (zup M2 121 (t : Int) c) Q := by
            intro nd c hc hv
            apply vX10_splits_169
            refine ⟨fun z => by omega, fun _ => m_isD (fun y => by rw [nd] at y; cases y) (fun _ => ⟨fun _ => fin _ (fun x h1 h2 h3 h4 => by rw [zup_row h2, r2 x h3 h4, s1 x h1 h2 h3 h4]) (fun j => by rw [zup_row (by decide), r2 113 (by decide) (by decide)]) (fun i hi => ⟨?_, ?_, ?_⟩) ?_ ?_ ?_, fun z => absurd rfl z⟩)⟩
            · rw [zup_row (by decide), m3, if_neg (by omega)]
            · rw [zup_at, if_neg (by omega), r2 121 (by decide) (by decide)]
            · rw [zup_row (by decide), m2, if_neg (by omega)]
            · rw [zup_row (by decide), m3, if_pos rfl]
            · rw [zup_eq]; exact hc
            · rw [zup_row (by decide), m2, if_pos rfl]; exact hv
          have no2 : lB (M 119 k) = true → dB (M 119 k) = false := by
            intro h
            unfold lB at h
            unfold dB
            have := of_decide_eq_true h
            exact decide_eq_false (by omega)
          refine m_isL (fun il => ⟨fun z => by omega, fun _ => m_wordOf (fun i hi => by rw [r2 118 (by decide) (by decide), s1 118 (by decide) (by decide) (by decide) (by decide)]; exact hX i hi) k0 (by omega) (by omega) ?_⟩) (fun il => ⟨fun _ => m_isD (fun id => ⟨fun z => by omega, fun _ => ?_⟩) (fun id => ⟨fun _ => ?_, fun z => absurd rfl z⟩), fun z => absurd rfl z⟩)
          · rw [g14, u119]
            exact ⟨⟨by omega, by omega⟩, zset (plain (no2 il) _ (by unfold tC; rw [if_pos kl, if_pos il]) (by unfold tN; rw [if_pos kl, if_pos il]))⟩
          · rw [g14]
            have il' : ¬ lB (M 119 k) = true := by rw [il]; decide
            refine ⟨⟨by omega, by omega⟩, zset ?_⟩
            have ee : tE (M 119) L k = rnn dB (M 119) L k := by unfold tE; rw [if_pos kl, if_neg il', if_pos id]
            -- all are digits
            have dg : ∀ (n : Nat) (a : Int), (L - a).toNat = n → ∀ y, a ≤ y → y < rnn dB (M 119) L a → 48 ≤ M 119 y ∧ M 119 y ≤ 57 := by
              intro n
              induction n with
              | zero => intro a ha y y0 y1; rw [rnn_eq, if_neg (by omega)] at y1; omega
              | succ n ihn =>
                intro a ha y y0 y1
                rw [rnn_eq] at y1
                by_cases c : a < L ∧ dB (M 119 a) = true
                · rw [if_pos c] at y1
                  by_cases q : y = a
                  · rw [q]; have := c.2; unfold dB at this; exact of_decide_eq_true this
                  · exact ihn (a + 1) (by omega) y (by omega) y1
                · rw [if_neg c] at y1; omega
            have dgk : ∀ y, k ≤ y → y < tE (M 119) L k → 48 ≤ M 119 y ∧ M 119 y ≤ 57 := fun y y0 y1 => dg _ k rfl y y0 (by rw [← ee]; exact y1)
            have l169 : ∀ (m : Nat) (y : Int) (M3 : ZM), (tE (M 119) L k - y).toNat = m → k ≤ y → y ≤ tE (M 119) L k → (∀ x, x ≠ 122 → M3 x = zup M2 121 (t : Int) 50 x) → (∀ j, j ≠ (t : Int) → M3 122 j = M1 122 j) → M3 122 t = vN (M 119) k (y - k).toNat → wX10_splits (d + 1) 169 [(0, zA 113), (1, zI L), (3, zI (M 119 k)), (4, zI (tE (M 119) L k)), (5, zI y)] M3 Q := by
              intro m
              induction m with
              | zero =>
                intro y M3 hy y0 y1 r3 q3 v3
                obtain rfl : y = tE (M 119) L k := by omega
                apply vX10_splits_169
                refine ⟨fun _ => fin M3 (fun x h1 h2 h3 h4 => by rw [r3 x h3, zup_row h2, r2 x h3 h4, s1 x h1 h2 h3 h4]) (fun j => by rw [r3 113 (by decide), zup_row (by decide), r2 113 (by decide) (by decide)]) (fun i hi => ⟨?_, ?_, ?_⟩) ?_ ?_ ?_, fun z => by omega⟩
                · rw [r3 123 (by decide), zup_row (by decide), m3, if_neg (by omega)]
                · rw [r3 121 (by decide), zup_at, if_neg (by omega), r2 121 (by decide) (by decide)]
                · exact q3 i (by omega)
                · rw [r3 123 (by decide), zup_row (by decide), m3, if_pos rfl]
                · rw [r3 121 (by decide), zup_eq]; unfold tC; rw [if_pos kl, if_neg il', if_pos id]
                · rw [v3]; unfold tN; rw [if_pos kl, if_neg il', if_pos id]
              | succ m ihm =>
                intro y M3 hy y0 y1 r3 q3 v3
                have h14 : M3 113 14 = t := by rw [r3 113 (by decide), zup_row (by decide)]; exact g14
                have h119 : M3 119 = M 119 := by rw [r3 119 (by decide), zup_row (by decide)]; exact u119
                have vn := vN_nn (L := L) (T := M 119) (f := k) (y - k).toNat (fun j hj => dgk _ (by omega) (by omega))
                have dy := dgk y y0 (by omega)
                have vs : vN (M 119) k (y + 1 - k).toNat = if 1000000 < vN (M 119) k (y - k).toNat then vN (M 119) k (y - k).toNat else 10 * vN (M 119) k (y - k).toNat + M 119 y - 48 := by
                  rw [show (y + 1 - k).toNat = (y - k).toNat + 1 by omega, vN_s, show k + ((y - k).toNat : Int) = y by omega]
                apply vX10_splits_169
                refine ⟨fun z => by omega, fun _ => m_isD (fun _ => ⟨fun z => by omega, fun _ => ?_⟩) (fun z => by rw [id] at z; cases z)⟩
                rw [h14, h119, v3]
                refine ⟨⟨by omega, by omega⟩, fun le => ⟨⟨by omega, by omega⟩, ⟨by omega, by omega⟩, ⟨by omega, by omega⟩, ⟨by omega, by omega⟩, ⟨by omega, by omega⟩, ⟨by omega, by omega⟩, zset ⟨⟨by omega, by omega⟩, ihm (y + 1) _ (by omega) (by omega) (by omega) (fun x hx => by rw [zup_row hx, r3 x hx]) (fun j hj => by rw [zup_at, if_neg hj, q3 j hj]) ?_⟩⟩, fun gt => ⟨⟨by omega, by omega⟩, ⟨by omega, by omega⟩, zset ⟨⟨by omega, by omega⟩, ihm (y + 1) _ (by omega) (by omega) (by omega) (fun x hx => by rw [zup_row hx, r3 x hx]) (fun j hj => by rw [zup_at, if_neg hj, q3 j hj]) ?_⟩⟩⟩
                · rw [zup_eq, vs, if_neg (by omega)]
                · rw [zup_eq, vs, if_pos (by omega)]
            refine l169 _ k _ rfl (by omega) (by omega) (fun x _ => rfl) (fun j hj => by rw [zup_row (by decide), m2, if_neg hj]) ?_
            rw [zup_row (by decide), m2, if_pos rfl, show (k - k).toNat = 0 by omega]
            rfl
          · rw [g14]
            have il' : ¬ lB (M 119 k) = true := by rw [il]; decide
            have id' : ¬ dB (M 119 k) = true := by rw [id]; decide
            have z255 : 0 ≤ zand (M 119 k) 255 ∧ zand (M 119 k) 255 ≤ 255 := by
              have : ∀ j : Nat, j < 256 → 0 ≤ zand ((j : Int) - 128) 255 ∧ zand ((j : Int) - 128) 255 ≤ 255 := by decide +kernel
              have q := this (M 119 k + 128).toNat (by omega)
              rw [show ((M 119 k + 128).toNat : Int) - 128 = M 119 k by omega] at q
              exact q
            exact ⟨⟨by omega, by omega⟩, ⟨by omega, by omega⟩, zset (plain id _ (by unfold tC; rw [if_pos kl, if_neg il', if_neg id']) (by unfold tN; rw [if_pos kl, if_neg il', if_neg id']))⟩
        have l75 : ∀ (m : Nat) (y : Int), (L - y).toNat = m → k < y → y ≤ L → tE (M 119) L k = rnn dB (M 119) L y → wX10_splits (d + 1) 75 [(0, zA 113), (1, zI L), (2, zI k), (3, zI (M 119 k)), (4, zI y)] M1 Q := by
          intro m
          induction m with
          | zero =>
            intro y hy y0 y1 e
            apply vX10_splits_75
            refine ⟨fun _ => ?_, fun z => by omega⟩
            rw [rnn_eq, if_neg (by omega)] at e
            rw [e] at k100; exact k100
          | succ m ihm =>
            intro y hy y0 y1 e
            apply vX10_splits_75
            rw [t119]
            refine ⟨fun z => by omega, fun _ => ⟨⟨by omega, by omega⟩, m_isD (fun iy => ⟨fun z => by omega, fun _ => ⟨⟨by omega, by omega⟩, ihm (y + 1) (by omega) (by omega) (by omega) ?_⟩⟩) (fun iy => ⟨fun _ => ?_, fun z => absurd rfl z⟩)⟩⟩
            · rw [e, rnn_eq, if_pos ⟨by omega, iy⟩]
            · rw [rnn_eq, if_neg (fun q => by rw [iy] at q; cases q.2)] at e
              rw [e] at k100; exact k100
        have l43 : lB (M 119 k) = true → ∀ (m : Nat) (y : Int), (L - y).toNat = m → k < y → y ≤ L → tE (M 119) L k = rnn lB (M 119) L y → wX10_splits (d + 1) 43 [(0, zA 113), (1, zI L), (2, zI k), (3, zI (M 119 k)), (4, zI y)] M1 Q := by
          intro il m
          have nd : dB (M 119 k) = false := by
            unfold lB at il
            unfold dB
            have := of_decide_eq_true il
            exact decide_eq_false (by omega)
          induction m with
          | zero =>
            intro y hy y0 y1 e
            apply vX10_splits_43
            rw [rnn_eq, if_neg (by omega)] at e
            rw [e] at k100
            exact ⟨fun _ => m_isD (fun z => by rw [nd] at z; cases z) (fun _ => ⟨fun _ => k100, fun z => absurd rfl z⟩), fun z => by omega⟩
          | succ m ihm =>
            intro y hy y0 y1 e
            apply vX10_splits_43
            rw [t119]
            refine ⟨fun z => by omega, fun _ => ⟨⟨by omega, by omega⟩, m_isL (fun iy => ⟨fun z => by omega, fun _ => ⟨⟨by omega, by omega⟩, ihm (y + 1) (by omega) (by omega) (by omega) ?_⟩⟩) (fun iy => ⟨fun _ => m_isD (fun z => by rw [nd] at z; cases z) (fun _ => ⟨fun _ => ?_, fun z => absurd rfl z⟩), fun z => absurd rfl z⟩)⟩⟩
            · rw [e, rnn_eq, if_pos ⟨by omega, iy⟩]
            · rw [rnn_eq, if_neg (fun q => by rw [iy] at q; cases q.2)] at e
              rw [e] at k100; exact k100
        refine m_isL (fun il => ⟨fun z => by omega, fun _ => l43 il _ (k + 1) rfl (by omega) (by omega) ?_⟩) (fun il => ⟨fun _ => m_isD (fun id => ⟨fun z => by omega, fun _ => l75 _ (k + 1) rfl (by omega) (by omega) ?_⟩) (fun id => ⟨fun _ => ?_, fun z => absurd rfl z⟩), fun z => absurd rfl z⟩)
        · unfold tE; rw [if_pos kl, if_pos il, rnn_eq, if_pos ⟨kl, il⟩]
        · unfold tE; rw [if_pos kl, if_neg (by rw [il]; decide), if_pos id, rnn_eq, if_pos ⟨kl, id⟩]
        · have e : tE (M 119) L k = k + 1 := by unfold tE; rw [if_pos kl, if_neg (by rw [il]; decide), if_neg (by rw [id]; decide)]
          rw [e] at k100; exact k100
      · rw [t119] at ib
        rw [hp, rnn_eq, if_pos ⟨by omega, by unfold bB; exact decide_eq_true ib⟩]
  exact l7 _ 0 0 _ rfl (by omega) L0 (by omega) ⟨fun x h1 _ _ _ => zup_row h1, fun j hj => by rw [zup_at, if_neg hj], zup_eq, L0, fun i hi => by omega, fun i hi => by omega⟩ rfl
