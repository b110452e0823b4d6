/-! the class's Teller -/
theorem zand15 {x : Int} (h : r32 x) : zand x 15 = x % 16 := by
  unfold r32 at h
  show ((zi x).toBitVec &&& (zi 15).toBitVec).toInt = _
  have e : ((zi x).toBitVec &&& (zi 15).toBitVec).toNat = (x % 16).toNat := by
    rw [BitVec.toNat_and, show (zi 15).toBitVec.toNat = 2 ^ 4 - 1 from by decide, Nat.and_two_pow_sub_one_eq_mod]
    show (BitVec.ofInt 32 x).toNat % 16 = _
    rw [BitVec.toNat_ofInt]
    omega
  rw [BitVec.toInt_eq_toNat_of_lt (by rw [e]; omega), e]
  omega
/-- a stack in a row, its top ahead -/
def stk (f : Int → Int) : List Int → Prop
  | [] => True
  | a :: st => f st.length = a ∧ stk f st
theorem stk_up {f : Int → Int} {j x : Int} : ∀ {st : List Int}, stk f st → (st.length : Int) ≤ j → stk (kup f j x) st := by
  intro st
  induction st with
  | nil => intro _ _; trivial
  | cons a st ih =>
    intro h hj
    simp only [List.length_cons] at hj
    exact ⟨by rw [kup_ne (by omega)]; exact h.1, ih h.2 (by omega)⟩
theorem stk_last {f : Int → Int} {z : Int} : ∀ {st : List Int} {a : Int}, stk f (a :: st) → f 0 = (a :: st).getLastD z := by
  intro st
  induction st with
  | nil => intro a h; exact h.1
  | cons b st ih =>
    intro a h
    have := ih h.2
    rw [this]
    rfl
theorem c_needed {d : Nat} {M : ZM} {w : Int} {K : Int → ZM → Prop} (hK : K (if w < 4 then 0 else if w < 11 then 2 else 1) M) : zcI (d + 1) 94 [zI w] M K := by
  apply vX7_needed
  refine ⟨fun q => ⟨fun q2 => ?_, fun q2 => ?_⟩, fun q => ?_⟩
  · rw [if_neg (by omega), if_neg (by omega)] at hK; exact hK
  · rw [if_neg (by omega), if_pos (by omega)] at hK; exact hK
  · rw [if_pos (by omega)] at hK; exact hK
theorem c_said {d : Nat} {M : ZM} {w u p s e : Int} {K : Int → ZM → Prop} (h1 : M 87 1 = p) (h2 : M 87 2 = s) (h3 : M 87 3 = e) (w0 : 0 ≤ w) (w1 : w < 4) (hK : K (if w = 0 then u else mEnv s p e (w - 1)) M) : zcL (d + 1) 95 [zA 87, zI w, zI u] M K := by
  apply vX7_said
  unfold mEnv at hK
  rw [h1, h2, h3]
  refine ⟨fun q => ⟨fun q2 => ⟨fun q3 => ?_, fun q3 => ?_⟩, fun q2 => ?_⟩, fun q => ?_⟩
  · rw [if_pos (by omega)] at hK; exact hK
  · rw [if_neg (by omega), if_neg (by omega), if_neg (by omega)] at hK; exact hK
  · rw [if_neg (by omega), if_neg (by omega), if_pos (by omega)] at hK; exact hK
  · rw [if_neg (by omega), if_pos (by omega)] at hK; exact hK
theorem c_checked {d : Nat} {M : ZM} {x : Int} {K : Int → ZM → Prop} (hK : K ((mChk x).getD NOTH) M) : zcL (d + 1) 97 [zJ x] M K := by
  apply vX7_checked
  unfold mChk at hK
  refine ⟨fun q => ?_, fun q => ⟨fun q2 => ?_, fun q2 => ?_⟩⟩
  · rw [if_pos (by omega)] at hK; exact hK
  · rw [if_neg (by omega)] at hK; exact hK
  · rw [if_pos (by omega)] at hK; exact hK
theorem tdiv_abs (a b : Int) : (a.tdiv b).natAbs ≤ a.natAbs := by
  rw [Int.natAbs_tdiv]
  exact Nat.div_le_self _ _
theorem c_join {d : Nat} {M : ZM} {w a b : Int} {K : Int → ZM → Prop} (w0 : 4 ≤ w) (w1 : w < 11) (ha : -2000000000 ≤ a ∧ a ≤ 2000000000) (hb : -2000000000 ≤ b ∧ b ≤ 2000000000) (hK : K (tJoin w a b) M) : zcL (d + 2) 96 [zI w, zJ a, zJ b] M K := by
  have hm : (a * b).natAbs ≤ 2000000000 * 2000000000 := by
    rw [Int.natAbs_mul]
    exact Nat.mul_le_mul (by omega) (by omega)
  have hd := tdiv_abs a b
  apply vX7_join
  unfold tJoin at hK
  unfold r64
  refine ⟨by omega, fun q => ⟨by omega, c_checked ?_⟩, fun q4 => ⟨fun q => ⟨by omega, c_checked ?_⟩, fun q5 => ⟨fun q => ⟨by omega, c_checked ?_⟩, fun q6 => ⟨fun q => ⟨fun z => ⟨by omega, by omega, ?_⟩, fun z => ?_⟩, fun q7 => ⟨fun q => ⟨fun z => ?_, fun z => ?_⟩, fun q8 => ⟨fun q => ⟨fun z => ?_, fun z => ?_⟩, fun q9 => ⟨fun q => ⟨fun z => ?_, fun z => ?_⟩, fun q10 => by omega⟩⟩⟩⟩⟩⟩⟩
  · rw [if_neg (by omega), if_neg (by omega), if_neg (by omega), if_pos q] at hK; exact hK
  · rw [if_neg (by omega), if_neg (by omega), if_neg (by omega), if_neg (by omega), if_pos q] at hK; exact hK
  · rw [if_neg (by omega), if_neg (by omega), if_neg (by omega), if_neg (by omega), if_neg (by omega), if_pos q] at hK; exact hK
  · rw [if_neg (by omega), if_neg (by omega), if_neg (by omega), if_neg (by omega), if_neg (by omega), if_neg (by omega), if_neg (by omega)] at hK; exact hK
  · rw [if_neg (by omega), if_neg (by omega), if_neg (by omega), if_neg (by omega), if_neg (by omega), if_neg (by omega), if_pos (by omega)] at hK; exact hK
  · rw [if_pos q, if_neg (by omega)] at hK; exact hK
  · rw [if_pos q, if_pos (by omega)] at hK; exact hK
  · rw [if_neg (by omega), if_pos q, if_neg (by omega)] at hK; exact hK
  · rw [if_neg (by omega), if_pos q, if_pos (by omega)] at hK; exact hK
  · rw [if_neg (by omega), if_neg (by omega), if_pos q, if_neg (by omega)] at hK; exact hK
  · rw [if_neg (by omega), if_neg (by omega), if_pos q, if_pos (by omega)] at hK; exact hK
theorem tJoin_rg {w a b : Int} (ha : -2000000000 ≤ a ∧ a ≤ 2000000000) (hn : tJoin w a b ≠ NOTH) (B : Int) (hB : 1000000000 ≤ B) (hAB : -B ≤ a ∧ a ≤ B) : -B ≤ tJoin w a b ∧ tJoin w a b ≤ B := by
  have hd := tdiv_abs a b
  unfold tJoin mChk at *
  split
  · split <;> omega
  · split
    · split <;> omega
    · split
      · split <;> omega
      · rename_i q1 q2 q3
        rw [if_neg q1, if_neg q2, if_neg q3] at hn
        by_cases q4 : w = 4
        · rw [if_pos q4] at hn ⊢
          by_cases z : 1000000000 < a + b ∨ a + b < -1000000000
          · rw [if_pos z] at hn; exact absurd rfl hn
          · rw [if_neg z]; show -B ≤ a + b ∧ a + b ≤ B; omega
        · rw [if_neg q4] at hn ⊢
          by_cases q5 : w = 5
          · rw [if_pos q5] at hn ⊢
            by_cases z : 1000000000 < a - b ∨ a - b < -1000000000
            · rw [if_pos z] at hn; exact absurd rfl hn
            · rw [if_neg z]; show -B ≤ a - b ∧ a - b ≤ B; omega
          · rw [if_neg q5] at hn ⊢
            by_cases q6 : w = 6
            · rw [if_pos q6] at hn ⊢
              by_cases z : 1000000000 < a * b ∨ a * b < -1000000000
              · rw [if_pos z] at hn; exact absurd rfl hn
              · rw [if_neg z]; show -B ≤ a * b ∧ a * b ≤ B; omega
            · rw [if_neg q6] at hn ⊢
              by_cases q7 : b = 0
              · rw [if_pos q7] at hn; exact absurd rfl hn
              · rw [if_neg q7]; omega
def sbd (B : Int) (st : List Int) : Prop := ∀ x ∈ st, -B ≤ x ∧ x ≤ B
theorem sbd.up {B B' : Int} {st : List Int} (h : sbd B st) (hB : B ≤ B') : sbd B' st := fun x hx => by have := h x hx; omega
theorem sbd.cons {B x : Int} {st : List Int} (hx : -B ≤ x ∧ x ≤ B) (h : sbd B st) : sbd B (x :: st) := by
  intro y hy
  rcases List.mem_cons.mp hy with rfl | hy
  · exact hx
  · exact h y hy
theorem c_run {d : Nat} {M0 : ZM} {p s e to i0 : Int} {K : Int → ZM → Prop} (h1 : M0 87 1 = p) (h2 : M0 87 2 = s) (h3 : M0 87 3 = e) (hp : 0 ≤ p ∧ p ≤ 20) (hs : 0 ≤ s ∧ s ≤ 20) (he : 0 ≤ e ∧ e ≤ 20) (hi0 : 0 ≤ i0) (R0 : RG M0) (hK : ∀ M', (∀ b, b ≠ 88 → M' b = M0 b) → K (tRun (M0 54) (mEnv s p e) to 401 i0 []) M') : zcL (d + 3) 93 [zA 87, zA 54, zI i0, zI to] M0 K := by
  have lp : ∀ (n : Nat) (i : Int) (st : List Int) (M : ZM) (hg : Int), 401 ≤ i + n → 1 ≤ n → 0 ≤ i → (∀ b, b ≠ 88 → M b = M0 b) → stk (M 88) st → hg = st.length → st.length ≤ 32 → sbd (1000000000 + i) st → (∀ M', (∀ b, b ≠ 88 → M' b = M0 b) → K (tRun (M0 54) (mEnv s p e) to n i st) M') → wX7_run (d + 2) 6 [(0, zA 87), (1, zA 54), (3, zI to), (4, zI hg), (5, zI i)] M K := by
    intro n
    induction n with
    | zero => intro i st M hg hn hn1; omega
    | succ n ih =>
      intro i st M hg hn hn1 hi hM hst hh hl hb hK
      have g1 : M 87 1 = p := by rw [hM 87 (by decide)]; exact h1
      have g2 : M 87 2 = s := by rw [hM 87 (by decide)]; exact h2
      have g3 : M 87 3 = e := by rw [hM 87 (by decide)]; exact h3
      unfold tRun at hK
      by_cases hc : i < to ∧ i < 400
      · rw [if_pos hc] at hK
        have hr : r32 (M0 54 i) := by
          have := R0.at (a := 54) (j := i) (by decide) hi (show i < (zn 54 : Nat) from hc.2)
          rw [zg_100 (by decide)] at this
          exact this
        apply vX7_run_6
        rw [hM 54 (by decide), zand15 hr, show zshr (M0 54 i) 4 = M0 54 i / 16 from zshr_div hr (k := 4) (by decide)]
        unfold r32 at hr
        generalize hw : M0 54 i % 16 = w at hK ⊢
        generalize hu : M0 54 i / 16 = u at hK ⊢
        have hw0 : 0 ≤ w ∧ w < 16 := by omega
        have hu0 : -200000000 ≤ u ∧ u ≤ 200000000 := by omega
        have bR : ∀ x ∈ st, -2000000000 ≤ x ∧ x ≤ 2000000000 := fun x hx => by have := hb x hx; omega
        have fin : (∀ M', (∀ b, b ≠ 88 → M' b = M0 b) → K NOTH M') → K (-1000000000000000000) M := fun q => q M hM
        by_cases c1 : 32 ≤ st.length
        · rw [if_pos c1] at hK
          have fin := fin hK
          repeat' (first | omega | exact fin | refine zset ?_ | (simp only [zupE, zcpE, reduceIte, false_and, and_false, true_and, and_true, true_or, or_true, not_true_eq_false, not_false_eq_true, true_implies, false_implies]) | refine And.intro ?_ ?_ | intro _)
        rw [if_neg c1] at hK
        by_cases c2 : w < 4
        · rw [if_pos c2] at hK
          have fin : wX7_run (d + 2) 6 [(0, zA 87), (1, zA 54), (3, zI to), (4, zI (hg + 1)), (5, zI (i + 1))] (zup M 88 hg (if w = 0 then u else mEnv s p e (w - 1))) K := by
            refine ih (i + 1) (_ :: st) _ (hg + 1) (by omega) (by omega) (by omega) (fun b hb => by rw [zup_row hb, hM b hb]) ?_ (by rw [hh]; rfl) (by simp only [List.length_cons]; omega) (sbd.cons ?_ (hb.up (by omega))) hK
            · rw [zup_kup, hh]
              exact ⟨kup_eq, stk_up hst (Int.le_refl _)⟩
            · unfold mEnv
              split
              · omega
              · split
                · omega
                · split <;> omega
          repeat' (first | omega | apply c_needed | apply (c_said g1 g2 g3) | exact fin | refine zset ?_ | (simp only [zupE, zcpE, reduceIte, false_and, and_false, true_and, and_true, true_or, or_true, not_true_eq_false, not_false_eq_true, true_implies, false_implies]) | refine And.intro ?_ ?_ | intro _)
        rw [if_neg c2] at hK
        match st, hst, hh, hl, hb, bR, hK with
        | [], hst, hh, hl, hb, bR, hK =>
          have fin := fin hK
          have hh : hg = 0 := hh
          repeat' (first | omega | apply c_needed | exact fin | refine zset ?_ | (simp only [zupE, zcpE, reduceIte, false_and, and_false, true_and, and_true, true_or, or_true, not_true_eq_false, not_false_eq_true, true_implies, false_implies]) | refine And.intro ?_ ?_ | intro _)
        | b :: st1, hst, hh, hl, hb, bR, hK =>
          have hh : hg = (st1.length : Int) + 1 := hh
          have hl : st1.length + 1 ≤ 32 := hl
          have e1 : M 88 (hg - 1) = b := by rw [hh, show ((st1.length : Int) + 1 - 1) = st1.length by omega]; exact hst.1
          have bb := bR b List.mem_cons_self
          have hb1 : sbd (1000000000 + i) st1 := fun x hx => hb x (List.mem_cons_of_mem _ hx)
          dsimp only at hK
          refine ⟨fun q => by omega, fun _ => ⟨fun q => by omega, fun _ => ⟨by omega, by omega, fun q => by omega, fun _ => c_needed ?_⟩⟩⟩
          rw [e1]
          by_cases c3 : w < 11
          · rw [if_pos c3] at hK
            match st1, hst, hh, hl, hb1, bR, hK with
            | [], hst, hh, hl, hb1, bR, hK =>
              have fin := fin hK
              have hh : hg = 1 := hh
              repeat' (first | omega | exact fin | refine zset ?_ | (simp only [zupE, zcpE, reduceIte, false_and, and_false, true_and, and_true, true_or, or_true, not_true_eq_false, not_false_eq_true, true_implies, false_implies]) | refine And.intro ?_ ?_ | intro _)
            | a :: st2, hst, hh, hl, hb1, bR, hK =>
              dsimp only at hK
              have hh : hg = (st2.length : Int) + 1 + 1 := hh
              have hl : st2.length + 1 + 1 ≤ 32 := hl
              have ba := bR a (List.mem_cons_of_mem _ List.mem_cons_self)
              have e2 : M 88 (hg + (-1) - 1) = a := by rw [hh, show ((st2.length : Int) + 1 + 1 + (-1) - 1) = st2.length by omega]; exact hst.2.1
              have e3 : M 88 (hg + (-1)) = b := e1
              rw [e2, e3]
              have fin1 : tJoin w a b = NOTH → K (-1000000000000000000) M := fun q => by
                rw [if_pos q] at hK
                exact hK M hM
              have fin2 : tJoin w a b ≠ NOTH → wX7_run (d + 2) 6 [(0, zA 87), (1, zA 54), (3, zI to), (4, zI (hg + (-1))), (5, zI (i + 1))] (zup M 88 (hg + (-1) - 1) (tJoin w a b)) K := fun q => by
                rw [if_neg q] at hK
                refine ih (i + 1) (_ :: st2) _ (hg + (-1)) (by omega) (by omega) (by omega) (fun b hb => by rw [zup_row hb, hM b hb]) ?_ (by rw [hh]; simp only [List.length_cons]; omega) (by simp only [List.length_cons]; omega) (sbd.cons ?_ (sbd.up (fun x hx => hb1 x (List.mem_cons_of_mem _ hx)) (by omega))) hK
                · rw [zup_kup, hh, show ((st2.length : Int) + 1 + 1 + (-1) - 1) = st2.length by omega]
                  exact ⟨kup_eq, stk_up hst.2.2 (Int.le_refl _)⟩
                · have := hb1 a List.mem_cons_self
                  exact tJoin_rg ba q _ (by omega) (by omega)
              unfold NOTH at fin1 fin2
              repeat' (first | omega | apply (c_join (by omega) (by omega) ba bb) | exact fin1 (by omega) | exact fin2 (by omega) | refine zset ?_ | (simp only [zupE, zcpE, reduceIte, false_and, and_false, true_and, and_true, true_or, or_true, not_true_eq_false, not_false_eq_true, true_implies, false_implies]) | refine And.intro ?_ ?_ | intro _)
          rw [if_neg c3] at hK
          by_cases c4 : w = 11
          · rw [if_pos c4] at hK
            have fin2 : wX7_run (d + 2) 6 [(0, zA 87), (1, zA 54), (3, zI to), (4, zI hg), (5, zI (i + 1))] (zup M 88 (hg - 1) (1 - b)) K := by
              have hbb := hb b List.mem_cons_self
              refine ih (i + 1) (_ :: st1) _ hg (by omega) (by omega) (by omega) (fun b hb => by rw [zup_row hb, hM b hb]) ?_ (by rw [hh]; simp only [List.length_cons]; omega) (by simp only [List.length_cons]; omega) (sbd.cons (by omega) (hb1.up (by omega))) hK
              rw [zup_kup, hh, show ((st1.length : Int) + 1 - 1) = st1.length by omega]
              exact ⟨kup_eq, stk_up hst.2 (Int.le_refl _)⟩
            have r1 : r64 (1 - b) := ⟨by omega, by omega⟩
            repeat' (first | omega | exact r1 | exact fin2 | refine zset ?_ | (simp only [zupE, zcpE, reduceIte, false_and, and_false, true_and, and_true, true_or, or_true, not_true_eq_false, not_false_eq_true, true_implies, false_implies]) | refine And.intro ?_ ?_ | intro _)
          rw [if_neg c4] at hK
          have fin1 : b = (if w = 12 then 1 else 0) → wX7_run (d + 2) 6 [(0, zA 87), (1, zA 54), (3, zI to), (4, zI hg), (5, zI (max i (u - 1) + 1))] M K := fun q => by
            rw [if_pos q] at hK
            exact ih _ (b :: st1) _ hg (by omega) (by omega) (by omega) hM hst (by rw [hh]; simp only [List.length_cons]; omega) (by simp only [List.length_cons]; omega) (hb.up (by omega)) hK
          have fin2 : b ≠ (if w = 12 then 1 else 0) → wX7_run (d + 2) 6 [(0, zA 87), (1, zA 54), (3, zI to), (4, zI (hg + (-1))), (5, zI (i + 1))] M K := fun q => by
            rw [if_neg q] at hK
            exact ih _ st1 _ _ (by omega) (by omega) (by omega) hM hst.2 (by omega) (by omega) (hb1.up (by omega)) hK
          repeat' (first | omega | exact fin1 (by omega) | exact fin2 (by omega) | refine zset ?_ | (simp only [zupE, zcpE, reduceIte, false_and, and_false, true_and, and_true, true_or, or_true, not_true_eq_false, not_false_eq_true, true_implies, false_implies]) | refine And.intro ?_ ?_ | intro _)
      · rw [if_neg hc] at hK
        apply vX7_run_6
        match st, hst, hh, hK with
        | [], hst, hh, hK =>
          have hh : hg = 0 := hh
          have fin : K (-1000000000000000000) M := hK M hM
          repeat' (first | omega | exact fin | refine zset ?_ | (simp only [zupE, zcpE, reduceIte, false_and, and_false, true_and, and_true, true_or, or_true, not_true_eq_false, not_false_eq_true, true_implies, false_implies]) | refine And.intro ?_ ?_ | intro _)
        | b :: st1, hst, hh, hK =>
          have hh : hg = (st1.length : Int) + 1 := hh
          have fin : K (M 88 0) M := by rw [stk_last (z := NOTH) hst]; exact hK M hM
          repeat' (first | omega | exact fin | refine zset ?_ | (simp only [zupE, zcpE, reduceIte, false_and, and_false, true_and, and_true, true_or, or_true, not_true_eq_false, not_false_eq_true, true_implies, false_implies]) | refine And.intro ?_ ?_ | intro _)
  exact vX7_run _ _ _ _ _ (lp 401 i0 [] M0 0 (by omega) (by omega) hi0 (fun _ _ => rfl) trivial rfl (by decide) (fun _ hx => by cases hx) hK)
/-- tell -/
theorem c_tell {d : Nat} {M : ZM} {p s e : Int} {K : Int → ZM → Prop} (R : RG M) (hp : 0 ≤ p ∧ p < 16) (hs : 0 ≤ s ∧ s ≤ 10) (he : 1 ≤ e ∧ e ≤ 10) (f0 : 0 ≤ M 51 p) (f1 : 0 ≤ M 52 p) (hK : ∀ M', (∀ b, b ≠ 87 → b ≠ 88 → M' b = M b) → K (tTell (bL M 44) p s e) M') : zcI (d + 4) 92 [zA 87, zA 44, zI p, zI s, zI e] M K := by
  apply vX7_tell
  refine zset (zset (zset ?_))
  generalize hM3 : zup (zup (zup M 87 1 p) 87 2 s) 87 3 e = M3
  have row : ∀ b, b ≠ 87 → M3 b = M b := fun b hb => by subst hM3; rw [zup_row hb, zup_row hb, zup_row hb]
  have g1 : M3 87 1 = p := by subst hM3; simp only [zupE, reduceIte, false_and, and_false, true_and, and_true, Int.reduceEq]
  have g2 : M3 87 2 = s := by subst hM3; simp only [zupE, reduceIte, false_and, and_false, true_and, and_true, Int.reduceEq]
  have g3 : M3 87 3 = e := by subst hM3; simp only [zupE, reduceIte, false_and, and_false, true_and, and_true, Int.reduceEq]
  have R3 : RG M3 := by
    subst hM3
    exact ((R.up (a := 87) (j := 1) (x := p) (by decide) (show r32 p from ⟨by omega, by omega⟩) (by decide)).up (a := 87) (j := 2) (x := s) (by decide) (show r32 s from ⟨by omega, by omega⟩) (by decide)).up (a := 87) (j := 3) (x := e) (by decide) (show r32 e from ⟨by omega, by omega⟩) (by decide)
  rw [g1, row 52 (by decide), row 53 (by decide)]
  have e54 : M3 54 = M 54 := row 54 (by decide)
  have hKt : ∀ M', (∀ b, b ≠ 87 → b ≠ 88 → M' b = M b) → K (if M 52 p < M 53 p ∧ tRun (M 54) (mEnv s p e) (M 53 p) 401 (M 52 p) [] ≠ 1 then 0 else if tRun (M 54) (mEnv s p e) (M 52 p) 401 (M 51 p) [] = NOTH then 0 else max (-999) (min 999 (tRun (M 54) (mEnv s p e) (M 52 p) 401 (M 51 p) []))) M' := hK
  have k64 : ¬ (M 52 p < M 53 p ∧ tRun (M 54) (mEnv s p e) (M 53 p) 401 (M 52 p) [] ≠ 1) → ∀ M4, RG M4 → (∀ b, b ≠ 88 → M4 b = M3 b) → wX7_tell (d + 3) 64 [(0, zA 87), (1, zA 44), (5, zI (M 52 p))] M4 K := by
    intro hn M4 R4 f4
    apply vX7_tell_64
    rw [f4 87 (by decide), g1, f4 51 (by decide), row 51 (by decide)]
    refine ⟨by omega, c_run (M0 := M4) (p := p) (s := s) (e := e) (by rw [f4 87 (by decide)]; exact g1) (by rw [f4 87 (by decide)]; exact g2) (by rw [f4 87 (by decide)]; exact g3) (by omega) (by omega) (by omega) f0 R4 (fun M5 f5 => ?_)⟩
    rw [f4 54 (by decide), e54]
    have k5 := hKt M5 (fun b b1 b2 => by rw [f5 b b2, f4 b b2, row b b1])
    rw [if_neg hn] at k5
    unfold NOTH at k5
    generalize tRun (M 54) (mEnv s p e) (M 52 p) 401 (M 51 p) [] = v at k5 ⊢
    refine ⟨fun q => ⟨⟨by omega, by omega⟩, ?_⟩, fun q => ?_⟩
    · rw [if_neg (by omega)] at k5; exact k5
    · rw [if_pos (by omega)] at k5; exact k5
  refine ⟨by omega, by omega, fun q => k64 (fun z => by omega) M3 R3 (fun _ _ => rfl), fun q => ?_⟩
  refine c_run (M0 := M3) g1 g2 g3 (by omega) (by omega) (by omega) f1 R3 (fun M4 f4 => ?_)
  rw [e54]
  refine ⟨fun z => ?_, fun z => ?_⟩
  · refine zlp_rg (fun R4 => k64 (fun y => y.2 (by omega)) M4 R4 f4)
  · have k5 := hKt M4 (fun b b1 b2 => by rw [f4 b b2, row b b1])
    rw [if_pos ⟨by omega, fun y => z (by rw [y]; rfl)⟩] at k5
    exact k5
