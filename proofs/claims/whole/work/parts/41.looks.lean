/-! worthOf, looks -/
/-- the class's, the reference's scratch alone -/
def frc (M M' : ZM) : Prop := fr M M' ∧ ∀ b, 113 ≤ b → M' b = M b
def frm (M M' : ZM) : Prop := fr M M' ∧ ∀ b, b < 113 → M' b = M b
theorem frc.rf {M : ZM} : frc M M := ⟨fr.rf, fun _ _ => rfl⟩
theorem frm.rf {M : ZM} : frm M M := ⟨fr.rf, fun _ _ => rfl⟩
theorem frc.tr {M M1 M2 : ZM} (h1 : frc M M1) (h2 : frc M1 M2) : frc M M2 := ⟨h1.1.tr h2.1, fun b hb => (h2.2 b hb).trans (h1.2 b hb)⟩
theorem frm.tr {M M1 M2 : ZM} (h1 : frm M M1) (h2 : frm M1 M2) : frm M M2 := ⟨h1.1.tr h2.1, fun b hb => (h2.2 b hb).trans (h1.2 b hb)⟩
theorem frc.of {M M' : ZM} (h : ∀ b, ¬ ((31 ≤ b ∧ b ≤ 42) ∨ (87 ≤ b ∧ b ≤ 109)) → M' b = M b) : frc M M' := by
  refine ⟨fun b i hs => ?_, fun b hb => h b (by omega)⟩
  by_cases hq : (31 ≤ b ∧ b ≤ 42) ∨ (87 ≤ b ∧ b ≤ 109)
  · exfalso
    unfold scr at hs
    simp only [Bool.or_eq_false_iff, Bool.and_eq_false_iff] at hs
    obtain ⟨h1, h2, -, -⟩ := hs
    rcases hq with ⟨a, c⟩ | ⟨a, c⟩
    · rw [Nat.ble_eq_true_of_le a, Nat.ble_eq_true_of_le c] at h1; simp at h1
    · rw [Nat.ble_eq_true_of_le a, Nat.ble_eq_true_of_le c] at h2; simp at h2
  · rw [h b hq]
theorem frm.of {M M' : ZM} (h : ∀ b, b ≠ 113 → ¬ (120 ≤ b ∧ b ≤ 138) → M' b = M b) (h2 : ∀ k, ¬ ((11 ≤ k ∧ k ≤ 26) ∨ (30 ≤ k ∧ k ≤ 45) ∨ 48 ≤ k) → M' 113 k = M 113 k) : frm M M' := by
  refine ⟨fun b i hs => ?_, fun b hb => h b (by omega) (by omega)⟩
  unfold scr at hs
  simp only [Bool.or_eq_false_iff, Bool.and_eq_false_iff, decide_eq_false_iff_not] at hs
  obtain ⟨-, -, a, c⟩ := hs
  by_cases hb : b = 113
  · subst hb
    apply h2
    rcases c with c | c
    · cases c
    · omega
  · rw [h b hb]
    intro q
    rcases a with a | a
    · rw [Nat.ble_eq_true_of_le q.1] at a; cases a
    · rw [Nat.ble_eq_true_of_le q.2] at a; cases a
theorem J.frc {t : Nat} {M M' : ZM} (h : J t M) (f : frc M M') (hF : JF M') : J (t + 1) M' := h.frame f.1 hF (h.jv.fr f.1 (f.2 126 (by decide)) (congrFun (f.2 113 (by decide)) 26))
theorem J.frm {t : Nat} {M M' : ZM} (h : J t M) (f : frm M M') (hV : JV M') : J (t + 1) M' := h.frame f.1 (h.jf.fr (f.2 106 (by decide))) hV
theorem mEnd_no {a t : ME} {e : Int → Int} (h : t e ≠ some 1) : mEnd a (some t) e = 0 := if_neg h
theorem mEnd_yes {a t : ME} {e : Int → Int} {x : Int} (h : t e = some 1) (ha : a e = some x) : mEnd a (some t) e = max (-999) (min 999 x) := by
  unfold mEnd
  rw [if_pos h, ha]
theorem mEnd_one {a : ME} {e : Int → Int} {x : Int} (ha : a e = some x) : mEnd a none e = max (-999) (min 999 x) := by
  unfold mEnd
  rw [if_pos rfl, ha]
theorem mEnd_br {a : ME} {t : Option ME} {e : Int → Int} (ha : a e = none) : mEnd a t e = 0 := by
  unfold mEnd
  rw [ha]
  exact ite_self 0
theorem m_worthOf {d n : Nat} {M : ZM} {p s : Int} {f : (Int → Int) → Int} {K : Int → ZM → Prop} (hW : WF (M 115)) (p0 : 0 ≤ p) (p1 : p < M 115 182) (s0 : 0 ≤ s) (s1 : s ≤ 10) (h9 : 0 ≤ M 115 (10 * p + 9)) (hf : gEnd (cTok (M 115)) (vTok (M 115)) n (M 115 (10 * p + 9)) f) (hK : ∀ M', (∀ b, b ≠ 113 → b ≠ 125 → M' b = M b) → (∀ k, k ≠ 21 → k ≠ 22 → k ≠ 23 → M' 113 k = M 113 k) → K (f (mEnv s p (M 115 179))) M') : zcI (d + 43) 191 [zA 113, zI p, zI s] M K := by
  obtain ⟨a1, a2, a3, a4, a5, a6, a7, a8⟩ := hW
  obtain ⟨lv, j, lv1, a, e1, e2⟩ := hf
  apply vX10_worthOf
  refine ⟨by omega, zset ⟨by omega, zset (m_day ⟨by omega, zset (m_fld (by omega) (by omega) (zset ⟨by omega, zset ⟨by omega, zset ?_⟩⟩))⟩)⟩⟩
  simp only [zupE, reduceIte, false_and, and_false, true_and, and_true, Nat.reduceEqDiff]
  generalize hM1 : zup (zup (zup (zup (zup M 125 0 s) 125 1 p) 125 2 (M 115 179)) 113 21 (M 115 (10 * p + 9))) 113 22 (M 115 183) = M1
  have row : ∀ b, b ≠ 113 → b ≠ 125 → M1 b = M b := fun b b1 b2 => by subst hM1; rw [zup_row b1, zup_row b1, zup_row b2, zup_row b2, zup_row b2]
  have r113 : ∀ k, k ≠ 21 → k ≠ 22 → M1 113 k = M 113 k := fun k k1 k2 => by subst hM1; simp only [zupE, reduceIte, false_and, and_false, true_and, and_true, Nat.reduceEqDiff]; rw [if_neg k2, if_neg k1]
  have r22 : M1 113 22 = M1 115 183 := by rw [row 115 (by decide) (by decide)]; subst hM1; exact zup_eq
  have r21 : zup M1 113 23 0 = stM M1 (M 115 (10 * p + 9)) 0 := by
    subst hM1
    unfold stM
    funext b k
    simp only [zupE]
    by_cases h1 : b = 113 ∧ k = 23
    · rw [if_pos h1, if_pos h1]
    · rw [if_neg h1, if_neg h1]
      by_cases h2 : b = 113 ∧ k = 21
      · rw [if_pos h2, if_neg (by omega), if_pos h2]
      · rw [if_neg h2, if_neg h2]
  have he : ∀ i, 0 ≤ i → i < 3 → M1 125 i = mEnv s p (M 115 179) i ∧ 0 ≤ mEnv s p (M 115 179) i ∧ mEnv s p (M 115 179) i ≤ 20 := by
    intro i i0 i1
    subst hM1
    have t0 : mEnv s p (M 115 179) 0 = s := rfl
    have t1 : mEnv s p (M 115 179) 1 = p := rfl
    have t2 : mEnv s p (M 115 179) 2 = M 115 179 := rfl
    rcases (by omega : i = 0 ∨ i = 1 ∨ i = 2) with rfl | rfl | rfl
    · rw [t0]; exact ⟨rfl, by omega, by omega⟩
    · rw [t1]; exact ⟨rfl, by omega, by omega⟩
    · rw [t2]; exact ⟨rfl, by omega, by omega⟩
  rw [r21]
  have e115 : M1 115 = M 115 := row 115 (by decide) (by decide)
  have hT : 0 ≤ M1 115 183 ∧ M1 115 183 ≤ 400 := by rw [e115]; exact a7
  have g1 : M 115 (10 * p + 9) ≤ j := pP_ge _ _ _ _ _ _ _ _ _ _ _ (by decide) e1
  generalize M 115 (10 * p + 9) = i9 at e1 g1 h9 ⊢
  rw [← e115] at e1
  have fin : ∀ i b', ∀ x, (x = f (mEnv s p (M 115 179))) → K x (stM M1 i b') := by
    rintro i b' x rfl
    refine hK _ (fun b b1 b2 => ?_) (fun k k1 k2 k3 => ?_)
    · rw [stM_row b1, row b b1 b2]
    · rw [stM_f k1 k3, r113 k k1 k2]
  refine ev_all (M0 := M1) (e := mEnv s p (M 115 179)) hT r22 he n 6 0 _ lv _ j lv1 a (by decide) e1 h9 (by decide) (by decide) (d + 42) 1 0 _ (by omega) (by omega) (by omega) (fun x b1 hb1 hx => ?_)
  refine ⟨by first | omega | simp, zset ?_⟩
  rw [stM_23, stM_br]
  have hx := hx.1 ⟨rfl, rfl⟩
  by_cases hc : cTok (M 115) j = 7
  · rw [if_pos hc] at e2
    obtain ⟨j2, lv2, tt, e3, rfl⟩ := e2
    rw [← e115] at e3 hc
    refine m_passes hT r22 (by omega) (by decide) (fun _ => ⟨fun q => by omega, fun _ => ?_⟩) (fun q => absurd hc q)
    refine ev_all (M0 := M1) (e := mEnv s p (M 115 179)) hT r22 he n 0 0 _ lv1 _ j2 lv2 tt (by decide) e3 (by omega) (by decide) (by decide) (d + 42) 1 0 _ (by omega) (by omega) (by omega) (fun y b2 hb2 hy => ?_)
    obtain ⟨y01, hy, -⟩ := hy
    have hy := hy ⟨rfl, rfl⟩
    have k93 : ∀ y' : Int, (y' = 0 ↔ y = 0) → wX10_worthOf (d + 42) 93 [(0, zA 113), (3, zJ x), (5, zI b1), (6, zI y')] (stM M1 j2 b2) K := by
      intro y' hy'
      apply vX10_worthOf_93
      rw [stM_23]
      refine ⟨fun q => fin _ _ _ ?_, fun q => ⟨fun q2 => fin _ _ _ ?_, fun q2 => ⟨fun q3 => ?_, fun q3 => fin _ _ _ ?_⟩⟩⟩
      · refine (mEnd_no ?_).symm
        cases ht : tt (mEnv s p (M 115 179)) with
        | none => simp
        | some w => rw [ht] at hy; simp; omega
      · refine (mEnd_no ?_).symm
        cases ht : tt (mEnv s p (M 115 179)) with
        | none => simp
        | some w => rw [ht] at hy; omega
      · cases ht : tt (mEnv s p (M 115 179)) with
        | none => rw [ht] at hy; omega
        | some w =>
          rw [ht] at hy
          cases ha : a (mEnv s p (M 115 179)) with
          | none => rw [ha] at hx; omega
          | some v =>
            rw [ha] at hx
            have ev : mEnd a (some tt) (mEnv s p (M 115 179)) = max (-999) (min 999 v) := mEnd_yes (by rw [ht]; congr 1; omega) ha
            refine ⟨fun z => ⟨fun z2 => ⟨⟨by omega, by omega⟩, fin _ _ _ (by rw [ev]; omega)⟩, fun z2 => fin _ _ _ (by rw [ev]; omega)⟩, fun z => fin _ _ _ (by rw [ev]; omega)⟩
      · cases ha : a (mEnv s p (M 115 179)) with
        | none => exact (mEnd_br ha).symm
        | some v => rw [ha] at hx; omega
    exact ⟨fun q => k93 0 (by omega), fun q => k93 1 (by omega)⟩
  · rw [if_neg hc] at e2
    subst e2
    rw [← e115] at hc
    refine m_passes hT r22 (by omega) (by decide) (fun q => absurd q hc) (fun _ => ⟨fun _ => ?_, fun q => by omega⟩)
    apply vX10_worthOf_93
    rw [stM_23]
    refine ⟨fun q => by omega, fun q => ⟨fun q2 => by omega, fun q2 => ⟨fun q3 => ?_, fun q3 => fin _ _ _ ?_⟩⟩⟩
    · cases ha : a (mEnv s p (M 115 179)) with
      | none => rw [ha] at hx; omega
      | some v =>
        rw [ha] at hx
        have ev : mEnd a none (mEnv s p (M 115 179)) = max (-999) (min 999 v) := mEnd_one ha
        refine ⟨fun z => ⟨fun z2 => ⟨⟨by omega, by omega⟩, fin _ _ _ (by rw [ev]; omega)⟩, fun z2 => fin _ _ _ (by rw [ev]; omega)⟩, fun z => fin _ _ _ (by rw [ev]; omega)⟩
    · cases ha : a (mEnv s p (M 115 179)) with
      | none => exact (mEnd_br ha).symm
      | some v => rw [ha] at hx; omega
/-- behind looks(): each END is worth what the class tells -/
def LK (M M' : ZM) : Prop := frm M M' ∧ M' 113 26 = M 113 1 ∧ (∀ b, b ≠ 113 → b ≠ 125 → b ≠ 126 → M' b = M b) ∧ ∀ p s, 0 ≤ p → p < M 115 182 → 0 ≤ s → s ≤ 10 → M' 126 (11 * p + s) = if M 115 (10 * p) = 3 then EW M p s else 0
/-- what of the books is wanted for what ENDS are worth -/
def BKE (K : Int → Int) (L : LB) : Prop := WF K ∧ ∀ p, 0 ≤ p → p < K 182 → K (10 * p) = 3 → EQ K L p
theorem BK.e {K : Int → Int} {L : LB} (h : BK K L) : BKE K L := ⟨h.1, fun p a b c => (h.2.2.1 p a b).2 c⟩
theorem m_looksE {d : Nat} {M : ZM} (h3 : BKE (M 115) (bL M 44)) (hV : JV M) {K : ZM → Prop} (hK : ∀ M', LK M M' → (∀ k, k ≠ 21 → k ≠ 22 → k ≠ 23 → k ≠ 26 → M' 113 k = M 113 k) → K M') : zcV (d + 44) 192 [zA 113] M K := by
  have hpl := h3.1.1
  have hday := h3.1.2.2.1
  apply vX10_looks
  refine ⟨fun q => zset ?_, fun q => hK M ⟨frm.rf, q, fun _ _ _ _ => rfl, hV.2 q⟩ (fun _ _ _ _ _ => rfl)⟩
  let Inv := fun (p s : Int) (M1 : ZM) => (∀ b, b ≠ 113 → b ≠ 125 → b ≠ 126 → M1 b = M b) ∧ (∀ k, k ≠ 21 → k ≠ 22 → k ≠ 23 → k ≠ 26 → M1 113 k = M 113 k) ∧ M1 113 26 = M 113 1 ∧ ∀ p' s', 0 ≤ p' → 0 ≤ s' → s' ≤ 10 → (p' < p ∨ p' = p ∧ s' < s) → p' < M 115 182 → M1 126 (11 * p' + s') = if M 115 (10 * p') = 3 then EW M p' s' else 0
  have inner : ∀ (p : Int), 0 ≤ p → p < M 115 182 → (∀ M1, Inv (p + 1) 0 M1 → wX10_looks (d + 43) 22 [(0, zA 113), (1, zI (p + 1))] M1 K) → ∀ (n s : Nat) (M1 : ZM), s + n = 11 → Inv p s M1 → wX10_looks (d + 43) 32 [(0, zA 113), (1, zI p), (2, zI s)] M1 K := by
    intro p p0 p1 nxt n
    induction n with
    | zero =>
      intro s M1 hs hI
      apply vX10_looks_32
      refine ⟨fun _ => ⟨⟨by omega, by omega⟩, nxt M1 ⟨hI.1, hI.2.1, hI.2.2.1, fun p' s' a b c e => hI.2.2.2 p' s' a b c (by omega)⟩⟩, fun q => by omega⟩
    | succ n ih =>
      intro s M1 hs hI
      obtain ⟨i1, i2, i3, i4⟩ := hI
      have e115 : M1 115 = M 115 := i1 115 (by decide) (by decide) (by decide)
      apply vX10_looks_32
      refine ⟨fun q => by omega, fun _ => ⟨⟨by omega, by omega⟩, ⟨by omega, by omega⟩, m_kind (by omega) ?_⟩⟩
      rw [e115]
      have step : ∀ M2 x, (∀ b, b ≠ 113 → b ≠ 125 → M2 b = M1 b) → (∀ k, k ≠ 21 → k ≠ 22 → k ≠ 23 → M2 113 k = M1 113 k) → x = (if M 115 (10 * p) = 3 then EW M p s else 0) → wX10_looks (d + 43) 32 [(0, zA 113), (1, zI p), (2, zI ((s : Int) + 1))] (zup M2 126 (11 * p + s) x) K := by
        intro M2 x r1 r2 hx
        refine ih (s + 1) _ (by omega) ⟨fun b b1 b2 b3 => ?_, fun k k1 k2 k3 k4 => ?_, ?_, fun p' s' a b c e g => ?_⟩
        · rw [zup_row b3, r1 b b1 b2, i1 b b1 b2 b3]
        · rw [zup_row (by decide), r2 k k1 k2 k3, i2 k k1 k2 k3 k4]
        · rw [zup_row (by decide), r2 26 (by decide) (by decide) (by decide), i3]
        · rw [zup_at, r1 126 (by decide) (by decide)]
          by_cases hq : 11 * p' + s' = 11 * p + s
          · have : p' = p := by omega
            have : s' = s := by omega
            rw [if_pos hq, hx]
            subst p' s'
            rfl
          · rw [if_neg hq]
            exact i4 p' s' a b c (by omega) g
      refine ⟨fun q => ⟨by omega, zset ⟨⟨by omega, by omega⟩, step M1 0 (fun _ _ _ => rfl) (fun _ _ _ _ => rfl) (by rw [if_neg q])⟩⟩, fun q => ?_⟩
      obtain ⟨⟨f0, f1, f2⟩, f, f3, f4⟩ := h3.2 p p0 p1 q
      refine m_worthOf (n := 5000) (f := f) (by rw [e115]; exact h3.1) p0 (by rw [e115]; exact p1) (by omega) (by omega) (by rw [e115]; exact f2) (by rw [e115]; exact f3) (fun M2 r1 r2 => ⟨by omega, zset ⟨⟨by omega, by omega⟩, step M2 _ r1 r2 ?_⟩⟩)
      rw [if_pos q, e115]
      unfold EW
      rw [f4 s (M 115 179) (by omega) (by omega) (by omega) (by omega)]
  have outer : ∀ (n p : Nat) (M1 : ZM), p + n = (M 115 182).toNat → Inv p 0 M1 → wX10_looks (d + 43) 22 [(0, zA 113), (1, zI p)] M1 K := by
    intro n
    induction n with
    | zero =>
      intro p M1 hp hI
      obtain ⟨i1, i2, i3, i4⟩ := hI
      apply vX10_looks_22
      refine m_places ⟨fun _ => hK M1 ⟨frm.of (fun b b1 b2 => i1 b b1 (by omega) (by omega)) (fun k hk => i2 k (by omega) (by omega) (by omega) (by omega)), i3, i1, fun p' s' a b c e => i4 p' s' a c e (by omega) b⟩ i2, fun q => ?_⟩
      rw [i1 115 (by decide) (by decide) (by decide)] at q
      omega
    | succ n ih =>
      intro p M1 hp hI
      apply vX10_looks_22
      refine m_places ⟨fun q => ?_, fun _ => ?_⟩
      · rw [hI.1 115 (by decide) (by decide) (by decide)] at q
        omega
      · exact inner p (by omega) (by omega) (fun M2 hI2 => ih (p + 1) M2 (by omega) hI2) 11 0 M1 (by omega) hI
  refine outer _ 0 _ (Nat.zero_add _) ⟨fun b b1 b2 b3 => zup_row b1, fun k k1 k2 k3 k4 => zup_ne (fun z => k4 z.2), zup_eq, fun p' s' a b c e g => by omega⟩
theorem m_looksB {d : Nat} {M : ZM} (h3 : BK (M 115) (bL M 44)) (hV : JV M) {K : ZM → Prop} (hK : ∀ M', LK M M' → K M') : zcV (d + 44) 192 [zA 113] M K := m_looksE h3.e hV (fun M' l _ => hK M' l)
theorem m_looks {d t : Nat} {M : ZM} (h : J t M) {K : ZM → Prop} (hK : ∀ M', LK M M' → K M') : zcV (d + 44) 192 [zA 113] M K := m_looksB h.2.2.1 h.jv hK
