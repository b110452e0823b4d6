/-! shareAtForks, weigh -/
theorem c_share {d : Nat} {M : ZM} {K : Int → Int} {Q : ZM → Prop} (hL : CL K M) (hT : CT K M) (hH : HD (M 91)) (hQ : ∀ M', (∀ b, b ≠ 94 → M' b = M b) → CT K M' → CF K M' → Q M') : zcV (d + 1) 11 [zA 89] M Q := by
  obtain ⟨hW, c1, c2, c3⟩ := id hL
  obtain ⟨a1, a2, a3, a4, a5, a6, a7, a8⟩ := id hW
  let Inv := fun (p : Int) (M1 : ZM) => (∀ b, b ≠ 94 → M1 b = M b) ∧ CT K M1 ∧ ∀ p', 0 ≤ p' → p' < p → p' < K 182 → K (10 * p') = 0 → (K (10 * p' + 2) = 1 → M1 94 (p' * 3) = 10) ∧ (K (10 * p' + 2) = 2 → M1 94 (p' * 3) = M 91 (3 * K (10 * p' + 1)) ∧ M1 94 (p' * 3 + 1) = 10 - M 91 (3 * K (10 * p' + 1))) ∧ (K (10 * p' + 2) = 3 → M1 94 (p' * 3) = M 91 (3 * K (10 * p' + 1)) ∧ M1 94 (p' * 3 + 1) = M 91 (3 * K (10 * p' + 1) + 1) ∧ M1 94 (p' * 3 + 2) = 10 - M 91 (3 * K (10 * p' + 1)) - M 91 (3 * K (10 * p' + 1) + 1))
  have lp : ∀ (n p : Nat) (M1 : ZM), p + n = (K 182).toNat → Inv p M1 → wX1_shareAtForks d 2 [(0, zA 89), (1, zI p)] M1 Q := by
    intro n
    induction n with
    | zero =>
      intro p M1 hn hI
      obtain ⟨r, t, f⟩ := hI
      apply vX1_shareAtForks_2
      rw [r 44 (by decide), c1]
      refine ⟨fun _ => hQ M1 r t (fun p' a b c => ?_), fun q => by omega⟩
      rw [r 91 (by decide)]
      exact f p' a (by omega) b c
    | succ n ih =>
      intro p M1 hn hI
      obtain ⟨r, t, f⟩ := hI
      obtain ⟨q1, q2, q3, q4, q5, q6⟩ := c3 p (by omega) (by omega)
      obtain ⟨w1, w2, w3, w4, w5, w6⟩ := a8 p (by omega) (by omega)
      apply vX1_shareAtForks_2
      rw [r 44 (by decide), c1, r 45 (by decide), q1, r 48 (by decide), q5]
      refine ⟨fun q => by omega, fun _ => ⟨by omega, fun q => ⟨⟨by omega, by omega⟩, ih (p + 1) M1 (by omega) ⟨r, t, fun p' a b c e => f p' a (by
        have : p' ≠ (p : Int) := by rintro rfl; exact q e
        omega) c e⟩⟩, fun q => ?_⟩⟩
      obtain ⟨⟨l0, l1⟩, b0, b1⟩ := w2 q
      have hl := hH (K (10 * p + 1)) l0 (by omega)
      have e90 : ∀ M2 : ZM, (∀ b, b ≠ 94 → M2 b = M b) → M2 90 p = K (10 * p + 1) := fun M2 r2 => by rw [r2 90 (by decide), q2 q]
      -- what is kept of other PLACES
      have keep : ∀ M2 : ZM, (∀ b, b ≠ 94 → M2 b = M b) → (∀ i, (i < (p : Int) * 3 ∨ (p : Int) * 3 + 3 ≤ i) → M2 94 i = M1 94 i) → ((K (10 * p + 2) = 1 → M2 94 ((p : Int) * 3) = 10) ∧ (K (10 * p + 2) = 2 → M2 94 ((p : Int) * 3) = M 91 (3 * K (10 * p + 1)) ∧ M2 94 ((p : Int) * 3 + 1) = 10 - M 91 (3 * K (10 * p + 1))) ∧ (K (10 * p + 2) = 3 → M2 94 ((p : Int) * 3) = M 91 (3 * K (10 * p + 1)) ∧ M2 94 ((p : Int) * 3 + 1) = M 91 (3 * K (10 * p + 1) + 1) ∧ M2 94 ((p : Int) * 3 + 2) = 10 - M 91 (3 * K (10 * p + 1)) - M 91 (3 * K (10 * p + 1) + 1))) → wX1_shareAtForks d 2 [(0, zA 89), (1, zI ((p : Int) + 1))] M2 Q := by
        intro M2 r2 o2 f2
        refine ih (p + 1) M2 (by omega) ⟨r2, fun p' a b => ⟨fun k1 k k0 k2 => ?_, fun k2 => ?_⟩, fun p' a b c e => ?_⟩
        · have hr := (a8 p' a b).rc
          have : p' ≠ p := by rintro rfl; omega
          rw [o2 _ (by omega)]; exact (t p' a b).1 k1 k k0 k2
        · have : p' ≠ p := by rintro rfl; omega
          rw [o2 _ (by omega)]; exact (t p' a b).2 k2
        · by_cases hp : p' = p
          · subst hp; exact f2
          · rw [o2 _ (by omega), o2 _ (by omega), o2 _ (by omega)]
            exact f p' a (by omega) c e
      have stp : ∀ {M2 : ZM} {k left last : Int}, (∀ b, b ≠ 94 → M2 b = M b) → 0 ≤ k → k < last → last ≤ 2 → (-100 ≤ left ∧ left ≤ 100) → (∀ i, 0 ≤ M 91 (3 * K (10 * p + 1) + i) ∧ M 91 (3 * K (10 * p + 1) + i) ≤ 10 ∨ ¬ (0 ≤ i ∧ i ≤ 2)) → wX1_shareAtForks d 43 [(0, zA 89), (1, zI p), (2, zI last), (3, zI (left - M 91 (3 * K (10 * p + 1) + k))), (4, zI (k + 1))] (zup M2 94 ((p : Int) * 3 + k) (M 91 (3 * K (10 * p + 1) + k))) Q → wX1_shareAtForks d 43 [(0, zA 89), (1, zI p), (2, zI last), (3, zI left), (4, zI k)] M2 Q := by
        intro M2 k left last r2 k0 k1 k2 lb mb nx
        have mk := mb k
        apply vX1_shareAtForks_43
        rw [e90 M2 r2, r2 91 (by decide), show K (10 * p + 1) * 3 + k = 3 * K (10 * p + 1) + k by omega]
        refine ⟨fun q => by omega, fun _ => ⟨⟨by omega, by omega⟩, ⟨by omega, by omega⟩, by omega, ⟨by omega, by omega⟩, ⟨by omega, by omega⟩, by omega, by omega, zset ⟨⟨by omega, by omega⟩, ⟨by omega, by omega⟩, by omega, ?_⟩⟩⟩
        rw [zup_eq]
        exact ⟨⟨by omega, by omega⟩, ⟨by omega, by omega⟩, nx⟩
      have mb : ∀ i, 0 ≤ M 91 (3 * K (10 * p + 1) + i) ∧ M 91 (3 * K (10 * p + 1) + i) ≤ 10 ∨ ¬ (0 ≤ i ∧ i ≤ 2) := by
        intro i
        by_cases hi : 0 ≤ i ∧ i ≤ 2
        · left
          rcases (by omega : i = 0 ∨ i = 1 ∨ i = 2) with rfl | rfl | rfl
          · rw [Int.add_zero]; omega
          · omega
          · omega
        · exact Or.inr hi
      have lst : ∀ {M2 : ZM} {left last : Int}, 0 ≤ last → last ≤ 2 → wX1_shareAtForks d 2 [(0, zA 89), (1, zI ((p : Int) + 1))] (zup M2 94 ((p : Int) * 3 + last) left) Q → wX1_shareAtForks d 43 [(0, zA 89), (1, zI p), (2, zI last), (3, zI left), (4, zI last)] M2 Q := by
        intro M2 left last l0 l1 nx
        apply vX1_shareAtForks_43
        exact ⟨fun _ => ⟨⟨by omega, by omega⟩, ⟨by omega, by omega⟩, by omega, zset ⟨⟨by omega, by omega⟩, nx⟩⟩, fun q => by omega⟩
      refine ⟨by omega, ⟨by omega, by omega⟩, ?_⟩
      rcases (by omega : K (10 * p + 2) = 1 ∨ K (10 * p + 2) = 2 ∨ K (10 * p + 2) = 3) with c | c | c
      · rw [c, show (1 : Int) - 1 = 0 by omega]
        refine lst (by omega) (by omega) (keep _ (fun b hb => by rw [zup_row hb, r b hb]) (fun i hi => zup_ne (by omega)) ⟨fun _ => ?_, fun z => by omega, fun z => by omega⟩)
        rw [Int.add_zero, zup_eq]
      · rw [c, show (2 : Int) - 1 = 1 by omega]
        refine stp (k := 0) r (by omega) (by omega) (by omega) (by omega) mb ?_
        rw [show (0 : Int) + 1 = 1 by omega]
        refine lst (by omega) (by omega) (keep _ (fun b hb => by rw [zup_row hb, zup_row hb, r b hb]) (fun i hi => by rw [zup_ne (by omega), zup_ne (by omega)]) ⟨fun z => by omega, fun _ => ⟨?_, ?_⟩, fun z => by omega⟩)
        · rw [zup_ne (by omega), Int.add_zero, Int.add_zero, zup_eq]
        · rw [zup_eq, Int.add_zero]
      · rw [c, show (3 : Int) - 1 = 2 by omega]
        refine stp (k := 0) r (by omega) (by omega) (by omega) (by omega) mb ?_
        rw [show (0 : Int) + 1 = 1 by omega]
        have mb0 := mb 0
        refine stp (k := 1) (fun b hb => by rw [zup_row hb, r b hb]) (by omega) (by omega) (by omega) (by omega) mb ?_
        rw [show (1 : Int) + 1 = 2 by omega]
        refine lst (by omega) (by omega) (keep _ (fun b hb => by rw [zup_row hb, zup_row hb, zup_row hb, r b hb]) (fun i hi => by rw [zup_ne (by omega), zup_ne (by omega), zup_ne (by omega)]) ⟨fun z => by omega, fun z => by omega, fun _ => ⟨?_, ?_, ?_⟩⟩)
        · rw [zup_ne (by omega), zup_ne (by omega), Int.add_zero, Int.add_zero, zup_eq]
        · rw [zup_ne (by omega), zup_eq]
        · rw [zup_eq, Int.add_zero]
  exact vX1_shareAtForks _ _ _ (lp _ 0 M (Nat.zero_add _) ⟨fun _ _ => rfl, hT, fun p' a b => by omega⟩)
/-- states that are reached -/
def RSC (K : Int → Int) (rs : Int → Int → Bool) : Prop := rs 0 (K 178) = true ∧ ∀ s p k, 0 ≤ s → s < K 179 → 0 ≤ p → p < K 182 → 0 ≤ k → k < K (10 * p + 2) → rs s p = true → rs (s + 1) (K (10 * p + 3 + k)) = true
/-- the order of those from which he goes on -/
def ORD (K : Int → Int) (rs : Int → Int → Bool) (M : ZM) : Prop := (0 ≤ M 89 8 ∧ M 89 8 ≤ 176) ∧ (∀ i, 0 ≤ i → i < M 89 8 → ∃ s p, M 93 i = 16 * s + p ∧ 0 ≤ s ∧ s < K 179 ∧ 0 ≤ p ∧ p < K 182 ∧ K (10 * p) ≠ 3 ∧ rs s p = true) ∧ (∀ s p, 0 ≤ s → s < K 179 → 0 ≤ p → p < K 182 → K (10 * p) ≠ 3 → rs s p = true → ∃ i, 0 ≤ i ∧ i < M 89 8 ∧ M 93 i = 16 * s + p) ∧ ∀ i j, 0 ≤ i → i ≤ j → j < M 89 8 → M 93 j / 16 ≤ M 93 i / 16
/-- what no RULE changes -/
def BAS (K : Int → Int) (E : Int → Int → Int) (rs : Int → Int → Bool) (M : ZM) : Prop := ∀ s p, 0 ≤ s → s ≤ K 179 → 0 ≤ p → p ≤ 15 → rs s p = true → (K 182 ≤ p → M 92 (16 * s + p) = K 181 * 10000000000) ∧ (p < K 182 → K (10 * p) = 3 → M 92 (16 * s + p) = E p s * 10000000000) ∧ (p < K 182 → K (10 * p) ≠ 3 → s = K 179 → M 92 (16 * s + p) = K 180 * 10000000000)
def FIN (K : Int → Int) (E : Int → Int → Int) (hd : Int → Int) (fr : Int → Bool) (rs : Int → Int → Bool) (M : ZM) : Prop := ∀ s p, 0 ≤ s → s ≤ K 179 → 0 ≤ p → p ≤ 15 → rs s p = true → M 92 (16 * s + p) = VV K E hd fr (K 179 - s).toNat p * 10 ^ (10 - (K 179 - s).toNat)
theorem pow_split {n : Nat} (h : n ≤ 10) : (10 : Int) ^ n * 10 ^ (10 - n) = 10000000000 := by
  rw [← Int.pow_add, show n + (10 - n) = 10 by omega]
  decide
theorem c_weigh {d : Nat} {M : ZM} {K : Int → Int} {E : Int → Int → Int} {rs : Int → Int → Bool} {Q : Int → ZM → Prop} (hL : CL K M) (hT : CT K M) (hO : ORD K rs M) (hC : RSC K rs) (hB : BAS K E rs M) (hE : EB K E) (hH : HD (M 91)) (hf : bs 6 (M 89 5)) (hQ : ∀ M', (∀ b, b ≠ 92 → b ≠ 94 → M' b = M b) → CT K M' → CF K M' → BAS K E rs M' → FIN K E (M 91) (fun l => bt (M 89 5) l) rs M' → Q (WS K E (M 91) (fun l => bt (M 89 5) l)) M') : zcL (d + 2) 8 [zA 89] M Q := by
  obtain ⟨hW, c1, c2, c3⟩ := id hL
  obtain ⟨a1, a2, a3, a4, a5, a6, a7, a8⟩ := id hW
  obtain ⟨o1, o2, o3, o4⟩ := id hO
  have hfr := hf.r (by decide)
  apply vX1_weigh
  refine c_share hL hT hH (fun MS r0 t0 f0 => ?_)
  let G := fun (s p : Int) (M1 : ZM) => M1 92 (16 * s + p) = VV K E (M 91) (fun l => bt (M 89 5) l) (K 179 - s).toNat p * 10 ^ (10 - (K 179 - s).toNat)
  let Inv := fun (i : Int) (M1 : ZM) => (∀ b, b ≠ 92 → M1 b = MS b) ∧ BAS K E rs M1 ∧ ∀ j, 0 ≤ j → j < i → j < M 89 8 → ∀ s p, 0 ≤ s → s < K 179 → 0 ≤ p → p < K 182 → M 93 j = 16 * s + p → G s p M1
  have base : ∀ M1, BAS K E rs M1 → ∀ s p, 0 ≤ s → s ≤ K 179 → 0 ≤ p → p ≤ 15 → rs s p = true → (K 182 ≤ p ∨ K (10 * p) = 3 ∨ s = K 179) → G s p M1 := by
    intro M1 hb s p s0 s1 p0 p1 hr hn
    obtain ⟨b1, b2, b3⟩ := hb s p s0 s1 p0 p1 hr
    show M1 92 (16 * s + p) = _
    have ps := pow_split (n := (K 179 - s).toNat) (by omega)
    generalize hm : (K 179 - s).toNat = m at ps ⊢
    by_cases hp : p < K 182
    · by_cases hk : K (10 * p) = 3
      · rw [b2 hp hk]
        cases m with
        | zero =>
          unfold VV
          rw [if_pos hp, if_pos hk, show s = K 179 by omega]
          rfl
        | succ m =>
          unfold VV
          rw [if_pos hp, if_pos hk, Int.mul_assoc, ps, show K 179 - ((m + 1 : Nat) : Int) = s by omega]
      · have hs : s = K 179 := by omega
        obtain rfl : m = 0 := by omega
        rw [b3 hp hk hs]
        unfold VV
        rw [if_pos hp, if_neg hk]
        rfl
    · rw [b1 (by omega)]
      cases m with
      | zero => unfold VV; rw [if_neg hp]; rfl
      | succ m => unfold VV; rw [if_neg hp, Int.mul_assoc, ps]
  have all : ∀ M1 (i : Int), Inv i M1 → ∀ s p, 0 ≤ s → s ≤ K 179 → 0 ≤ p → p ≤ 15 → rs s p = true → (∀ j, 0 ≤ j → j < M 89 8 → M 93 j = 16 * s + p → j < i) → G s p M1 := by
    intro M1 i hI s p s0 s1 p0 p1 hr hj
    by_cases hn : K 182 ≤ p ∨ K (10 * p) = 3 ∨ s = K 179
    · exact base M1 hI.2.1 s p s0 s1 p0 p1 hr hn
    · obtain ⟨j, j0, j1, j2⟩ := o3 s p s0 (by omega) p0 (by omega) (by omega) hr
      exact hI.2.2 j j0 (hj j j0 j1 j2) j1 s p s0 (by omega) p0 (by omega) j2
  have lp : ∀ (n i : Nat) (M1 : ZM), i + n = (M 89 8).toNat → Inv i M1 → wX1_weigh (d + 1) 6 [(0, zA 89), (1, zI i)] M1 Q := by
    intro n
    induction n with
    | zero =>
      intro i M1 hn hI
      have e55 : M1 55 = M 55 := by rw [hI.1 55 (by decide), r0 55 (by decide)]
      apply vX1_weigh_6
      rw [hI.1 89 (by decide), r0 89 (by decide), e55, c2.1]
      refine ⟨fun _ => ⟨by omega, by omega, ?_⟩, fun q => by omega⟩
      have g := all M1 i hI 0 (K 178) (by omega) (by omega) a2.1 a2.2 hC.1 (fun j j0 j1 _ => by omega)
      have g : M1 92 (16 * 0 + K 178) = _ := g
      rw [show (16 : Int) * 0 + K 178 = K 178 by omega, show K 179 - 0 = K 179 by omega] at g
      rw [g]
      refine hQ M1 (fun b b1 b2 => by rw [hI.1 b b1, r0 b b2]) (fun p p0 p1 => ?_) (fun p p0 p1 pk => ?_) hI.2.1 (fun s p s0 s1 p0 p1 hr => all M1 i hI s p s0 s1 p0 p1 hr (fun j j0 j1 _ => by omega))
      · rw [hI.1 94 (by decide)]; exact t0 p p0 p1
      · rw [hI.1 94 (by decide), hI.1 91 (by decide)]; exact f0 p p0 p1 pk
    | succ n ih =>
      intro i M1 hn hI
      have m1 : ∀ b, b ≠ 92 → b ≠ 94 → M1 b = M b := fun b b1 b2 => by rw [hI.1 b b1, r0 b b2]
      obtain ⟨s, p, e, s0, s1, p0, p1, k3, hr⟩ := o2 i (by omega) (by omega)
      obtain ⟨q1, q2, q3, q4, q5, q6⟩ := c3 p p0 p1
      obtain ⟨w1, w2, w3, w4, w5, w6⟩ := a8 p p0 p1
      have hrc := (a8 p p0 p1).rc
      have e93 : M1 93 i = 16 * s + p := by rw [m1 93 (by decide) (by decide)]; exact e
      have tm : Int.tmod (16 * s + p) 16 = p := by rw [Int.tmod_eq_emod_of_nonneg (by omega)]; omega
      have L1 : CL K M1 := hL.congr (fun b hb => m1 b (by omega) (by omega))
      have T1 : CT K M1 := fun p p0 p1 => by rw [hI.1 94 (by decide)]; exact t0 p p0 p1
      have F1 : CF K M1 := fun p p0 p1 pk => by rw [hI.1 94 (by decide), hI.1 91 (by decide)]; exact f0 p p0 p1 pk
      have e91 : M1 91 = M 91 := m1 91 (by decide) (by decide)
      have hnn : (K 179 - s).toNat = (K 179 - (s + 1)).toNat + 1 := by omega
      have hV : ∀ k, 0 ≤ k → k < K (10 * p + 2) → M1 92 (16 * s + 16 + K (10 * p + 3 + k)) = VV K E (M1 91) (fun l => bt (M 89 5) l) (K 179 - (s + 1)).toNat (K (10 * p + 3 + k)) * 10 ^ (10 - (K 179 - (s + 1)).toNat) := by
        intro k k0 k1
        have rb := w6 k k0 k1
        have g := all M1 i hI (s + 1) (K (10 * p + 3 + k)) (by omega) (by omega) rb.1 rb.2 (hC.2 s p k s0 s1 p0 p1 k0 k1 hr) (fun j j0 j1 j2 => by
          by_cases hj : j < i
          · exact hj
          · have := o4 i j (by omega) (by omega) j1
            rw [e, j2] at this
            omega)
        rw [e91, show 16 * s + 16 + K (10 * p + 3 + k) = 16 * (s + 1) + K (10 * p + 3 + k) by omega]
        exact g
      have nx : ∀ x, x = VV K E (M1 91) (fun l => bt (M 89 5) l) ((K 179 - (s + 1)).toNat + 1) p * 10 ^ (10 - ((K 179 - (s + 1)).toNat + 1)) → wX1_weigh (d + 1) 6 [(0, zA 89), (1, zI ((i : Int) + 1))] (zup M1 92 (16 * s + p) x) Q := by
        intro x hx
        refine ih (i + 1) _ (by omega) ⟨fun b hb => by rw [zup_row hb, hI.1 b hb], fun s' p' a b c e' f => ?_, fun j j0 j1 j2 s' p' a b c e' f => ?_⟩
        · obtain ⟨y1, y2, y3⟩ := hI.2.1 s' p' a b c e' f
          refine ⟨fun z => ?_, fun z z2 => ?_, fun z z2 z3 => ?_⟩
          · rw [zup_ne (by omega)]; exact y1 z
          · rw [zup_ne (fun w => by
              have hs : s' = s := by omega
              have hp : p' = p := by omega
              subst hp; exact k3 z2)]; exact y2 z z2
          · rw [zup_ne (by omega)]; exact y3 z z2 z3
        · show zup M1 92 (16 * s + p) x 92 (16 * s' + p') = _
          rw [zup_at]
          by_cases hq : 16 * s' + p' = 16 * s + p
          · have hs : s' = s := by omega
            have hp : p' = p := by omega
            subst hs hp
            rw [if_pos rfl, hx, e91, hnn]
          · rw [if_neg hq]
            refine hI.2.2 j j0 ?_ j2 s' p' a b c e' f
            by_cases hji : j = i
            · subst hji; omega
            · omega
      apply vX1_weigh_6
      rw [m1 89 (by decide) (by decide), e93, tm, m1 45 (by decide) (by decide), q1, m1 90 (by decide) (by decide), show 16 * s + p - p + 16 = 16 * s + 16 by omega]
      refine ⟨fun q => by omega, fun _ => ⟨by omega, by omega, ⟨by omega, by omega⟩, ⟨by omega, by omega⟩, by omega, fun q => ?_, fun q => ⟨by omega, fun z => ?_, fun z => ?_⟩⟩⟩
      · exact c_mean (E := E) (fr := fun l => bt (M 89 5) l) L1 T1 F1 hE (by rw [e91]; exact hH) p0 p1 k3 (by omega) (fun z => absurd z q) (by omega) (by omega) hV ⟨by omega, zset ⟨⟨by omega, by omega⟩, nx _ rfl⟩⟩
      · rw [q2 q, bt_read hfr.1 hfr.2 (w2 q).1.1 (by have := (w2 q).1.2; omega)] at z
        refine c_mean (E := E) (fr := fun l => bt (M 89 5) l) L1 T1 F1 hE (by rw [e91]; exact hH) p0 p1 k3 (by omega) (fun _ => ?_) (by omega) (by omega) hV ⟨by omega, zset ⟨⟨by omega, by omega⟩, nx _ rfl⟩⟩
        cases hb : bt (M 89 5) (K (10 * p + 1)) with
        | false => rfl
        | true => rw [hb] at z; exact absurd (if_pos rfl) z
      · rw [q2 q, bt_read hfr.1 hfr.2 (w2 q).1.1 (by have := (w2 q).1.2; omega)] at z
        refine c_most (E := E) (fr := fun l => bt (M 89 5) l) L1 hE (by rw [e91]; exact hH) p0 p1 q (by omega) ?_ (by omega) (by omega) hV ⟨by omega, zset ⟨⟨by omega, by omega⟩, nx _ rfl⟩⟩
        cases hb : bt (M 89 5) (K (10 * p + 1)) with
        | true => rfl
        | false => rw [hb] at z; simp at z
  exact lp _ 0 MS (Nat.zero_add _) ⟨fun _ _ => rfl, fun s p a b c e f => by rw [r0 92 (by decide)]; exact hB s p a b c e f, fun j j0 j1 => by omega⟩
