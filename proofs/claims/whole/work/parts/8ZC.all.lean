/-! the TEXT: PLACES with ';' between them -/
abbrev OR : Type := Int ⊕ (Int × (Int → Int))
def oB (r : PLR) (F : Int → Int → (Int → Int) → OR) : OR := match r with
  | (j, _, none) => .inl j
  | (j, lv, some f) => F j lv f
def rU (R : Int → Int) (q : Int) (f : Int → Int) : Int → Int := fun k => if 10 * q ≤ k ∧ k < 10 * q + 10 then f (k - 10 * q) else R k
def oC (c v : Int → Int) (n : Nat) (t : Int) : Nat → Int → Int → Int → (Int → Int) → OR
  | 0, _, i, _, _ => .inl i
  | m + 1, q, i, lv, R => oB (pL c v n i lv) (fun j lv1 f => if c j = 159 then oC c v n t m (q + 1) (j + 1) lv1 (rU R q f) else if j < t then .inl j else .inr (q + 1, rU R q f))
theorem oC_0 (c v : Int → Int) (n : Nat) (t q i lv : Int) (R : Int → Int) : oC c v n t 0 q i lv R = .inl i := rfl
theorem oC_s (c v : Int → Int) (n : Nat) (t : Int) (m : Nat) (q i lv : Int) (R : Int → Int) : oC c v n t (m + 1) q i lv R = oB (pL c v n i lv) (fun j lv1 f => if c j = 159 then oC c v n t m (q + 1) (j + 1) lv1 (rU R q f) else if j < t then .inl j else .inr (q + 1, rU R q f)) := rfl
theorem rU_old {R f : Int → Int} {q p k : Int} (h : p < q) (k1 : k < 10) : rU R q f (10 * p + k) = R (10 * p + k) := if_neg (by omega)
theorem rU_new {R f : Int → Int} {q k : Int} (k0 : 0 ≤ k) (k1 : k < 10) : rU R q f (10 * q + k) = f k := by
  unfold rU
  rw [if_pos (by omega), show 10 * q + k - 10 * q = k by omega]
/-- rows that are PLACES -/
def oW (Q : Int) (R : Int → Int) : Prop := ∀ p, 0 ≤ p → p < Q → wPL (fun k => R (10 * p + k))
theorem wPL.cg {f g : Int → Int} (h : wPL f) (e : ∀ k, 0 ≤ k → k < 10 → g k = f k) : wPL g := by
  have r := h.r3
  unfold wPL at *
  rw [e 0 (by decide) (by decide), e 1 (by decide) (by decide), e 2 (by decide) (by decide), e 6 (by decide) (by decide), e 7 (by decide) (by decide), e 8 (by decide) (by decide)]
  refine ⟨h.1, h.2.1, fun w => ⟨(h.2.2.1 w).1, fun k k0 k1 => ?_, (h.2.2.1 w).2.2⟩, h.2.2.2.1, h.2.2.2.2.1, fun k k0 k1 => ?_⟩
  · rw [e (6 + k) (by omega) (by omega)]; exact (h.2.2.1 w).2.1 k k0 k1
  · rw [e (3 + k) (by omega) (by omega)]; exact h.2.2.2.2.2 k k0 k1
theorem oW.nx {q : Int} {R f : Int → Int} (h : oW q R) (w : wPL f) : oW (q + 1) (rU R q f) := by
  intro p p0 p1
  by_cases e : p = q
  · rw [e]; exact w.cg (fun k k0 k1 => rU_new k0 k1)
  · exact (h p p0 (by omega)).cg (fun k k0 k1 => rU_old (by omega) k1)
def oG (t : Int) (o : OR) : Prop := match o with
  | .inl j => 0 ≤ j ∧ j ≤ t
  | .inr (Q, R) => (1 ≤ Q ∧ Q ≤ 16) ∧ oW Q R
theorem oC_rg {c v : Int → Int} {n : Nat} {t : Int} (hT : TKC c v t) (hn : 4820 ≤ n) : ∀ (m : Nat) (q i lv : Int) (R : Int → Int), q + m = 16 → 0 ≤ q → 0 ≤ i → i ≤ t → 0 ≤ lv → lv ≤ 50 → oW q R → oG t (oC c v n t m q i lv R) := by
  intro m
  induction m with
  | zero => intro q i lv R hq q0 i0 it l0 l1 hw; exact ⟨i0, it⟩
  | succ m ih =>
    intro q i lv R hq q0 i0 it l0 l1 hw
    rw [oC_s]
    have g := pL_rg hT hn l0 l1 i0 it
    generalize pL c v n i lv = r at *
    obtain ⟨j, lv1, o⟩ := r
    have g1 := g.1
    have g1 : i ≤ j := g1
    have g2 := g.2.1
    have g2 : j ≤ t := g2
    cases o with
    | none => exact ⟨by omega, g2⟩
    | some f =>
      obtain ⟨g3, g4⟩ := g.2.2 f rfl
      have g3 : lv ≤ lv1 ∧ lv1 ≤ 50 := g3
      show oG t (if c j = 159 then oC c v n t m (q + 1) (j + 1) lv1 (rU R q f) else if j < t then .inl j else .inr (q + 1, rU R q f))
      by_cases y : c j = 159
      · have jl := tk_lt hT (by decide) y
        rw [if_pos y]
        exact ih (q + 1) (j + 1) lv1 _ (by omega) (by omega) (by omega) (by omega) (by omega) g3.2 (hw.nx g4)
      · rw [if_neg y]
        by_cases z : j < t
        · rw [if_pos z]; exact ⟨by omega, g2⟩
        · rw [if_neg z]; exact ⟨⟨by omega, by omega⟩, hw.nx g4⟩
/-! the reference -/
def rA (M M' : ZM) : Prop := (∀ x, x ≠ 124 → x ≠ 113 → M' x = M x) ∧ ∀ k, k ≠ 15 → k ≠ 16 → k ≠ 17 → k ≠ 19 → k ≠ 20 → M' 113 k = M 113 k
theorem rA.rf {M : ZM} : rA M M := ⟨fun _ _ _ => rfl, fun _ _ _ _ _ _ => rfl⟩
theorem rA.tr {M M1 M2 : ZM} (h : rA M M1) (g : rA M1 M2) : rA M M2 := ⟨fun x a b => by rw [g.1 x a b, h.1 x a b], fun k a b d e f => by rw [g.2 k a b d e f, h.2 k a b d e f]⟩
theorem rB.ra {q : Int} {M M' : ZM} (h : rB q M M') : rA M M' := ⟨h.1, fun k a b d _ f => h.2.1 k a b d f⟩
theorem rA.tk {M M1 : ZM} {c v : Int → Int} {T : Int} (h : rA M M1) (g : TKN c v M T) : TKN c v M1 T := by
  unfold TKN at *
  rw [h.1 121 (by decide) (by decide), h.1 122 (by decide) (by decide), h.1 123 (by decide) (by decide)]
  exact g
theorem rA.mn {M : ZM} {x : Int} : rA M (zup M 113 19 x) := ⟨fun _ _ p => zup_row p, fun _ _ _ _ p _ => by rw [zup_at, if_neg p]⟩
theorem rdS_19 {M0 : ZM} {t l b x : Int} : zup (rdS M0 t l b) 113 19 x = rdS (zup M0 113 19 x) t l b := by
  funext y k
  unfold zup rdS
  dsimp only
  by_cases h : y = 113 ∧ k = 19
  · rw [if_pos h, if_neg (by omega), if_neg (by omega), if_neg (by omega), if_pos h]
  · rw [if_neg h, if_neg h]
def orK (M0 : ZM) (o : OR) (W : ZM → Prop) : Prop := match o with
  | .inl j => ∀ M1 x y, rA M0 M1 → W (rdS M1 x y (M0 123 j))
  | .inr (Q, R) => ∀ M1 x y, rA M0 M1 → M1 113 19 = Q → (∀ k, 0 ≤ k → k < 10 * Q → M1 124 k = R k) → W (rdS M1 x y (-1))
theorem orK.st {M0 M1 : ZM} {o : OR} {W : ZM → Prop} (h : orK M0 o W) (f : rA M0 M1) : orK M1 o W := by
  cases o with
  | inl j => exact fun M2 x y g => by rw [f.1 123 (by decide) (by decide)]; exact h M2 x y (f.tr g)
  | inr r => exact fun M2 x y g a b => h M2 x y (f.tr g) a b
theorem rl_all {c v : Int → Int} {n D : Nat} {t : Int} (hn : 4820 ≤ n) {K : Int → ZM → Prop} : ∀ (m : Nat) (q i lv : Int) (R : Int → Int) (M0 : ZM), q + m = 16 → 0 ≤ q → TKN c v M0 t → M0 113 14 = t → M0 113 19 = q → 0 ≤ i → i ≤ t → 0 ≤ lv → lv ≤ 50 → (∀ k, 0 ≤ k → k < 10 * q → M0 124 k = R k) → orK M0 (oC c v n t m q i lv R) (fun M => wX10_country (D + 40) 108 [(0, zA 113)] M K) → wX10_country (D + 40) 35 [(0, zA 113), (1, zI 1)] (rdS M0 i lv (-1)) K := by
  -- behind a FAULT
  have bad : ∀ (M1 : ZM) (x y b q : Int), 0 ≤ b → M1 113 19 = q → 0 ≤ q → q ≤ 20 → (∀ M2, rA M1 M2 → wX10_country (D + 40) 108 [(0, zA 113)] (rdS M2 x y b) K) → r32 (rdS M1 x y b 113 19 + 1) ∧ ∀ M3, M3 = zup (rdS M1 x y b) 113 19 (rdS M1 x y b 113 19 + 1) → zcI (D + 40) 170 [zI 59] M3 fun x5 M4 => zcI (D + 40) 167 [zA 113, zI x5] M4 fun x7 M6 => wX10_country (D + 40) 35 [(0, zA 113), (1, zI x7)] M6 K := by
    intro M1 x y b q hb e q0 q1 h
    rw [rdS_113 (by decide) (by decide) (by decide), e]
    refine ⟨⟨by omega, by omega⟩, zset ?_⟩
    rw [rdS_19]
    refine r_sign (by omega) (by omega) (r_ntakes hb ?_)
    apply vX10_country_35
    exact ⟨fun _ => r_nfine hb ⟨fun _ => h _ rA.mn, fun z => absurd rfl z⟩, fun z => absurd rfl z⟩
  intro m
  induction m with
  | zero =>
    intro q i lv R M0 hq q0 hT e14 e19 i0 it l0 l1 hR hk
    have pj := (hT.2.2 i i0 it).2.2.1
    apply vX10_country_35
    refine ⟨fun z => by omega, fun _ => ⟨fun z => ?_, fun _ => r_faults hT i0 it ?_⟩⟩
    · rw [rdS_113 (by decide) (by decide) (by decide)] at z
      omega
    · apply vX10_country_52
      exact r_nfine pj ⟨fun _ => bad M0 i lv _ q pj e19 q0 (by omega) (fun M2 g => hk M2 i lv g), fun z => absurd rfl z⟩
  | succ m ih =>
    intro q i lv R M0 hq q0 hT e14 e19 i0 it l0 l1 hR hk
    rw [oC_s] at hk
    have hT2 : TKC c v t := ⟨hT.1, hT.2.1, fun j j0 j1 => (hT.2.2 j j0 j1).2.2.2⟩
    have g := pL_rg hT2 hn l0 l1 i0 it
    apply vX10_country_35
    refine ⟨fun z => by omega, fun _ => ⟨fun _ => ?_, fun z => ?_⟩⟩
    · apply vX10_country_52
      refine r_fine ⟨fun z => by omega, fun _ => rl_place (D := D) (n := n) hT hn e19 q0 (by omega) i0 it l0 l1 ?_⟩
      generalize pL c v n i lv = r at *
      obtain ⟨j, lv1, o⟩ := r
      have g1 := g.1
      have g1 : i ≤ j := g1
      have g2 := g.2.1
      have g2 : j ≤ t := g2
      have pj := (hT.2.2 j (by omega) g2).2.2.1
      cases o with
      | none => exact fun M1 x y b1 => bad M1 x y _ q pj (by rw [b1.2.1 19 (by decide) (by decide) (by decide) (by decide)]; exact e19) q0 (by omega) (fun M2 g => hk M2 x y (b1.ra.tr g))
      | some f =>
        obtain ⟨g3, g4⟩ := g.2.2 f rfl
        have g3 : lv ≤ lv1 ∧ lv1 ≤ 50 := g3
        have hk : orK M0 (if c j = 159 then oC c v n t m (q + 1) (j + 1) lv1 (rU R q f) else if j < t then .inl j else .inr (q + 1, rU R q f)) (fun M => wX10_country (D + 40) 108 [(0, zA 113)] M K) := hk
        intro M1 b1 w1
        show r32 (rdS M1 j lv1 (-1) 113 19 + 1) ∧ _
        rw [rdS_113 (by decide) (by decide) (by decide), b1.2.1 19 (by decide) (by decide) (by decide) (by decide), e19]
        refine ⟨⟨by omega, by omega⟩, zset ?_⟩
        rw [rdS_19]
        have a2 := b1.ra.tr (rA.mn (x := q + 1))
        have hT2 := a2.tk hT
        have e2 : zup M1 113 19 (q + 1) 113 19 = q + 1 := zup_eq
        have e4 : zup M1 113 19 (q + 1) 113 14 = t := by rw [a2.2 14 (by decide) (by decide) (by decide) (by decide) (by decide)]; exact e14
        have eR : ∀ k, 0 ≤ k → k < 10 * (q + 1) → zup M1 113 19 (q + 1) 124 k = rU R q f k := fun k k0 k1 => by
          rw [zup_row (by decide)]
          by_cases z : k < 10 * q
          · rw [b1.2.2 k z, hR k k0 z]
            exact (if_neg (by omega)).symm
          · have := w1 (k - 10 * q) (by omega) (by omega)
            rw [show 10 * q + (k - 10 * q) = k by omega] at this
            rw [this]
            exact (if_pos (by omega)).symm
        generalize zup M1 113 19 (q + 1) = M2 at *
        refine r_sign (by omega) (by omega) (r_takes hT2 (by omega) g2 (fun y => ?_) (fun y => ?_))
        · have y : c j = 159 := y
          rw [if_pos y] at hk
          have jl := rl_lt hT (by decide) y
          exact ih (q + 1) (j + 1) lv1 _ M2 (by omega) (by omega) hT2 e4 e2 (by omega) (by omega) (by omega) g3.2 eR (hk.st a2)
        · have y : c j ≠ 159 := y
          rw [if_neg y] at hk
          apply vX10_country_35
          refine ⟨fun _ => r_fine ⟨fun z => by omega, fun _ => ?_⟩, fun z => absurd rfl z⟩
          rw [rdS_113 (by decide) (by decide) (by decide), e4, rdS_15]
          refine ⟨fun z => ?_, fun z => r_faults hT2 (by omega) g2 ?_⟩
          · rw [if_neg (by omega)] at hk
            exact hk M2 j lv1 a2 e2 eR
          · rw [if_pos (by omega)] at hk
            rw [a2.1 123 (by decide) (by decide)]
            exact hk M2 j lv1 a2
    · rw [rdS_113 (by decide) (by decide) (by decide)] at z
      omega
/-! the class -/
def cA (M M' : ZM) : Prop := (∀ x, x < 31 ∨ 42 < x → M' x = M x)
theorem clF.ca {p : Int} {M M' : ZM} (h : clF p M M') : cA M M' := fun x a => h.1 x (by omega)
theorem cA.tr {M M1 M2 : ZM} (h : cA M M1) (g : cA M1 M2) : cA M M2 := fun x a => by rw [g x a, h x a]
theorem cA.up {M : ZM} {x : Nat} {a y : Int} (h0 : 31 ≤ x) (h1 : x ≤ 42) : cA M (zup M x a y) := fun z hz => zup_row (by omega)
def ocK (T : Int → Int) (L : Int) (c v : Int → Int) (n : Nat) (M : ZM) (o : OR) (K : Int → ZM → Prop) : Prop := match o with
  | .inl j => ∀ M1, cA M M1 → K (tP T L j.toNat) M1
  | .inr (Q, R) => ∀ M1 n1, cA M M1 → n1 ≤ 400 → M1 31 0 = Q → (∀ p, 0 ≤ p → p < Q → cPL c v n (fun k => R (10 * p + k)) M1 p n1) → K (-1) M1
theorem ocK.st {T : Int → Int} {L : Int} {c v : Int → Int} {n : Nat} {M M1 : ZM} {o : OR} {K : Int → ZM → Prop} (h : ocK T L c v n M o K) (f : cA M M1) : ocK T L c v n M1 o K := by
  cases o with
  | inl j => exact fun M2 g => h M2 (f.tr g)
  | inr r => exact fun M2 n1 g a b e => h M2 n1 (f.tr g) a b e
theorem cPL.cg {c v : Int → Int} {n : Nat} {f g : Int → Int} {M : ZM} {p n1 : Int} (h : cPL c v n f M p n1) (hw : wPL f) (e : ∀ k, 0 ≤ k → k < 10 → g k = f k) : cPL c v n g M p n1 := by
  have r := hw.r3
  obtain ⟨⟨q1, q2, q3, q4, q5, q6⟩, h35, he⟩ := h
  unfold cPL CQ CE
  rw [e 0 (by decide) (by decide), e 1 (by decide) (by decide), e 2 (by decide) (by decide), e 9 (by decide) (by decide)]
  refine ⟨⟨q1, q2, q3, q4, fun k k0 k1 => ?_, fun w k k0 k1 => ?_⟩, h35, he⟩
  · rw [e (3 + k) (by omega) (by omega)]; exact q5 k k0 k1
  · rw [e (6 + k) (by omega) (by omega)]; exact q6 w k k0 k1
theorem cl_all {T : Int → Int} {L : Int} {c v : Int → Int} {n d : Nat} {t : Int} (hB : BYT T L) (hT : TKC c v t) (hC : CVT T L c v) (hn : 4820 ≤ n) (hF : ∀ j, 0 ≤ j → (tK T L (tP T L j.toNat) = 3 ↔ t ≤ j)) {K : Int → ZM → Prop} : ∀ (m : Nat) (q i lv n0 : Int) (R : Int → Int) (M : ZM), q + m = 16 → 0 ≤ q → crS T L i lv n0 M → M 42 7 = q → 0 ≤ i → i ≤ t → 0 ≤ lv → lv ≤ 50 → 0 ≤ n0 → n0 ≤ i → oW q R → (∀ p, 0 ≤ p → p < q → cPL c v n (fun k => R (10 * p + k)) M p n0) → ocK T L c v n M (oC c v n t m q i lv R) K → wX5_read (d + 46) 51 [(0, zA 42), (2, zI 1)] M K := by
  intro m
  induction m with
  | zero =>
    intro q i lv n0 R M hq q0 hS e7 i0 it l0 l1 n00 ni hw hP hk
    apply vX5_read_51
    refine ⟨fun _ => ?_, fun z => by omega⟩
    rw [hS.1.2.2.1]
    exact hk M (fun _ _ => rfl)
  | succ m ih =>
    intro q i lv n0 R M hq q0 hS e7 i0 it l0 l1 n00 ni hw hP hk
    rw [oC_s] at hk
    have g := pL_rg hT hn l0 l1 i0 it
    apply vX5_read_51
    refine ⟨fun z => by omega, fun _ => ⟨fun z => by omega, fun _ => cl_place (d := d) (n := n) (p := q) hB hT hC hn q0 (by omega) hS i0 it n00 ni l0 l1 e7 ?_⟩⟩
    generalize pL c v n i lv = r at *
    obtain ⟨j, lv1, o⟩ := r
    have g1 := g.1
    have g1 : i ≤ j := g1
    have g2 := g.2.1
    have g2 : j ≤ t := g2
    cases o with
    | none =>
      intro M1 x F1 e3 hx
      have e3 : M1 42 3 = tP T L j.toNat := e3
      have k7 : M1 42 7 = q := by rw [F1.2.1 7 (Or.inr rfl)]; exact e7
      refine ⟨fun w => ?_, fun _ => by rw [e3]; exact hk M1 F1.ca⟩
      obtain ⟨x1, ct, c144⟩ := hx.resolve_left w
      have ct : CAT T L j.toNat M1 := ct
      have c144 : c j = 144 := c144
      rw [k7]
      refine ⟨⟨by omega, by omega⟩, zset ⟨fun _ => ?_, fun w => ?_⟩⟩
      · have ct2 : CAT T L j.toNat (zup M1 31 0 (q + 1)) := ct.cg (zup_row (by decide)) (fun _ _ _ => by rw [zup_row (by decide)])
        refine c_takeSignT hB ct2 (by omega) (fun w => ?_) (fun w => ?_)
        · rw [← (hC j (by omega)).1] at w
          omega
        · rw [zup_row (show (42 : Nat) ≠ 31 by decide), k7]
          refine ⟨⟨by omega, by omega⟩, zset ?_⟩
          apply vX5_read_51
          have fin : K (zup (zup M1 31 0 (q + 1)) 42 7 (q + 1) 42 3) (zup (zup M1 31 0 (q + 1)) 42 7 (q + 1)) := by
            rw [zup_at, if_neg (by decide), zup_row (by decide), e3]
            exact hk _ ((F1.ca.tr (cA.up (by decide) (by decide))).tr (cA.up (by decide) (by decide)))
          exact ⟨fun _ => fin, fun _ => ⟨fun _ => fin, fun w => absurd rfl w⟩⟩
      · rw [zup_row (by decide), ct.2.2.2.2.1] at w
        have := (hF j (by omega)).mp w
        have := hT.2.1 j this
        omega
    | some f =>
      obtain ⟨g3, g4⟩ := g.2.2 f rfl
      have g3 : lv ≤ lv1 ∧ lv1 ≤ 50 := g3
      have hk : ocK T L c v n M (if c j = 159 then oC c v n t m (q + 1) (j + 1) lv1 (rU R q f) else if j < t then .inl j else .inr (q + 1, rU R q f)) K := hk
      intro M1 n1 F1 S1 nn nj c1 P1
      have nj : n1 ≤ j := nj
      have S1 : crS T L j lv1 n1 M1 := S1
      have k7 : M1 42 7 = q := by rw [F1.2.1 7 (Or.inr rfl)]; exact e7
      have PP : ∀ p, 0 ≤ p → p < q + 1 → cPL c v n (fun k => rU R q f (10 * p + k)) M1 p n1 := fun p p0 p1 => by
        by_cases e : p = q
        · rw [e]; exact P1.cg g4 (fun k k0 k1 => rU_new k0 k1)
        · have w := hw p p0 (by omega)
          exact ((hP p p0 (by omega)).later (by omega) w.r3.2 F1 nn c1).cg w (fun k k0 k1 => rU_old (by omega) k1)
      -- the Reader's fields and the size are no PLACES
      have keep : ∀ (M2 : ZM), (∀ x, 32 ≤ x → x ≤ 41 → M2 x = M1 x) → ∀ p, 0 ≤ p → p < q + 1 → cPL c v n (fun k => rU R q f (10 * p + k)) M2 p n1 := fun M2 h p p0 p1 => by
        have := PP p p0 p1
        unfold cPL CQ CE at *
        rw [h 32 (by decide) (by decide), h 33 (by decide) (by decide), h 34 (by decide) (by decide), h 35 (by decide) (by decide), h 36 (by decide) (by decide), h 37 (by decide) (by decide), h 38 (by decide) (by decide), h 39 (by decide) (by decide), h 40 (by decide) (by decide), h 41 (by decide) (by decide)]
        exact this
      refine ⟨fun _ => ?_, fun w => by omega⟩
      rw [k7]
      refine ⟨⟨by omega, by omega⟩, zset ⟨fun w => ?_, fun w => ?_⟩⟩
      · have S2 : crS T L j lv1 n1 (zup M1 31 0 (q + 1)) := S1.cg (zup_row (by decide)) (zup_row (by decide))
        rw [zup_row (show (42 : Nat) ≠ 31 by decide), S1.1.2.2.2.2.1] at w
        refine c_signI hB hC S2 (by omega) (w := 159) (by omega) rfl (fun y M3 a3 S3 => ?_) (fun y => ?_)
        · rw [if_pos y] at hk
          have jl := tk_lt hT (by decide) y
          rw [a3.2 7 (by decide) (by decide) (by decide) (by decide), zup_row (show (42 : Nat) ≠ 31 by decide), k7]
          refine ⟨⟨by omega, by omega⟩, zset ?_⟩
          refine ih (q + 1) (j + 1) lv1 n1 (rU R q f) _ (by omega) (by omega) ⟨?_, ?_, ?_⟩ zup_eq (by omega) (by omega) (by omega) g3.2 (by omega) (by omega) (hw.nx g4) (keep _ (fun x h1 h2 => by rw [zup_row (by omega), a3.1 x (by omega), zup_row (by omega)])) (hk.st (((F1.ca.tr (cA.up (by decide) (by decide))).tr (fun x hx => a3.1 x (by omega))).tr (cA.up (by decide) (by decide))))
          · exact S3.1.cg (zup_row (by decide)) (fun k k0 k1 => by rw [zup_at, if_neg (by omega)])
          · rw [zup_at, if_neg (by decide)]; exact S3.2.1
          · rw [zup_at, if_neg (by decide)]; exact S3.2.2
        · rw [if_neg y, if_pos (by
            by_cases z : j < t
            · exact z
            · exact absurd ((hF j (by omega)).mpr (by omega)) w)] at hk
          rw [zup_row (show (42 : Nat) ≠ 31 by decide), k7]
          refine ⟨⟨by omega, by omega⟩, zset ?_⟩
          apply vX5_read_51
          have fin : K (zup (zup M1 31 0 (q + 1)) 42 7 (q + 1) 42 3) (zup (zup M1 31 0 (q + 1)) 42 7 (q + 1)) := by
            rw [zup_at, if_neg (by decide), zup_row (by decide), S1.1.2.2.1]
            exact hk _ ((F1.ca.tr (cA.up (by decide) (by decide))).tr (cA.up (by decide) (by decide)))
          exact ⟨fun _ => fin, fun _ => ⟨fun _ => fin, fun w => absurd rfl w⟩⟩
      · rw [zup_row (show (42 : Nat) ≠ 31 by decide), S1.1.2.2.2.2.1] at w
        have tj := (hF j (by omega)).mp w
        have := hT.2.1 j tj
        rw [if_neg (by omega), if_neg (by omega)] at hk
        exact hk _ n1 (F1.ca.tr (cA.up (by decide) (by decide))) (by have := hT.1; omega) zup_eq (keep _ (fun x h1 h2 => zup_row (by omega)))
