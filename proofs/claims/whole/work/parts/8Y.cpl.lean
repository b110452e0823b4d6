/-! the class reads a PLACE -/
def wI (x : Nat) (p : Int) : Int := if x = 36 ∨ x = 37 then p * 3 else p
def clF (p : Int) (M M' : ZM) : Prop := (∀ x, x < 32 ∨ 42 < x → M' x = M x) ∧ (∀ k, k ≤ 2 ∨ k = 7 → M' 42 k = M 42 k) ∧ ∀ x, 32 ≤ x → x ≤ 40 → ∀ k, k < wI x p → M' x k = M x k
theorem clF.rf {p : Int} {M : ZM} : clF p M M := ⟨fun _ _ => rfl, fun _ _ => rfl, fun _ _ _ _ _ => rfl⟩
theorem clF.tr {p : Int} {M M1 M2 : ZM} (h : clF p M M1) (g : clF p M1 M2) : clF p M M2 := ⟨fun x a => by rw [g.1 x a, h.1 x a], fun k a => by rw [g.2.1 k a, h.2.1 k a], fun x a b k e => by rw [g.2.2 x a b k e, h.2.2 x a b k e]⟩
theorem clF.up {p : Int} {M : ZM} {x : Nat} {a y : Int} (h0 : 32 ≤ x) (h1 : x ≤ 40) (ha : wI x p ≤ a) : clF p M (zup M x a y) := by
  refine ⟨fun z hz => zup_row (by omega), fun k hk => by rw [zup_row (by omega)], fun z z0 z1 k hk => ?_⟩
  by_cases e : z = x
  · subst e; rw [zup_at, if_neg (by omega)]
  · rw [zup_row e]
theorem clF.cr {p : Int} {M M' : ZM} (h : crF M M') : clF p M M' := ⟨fun x a => h.1 x (by omega) (by omega), h.2, fun x a b k e => by rw [h.1 x (by omega) (by omega)]⟩
def AVI (M M' : ZM) : Prop := (∀ x, x ≠ 42 → M' x = M x) ∧ ∀ j, j ≠ 3 → j ≠ 4 → j ≠ 5 → j ≠ 6 → M' 42 j = M 42 j
theorem AVI.cl {p : Int} {M M' : ZM} (h : AVI M M') : clF p M M' := clF.cr ⟨fun x _ b => h.1 x b, fun k a => h.2 k (by omega) (by omega) (by omega) (by omega)⟩
theorem crS.cg {T : Int → Int} {L i lv n : Int} {M M' : ZM} (h : crS T L i lv n M) (e : M' 30 = M 30) (e2 : M' 42 = M 42) : crS T L i lv n M' := by
  unfold crS CAT at *
  rw [e, e2]
  exact h
section CI
variable {T : Int → Int} {L : Int} {c v : Int → Int} {i lv n0 : Int} {M : ZM} {d : Nat}
theorem crS.adv {M' : ZM} (h : crS T L i lv n0 M) (i0 : 0 ≤ i) (a : ADV T L (i.toNat + 1) M M') : AVI M M' ∧ crS T L (i + 1) lv n0 M' := by
  refine ⟨⟨a.1, a.2.1⟩, ?_, ?_, ?_⟩
  · rw [show (i + 1).toNat = i.toNat + 1 by omega]; exact a.2.2
  · rw [a.2.1 9 (by decide) (by decide) (by decide) (by decide)]; exact h.2.1
  · rw [a.2.1 8 (by decide) (by decide) (by decide) (by decide)]; exact h.2.2
theorem c_wordI (hB : BYT T L) (hC : CVT T L c v) (hS : crS T L i lv n0 M) (i0 : 0 ≤ i) (a : Nat) (w : Int) (ha : a < 13) (hw : rno a = w) {Q : Int → ZM → Prop} (h1 : c i = w → ∀ M', AVI M M' → crS T L (i + 1) lv n0 M' → Q 1 M') (h0 : c i ≠ w → Q 0 M) : zcI (d + 5) 66 [zA 42, zA a] M Q := by
  have e := (hC i i0).1
  exact c_takeWordT hB hS.1 ha (fun z M' av => h1 (by rw [e, z, hw]) M' (hS.adv i0 av).1 (hS.adv i0 av).2) (fun z => h0 (by rw [e, ← hw]; exact z))
theorem c_signI (hB : BYT T L) (hC : CVT T L c v) (hS : crS T L i lv n0 M) (i0 : 0 ≤ i) {q w : Int} (q0 : 0 ≤ q) (hw : 100 + q = w) {Q : Int → ZM → Prop} (h1 : c i = w → ∀ M', AVI M M' → crS T L (i + 1) lv n0 M' → Q 1 M') (h0 : c i ≠ w → Q 0 M) : zcI (d + 3) 64 [zA 42, zI q] M Q := by
  have e := (hC i i0).1
  exact c_takeSignT hB hS.1 q0 (fun z M' av => h1 (by rw [e, z, hw]) M' (hS.adv i0 av).1 (hS.adv i0 av).2) (fun z => h0 (by rw [e, ← hw]; exact z))
theorem c_numI (hB : BYT T L) (hC : CVT T L c v) (hS : crS T L i lv n0 M) (i0 : 0 ≤ i) {lo hi : Int} (hi1 : hi ≤ 1000) (lo1 : lo ≤ 9999) {Q : Int → ZM → Prop} (h1 : c i = 50 ∧ lo ≤ v i ∧ v i ≤ hi → M 42 6 = v i → ∀ M', AVI M M' → crS T L (i + 1) lv n0 M' → Q 1 M') (h0 : ¬ (c i = 50 ∧ lo ≤ v i ∧ v i ≤ hi) → Q 0 M) : zcI (d + 3) 67 [zA 42, zI lo, zI hi] M Q := by
  obtain ⟨e1, e2⟩ := hC i i0
  have r := tS_rg T hB.1.1 i.toNat
  obtain ⟨k1, k2, k3, k4⟩ := tk_num (f := tP T L i.toNat) hB (by omega)
  rw [← e1] at k1
  rw [← e2] at k2
  refine c_takeNumberT hB hS.1 hi1 (fun z1 z2 z3 M' av => ?_) (fun z => h0 (by rw [e1, e2]; exact z)) lo1
  rw [← e1] at z1
  rw [← e2] at z2 z3
  refine h1 ⟨z1, z2, z3⟩ ?_ M' (hS.adv i0 av).1 (hS.adv i0 av).2
  rw [hS.1.2.2.2.2.2, k2 (k1.mpr z1)]
  omega
end CI
/-- a PLACE of the class's Land, and its row -/
def CQ (f : Int → Int) (M : ZM) (p : Int) : Prop := M 32 p = f 0 ∧ (f 0 = 0 → M 33 p = f 1) ∧ (f 0 = 2 → M 34 p = f 1) ∧ (f 0 ≠ 2 → M 34 p = 0) ∧ (∀ k, 0 ≤ k → k < f 2 → M 36 (p * 3 + k) = f (3 + k)) ∧ (f 0 = 1 → ∀ k, 0 ≤ k → k < f 2 → M 37 (p * 3 + k) = f (6 + k))
theorem CQ.cg {f : Int → Int} {M M' : ZM} {p : Int} (h : CQ f M p) (e2 : M' 32 = M 32) (e3 : M' 33 = M 33) (e4 : M' 34 = M 34) (e6 : M' 36 = M 36) (e7 : M' 37 = M 37) : CQ f M' p := by
  unfold CQ at *
  rw [e2, e3, e4, e6, e7]
  exact h
theorem CQ.av {f : Int → Int} {M M' : ZM} {p : Int} (h : CQ f M p) (a : AVI M M') : CQ f M' p := h.cg (a.1 _ (by decide)) (a.1 _ (by decide)) (a.1 _ (by decide)) (a.1 _ (by decide)) (a.1 _ (by decide))
def CE (c v : Int → Int) (n : Nat) (f : Int → Int) (M : ZM) (p n1 : Int) : Prop := (0 ≤ M 38 p ∧ M 38 p ≤ M 39 p ∧ M 39 p ≤ M 40 p ∧ M 40 p ≤ n1 ∧ 0 ≤ f 9) ∧ ∃ lv j lv1 a, pP c v n 6 0 (f 9) lv (mLeaf 50 0) = (j, lv1, some a) ∧ BDM a ∧ CMS (M 41) (M 38 p) (M 39 p) 20 a ∧ (if c j = 7 then ∃ j2 lv2 t, pP c v n 0 0 (j + 1) lv1 (mLeaf 50 0) = (j2, lv2, some t) ∧ CMS (M 41) (M 39 p) (M 40 p) 21 t ∧ M 39 p < 400 else M 40 p = M 39 p)
def cPL (c v : Int → Int) (n : Nat) (f : Int → Int) (M : ZM) (p n1 : Int) : Prop := CQ f M p ∧ M 35 p = f 2 ∧ (f 0 = 3 → CE c v n f M p n1)
/-- later PLACES leave it -/
theorem cPL.later {c v : Int → Int} {n : Nat} {f : Int → Int} {M M' : ZM} {p p' n1 n2 : Int} (h : cPL c v n f M p n1) (hp : p < p') (h2 : f 2 ≤ 3) (g : clF p' M M') (hn : n1 ≤ n2) (hc : ∀ y, y < n1 → M' 41 y = M 41 y) : cPL c v n f M' p n2 := by
  have r : ∀ x, 32 ≤ x → x ≤ 40 → x ≠ 36 → x ≠ 37 → M' x p = M x p := fun x a b d e => g.2.2 x a b p (by unfold wI; rw [if_neg (by omega)]; exact hp)
  have s : ∀ x, (x = 36 ∨ x = 37) → ∀ k, k < 3 → M' x (p * 3 + k) = M x (p * 3 + k) := fun x a k b => g.2.2 x (by omega) (by omega) _ (by unfold wI; rw [if_pos a]; omega)
  obtain ⟨⟨q1, q2, q3, q4, q5, q6⟩, h35, he⟩ := h
  refine ⟨⟨?_, ?_, ?_, ?_, ?_, ?_⟩, ?_, ?_⟩
  · rw [r 32 (by decide) (by decide) (by decide) (by decide)]; exact q1
  · rw [r 33 (by decide) (by decide) (by decide) (by decide)]; exact q2
  · rw [r 34 (by decide) (by decide) (by decide) (by decide)]; exact q3
  · rw [r 34 (by decide) (by decide) (by decide) (by decide)]; exact q4
  · intro k k0 k1; rw [s 36 (Or.inl rfl) k (by omega)]; exact q5 k k0 k1
  · intro z k k0 k1; rw [s 37 (Or.inr rfl) k (by omega)]; exact q6 z k k0 k1
  · rw [r 35 (by decide) (by decide) (by decide) (by decide)]; exact h35
  · intro z
    obtain ⟨⟨u1, u2, u3, u4, u5⟩, lv, j, lv1, a, w1, w2, w3, w4⟩ := he z
    unfold CE
    rw [r 38 (by decide) (by decide) (by decide) (by decide), r 39 (by decide) (by decide) (by decide) (by decide), r 40 (by decide) (by decide) (by decide) (by decide)]
    refine ⟨⟨u1, u2, u3, by omega, u5⟩, lv, j, lv1, a, w1, w2, w3.cg (fun y y0 y1 => hc y (by omega)), ?_⟩
    split
    · next hj =>
      rw [if_pos hj] at w4
      obtain ⟨j2, lv2, t, x1, x2, x3⟩ := w4
      exact ⟨j2, lv2, t, x1, x2.cg (fun y y0 y1 => hc y (by omega)), x3⟩
    · next hj =>
      rw [if_neg hj] at w4
      exact w4
/-- what is behind a PLACE -/
def clK (T : Int → Int) (L : Int) (c v : Int → Int) (n : Nat) (p n0 : Int) (M : ZM) (r : PLR) (K : Int → ZM → Prop) : Prop := match r.2.2 with
  | some f => ∀ M' n1, clF p M M' → crS T L r.1 r.2.1 n1 M' → n0 ≤ n1 → n1 ≤ r.1 → (∀ y, y < n0 → M' 41 y = M 41 y) → cPL c v n f M' p n1 → K 1 M'
  | none => ∀ M' x, clF p M M' → M' 42 3 = tP T L r.1.toNat → (x = 0 ∨ (x = 1 ∧ CAT T L r.1.toNat M' ∧ c r.1 = 144)) → K x M'
theorem clK.st {T : Int → Int} {L : Int} {c v : Int → Int} {n : Nat} {p n0 : Int} {M M1 : ZM} {r : PLR} {K : Int → ZM → Prop} (h : clK T L c v n p n0 M r K) (f : clF p M M1) (e : ∀ y, y < n0 → M1 41 y = M 41 y) : clK T L c v n p n0 M1 r K := by
  obtain ⟨j, lv, o⟩ := r
  cases o with
  | none => exact fun M' x g a b => h M' x (f.tr g) a b
  | some g => exact fun M' n1 g a b d q w => h M' n1 (f.tr g) a b d (fun y y1 => by rw [q y y1, e y y1]) w
section CL
variable {T : Int → Int} {L : Int} {c v : Int → Int} {n : Nat} {lv n0 p : Int} {d : Nat}
theorem c_road {M : ZM} {i k : Int} (hB : BYT T L) (hC : CVT T L c v) (hS : crS T L i lv n0 M) (i0 : 0 ≤ i) (hp : M 42 7 = p) (p0 : 0 ≤ p) (p1 : p ≤ 15) (k0 : 0 ≤ k) (k2 : k ≤ 2) {Q : Int → ZM → Prop} (h1 : c i = 50 ∧ 0 ≤ v i ∧ v i ≤ 15 → ∀ M', clF p M M' → crS T L (i + 1) lv n0 M' → M' 35 p = k + 1 → M' 36 = (zup M 36 (p * 3 + k) (v i)) 36 → (∀ x, x ≠ 35 → x ≠ 36 → x ≠ 42 → M' x = M x) → Q 1 M') (h0 : ¬ (c i = 50 ∧ 0 ≤ v i ∧ v i ≤ 15) → ∀ M', clF p M M' → M' 42 3 = tP T L i.toNat → Q 0 M') : zcI (d + 4) 51 [zA 42, zI k] M Q := by
  apply vX5_readRoad
  rw [hp]
  refine ⟨⟨by omega, by omega⟩, ⟨by omega, by omega⟩, ⟨by omega, by omega⟩, zset ?_⟩
  rw [zup_row (show (42 : Nat) ≠ 36 by decide), hp]
  refine ⟨⟨by omega, by omega⟩, ⟨by omega, by omega⟩, zset ?_⟩
  have f1 : clF p M (zup (zup M 36 (p * 3 + k) (M 42 6)) 35 p (k + 1)) := (clF.up (by decide) (by decide) (show wI 36 p ≤ p * 3 + k by unfold wI; rw [if_pos (Or.inl rfl)]; omega)).tr (clF.up (by decide) (by decide) (show wI 35 p ≤ p by unfold wI; rw [if_neg (by decide)]; omega))
  have S1 : crS T L i lv n0 (zup (zup M 36 (p * 3 + k) (M 42 6)) 35 p (k + 1)) := hS.cg (by rw [zup_row (by decide), zup_row (by decide)]) (by rw [zup_row (by decide), zup_row (by decide)])
  refine c_numI hB hC S1 i0 (by decide) (by decide) (fun z e M' av S' => ⟨Or.inr rfl, h1 z M' (f1.tr av.cl) S' ?_ ?_ (fun x a b w => ?_)⟩) (fun z => ⟨Or.inl rfl, h0 z _ f1 S1.1.2.2.1⟩)
  · rw [av.1 35 (by decide), zup_eq]
  · rw [zup_row (by decide), zup_row (by decide)] at e
    rw [av.1 36 (by decide), zup_row (by decide), e]
  · rw [av.1 x w, zup_row a, zup_row b]
theorem CQ.fork {M M' : ZM} {f : Int → Int} {x : Int} (h : CQ f M p) (f0 : f 0 ≠ 1) (f2 : 0 ≤ f 2) (e6 : M' 36 = (zup M 36 (p * 3 + f 2) x) 36) (e : ∀ x, x ≠ 35 → x ≠ 36 → x ≠ 42 → M' x = M x) : CQ (fU (fU f (3 + f 2) x) 2 (f 2 + 1)) M' p := by
  obtain ⟨q1, q2, q3, q4, q5, q6⟩ := h
  have z0 : fU (fU f (3 + f 2) x) 2 (f 2 + 1) 0 = f 0 := by rw [fU_ne (by decide), fU_ne (by omega)]
  have z1 : fU (fU f (3 + f 2) x) 2 (f 2 + 1) 1 = f 1 := by rw [fU_ne (by decide), fU_ne (by omega)]
  unfold CQ
  rw [z0, z1, fU_eq, e 32 (by decide) (by decide) (by decide), e 33 (by decide) (by decide) (by decide), e 34 (by decide) (by decide) (by decide), e6]
  refine ⟨q1, q2, q3, q4, fun k k0 k1 => ?_, fun z => absurd z f0⟩
  rw [zup_at, fU_ne (by omega)]
  by_cases w : k = f 2
  · rw [if_pos (by omega), w, fU_eq]
  · rw [if_neg (by omega), fU_ne (by omega)]; exact q5 k k0 (by omega)
theorem cl_fork (hB : BYT T L) (hC : CVT T L c v) (p0 : 0 ≤ p) (p1 : p ≤ 15) {K : Int → ZM → Prop} : ∀ (m : Nat) (M : ZM) (i : Int) (f : Int → Int), m + 1 ≤ 3 → f 2 = 2 - m → f 0 = 0 → crS T L i lv n0 M → 0 ≤ i → n0 ≤ i → M 42 7 = p → CQ f M p → clK T L c v n p n0 M (plF c v (m + 1) i lv f) K → wX5_readFork (d + 4) 53 [(0, zA 42), (1, zI 1), (2, zI (f 2))] M K := by
  intro m
  induction m with
  | zero =>
    intro M i f hm f2 f0 hS i0 ni hp hQ hk
    rw [plF_s] at hk
    apply vX5_readFork_53
    refine ⟨fun z => by omega, fun _ => ⟨fun z => by omega, fun _ => c_road hB hC hS i0 hp p0 p1 (by omega) (by omega) (fun z M1 F1 S1 e35 e36 er => ⟨fun _ => ⟨fun _ => ⟨⟨by omega, by omega⟩, ?_⟩, fun y => by omega⟩, fun y => by omega⟩) (fun z M1 F1 e3 => ⟨fun y => absurd rfl y, fun _ => ⟨Or.inl rfl, ?_⟩⟩)⟩⟩
    · rw [if_pos z] at hk
      have q1 := hQ.fork (by omega) (by omega) e36 er
      apply vX5_readFork_53
      refine ⟨fun _ => ⟨Or.inr rfl, ?_⟩, fun y => by omega⟩
      by_cases y : c (i + 1) = 144
      · rw [if_pos y, plF_0, show i + 2 - 1 = i + 1 by omega] at hk
        exact hk M1 1 F1 S1.1.2.2.1 (Or.inr ⟨rfl, S1.1, y⟩)
      · rw [if_neg y] at hk
        exact hk M1 n0 F1 S1 (by omega) (show n0 ≤ i + 1 by omega) (fun w _ => by rw [er 41 (by decide) (by decide) (by decide)]) ⟨q1, by rw [e35, fU_eq], fun w => by rw [fU_ne (by decide), fU_ne (by omega)] at w; omega⟩
    · rw [if_neg z] at hk
      exact hk M1 0 F1 e3 (Or.inl rfl)
  | succ m ih =>
    intro M i f hm f2 f0 hS i0 ni hp hQ hk
    rw [plF_s] at hk
    apply vX5_readFork_53
    refine ⟨fun z => by omega, fun _ => ⟨fun z => by omega, fun _ => c_road hB hC hS i0 hp p0 p1 (by omega) (by omega) (fun z M1 F1 S1 e35 e36 er => ⟨fun _ => ⟨fun y => by omega, fun _ => ?_⟩, fun y => by omega⟩) (fun z M1 F1 e3 => ⟨fun y => absurd rfl y, fun _ => ⟨Or.inl rfl, ?_⟩⟩)⟩⟩
    · rw [if_pos z] at hk
      have q1 := hQ.fork (by omega) (by omega) e36 er
      have e41 : M1 41 = M 41 := er 41 (by decide) (by decide) (by decide)
      refine c_signI hB hC S1 (by omega) (w := 144) (by omega) rfl (fun y M2 av S2 => ⟨fun w => by omega, fun _ => ⟨⟨by omega, by omega⟩, ?_⟩⟩) (fun y => ⟨fun _ => ⟨⟨by omega, by omega⟩, ?_⟩, fun w => absurd rfl w⟩)
      · rw [if_pos y] at hk
        rw [show i + 1 + 1 = i + 2 by omega] at S2
        have := ih M2 (i + 2) (fU (fU f (3 + f 2) (v i)) 2 (f 2 + 1)) (by omega) (by rw [fU_eq]; omega) (by rw [fU_ne (by decide), fU_ne (by omega)]; exact f0) S2 (by omega) (by omega) (by rw [(F1.tr av.cl).2.1 7 (by omega)]; exact hp) (q1.av av) (hk.st (F1.tr av.cl) (fun w _ => by rw [av.1 41 (by decide), e41]))
        rw [fU_eq] at this
        exact this
      · rw [if_neg y] at hk
        apply vX5_readFork_53
        have fin : K 1 M1 := hk M1 n0 F1 S1 (by omega) (show n0 ≤ i + 1 by omega) (fun w _ => by rw [e41]) ⟨q1, by rw [e35, fU_eq], fun w => by rw [fU_ne (by decide), fU_ne (by omega)] at w; omega⟩
        exact ⟨fun _ => ⟨Or.inr rfl, fin⟩, fun _ => ⟨fun _ => ⟨Or.inr rfl, fin⟩, fun w => absurd rfl w⟩⟩
    · rw [if_neg z] at hk
      exact hk M1 0 F1 e3 (Or.inl rfl)
theorem fT_0 {f : Int → Int} {x y : Int} (h : 0 ≤ f 2) : fT f x y 0 = f 0 ∧ fT f x y 1 = f 1 ∧ fT f x y 2 = f 2 + 1 := by
  unfold fT
  refine ⟨?_, ?_, fU_eq⟩
  · rw [fU_ne (by decide), fU_ne (by omega), fU_ne (by omega)]
  · rw [fU_ne (by decide), fU_ne (by omega), fU_ne (by omega)]
theorem CQ.turn {M M1 M2 : ZM} {f : Int → Int} {x y : Int} (h : CQ f M p) (f2 : 0 ≤ f 2) (f3 : f 2 ≤ 2) (e6 : M1 36 = (zup M 36 (p * 3 + f 2) x) 36) (e : ∀ x, x ≠ 35 → x ≠ 36 → x ≠ 42 → M1 x = M x) (g7 : M2 37 = (zup M1 37 (p * 3 + f 2) y) 37) (g : ∀ x, x ≠ 37 → x ≠ 42 → M2 x = M1 x) : CQ (fT f x y) M2 p := by
  obtain ⟨q1, q2, q3, q4, q5, q6⟩ := h
  obtain ⟨z0, z1, z2⟩ := fT_0 (f := f) (x := x) (y := y) f2
  unfold CQ
  rw [z0, z1, z2, g 32 (by decide) (by decide), g 33 (by decide) (by decide), g 34 (by decide) (by decide), g 36 (by decide) (by decide), g7, e 32 (by decide) (by decide) (by decide), e 33 (by decide) (by decide) (by decide), e 34 (by decide) (by decide) (by decide), e6]
  refine ⟨q1, q2, q3, q4, fun k k0 k1 => ?_, fun z k k0 k1 => ?_⟩
  · unfold fT
    rw [zup_at, fU_ne (by omega), fU_ne (by omega)]
    by_cases w : k = f 2
    · rw [if_pos (by omega), w, fU_eq]
    · rw [if_neg (by omega), fU_ne (by omega)]; exact q5 k k0 (by omega)
  · unfold fT
    rw [zup_at, fU_ne (by omega), e 37 (by decide) (by decide) (by decide)]
    by_cases w : k = f 2
    · rw [if_pos (by omega), w, fU_eq]
    · rw [if_neg (by omega), fU_ne (by omega), fU_ne (by omega)]; exact q6 z k k0 (by omega)
end CL
