/-! a PLACE, by the TOKENS; the reference reads it so -/
def fU (f : Int → Int) (k x : Int) : Int → Int := fun m => if m = k then x else f m
theorem fU_eq {f : Int → Int} {k x : Int} : fU f k x k = x := if_pos rfl
theorem fU_ne {f : Int → Int} {k x m : Int} (h : m ≠ k) : fU f k x m = f m := if_neg h
/-- where it ends, PARTS so far, the PLACE's row (or a FAULT) -/
abbrev PLR : Type := Int × Int × Option (Int → Int)
def plF (c v : Int → Int) : Nat → Int → Int → (Int → Int) → PLR
  | 0, i, lv, _ => (i - 1, lv, none)
  | m + 1, i, lv, f => if c i = 50 ∧ 0 ≤ v i ∧ v i ≤ 15 then (if c (i + 1) = 144 then plF c v m (i + 2) lv (fU (fU f (3 + f 2) (v i)) 2 (f 2 + 1)) else (i + 1, lv, some (fU (fU f (3 + f 2) (v i)) 2 (f 2 + 1)))) else (i, lv, none)
theorem plF_0 (c v : Int → Int) (i lv : Int) (f : Int → Int) : plF c v 0 i lv f = (i - 1, lv, none) := rfl
theorem plF_s (c v : Int → Int) (m : Nat) (i lv : Int) (f : Int → Int) : plF c v (m + 1) i lv f = if c i = 50 ∧ 0 ≤ v i ∧ v i ≤ 15 then (if c (i + 1) = 144 then plF c v m (i + 2) lv (fU (fU f (3 + f 2) (v i)) 2 (f 2 + 1)) else (i + 1, lv, some (fU (fU f (3 + f 2) (v i)) 2 (f 2 + 1)))) else (i, lv, none) := rfl
def fT (f : Int → Int) (x y : Int) : Int → Int := fU (fU (fU f (3 + f 2) x) (6 + f 2) y) 2 (f 2 + 1)
def plT (c v : Int → Int) : Nat → Int → Int → Int → (Int → Int) → PLR
  | 0, i, lv, _, _ => (i - 1, lv, none)
  | m + 1, i, lv, s, f => if c i = 50 ∧ 0 ≤ v i ∧ v i ≤ 15 then (if c (i + 1) = 4 then (if c (i + 2) = 50 ∧ 1 ≤ v (i + 2) ∧ v (i + 2) ≤ 10 - s then (if c (i + 3) = 144 then plT c v m (i + 4) lv (s + v (i + 2)) (fT f (v i) (v (i + 2))) else if s + v (i + 2) < 10 then (i + 3, lv, none) else (i + 3, lv, some (fT f (v i) (v (i + 2))))) else (i + 2, lv, none)) else (i + 1, lv, none)) else (i, lv, none)
theorem plT_0 (c v : Int → Int) (i lv s : Int) (f : Int → Int) : plT c v 0 i lv s f = (i - 1, lv, none) := rfl
theorem plT_s (c v : Int → Int) (m : Nat) (i lv s : Int) (f : Int → Int) : plT c v (m + 1) i lv s f = if c i = 50 ∧ 0 ≤ v i ∧ v i ≤ 15 then (if c (i + 1) = 4 then (if c (i + 2) = 50 ∧ 1 ≤ v (i + 2) ∧ v (i + 2) ≤ 10 - s then (if c (i + 3) = 144 then plT c v m (i + 4) lv (s + v (i + 2)) (fT f (v i) (v (i + 2))) else if s + v (i + 2) < 10 then (i + 3, lv, none) else (i + 3, lv, some (fT f (v i) (v (i + 2))))) else (i + 2, lv, none)) else (i + 1, lv, none)) else (i, lv, none) := rfl
def plS (r : PR) (F : Int → Int → ME → PLR) : PLR := match r with
  | (j, lv, none) => (j, lv, none)
  | (j, lv, some a) => F j lv a
def fE (i : Int) : Int → Int := fU (fU (fun _ => 0) 0 3) 9 (i + 1)
def plE (c v : Int → Int) (n : Nat) (i lv : Int) : PLR := plS (pP c v n 6 0 (i + 1) lv (mLeaf 50 0)) (fun j lv1 _ => if c j = 7 then plS (pP c v n 0 0 (j + 1) lv1 (mLeaf 50 0)) (fun j2 lv2 _ => (j2, lv2, some (fE i))) else (j, lv1, some (fE i)))
def plI (c v : Int → Int) (i lv : Int) : PLR := if c (i + 1) = 50 ∧ 0 ≤ v (i + 1) ∧ v (i + 1) ≤ 99 then (if c (i + 2) = 2 then (if c (i + 3) = 50 ∧ 0 ≤ v (i + 3) ∧ v (i + 3) ≤ 15 then (i + 4, lv, some (fU (fU (fU (fU (fun _ => 0) 0 2) 1 (v (i + 1))) 2 1) 3 (v (i + 3)))) else (i + 3, lv, none)) else (i + 2, lv, none)) else (i + 1, lv, none)
def plK (c v : Int → Int) (i lv : Int) : PLR := if c (i + 1) = 50 ∧ 0 ≤ v (i + 1) ∧ v (i + 1) ≤ 5 then (if c (i + 2) = 2 then plF c v 3 (i + 3) lv (fU (fun _ => 0) 1 (v (i + 1))) else (i + 2, lv, none)) else (i + 1, lv, none)
def pL (c v : Int → Int) (n : Nat) (i lv : Int) : PLR := if c i = 1 then plK c v i lv else if c i = 3 then plT c v 3 (i + 1) lv 0 (fU (fun _ => 0) 0 1) else if c i = 5 then plI c v i lv else if c i = 6 then plE c v n i lv else (i, lv, none)
/-! the reference -/
def rB (q : Int) (M M' : ZM) : Prop := (∀ x, x ≠ 124 → x ≠ 113 → M' x = M x) ∧ (∀ k, k ≠ 15 → k ≠ 16 → k ≠ 17 → k ≠ 20 → M' 113 k = M 113 k) ∧ ∀ k, k < 10 * q → M' 124 k = M 124 k
theorem rB.rf {q : Int} {M : ZM} : rB q M M := ⟨fun _ _ _ => rfl, fun _ _ _ _ _ => rfl, fun _ _ => rfl⟩
theorem rB.tr {q : Int} {M M1 M2 : ZM} (h : rB q M M1) (g : rB q M1 M2) : rB q M M2 := ⟨fun x a b => by rw [g.1 x a b, h.1 x a b], fun k a b d e => by rw [g.2.1 k a b d e, h.2.1 k a b d e], fun k a => by rw [g.2.2 k a, h.2.2 k a]⟩
theorem rB.tk {q : Int} {M M1 : ZM} {c v : Int → Int} {T : Int} (h : rB q M M1) (g : TKN c v M T) : TKN c v M1 T := by
  unfold TKN at *
  rw [h.1 121 (by decide) (by decide), h.1 122 (by decide) (by decide), h.1 123 (by decide) (by decide)]
  exact g
theorem rB.put {q a x : Int} {M : ZM} (h : 10 * q ≤ a) : rB q M (zup M 124 a x) := ⟨fun _ p _ => zup_row p, fun _ _ _ _ _ => by rw [zup_row (by decide)], fun k hk => by rw [zup_at, if_neg (by omega)]⟩
theorem rB.got {q x : Int} {M : ZM} : rB q M (zup M 113 20 x) := ⟨fun _ _ p => zup_row p, fun _ _ _ _ p => by rw [zup_at, if_neg p], fun k hk => by rw [zup_row (by decide)]⟩
def RW (M : ZM) (q : Int) (f : Int → Int) : Prop := ∀ k, 0 ≤ k → k < 10 → M 124 (10 * q + k) = f k
theorem RW.put {M : ZM} {q : Int} {f : Int → Int} {a x : Int} (h : RW M q f) : RW (zup M 124 (10 * q + a) x) q (fU f a x) := by
  intro k k0 k1
  rw [zup_at]
  unfold fU
  by_cases e : k = a
  · rw [if_pos (by omega), if_pos e]
  · rw [if_neg (by omega), if_neg e]; exact h k k0 k1
theorem RW.cg {M M' : ZM} {q : Int} {f : Int → Int} (h : RW M q f) (e : M' 124 = M 124) : RW M' q f := fun k a b => by rw [e]; exact h k a b
theorem rdS_put {M0 : ZM} {t l b a x : Int} : zup (rdS M0 t l b) 124 a x = rdS (zup M0 124 a x) t l b := by
  funext y k
  unfold zup rdS
  dsimp only
  by_cases h : y = 124 ∧ k = a
  · rw [if_pos h, if_neg (by omega), if_neg (by omega), if_neg (by omega), if_pos h]
  · rw [if_neg h, if_neg h]
theorem rdS_got {M0 : ZM} {t l b x : Int} : zup (rdS M0 t l b) 113 20 x = rdS (zup M0 113 20 x) t l b := by
  funext y k
  unfold zup rdS
  dsimp only
  by_cases h : y = 113 ∧ k = 20
  · rw [if_pos h, if_neg (by omega), if_neg (by omega), if_neg (by omega), if_pos h]
  · rw [if_neg h, if_neg h]
theorem rdS_113 {M0 : ZM} {t l b k : Int} (h1 : k ≠ 15) (h2 : k ≠ 16) (h3 : k ≠ 17) : rdS M0 t l b 113 k = M0 113 k := by
  unfold rdS
  rw [if_neg (fun z => h1 z.2), if_neg (fun z => h2 z.2), if_neg (fun z => h3 z.2)]
/-- what is behind a PLACE -/
def rlK (M0 : ZM) (q : Int) (r : PLR) (K : ZM → Prop) : Prop := match r.2.2 with
  | some f => ∀ M1, rB q M0 M1 → RW M1 q f → K (rdS M1 r.1 r.2.1 (-1))
  | none => ∀ M1 t l, rB q M0 M1 → K (rdS M1 t l (M0 123 r.1))
theorem rlK.st {M0 M1 : ZM} {q : Int} {r : PLR} {K : ZM → Prop} (h : rlK M0 q r K) (f : rB q M0 M1) : rlK M1 q r K := by
  obtain ⟨j, lv, o⟩ := r
  cases o with
  | none => exact fun M2 t l g => by rw [f.1 123 (by decide) (by decide)]; exact h M2 t l (f.tr g)
  | some g => exact fun M2 g1 g2 => h M2 (f.tr g1) g2
section RL
variable {c v : Int → Int} {M0 : ZM} {T : Int} {D : Nat} {i lv b q : Int} {f : Int → Int}
theorem r_num {lo hi : Int} (hT : TKN c v M0 T) (i0 : 0 ≤ i) (i1 : i ≤ T) {K : Int → ZM → Prop} (h1 : c i = 50 ∧ lo ≤ v i ∧ v i ≤ hi → K 1 (rdS (zup M0 113 20 (v i)) (i + 1) lv (-1))) (h0 : ¬ (c i = 50 ∧ lo ≤ v i ∧ v i ≤ hi) → K 0 (rdS M0 i lv (M0 123 i))) : zcI (D + 3) 177 [zA 113, zI lo, zI hi] (rdS M0 i lv (-1)) K := by
  have t4 := hT.1
  obtain ⟨e1, e2, e3, e4, e5⟩ := hT.2.2 i i0 i1
  apply vX10_number
  refine r_fine ⟨fun z => by omega, fun _ => ?_⟩
  rw [rdS_15, rdS_row (show (121 : Nat) ≠ 113 by decide), rdS_row (show (122 : Nat) ≠ 113 by decide), e1, e2]
  refine ⟨⟨by omega, by omega⟩, fun z => r_faults hT i0 i1 ⟨Or.inl rfl, h0 (fun y => z y.1)⟩, fun z => ⟨⟨by omega, by omega⟩, ?_⟩⟩
  refine m_lies (fun y1 y2 => ?_) (fun y => ?_)
  · refine ⟨fun _ => ⟨⟨by rw [rdS_15]; omega, by rw [rdS_15]; omega⟩, zset ?_⟩, fun z => by omega⟩
    rw [rdS_15, rdS_row (show (122 : Nat) ≠ 113 by decide), e2, rdS_got, rdS_15]
    refine ⟨⟨by omega, by omega⟩, zset ?_⟩
    rw [rdS_tok]
    exact ⟨Or.inr rfl, h1 ⟨z, y1, y2⟩⟩
  · exact ⟨fun z => absurd rfl z, fun _ => r_faults hT i0 i1 ⟨Or.inl rfl, h0 (fun w => y w.2)⟩⟩
theorem r_nnum {lo hi : Int} {K : Int → ZM → Prop} (hb : 0 ≤ b) (h : K 0 (rdS M0 i lv b)) : zcI (D + 3) 177 [zA 113, zI lo, zI hi] (rdS M0 i lv b) K := by
  apply vX10_number
  exact r_nfine hb ⟨fun _ => r_nfaults hb ⟨Or.inl rfl, h⟩, fun z => absurd rfl z⟩
/-- .. and its row is kept -/
theorem r_numR {lo hi : Int} (hT : TKN c v M0 T) (i0 : 0 ≤ i) (i1 : i ≤ T) (hR : RW M0 q f) {K : Int → ZM → Prop} (h1 : c i = 50 ∧ lo ≤ v i ∧ v i ≤ hi → ∀ M1, rB q M0 M1 → RW M1 q f → M1 113 20 = v i → K 1 (rdS M1 (i + 1) lv (-1))) (h0 : ¬ (c i = 50 ∧ lo ≤ v i ∧ v i ≤ hi) → K 0 (rdS M0 i lv (M0 123 i))) : zcI (D + 3) 177 [zA 113, zI lo, zI hi] (rdS M0 i lv (-1)) K := r_num hT i0 i1 (fun z => h1 z _ rB.got (hR.cg (zup_row (by decide))) zup_eq) h0
theorem r_rowR {a x : Int} {t l : Int} (a0 : 0 ≤ a) (hR : RW M0 q f) {P : ZM → Prop} (h : ∀ M1, rB q M0 M1 → RW M1 q (fU f a x) → M1 113 = M0 113 → P (rdS M1 t l b)) : ∀ M', M' = zup (rdS M0 t l b) 124 (10 * q + a) x → P M' := by
  apply zset
  rw [rdS_put]
  exact h _ (rB.put (by omega)) hR.put (zup_row (by decide))
theorem RW.at {M : ZM} (h : RW M q f) {t l b' a : Int} (a0 : 0 ≤ a) (a1 : a < 10) : rdS M t l b' 124 (10 * q + a) = f a := by rw [rdS_row (by decide)]; exact h a a0 a1
theorem rl_lt {j q' : Int} (hT : TKN c v M0 T) (hq : q' ≠ 0) (e : c j = q') : j < T := by
  by_cases z : j < T
  · exact z
  · exact absurd (by rw [← e]; exact hT.2.1 j (by omega)) hq
theorem rl_155 (hT : TKN c v M0 T) (i0 : 0 ≤ i) (i1 : i ≤ T) {K : ZM → Prop} {x : Int} (h1 : c i = 144 → wX10_readPlace (D + 3) 68 [(0, zA 113), (1, zI x), (2, zI 1)] (rdS M0 (i + 1) lv (-1)) K) (h0 : c i ≠ 144 → K (rdS M0 i lv (-1))) : wX10_readPlace (D + 3) 155 [(0, zA 113), (1, zI x)] (rdS M0 i lv (-1)) K := by
  apply vX10_readPlace_155
  refine r_sign (by omega) (by omega) (r_takes hT i0 i1 h1 (fun z => ?_))
  apply vX10_readPlace_68
  exact ⟨fun _ => h0 z, fun z => absurd rfl z⟩
theorem rl_n155 (hb : 0 ≤ b) {K : ZM → Prop} {x : Int} (h0 : K (rdS M0 i lv b)) : wX10_readPlace (D + 3) 155 [(0, zA 113), (1, zI x)] (rdS M0 i lv b) K := by
  apply vX10_readPlace_155
  refine r_sign (by omega) (by omega) (r_ntakes hb ?_)
  apply vX10_readPlace_68
  exact ⟨fun _ => h0, fun z => absurd rfl z⟩
theorem rl_fork (q0 : 0 ≤ q) (q1 : q ≤ 15) {K : ZM → Prop} : ∀ (m : Nat) (M0 : ZM) (i : Int) (f : Int → Int), TKN c v M0 T → m + 1 ≤ 3 → f 2 = 2 - m → 0 ≤ i → i ≤ T → RW M0 q f → rlK M0 q (plF c v (m + 1) i lv f) K → wX10_readPlace (D + 3) 68 [(0, zA 113), (1, zI (10 * q)), (2, zI 1)] (rdS M0 i lv (-1)) K := by
  intro m
  induction m with
  | zero =>
    intro M0 i f hT hm f2 i0 i1 hR hk
    rw [plF_s] at hk
    apply vX10_readPlace_68
    refine ⟨fun z => by omega, fun _ => r_numR hT i0 i1 hR (fun z M1 b1 w1 g1 => ⟨fun y => by omega, fun _ => ?_⟩) (fun z => ⟨fun _ => ?_, fun y => absurd rfl y⟩)⟩
    · rw [if_pos z, plF_0] at hk
      have il := rl_lt hT (by decide) z.1
      rw [w1.at (by decide) (by decide), show 10 * q + 3 + f 2 = 10 * q + (3 + f 2) by omega, rdS_113 (by decide) (by decide) (by decide), g1]
      refine ⟨⟨by omega, by omega⟩, ⟨by omega, by omega⟩, ⟨by omega, by omega⟩, ⟨by omega, by omega⟩, ⟨by omega, by omega⟩, r_rowR (by omega) w1 (fun M2 b2 w2 g2 => ?_)⟩
      rw [w2.at (by decide) (by decide), fU_ne (by omega)]
      refine ⟨⟨by omega, by omega⟩, ⟨by omega, by omega⟩, ⟨by omega, by omega⟩, ⟨by omega, by omega⟩, r_rowR (by omega) w2 (fun M3 b3 w3 g3 => ?_)⟩
      rw [w3.at (by decide) (by decide), fU_eq]
      have bb := (b1.tr b2).tr b3
      have hT3 := bb.tk hT
      refine ⟨⟨by omega, by omega⟩, ⟨by omega, by omega⟩, fun y => absurd (by omega) y, fun _ => r_fine ⟨fun y => by omega, fun _ => ?_⟩⟩
      rw [rdS_15, rdS_row (show (121 : Nat) ≠ 113 by decide), (hT3.2.2 (i + 1) (by omega) (by omega)).1]
      have := hT.1
      refine ⟨⟨by omega, by omega⟩, r_sign (by omega) (by omega) ⟨fun y => ?_, fun y => r_faults hT3 (by omega) (by omega) (rl_n155 (hT3.2.2 (i + 1) (by omega) (by omega)).2.2.1 ?_)⟩⟩
      · have y : c (i + 1) ≠ 144 := y
        rw [if_neg y] at hk
        exact rl_155 hT3 (by omega) (by omega) (fun x => absurd x y) (fun _ => hk M3 bb w3)
      · have y : c (i + 1) = 144 := y
        rw [if_pos y, show i + 2 - 1 = i + 1 by omega] at hk
        rw [bb.1 123 (by decide) (by decide)]
        exact hk M3 _ _ bb
    · rw [if_neg z] at hk
      exact hk M0 i lv rB.rf
  | succ m ih =>
    intro M0 i f hT hm f2 i0 i1 hR hk
    rw [plF_s] at hk
    apply vX10_readPlace_68
    refine ⟨fun z => by omega, fun _ => r_numR hT i0 i1 hR (fun z M1 b1 w1 g1 => ⟨fun y => by omega, fun _ => ?_⟩) (fun z => ⟨fun _ => ?_, fun y => absurd rfl y⟩)⟩
    · rw [if_pos z] at hk
      have il := rl_lt hT (by decide) z.1
      rw [w1.at (by decide) (by decide), show 10 * q + 3 + f 2 = 10 * q + (3 + f 2) by omega, rdS_113 (by decide) (by decide) (by decide), g1]
      refine ⟨⟨by omega, by omega⟩, ⟨by omega, by omega⟩, ⟨by omega, by omega⟩, ⟨by omega, by omega⟩, ⟨by omega, by omega⟩, r_rowR (by omega) w1 (fun M2 b2 w2 g2 => ?_)⟩
      rw [w2.at (by decide) (by decide), fU_ne (by omega)]
      refine ⟨⟨by omega, by omega⟩, ⟨by omega, by omega⟩, ⟨by omega, by omega⟩, ⟨by omega, by omega⟩, r_rowR (by omega) w2 (fun M3 b3 w3 g3 => ?_)⟩
      rw [w3.at (by decide) (by decide), fU_eq]
      have bb := (b1.tr b2).tr b3
      have hT3 := bb.tk hT
      refine ⟨⟨by omega, by omega⟩, ⟨by omega, by omega⟩, fun y => rl_155 hT3 (by omega) (by omega) (fun y => ?_) (fun y => ?_), fun y => by omega⟩
      · rw [if_pos y] at hk
        rw [show i + 1 + 1 = i + 2 by omega]
        have il2 := rl_lt hT (by decide) y
        exact ih M3 (i + 2) _ hT3 (by omega) (by rw [fU_eq]; omega) (by omega) (by omega) w3 (hk.st bb)
      · rw [if_neg y] at hk
        exact hk M3 bb w3
    · rw [if_neg z] at hk
      exact hk M0 i lv rB.rf
end RL
