/-! the reference's TURN, and a whole PLACE -/
section RT
variable {c v : Int → Int} {M0 : ZM} {T : Int} {D : Nat} {i lv b q : Int} {f : Int → Int}
theorem rl_333 (hT : TKN c v M0 T) (i0 : 0 ≤ i) (i1 : i ≤ T) {K : ZM → Prop} {x s : Int} (h1 : c i = 144 → wX10_readPlace (D + 3) 190 [(0, zA 113), (1, zI x), (2, zI s), (3, zI 1)] (rdS M0 (i + 1) lv (-1)) K) (h0 : c i ≠ 144 → 10 ≤ s → K (rdS M0 i lv (-1))) (h2 : c i ≠ 144 → ¬ 10 ≤ s → K (rdS M0 i lv (M0 123 i))) : wX10_readPlace (D + 3) 333 [(0, zA 113), (1, zI x), (2, zI s)] (rdS M0 i lv (-1)) K := by
  apply vX10_readPlace_333
  refine r_sign (by omega) (by omega) (r_takes hT i0 i1 h1 (fun z => ?_))
  apply vX10_readPlace_190
  exact ⟨fun _ => ⟨h0 z, fun y => r_faults hT i0 i1 (h2 z y)⟩, fun z => absurd rfl z⟩
theorem rl_n333 (hb : 0 ≤ b) {K : ZM → Prop} {x s : Int} (h0 : K (rdS M0 i lv b)) : wX10_readPlace (D + 3) 333 [(0, zA 113), (1, zI x), (2, zI s)] (rdS M0 i lv b) K := by
  apply vX10_readPlace_333
  refine r_sign (by omega) (by omega) (r_ntakes hb ?_)
  apply vX10_readPlace_190
  exact ⟨fun _ => ⟨fun _ => h0, fun y => r_nfaults hb h0⟩, fun z => absurd rfl z⟩
theorem rl_turn (q0 : 0 ≤ q) (q1 : q ≤ 15) {K : ZM → Prop} : ∀ (m : Nat) (M0 : ZM) (i s : Int) (f : Int → Int), TKN c v M0 T → m + 1 ≤ 3 → f 2 = 2 - m → 0 ≤ s → s ≤ 10 → 0 ≤ i → i ≤ T → RW M0 q f → rlK M0 q (plT c v (m + 1) i lv s f) K → wX10_readPlace (D + 3) 190 [(0, zA 113), (1, zI (10 * q)), (2, zI s), (3, zI 1)] (rdS M0 i lv (-1)) K := by
  intro m
  induction m with
  | zero =>
    intro M0 i s f hT hm f2 s0 s1 i0 i1 hR hk
    rw [plT_s] at hk
    have t4 := hT.1
    have p0 : ∀ j, 0 ≤ j → j ≤ T → 0 ≤ M0 123 j := fun j a b => (hT.2.2 j a b).2.2.1
    apply vX10_readPlace_190
    refine ⟨fun z => by omega, fun _ => r_numR hT i0 i1 hR (fun z M1 b1 w1 g1 => ⟨fun y => by omega, fun _ => ?_⟩) (fun z => ⟨fun _ => ?_, fun y => absurd rfl y⟩)⟩
    · rw [if_pos z] at hk
      have il := rl_lt hT (by decide) z.1
      rw [w1.at (by decide) (by decide), show 10 * q + 3 + f 2 = 10 * q + (3 + f 2) by omega, show 10 * q + 6 + f 2 = 10 * q + (6 + f 2) by omega, rdS_113 (by decide) (by decide) (by decide), g1]
      refine ⟨⟨by omega, by omega⟩, ⟨by omega, by omega⟩, ⟨by omega, by omega⟩, ⟨by omega, by omega⟩, ⟨by omega, by omega⟩, r_rowR (by omega) w1 (fun M2 b2 w2 g2 => ?_)⟩
      have hT2 := (b1.tr b2).tk hT
      refine r_must hT2 (by omega) (by omega) (fun y => ?_) (fun y => ?_)
      · rw [if_pos y] at hk
        have il1 := rl_lt hT (by decide) y
        rw [show i + 1 + 1 = i + 2 by omega]
        refine ⟨⟨by omega, by omega⟩, fun w => r_numR hT2 (by omega) (by omega) w2 (fun u => by omega) (fun u => ⟨fun x => absurd rfl x, fun _ => ?_⟩), fun w => ⟨⟨by omega, by omega⟩, r_numR hT2 (by omega) (by omega) w2 (fun u M3 b3 w3 g3 => ⟨fun _ => ?_, fun x => by omega⟩) (fun u => ⟨fun x => absurd rfl x, fun _ => ?_⟩)⟩⟩
        · rw [if_neg (by omega)] at hk
          rw [(b1.tr b2).1 123 (by decide) (by decide)]
          exact hk M2 _ _ (b1.tr b2)
        · rw [if_pos u, plT_0] at hk
          have il2 := rl_lt hT (by decide) u.1
          rw [rdS_113 (by decide) (by decide) (by decide), g3, show i + 2 + 1 = i + 3 by omega]
          refine ⟨⟨by omega, by omega⟩, ⟨by omega, by omega⟩, ⟨by omega, by omega⟩, ⟨by omega, by omega⟩, r_rowR (by omega) w3 (fun M4 b4 w4 g4 => ?_)⟩
          rw [w4.at (by decide) (by decide), fU_ne (by omega), fU_ne (by omega)]
          refine ⟨⟨by omega, by omega⟩, ⟨by omega, by omega⟩, ⟨by omega, by omega⟩, ⟨by omega, by omega⟩, r_rowR (by omega) w4 (fun M5 b5 w5 g5 => ?_)⟩
          rw [w5.at (by decide) (by decide), fU_eq]
          have bb := (((b1.tr b2).tr b3).tr b4).tr b5
          have hT5 := bb.tk hT
          refine ⟨⟨by omega, by omega⟩, ⟨by omega, by omega⟩, fun y => absurd (by omega) y, fun _ => r_fine ⟨fun y => by omega, fun _ => ?_⟩⟩
          rw [rdS_15, rdS_row (show (121 : Nat) ≠ 113 by decide), (hT5.2.2 (i + 3) (by omega) (by omega)).1]
          refine ⟨⟨by omega, by omega⟩, r_sign (by omega) (by omega) ⟨fun y => ?_, fun y => r_faults hT5 (by omega) (by omega) (rl_n333 (hT5.2.2 (i + 3) (by omega) (by omega)).2.2.1 ?_)⟩⟩
          · have y : c (i + 3) ≠ 144 := y
            rw [if_neg y] at hk
            refine rl_333 hT5 (by omega) (by omega) (fun x => absurd x y) (fun _ x => ?_) (fun _ x => ?_)
            · rw [if_neg (by omega)] at hk
              exact hk M5 bb w5
            · rw [if_pos (by omega)] at hk
              rw [bb.1 123 (by decide) (by decide)]
              exact hk M5 _ _ bb
          · have y : c (i + 3) = 144 := y
            rw [if_pos y, show i + 4 - 1 = i + 3 by omega] at hk
            rw [bb.1 123 (by decide) (by decide)]
            exact hk M5 _ _ bb
        · rw [if_neg u] at hk
          rw [(b1.tr b2).1 123 (by decide) (by decide)]
          exact hk M2 _ _ (b1.tr b2)
      · rw [if_neg y] at hk
        rw [(b1.tr b2).1 123 (by decide) (by decide)]
        have pj := p0 (i + 1) (by omega) (by omega)
        exact ⟨⟨by omega, by omega⟩, fun w => r_nnum pj ⟨fun x => absurd rfl x, fun _ => hk M2 _ _ (b1.tr b2)⟩, fun w => ⟨⟨by omega, by omega⟩, r_nnum pj ⟨fun x => absurd rfl x, fun _ => hk M2 _ _ (b1.tr b2)⟩⟩⟩
    · rw [if_neg z] at hk
      exact ⟨fun _ => hk M0 i lv rB.rf, fun _ => r_nfaults (p0 i i0 i1) (hk M0 i lv rB.rf)⟩
  | succ m ih =>
    intro M0 i s f hT hm f2 s0 s1 i0 i1 hR hk
    rw [plT_s] at hk
    have t4 := hT.1
    have p0 : ∀ j, 0 ≤ j → j ≤ T → 0 ≤ M0 123 j := fun j a b => (hT.2.2 j a b).2.2.1
    apply vX10_readPlace_190
    refine ⟨fun z => by omega, fun _ => r_numR hT i0 i1 hR (fun z M1 b1 w1 g1 => ⟨fun y => by omega, fun _ => ?_⟩) (fun z => ⟨fun _ => ?_, fun y => absurd rfl y⟩)⟩
    · rw [if_pos z] at hk
      have il := rl_lt hT (by decide) z.1
      rw [w1.at (by decide) (by decide), show 10 * q + 3 + f 2 = 10 * q + (3 + f 2) by omega, show 10 * q + 6 + f 2 = 10 * q + (6 + f 2) by omega, rdS_113 (by decide) (by decide) (by decide), g1]
      refine ⟨⟨by omega, by omega⟩, ⟨by omega, by omega⟩, ⟨by omega, by omega⟩, ⟨by omega, by omega⟩, ⟨by omega, by omega⟩, r_rowR (by omega) w1 (fun M2 b2 w2 g2 => ?_)⟩
      have hT2 := (b1.tr b2).tk hT
      refine r_must hT2 (by omega) (by omega) (fun y => ?_) (fun y => ?_)
      · rw [if_pos y] at hk
        have il1 := rl_lt hT (by decide) y
        rw [show i + 1 + 1 = i + 2 by omega]
        refine ⟨⟨by omega, by omega⟩, fun w => r_numR hT2 (by omega) (by omega) w2 (fun u => by omega) (fun u => ⟨fun x => absurd rfl x, fun _ => ?_⟩), fun w => ⟨⟨by omega, by omega⟩, r_numR hT2 (by omega) (by omega) w2 (fun u M3 b3 w3 g3 => ⟨fun _ => ?_, fun x => by omega⟩) (fun u => ⟨fun x => absurd rfl x, fun _ => ?_⟩)⟩⟩
        · rw [if_neg (by omega)] at hk
          rw [(b1.tr b2).1 123 (by decide) (by decide)]
          exact hk M2 _ _ (b1.tr b2)
        · rw [if_pos u] at hk
          have il2 := rl_lt hT (by decide) u.1
          rw [rdS_113 (by decide) (by decide) (by decide), g3, show i + 2 + 1 = i + 3 by omega]
          refine ⟨⟨by omega, by omega⟩, ⟨by omega, by omega⟩, ⟨by omega, by omega⟩, ⟨by omega, by omega⟩, r_rowR (by omega) w3 (fun M4 b4 w4 g4 => ?_)⟩
          rw [w4.at (by decide) (by decide), fU_ne (by omega), fU_ne (by omega)]
          refine ⟨⟨by omega, by omega⟩, ⟨by omega, by omega⟩, ⟨by omega, by omega⟩, ⟨by omega, by omega⟩, r_rowR (by omega) w4 (fun M5 b5 w5 g5 => ?_)⟩
          rw [w5.at (by decide) (by decide), fU_eq]
          have bb := (((b1.tr b2).tr b3).tr b4).tr b5
          have hT5 := bb.tk hT
          refine ⟨⟨by omega, by omega⟩, ⟨by omega, by omega⟩, fun y => rl_333 hT5 (by omega) (by omega) (fun y => ?_) (fun y x => ?_) (fun y x => ?_), fun y => by omega⟩
          · rw [if_pos y] at hk
            rw [show i + 3 + 1 = i + 4 by omega]
            have il3 := rl_lt hT (by decide) y
            exact ih M5 (i + 4) _ _ hT5 (by omega) (show fU _ 2 _ 2 = _ by rw [fU_eq]; omega) (by omega) (by omega) (by omega) (by omega) w5 (hk.st bb)
          · rw [if_neg y, if_neg (by omega)] at hk
            exact hk M5 bb w5
          · rw [if_neg y, if_pos (by omega)] at hk
            rw [bb.1 123 (by decide) (by decide)]
            exact hk M5 _ _ bb
        · rw [if_neg u] at hk
          rw [(b1.tr b2).1 123 (by decide) (by decide)]
          exact hk M2 _ _ (b1.tr b2)
      · rw [if_neg y] at hk
        rw [(b1.tr b2).1 123 (by decide) (by decide)]
        have pj := p0 (i + 1) (by omega) (by omega)
        exact ⟨⟨by omega, by omega⟩, fun w => r_nnum pj ⟨fun x => absurd rfl x, fun _ => hk M2 _ _ (b1.tr b2)⟩, fun w => ⟨⟨by omega, by omega⟩, r_nnum pj ⟨fun x => absurd rfl x, fun _ => hk M2 _ _ (b1.tr b2)⟩⟩⟩
    · rw [if_neg z] at hk
      exact ⟨fun _ => hk M0 i lv rB.rf, fun _ => r_nfaults (p0 i i0 i1) (hk M0 i lv rB.rf)⟩
theorem rl_fresh (q0 : 0 ≤ q) (q1 : q ≤ 15) {K : ZM → Prop} (hk : ∀ M1, rB q M0 M1 → RW M1 q (fun _ => 0) → wX10_readPlace D 10 [(0, zA 113), (1, zI (10 * q)), (2, zI 10)] (rdS M1 i lv b) K) : ∀ (m : Nat) (M1 : ZM) (k : Int), k + m = 10 → rB q M0 M1 → 0 ≤ k → (∀ y, 0 ≤ y → y < k → M1 124 (10 * q + y) = 0) → wX10_readPlace D 10 [(0, zA 113), (1, zI (10 * q)), (2, zI k)] (rdS M1 i lv b) K := by
  intro m
  induction m with
  | zero =>
    intro M1 k hk' b1 k0 hy
    rw [show k = 10 by omega] at *
    exact hk M1 b1 hy
  | succ m ih =>
    intro M1 k hk' b1 k0 hy
    apply vX10_readPlace_10
    refine ⟨fun z => by omega, fun _ => ⟨⟨by omega, by omega⟩, ⟨by omega, by omega⟩, zset ?_⟩⟩
    rw [rdS_put]
    refine ⟨⟨by omega, by omega⟩, ih _ (k + 1) (by omega) (b1.tr (rB.put (by omega))) (by omega) (fun y y0 y1 => ?_)⟩
    rw [zup_at]
    by_cases e : y = k
    · rw [if_pos (by omega)]
    · rw [if_neg (by omega)]; exact hy y y0 (by omega)
theorem rl_place {n : Nat} (hT : TKN c v M0 T) (hn : 4820 ≤ n) (hq : M0 113 19 = q) (q0 : 0 ≤ q) (q1 : q ≤ 15) (i0 : 0 ≤ i) (i1 : i ≤ T) (l0 : 0 ≤ lv) (l1 : lv ≤ 50) {K : ZM → Prop} (hk : rlK M0 q (pL c v n i lv) K) : zcV (D + 40) 178 [zA 113] (rdS M0 i lv (-1)) K := by
  have t4 := hT.1
  apply vX10_readPlace
  rw [rdS_113 (by decide) (by decide) (by decide), hq]
  refine ⟨⟨by omega, by omega⟩, rl_fresh q0 q1 (fun M1 b1 w1 => ?_) 10 M0 0 (by omega) rB.rf (by omega) (fun y y0 y1 => by omega)⟩
  have hT1 := b1.tk hT
  have p0 : ∀ j, 0 ≤ j → j ≤ T → 0 ≤ M0 123 j := fun j a b => (hT.2.2 j a b).2.2.1
  unfold pL at hk
  apply vX10_readPlace_10
  refine ⟨fun _ => r_takes hT1 i0 i1 (fun z => ⟨fun y => by omega, fun _ => ?_⟩) (fun z1 => ⟨fun _ => r_takes hT1 i0 i1 (fun z => ⟨fun y => by omega, fun _ => ?_⟩) (fun z2 => ⟨fun _ => r_takes hT1 i0 i1 (fun z => ⟨fun y => by omega, fun _ => ?_⟩) (fun z3 => ⟨fun _ => r_must hT1 i0 i1 (fun z => ?_) (fun z => ?_), fun y => absurd rfl y⟩), fun y => absurd rfl y⟩), fun y => absurd rfl y⟩), fun z => by omega⟩
  · -- a FORK
    rw [if_pos z] at hk
    unfold plK at hk
    have il := rl_lt hT (by decide) z
    refine r_numR hT1 (by omega) (by omega) w1 (fun u M2 b2 w2 g2 => ⟨fun _ => ?_, fun x => by omega⟩) (fun u => ⟨fun x => absurd rfl x, fun _ => ?_⟩)
    · rw [if_pos u] at hk
      have il1 := rl_lt hT (by decide) u.1
      rw [rdS_113 (by decide) (by decide) (by decide), g2]
      refine ⟨⟨by omega, by omega⟩, ⟨by omega, by omega⟩, r_rowR (by omega) w2 (fun M3 b3 w3 g3 => ?_)⟩
      have bb := (b1.tr b2).tr b3
      have hT3 := bb.tk hT
      rw [show i + 1 + 1 = i + 2 by omega]
      refine r_must hT3 (by omega) (by omega) (fun y => ?_) (fun y => ?_)
      · rw [if_pos y] at hk
        have il2 := rl_lt hT (by decide) y
        rw [show i + 2 + 1 = i + 3 by omega]
        exact rl_fork q0 q1 2 M3 (i + 3) _ hT3 (by decide) (by rw [fU_ne (by decide)]; rfl) (by omega) (by omega) w3 (hk.st bb)
      · rw [if_neg y] at hk
        have pj := p0 (i + 2) (by omega) (by omega)
        rw [bb.1 123 (by decide) (by decide)]
        apply vX10_readPlace_68
        exact ⟨fun x => by omega, fun _ => r_nnum pj ⟨fun _ => hk M3 _ _ bb, fun x => absurd rfl x⟩⟩
    · rw [if_neg u] at hk
      rw [b1.1 123 (by decide) (by decide)]
      exact hk M1 _ _ b1
  · -- a TURN
    rw [if_neg z1, if_pos z] at hk
    have il := rl_lt hT (by decide) z
    refine ⟨⟨by omega, by omega⟩, ?_⟩
    rw [show 10 * q = 10 * q + 0 by omega]
    refine r_rowR (by omega) w1 (fun M3 b3 w3 g3 => ?_)
    have bb := b1.tr b3
    rw [show 10 * q + 0 = 10 * q by omega]
    exact rl_turn q0 q1 2 M3 (i + 1) 0 _ (bb.tk hT) (by decide) (by rw [fU_ne (by decide)]; rfl) (by omega) (by omega) (by omega) (by omega) w3 (hk.st bb)
  · -- an INN
    rw [if_neg z1, if_neg z2, if_pos z] at hk
    unfold plI at hk
    have il := rl_lt hT (by decide) z
    refine ⟨⟨by omega, by omega⟩, ?_⟩
    have key : ∀ P : ZM → Prop, (∀ M', M' = zup (rdS M1 (i + 1) lv (-1)) 124 (10 * q + 0) 2 → P M') → ∀ M', M' = zup (rdS M1 (i + 1) lv (-1)) 124 (10 * q) 2 → P M' := fun P h => by rw [show 10 * q = 10 * q + 0 by omega]; exact h
    refine key _ (r_rowR (by omega) w1 (fun M2 b2 w2 g2 => ?_))
    have hT2 := (b1.tr b2).tk hT
    refine r_numR hT2 (by omega) (by omega) w2 (fun u M3 b3 w3 g3 => ⟨fun _ => ?_, fun x => by omega⟩) (fun u => ⟨fun x => absurd rfl x, fun _ => ?_⟩)
    · rw [if_pos u] at hk
      have il1 := rl_lt hT (by decide) u.1
      rw [rdS_113 (by decide) (by decide) (by decide), g3]
      refine ⟨⟨by omega, by omega⟩, ⟨by omega, by omega⟩, r_rowR (by omega) w3 (fun M4 b4 w4 g4 => ?_)⟩
      have bb := ((b1.tr b2).tr b3).tr b4
      have hT4 := bb.tk hT
      rw [show i + 1 + 1 = i + 2 by omega]
      refine r_must hT4 (by omega) (by omega) (fun y => ?_) (fun y => ?_)
      · rw [if_pos y] at hk
        have il2 := rl_lt hT (by decide) y
        rw [show i + 2 + 1 = i + 3 by omega]
        refine r_numR hT4 (by omega) (by omega) w4 (fun u M5 b5 w5 g5 => ⟨fun _ => ?_, fun x => by omega⟩) (fun u => ⟨fun x => absurd rfl x, fun _ => ?_⟩)
        · rw [if_pos u] at hk
          refine ⟨⟨by omega, by omega⟩, ⟨by omega, by omega⟩, r_rowR (by omega) w5 (fun M6 b6 w6 g6 => ?_)⟩
          rw [rdS_113 (by decide) (by decide) (by decide), g6, g5]
          refine ⟨⟨by omega, by omega⟩, ⟨by omega, by omega⟩, r_rowR (by omega) w6 (fun M7 b7 w7 g7 => ?_)⟩
          rw [show i + 3 + 1 = i + 4 by omega]
          exact hk M7 (((bb.tr b5).tr b6).tr b7) w7
        · rw [if_neg u] at hk
          rw [bb.1 123 (by decide) (by decide)]
          exact hk M4 _ _ bb
      · rw [if_neg y] at hk
        have pj := p0 (i + 2) (by omega) (by omega)
        rw [bb.1 123 (by decide) (by decide)]
        exact r_nnum pj ⟨fun x => absurd rfl x, fun _ => hk M4 _ _ bb⟩
    · rw [if_neg u] at hk
      rw [(b1.tr b2).1 123 (by decide) (by decide)]
      exact hk M2 _ _ (b1.tr b2)
  · -- an END
    rw [if_neg z1, if_neg z2, if_neg z3, if_pos z] at hk
    unfold plE at hk
    have il := rl_lt hT (by decide) z
    refine ⟨⟨by omega, by omega⟩, ?_⟩
    have key : ∀ P : ZM → Prop, (∀ M', M' = zup (rdS M1 (i + 1) lv (-1)) 124 (10 * q + 0) 3 → P M') → ∀ M', M' = zup (rdS M1 (i + 1) lv (-1)) 124 (10 * q) 3 → P M' := fun P h => by rw [show 10 * q = 10 * q + 0 by omega]; exact h
    refine key _ (r_rowR (by omega) w1 (fun M2 b2 w2 g2 => ?_))
    rw [rdS_15]
    refine ⟨⟨by omega, by omega⟩, ⟨by omega, by omega⟩, r_rowR (by omega) w2 (fun M3 b3 w3 g3 => ?_)⟩
    have bb := (b1.tr b2).tr b3
    have hT3 := bb.tk hT
    have e6 : rk 6 = 3 := rfl
    have e0 : rk 0 = 7 := rfl
    obtain ⟨sg, sm⟩ := rd_all hT3 n 6 0 (i + 1) lv (mLeaf 50 0) (by decide) (by omega) (by omega) (by omega) (by omega) l0 l1 (by omega)
    refine sm (D + 39) _ (by omega) ?_
    generalize pP c v n 6 0 (i + 1) lv (mLeaf 50 0) = r1 at *
    obtain ⟨j, lv1, o⟩ := r1
    have s1 := sg.1
    have s1 : i + 1 ≤ j := s1
    have s2 := sg.2.1
    have s2 : j ≤ T := s2
    cases o with
    | none =>
      intro t l
      rw [bb.1 123 (by decide) (by decide)]
      exact r_ntakes (p0 j (by omega) s2) ⟨fun _ => hk M3 t l bb, fun x => absurd rfl x⟩
    | some a =>
      have s3 := sg.2.2 rfl
      have s3 : lv ≤ lv1 ∧ lv1 ≤ 50 := s3
      have hk : rlK M0 q (if c j = 7 then plS (pP c v n 0 0 (j + 1) lv1 (mLeaf 50 0)) (fun j2 lv2 _ => (j2, lv2, some (fE i))) else (j, lv1, some (fE i))) K := hk
      refine r_takes hT3 (by omega) s2 (fun y => ⟨fun x => by omega, fun _ => ?_⟩) (fun y => ⟨fun _ => ?_, fun x => absurd rfl x⟩)
      · rw [if_pos y] at hk
        have jl := rl_lt hT (by decide) y
        obtain ⟨tg, tm⟩ := rd_all hT3 n 0 0 (j + 1) lv1 (mLeaf 50 0) (by decide) (by omega) (by omega) (by omega) (by omega) (by omega) s3.2 (by omega)
        refine tm (D + 39) _ (by omega) ?_
        generalize pP c v n 0 0 (j + 1) lv1 (mLeaf 50 0) = r2 at *
        obtain ⟨j2, lv2, o2⟩ := r2
        cases o2 with
        | none =>
          intro t l
          rw [bb.1 123 (by decide) (by decide)]
          exact hk M3 t l bb
        | some a2 => exact hk M3 bb w3
      · rw [if_neg y] at hk
        exact hk M3 bb w3
  · -- nothing
    rw [if_neg z1, if_neg z2, if_neg z3, if_neg z] at hk
    have pj := p0 i (by omega) (by omega)
    rw [b1.1 123 (by decide) (by decide)]
    refine ⟨⟨by omega, by omega⟩, zset ?_⟩
    rw [rdS_put, rdS_15]
    refine ⟨⟨by omega, by omega⟩, ⟨by omega, by omega⟩, zset ?_⟩
    rw [rdS_put]
    have bb := (b1.tr (rB.put (a := 10 * q) (x := 3) (by omega))).tr (rB.put (a := 10 * q + 9) (x := i) (by omega))
    exact n_6 pj (r_ntakes pj ⟨fun _ => hk _ _ _ bb, fun x => absurd rfl x⟩)
end RT
