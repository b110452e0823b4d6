/-! the class reads a PLACE: TURN, INN, END -/
section CL
variable {T : Int → Int} {L : Int} {c v : Int → Int} {n : Nat} {lv n0 p : Int} {d : Nat}
theorem cl_turn (hB : BYT T L) (hC : CVT T L c v) (p0 : 0 ≤ p) (p1 : p ≤ 15) {K : Int → ZM → Prop} : ∀ (m : Nat) (M : ZM) (i s : Int) (f : Int → Int), m + 1 ≤ 3 → f 2 = 2 - m → f 0 = 1 → 0 ≤ s → s ≤ 10 → crS T L i lv n0 M → 0 ≤ i → n0 ≤ i → M 42 7 = p → CQ f M p → clK T L c v n p n0 M (plT c v (m + 1) i lv s f) K → wX5_readTurn (d + 5) 20 [(0, zA 42), (1, zI (10 - s)), (2, zI 1), (3, zI (f 2))] M K := by
  intro m
  induction m with
  | zero =>
    intro M i s f hm f2 f0 s0 s1 hS i0 ni hp hQ hk
    rw [plT_s] at hk
    apply vX5_readTurn_20
    refine ⟨fun z => by omega, fun _ => ⟨fun z => by omega, fun _ => c_road hB hC hS i0 hp p0 p1 (by omega) (by omega) (fun z M1 F1 S1 e35 e36 er => ⟨fun y => by omega, fun _ => ?_⟩) (fun z M1 F1 e3 => ⟨fun _ => ⟨Or.inl rfl, ?_⟩, fun y => absurd rfl y⟩)⟩⟩
    · rw [if_pos z] at hk
      refine c_wordI hB hC S1 (by omega) 3 4 (by decide) rfl (fun y M2 a2 S2 => ⟨fun _ => ?_, fun w => by omega⟩) (fun y => ⟨fun w => absurd rfl w, fun _ => ⟨Or.inl rfl, ?_⟩⟩)
      · rw [if_pos y] at hk
        rw [show i + 1 + 1 = i + 2 by omega] at S2
        refine c_numI hB hC S2 (by omega) (by omega) (by decide) (fun u e M3 a3 S3 => ⟨fun _ => ?_, fun w => by omega⟩) (fun u => ⟨fun w => absurd rfl w, fun _ => ⟨Or.inl rfl, ?_⟩⟩)
        · rw [if_pos u] at hk
          have F3 : clF p M M3 := (F1.tr a2.cl).tr a3.cl
          rw [e, F3.2.1 7 (by omega), hp]
          refine ⟨⟨by omega, by omega⟩, ⟨by omega, by omega⟩, ⟨by omega, by omega⟩, ⟨by omega, by omega⟩, zset ?_⟩
          rw [show i + 2 + 1 = i + 3 by omega] at S3
          have F4 : clF p M (zup M3 37 (p * 3 + f 2) (v (i + 2))) := F3.tr (clF.up (by decide) (by decide) (show wI 37 p ≤ p * 3 + f 2 by unfold wI; rw [if_pos (Or.inr rfl)]; omega))
          have S4 : crS T L (i + 3) lv n0 (zup M3 37 (p * 3 + f 2) (v (i + 2))) := S3.cg (zup_row (by decide)) (zup_row (by decide))
          have q4 : CQ (fT f (v i) (v (i + 2))) (zup M3 37 (p * 3 + f 2) (v (i + 2))) p := hQ.turn (M1 := M1) (by omega) (by omega) e36 er (by rw [zup_kup, zup_kup, a3.1 37 (by decide), a2.1 37 (by decide)]) (fun x h1 h2 => by rw [zup_row h1, a3.1 x h2, a2.1 x h2])
          have h41 : ∀ w, w < n0 → zup M3 37 (p * 3 + f 2) (v (i + 2)) 41 w = M 41 w := fun w _ => by rw [zup_row (by decide), a3.1 41 (by decide), a2.1 41 (by decide), er 41 (by decide) (by decide) (by decide)]
          have h35 : zup M3 37 (p * 3 + f 2) (v (i + 2)) 35 p = f 2 + 1 := by rw [zup_row (by decide), a3.1 35 (by decide), a2.1 35 (by decide), e35]
          refine ⟨fun _ => ⟨⟨by omega, by omega⟩, ?_⟩, fun w => by omega⟩
          apply vX5_readTurn_20
          refine ⟨fun _ => ⟨fun w => ⟨Or.inl rfl, ?_⟩, fun w => ⟨Or.inr rfl, ?_⟩⟩, fun w => by omega⟩
          · by_cases x : c (i + 3) = 144
            · rw [if_pos x, plT_0, show i + 4 - 1 = i + 3 by omega] at hk
              exact hk _ 0 F4 S4.1.2.2.1 (Or.inl rfl)
            · rw [if_neg x, if_pos (by omega)] at hk
              exact hk _ 0 F4 S4.1.2.2.1 (Or.inl rfl)
          · by_cases x : c (i + 3) = 144
            · rw [if_pos x, plT_0, show i + 4 - 1 = i + 3 by omega] at hk
              exact hk _ 1 F4 S4.1.2.2.1 (Or.inr ⟨rfl, S4.1, x⟩)
            · rw [if_neg x, if_neg (by omega)] at hk
              exact hk _ n0 F4 S4 (by omega) (show n0 ≤ i + 3 by omega) h41 ⟨q4, by rw [h35, (fT_0 (by omega)).2.2], fun w => by rw [(fT_0 (by omega)).1] at w; omega⟩
        · rw [if_neg u] at hk
          exact hk M2 0 (F1.tr a2.cl) S2.1.2.2.1 (Or.inl rfl)
      · rw [if_neg y] at hk
        exact hk M1 0 F1 S1.1.2.2.1 (Or.inl rfl)
    · rw [if_neg z] at hk
      exact hk M1 0 F1 e3 (Or.inl rfl)
  | succ m ih =>
    intro M i s f hm f2 f0 s0 s1 hS i0 ni hp hQ hk
    rw [plT_s] at hk
    apply vX5_readTurn_20
    refine ⟨fun z => by omega, fun _ => ⟨fun z => by omega, fun _ => c_road hB hC hS i0 hp p0 p1 (by omega) (by omega) (fun z M1 F1 S1 e35 e36 er => ⟨fun y => by omega, fun _ => ?_⟩) (fun z M1 F1 e3 => ⟨fun _ => ⟨Or.inl rfl, ?_⟩, fun y => absurd rfl y⟩)⟩⟩
    · rw [if_pos z] at hk
      refine c_wordI hB hC S1 (by omega) 3 4 (by decide) rfl (fun y M2 a2 S2 => ⟨fun _ => ?_, fun w => by omega⟩) (fun y => ⟨fun w => absurd rfl w, fun _ => ⟨Or.inl rfl, ?_⟩⟩)
      · rw [if_pos y] at hk
        rw [show i + 1 + 1 = i + 2 by omega] at S2
        refine c_numI hB hC S2 (by omega) (by omega) (by decide) (fun u e M3 a3 S3 => ⟨fun _ => ?_, fun w => by omega⟩) (fun u => ⟨fun w => absurd rfl w, fun _ => ⟨Or.inl rfl, ?_⟩⟩)
        · rw [if_pos u] at hk
          have F3 : clF p M M3 := (F1.tr a2.cl).tr a3.cl
          rw [e, F3.2.1 7 (by omega), hp]
          refine ⟨⟨by omega, by omega⟩, ⟨by omega, by omega⟩, ⟨by omega, by omega⟩, ⟨by omega, by omega⟩, zset ?_⟩
          rw [show i + 2 + 1 = i + 3 by omega] at S3
          have F4 : clF p M (zup M3 37 (p * 3 + f 2) (v (i + 2))) := F3.tr (clF.up (by decide) (by decide) (show wI 37 p ≤ p * 3 + f 2 by unfold wI; rw [if_pos (Or.inr rfl)]; omega))
          have S4 : crS T L (i + 3) lv n0 (zup M3 37 (p * 3 + f 2) (v (i + 2))) := S3.cg (zup_row (by decide)) (zup_row (by decide))
          have q4 : CQ (fT f (v i) (v (i + 2))) (zup M3 37 (p * 3 + f 2) (v (i + 2))) p := hQ.turn (M1 := M1) (by omega) (by omega) e36 er (by rw [zup_kup, zup_kup, a3.1 37 (by decide), a2.1 37 (by decide)]) (fun x h1 h2 => by rw [zup_row h1, a3.1 x h2, a2.1 x h2])
          have h41 : ∀ w, w < n0 → zup M3 37 (p * 3 + f 2) (v (i + 2)) 41 w = M 41 w := fun w _ => by rw [zup_row (by decide), a3.1 41 (by decide), a2.1 41 (by decide), er 41 (by decide) (by decide) (by decide)]
          have h35 : zup M3 37 (p * 3 + f 2) (v (i + 2)) 35 p = f 2 + 1 := by rw [zup_row (by decide), a3.1 35 (by decide), a2.1 35 (by decide), e35]
          refine ⟨fun w => by omega, fun _ => ?_⟩
          refine c_signI hB hC S4 (by omega) (w := 144) (by omega) rfl (fun x M5 a5 S5 => ⟨fun w => by omega, fun _ => ⟨⟨by omega, by omega⟩, ?_⟩⟩) (fun x => ⟨fun _ => ⟨⟨by omega, by omega⟩, ?_⟩, fun w => absurd rfl w⟩)
          · rw [if_pos x] at hk
            rw [show i + 3 + 1 = i + 4 by omega] at S5
            have := ih M5 (i + 4) (s + v (i + 2)) (fT f (v i) (v (i + 2))) (by omega) (by rw [(fT_0 (by omega)).2.2]; omega) (by rw [(fT_0 (by omega)).1]; exact f0) (by omega) (by omega) S5 (by omega) (by omega) (by rw [(F4.tr a5.cl).2.1 7 (by omega)]; exact hp) (q4.av a5) (hk.st (F4.tr a5.cl) (fun w w1 => by rw [a5.1 41 (by decide)]; exact h41 w w1))
            rw [(fT_0 (by omega)).2.2] at this
            rw [show 10 - s - v (i + 2) = 10 - (s + v (i + 2)) by omega]
            exact this
          · rw [if_neg x] at hk
            have fin : (¬ (10 - s - v (i + 2)) = 0 → K 0 (zup M3 37 (p * 3 + f 2) (v (i + 2)))) ∧ ((10 - s - v (i + 2)) = 0 → K 1 (zup M3 37 (p * 3 + f 2) (v (i + 2)))) := by
              refine ⟨fun w => ?_, fun w => ?_⟩
              · rw [if_pos (by omega)] at hk
                exact hk _ 0 F4 S4.1.2.2.1 (Or.inl rfl)
              · rw [if_neg (by omega)] at hk
                exact hk _ n0 F4 S4 (by omega) (show n0 ≤ i + 3 by omega) h41 ⟨q4, by rw [h35, (fT_0 (by omega)).2.2], fun w => by rw [(fT_0 (by omega)).1] at w; omega⟩
            apply vX5_readTurn_20
            exact ⟨fun _ => ⟨fun w => ⟨Or.inl rfl, fin.1 w⟩, fun w => ⟨Or.inr rfl, fin.2 w⟩⟩, fun _ => ⟨fun _ => ⟨fun w => ⟨Or.inl rfl, fin.1 w⟩, fun w => ⟨Or.inr rfl, fin.2 w⟩⟩, fun w => absurd rfl w⟩⟩
        · rw [if_neg u] at hk
          exact hk M2 0 (F1.tr a2.cl) S2.1.2.2.1 (Or.inl rfl)
      · rw [if_neg y] at hk
        exact hk M1 0 F1 S1.1.2.2.1 (Or.inl rfl)
    · rw [if_neg z] at hk
      exact hk M1 0 F1 e3 (Or.inl rfl)
theorem cl_inn {M : ZM} {i : Int} (hB : BYT T L) (hC : CVT T L c v) (p0 : 0 ≤ p) (p1 : p ≤ 15) (hS : crS T L (i + 1) lv n0 M) (i0 : 0 ≤ i) (ni : n0 ≤ i) (hp : M 42 7 = p) {K : Int → ZM → Prop} (hk : clK T L c v n p n0 M (plI c v i lv) K) : zcI (d + 6) 50 [zA 42] M K := by
  unfold plI at hk
  apply vX5_readInn
  rw [hp]
  refine ⟨⟨by omega, by omega⟩, zset ?_⟩
  rw [zup_row (show (42 : Nat) ≠ 32 by decide), hp]
  refine ⟨⟨by omega, by omega⟩, zset ?_⟩
  have f2 : clF p M (zup (zup M 32 p 2) 34 p (M 42 6)) := (clF.up (by decide) (by decide) (show wI 32 p ≤ p by unfold wI; rw [if_neg (by decide)]; omega)).tr (clF.up (by decide) (by decide) (show wI 34 p ≤ p by unfold wI; rw [if_neg (by decide)]; omega))
  have S2 : crS T L (i + 1) lv n0 (zup (zup M 32 p 2) 34 p (M 42 6)) := hS.cg (by rw [zup_row (by decide), zup_row (by decide)]) (by rw [zup_row (by decide), zup_row (by decide)])
  refine c_numI hB hC S2 (by omega) (by decide) (by decide) (fun u e M3 a3 S3 => ⟨fun w => by omega, fun _ => ?_⟩) (fun u => ⟨fun _ => ⟨Or.inl rfl, ?_⟩, fun w => absurd rfl w⟩)
  · rw [if_pos u] at hk
    rw [show i + 1 + 1 = i + 2 by omega] at S3
    have F3 := f2.tr (a3.cl (p := p))
    refine c_wordI hB hC S3 (by omega) 1 2 (by decide) rfl (fun y M4 a4 S4 => ⟨fun w => by omega, fun _ => ?_⟩) (fun y => ⟨fun _ => ⟨Or.inl rfl, ?_⟩, fun w => absurd rfl w⟩)
    · rw [if_pos y] at hk
      rw [show i + 2 + 1 = i + 3 by omega] at S4
      have F4 := F3.tr (a4.cl (p := p))
      refine c_road hB hC S4 (by omega) (by rw [F4.2.1 7 (by omega)]; exact hp) p0 p1 (by omega) (by omega) (fun z M5 F5 S5 e35 e36 er => ⟨fun w => by omega, fun _ => ⟨Or.inr rfl, ?_⟩⟩) (fun z M5 F5 e3 => ⟨fun _ => ⟨Or.inl rfl, ?_⟩, fun w => absurd rfl w⟩)
      · rw [if_pos z] at hk
        rw [show i + 3 + 1 = i + 4 by omega] at S5
        rw [zup_row (show (42 : Nat) ≠ 34 by decide), zup_row (show (42 : Nat) ≠ 32 by decide)] at e
        have r : ∀ x, x ≠ 35 → x ≠ 36 → x ≠ 42 → x ≠ 32 → x ≠ 34 → M5 x = M x := fun x h1 h2 h3 h4 h5 => by rw [er x h1 h2 h3, a4.1 x h3, a3.1 x h3, zup_row h5, zup_row h4]
        refine hk M5 n0 (F4.tr F5) S5 (by omega) (show n0 ≤ i + 4 by omega) (fun w _ => by rw [r 41 (by decide) (by decide) (by decide) (by decide) (by decide)]) ⟨⟨?_, ?_, ?_, ?_, ?_, ?_⟩, ?_, ?_⟩
        · rw [er 32 (by decide) (by decide) (by decide), a4.1 32 (by decide), a3.1 32 (by decide), zup_row (by decide), zup_eq]; rfl
        · intro w; exact absurd (show (2 : Int) = _ from w) (by decide)
        · intro w
          rw [er 34 (by decide) (by decide) (by decide), a4.1 34 (by decide), a3.1 34 (by decide), zup_eq, e, fU_ne (by decide), fU_ne (by decide), fU_eq]
        · intro w; exact absurd rfl w
        · intro k k0 k1
          rw [fU_ne (by decide), fU_eq] at k1
          rw [show k = 0 by omega, e36, zup_eq]
          rfl
        · intro w; exact absurd (show (2 : Int) = _ from w) (by decide)
        · rw [e35, fU_ne (by decide), fU_eq]; rfl
        · intro w; exact absurd (show (2 : Int) = _ from w) (by decide)
      · rw [if_neg z] at hk
        exact hk M5 0 (F4.tr F5) e3 (Or.inl rfl)
    · rw [if_neg y] at hk
      exact hk M3 0 F3 S3.1.2.2.1 (Or.inl rfl)
  · rw [if_neg u] at hk
    exact hk _ 0 f2 S2.1.2.2.1 (Or.inl rfl)
theorem cl_fork0 {M : ZM} {i : Int} (hB : BYT T L) (hC : CVT T L c v) (p0 : 0 ≤ p) (p1 : p ≤ 15) (hS : crS T L (i + 1) lv n0 M) (i0 : 0 ≤ i) (ni : n0 ≤ i) (hp : M 42 7 = p) (h34 : M 34 p = 0) {K : Int → ZM → Prop} (hk : clK T L c v n p n0 M (plK c v i lv) K) : zcI (d + 6) 48 [zA 42] M K := by
  unfold plK at hk
  apply vX5_readFork
  rw [hp]
  refine ⟨⟨by omega, by omega⟩, zset ?_⟩
  rw [zup_row (show (42 : Nat) ≠ 32 by decide), hp]
  refine ⟨⟨by omega, by omega⟩, zset ?_⟩
  have f2 : clF p M (zup (zup M 32 p 0) 33 p (M 42 6)) := (clF.up (by decide) (by decide) (show wI 32 p ≤ p by unfold wI; rw [if_neg (by decide)]; omega)).tr (clF.up (by decide) (by decide) (show wI 33 p ≤ p by unfold wI; rw [if_neg (by decide)]; omega))
  have S2 : crS T L (i + 1) lv n0 (zup (zup M 32 p 0) 33 p (M 42 6)) := hS.cg (by rw [zup_row (by decide), zup_row (by decide)]) (by rw [zup_row (by decide), zup_row (by decide)])
  refine c_numI hB hC S2 (by omega) (by decide) (by decide) (fun u e M3 a3 S3 => ⟨fun w => by omega, fun _ => ?_⟩) (fun u => ⟨fun _ => ⟨Or.inl rfl, ?_⟩, fun w => absurd rfl w⟩)
  · rw [if_pos u] at hk
    rw [show i + 1 + 1 = i + 2 by omega] at S3
    have F3 := f2.tr (a3.cl (p := p))
    refine c_wordI hB hC S3 (by omega) 1 2 (by decide) rfl (fun y M4 a4 S4 => ⟨fun _ => ?_, fun w => by omega⟩) (fun y => ⟨fun w => absurd rfl w, fun _ => ⟨Or.inl rfl, ?_⟩⟩)
    · rw [if_pos y] at hk
      rw [show i + 2 + 1 = i + 3 by omega] at S4
      have F4 := F3.tr (a4.cl (p := p))
      rw [zup_row (show (42 : Nat) ≠ 33 by decide), zup_row (show (42 : Nat) ≠ 32 by decide)] at e
      have q4 : CQ (fU (fun _ => 0) 1 (v (i + 1))) M4 p := by
        refine ⟨?_, ?_, ?_, ?_, ?_, ?_⟩
        · rw [a4.1 32 (by decide), a3.1 32 (by decide), zup_row (by decide), zup_eq]; rfl
        · intro w
          rw [a4.1 33 (by decide), a3.1 33 (by decide), zup_eq, e, fU_eq]
        · intro w; exact absurd (show (0 : Int) = _ from w) (by decide)
        · intro w
          rw [a4.1 34 (by decide), a3.1 34 (by decide), zup_row (by decide), zup_row (by decide)]; exact h34
        · intro k k0 k1
          have k1 : k < 0 := k1
          omega
        · intro w; exact absurd (show (0 : Int) = _ from w) (by decide)
      exact cl_fork hB hC p0 p1 2 M4 (i + 3) (fU (fun _ => 0) 1 (v (i + 1))) (by decide) rfl rfl S4 (by omega) (by omega) (by rw [F4.2.1 7 (by omega)]; exact hp) q4 (hk.st F4 (fun w _ => by rw [a4.1 41 (by decide), a3.1 41 (by decide), zup_row (by decide), zup_row (by decide)]))
    · rw [if_neg y] at hk
      exact hk M3 0 F3 S3.1.2.2.1 (Or.inl rfl)
  · rw [if_neg u] at hk
    exact hk _ 0 f2 S2.1.2.2.1 (Or.inl rfl)
theorem cl_turn0 {M : ZM} {i : Int} (hB : BYT T L) (hC : CVT T L c v) (p0 : 0 ≤ p) (p1 : p ≤ 15) (hS : crS T L (i + 1) lv n0 M) (i0 : 0 ≤ i) (ni : n0 ≤ i) (hp : M 42 7 = p) (h34 : M 34 p = 0) {K : Int → ZM → Prop} (hk : clK T L c v n p n0 M (plT c v 3 (i + 1) lv 0 (fU (fun _ => 0) 0 1)) K) : zcI (d + 6) 49 [zA 42] M K := by
  apply vX5_readTurn
  rw [hp]
  refine ⟨⟨by omega, by omega⟩, zset ?_⟩
  have f1 : clF p M (zup M 32 p 1) := clF.up (by decide) (by decide) (show wI 32 p ≤ p by unfold wI; rw [if_neg (by decide)]; omega)
  have q1 : CQ (fU (fun _ => 0) 0 1) (zup M 32 p 1) p := by
    refine ⟨?_, ?_, ?_, ?_, ?_, ?_⟩
    · rw [zup_eq]; rfl
    · intro w; exact absurd (show (1 : Int) = _ from w) (by decide)
    · intro w; exact absurd (show (1 : Int) = _ from w) (by decide)
    · intro w; rw [zup_row (by decide)]; exact h34
    · intro k k0 k1
      have k1 : k < 0 := k1
      omega
    · intro _ k k0 k1
      have k1 : k < 0 := k1
      omega
  exact cl_turn hB hC p0 p1 2 _ (i + 1) 0 (fU (fun _ => 0) 0 1) (by decide) rfl rfl (by omega) (by omega) (hS.cg (zup_row (by decide)) (zup_row (by decide))) (by omega) (by omega) (by rw [zup_row (by decide)]; exact hp) q1 (hk.st f1 (fun w _ => by rw [zup_row (by decide)]))
end CL
