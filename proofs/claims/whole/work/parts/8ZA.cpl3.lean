/-! the class reads an END; a PLACE -/
section CL
variable {T : Int → Int} {L : Int} {c v : Int → Int} {n : Nat} {lv n0 p t : Int} {d : Nat}
theorem cl_end {M : ZM} {i : Int} (hB : BYT T L) (hT : TKC c v t) (hC : CVT T L c v) (hn : 4820 ≤ n) (p0 : 0 ≤ p) (p1 : p ≤ 15) (hS : crS T L (i + 1) lv n0 M) (i0 : 0 ≤ i) (i1 : i < t) (n00 : 0 ≤ n0) (ni : n0 ≤ i) (l0 : 0 ≤ lv) (l1 : lv ≤ 50) (hp : M 42 7 = p) (h34 : M 34 p = 0) (h35 : M 35 p = 0) (h38 : M 38 p = n0) {K : Int → ZM → Prop} (hk : clK T L c v n p n0 M (plE c v n i lv) K) : zcI (d + 45) 52 [zA 42] M K := by
  unfold plE at hk
  have t4 := hT.1
  have e6 : rk 6 = 3 := rfl
  have e0 : rk 0 = 7 := rfl
  apply vX5_readEnd
  rw [hp]
  refine ⟨⟨by omega, by omega⟩, zset ?_⟩
  have w0 : ∀ x, 38 ≤ x ∨ x = 32 → wI x p ≤ p := fun x hx => by unfold wI; rw [if_neg (by omega)]; omega
  have F1 : clF p M (zup M 32 p 3) := clF.up (by decide) (by decide) (w0 32 (Or.inr rfl))
  have S1 : crS T L (i + 1) lv n0 (zup M 32 p 3) := hS.cg (zup_row (by decide)) (zup_row (by decide))
  have sub := cr_sum hB hT hC n 6 0 (i + 1) lv (mLeaf 50 0) (by decide) (by decide) (by omega) (by omega) (by omega) (by omega) l0 l1 (by omega)
  have sg := pP_rg hT (n := n) (m := 6) (dp := 0) (i := i + 1) (lv := lv) (hh := mLeaf 50 0) (by decide) (by omega) (by omega) (by omega) (by omega) l0 l1 (by omega)
  have bd := pP_bdm c v n 6 0 (i + 1) lv (mLeaf 50 0)
  have pe : ∀ r, pP c v n 6 0 (i + 1) lv (mLeaf 50 0) = r → pP c v n 6 0 (i + 1) lv (mLeaf 50 0) = r := fun _ h => h
  refine sub (d + 44) _ _ n0 (by omega) S1 n00 (by omega) ?_
  generalize hr : pP c v n 6 0 (i + 1) lv (mLeaf 50 0) = r1 at *
  obtain ⟨j, lv1, o⟩ := r1
  have s1 := sg.1
  have s1 : i + 1 ≤ j := s1
  have s2 := sg.2.1
  have s2 : j ≤ t := s2
  cases o with
  | none => exact fun M' f' e' => ⟨fun w => absurd rfl w, fun _ => ⟨Or.inl rfl, hk M' 0 (F1.tr (clF.cr f')) e' (Or.inl rfl)⟩⟩
  | some a =>
    have s3 := sg.2.2 rfl
    have s3 : lv ≤ lv1 ∧ lv1 ≤ 50 := s3
    have ba := bd j lv1 a (by decide) (by decide) (fun z => by omega) rfl
    intro M2 n1 f2 S2 nn1 nn2 c2 cm
    have nn2 : n1 - n0 ≤ j - (i + 1) := nn2
    have S2 : crS T L j lv1 n1 M2 := S2
    have hk : clK T L c v n p n0 M (if c j = 7 then plS (pP c v n 0 0 (j + 1) lv1 (mLeaf 50 0)) (fun j2 lv2 _ => (j2, lv2, some (fE i))) else (j, lv1, some (fE i))) K := hk
    refine ⟨fun _ => ?_, fun w => by omega⟩
    rw [f2.2 7 (Or.inr rfl), zup_row (by decide), hp]
    refine ⟨⟨by omega, by omega⟩, zset ?_⟩
    rw [S2.2.2]
    have F3 : clF p M (zup M2 39 p n1) := (F1.tr (clF.cr f2)).tr (clF.up (by decide) (by decide) (w0 39 (by omega)))
    have S3 : crS T L j lv1 n1 (zup M2 39 p n1) := S2.cg (zup_row (by decide)) (zup_row (by decide))
    have r2 : ∀ x, x ≠ 32 → x ≠ 41 → x ≠ 42 → M2 x = M x := fun x a b e => by rw [f2.1 x b e, zup_row a]
    refine c_wordI hB hC S3 (by omega) 9 7 (by decide) rfl (fun y M4 a4 S4 => ⟨fun w => by omega, fun _ => ?_⟩) (fun y => ⟨fun _ => ?_, fun w => absurd rfl w⟩)
    · rw [if_pos y] at hk
      have jl : j < t := by
        by_cases z : j < t
        · exact z
        · have := hT.2.1 j (by omega); omega
      have F4 := F3.tr (a4.cl (p := p))
      have tst := ct_all hB hT hC n 0 0 (j + 1) lv1 (mLeaf 50 0) (by decide) (by omega) (by omega) (by omega) (by omega) (by omega) s3.2 (by omega)
      generalize hr2 : pP c v n 0 0 (j + 1) lv1 (mLeaf 50 0) = r2' at *
      obtain ⟨j2, lv2, o2⟩ := r2'
      refine tst (d + 44) _ M4 n1 (by omega) S4 (by omega) (by omega) ?_
      cases o2 with
      | none => exact fun M' f' e' => ⟨fun w => absurd rfl w, fun _ => ⟨Or.inl rfl, hk M' 0 (F4.tr (clF.cr f')) e' (Or.inl rfl)⟩⟩
      | some tt =>
        intro M5 n2 f5 S5 m1 m2 c5 cm5
        have m2 : n2 - n1 ≤ j2 - (j + 1) := m2
        have S5 : crS T L j2 lv2 n2 M5 := S5
        refine ⟨fun _ => ?_, fun w => by omega⟩
        rw [f5.2 7 (Or.inr rfl), F4.2.1 7 (Or.inr rfl), hp]
        refine ⟨⟨by omega, by omega⟩, zset ⟨Or.inr rfl, ?_⟩⟩
        rw [S5.2.2]
        have F6 : clF p M (zup M5 40 p n2) := (F4.tr (clF.cr f5)).tr (clF.up (by decide) (by decide) (w0 40 (by omega)))
        have r6 : ∀ x, x ≠ 32 → x ≠ 39 → x ≠ 40 → x ≠ 41 → x ≠ 42 → zup M5 40 p n2 x = M x := fun x h1 h2 h3 h4 h5 => by rw [zup_row h3, f5.1 x h4 h5, a4.1 x h5, zup_row h2, r2 x h1 h4 h5]
        have z38 : zup M5 40 p n2 38 p = n0 := by rw [r6 38 (by decide) (by decide) (by decide) (by decide) (by decide)]; exact h38
        have z39 : zup M5 40 p n2 39 p = n1 := by rw [zup_row (by decide), f5.1 39 (by decide) (by decide), a4.1 39 (by decide), zup_eq]
        have z40 : zup M5 40 p n2 40 p = n2 := zup_eq
        have z41 : ∀ y, y < n1 → zup M5 40 p n2 41 y = M2 41 y := fun y y1 => by rw [zup_row (by decide), c5 y y1, a4.1 41 (by decide), zup_row (by decide)]
        refine hk _ n2 F6 (S5.cg (zup_row (by decide)) (zup_row (by decide))) (by omega) (show n2 ≤ j2 by omega) (fun y y1 => ?_) ⟨⟨?_, ?_, ?_, ?_, ?_, ?_⟩, ?_, fun _ => ⟨?_, lv, j, lv1, a, hr, ba, ?_, ?_⟩⟩
        · rw [z41 y (by omega), c2 y y1, zup_row (by decide)]
        · rw [zup_row (by decide), f5.1 32 (by decide) (by decide), a4.1 32 (by decide), zup_row (by decide), f2.1 32 (by decide) (by decide), zup_eq]; rfl
        · intro w; exact absurd (show (3 : Int) = _ from w) (by decide)
        · intro w; exact absurd (show (3 : Int) = _ from w) (by decide)
        · intro w; rw [r6 34 (by decide) (by decide) (by decide) (by decide) (by decide)]; exact h34
        · intro k k0 k1
          have k1 : k < 0 := k1
          omega
        · intro w; exact absurd (show (3 : Int) = _ from w) (by decide)
        · rw [r6 35 (by decide) (by decide) (by decide) (by decide) (by decide), h35]; rfl
        · rw [z38, z39, z40]
          exact ⟨n00, nn1, m1, Int.le_refl _, show 0 ≤ i + 1 by omega⟩
        · rw [z38, z39]
          exact (cm.up (by omega)).cg (fun y y0 y1 => z41 y y1)
        · rw [if_pos y, z39, z40]
          refine ⟨j2, lv2, tt, hr2, (cm5.up (by omega)).cg (fun y y0 y1 => by rw [zup_row (by decide)]), by omega⟩
    · rw [if_neg y] at hk
      rw [F3.2.1 7 (Or.inr rfl), hp, S3.2.2]
      refine ⟨⟨by omega, by omega⟩, zset ⟨Or.inr rfl, ?_⟩⟩
      have F6 : clF p M (zup (zup M2 39 p n1) 40 p n1) := F3.tr (clF.up (by decide) (by decide) (w0 40 (by omega)))
      have r6 : ∀ x, x ≠ 32 → x ≠ 39 → x ≠ 40 → x ≠ 41 → x ≠ 42 → zup (zup M2 39 p n1) 40 p n1 x = M x := fun x h1 h2 h3 h4 h5 => by rw [zup_row h3, zup_row h2, r2 x h1 h4 h5]
      have z38 : zup (zup M2 39 p n1) 40 p n1 38 p = n0 := by rw [r6 38 (by decide) (by decide) (by decide) (by decide) (by decide)]; exact h38
      have z39 : zup (zup M2 39 p n1) 40 p n1 39 p = n1 := by rw [zup_row (by decide), zup_eq]
      have z40 : zup (zup M2 39 p n1) 40 p n1 40 p = n1 := zup_eq
      have z41 : zup (zup M2 39 p n1) 40 p n1 41 = M2 41 := by rw [zup_row (by decide), zup_row (by decide)]
      refine hk _ n1 F6 (S3.cg (zup_row (by decide)) (zup_row (by decide))) (by omega) (show n1 ≤ j by omega) (fun y y1 => ?_) ⟨⟨?_, ?_, ?_, ?_, ?_, ?_⟩, ?_, fun _ => ⟨?_, lv, j, lv1, a, hr, ba, ?_, ?_⟩⟩
      · rw [z41, c2 y y1, zup_row (by decide)]
      · rw [zup_row (by decide), zup_row (by decide), f2.1 32 (by decide) (by decide), zup_eq]; rfl
      · intro w; exact absurd (show (3 : Int) = _ from w) (by decide)
      · intro w; exact absurd (show (3 : Int) = _ from w) (by decide)
      · intro w; rw [r6 34 (by decide) (by decide) (by decide) (by decide) (by decide)]; exact h34
      · intro k k0 k1
        have k1 : k < 0 := k1
        omega
      · intro w; exact absurd (show (3 : Int) = _ from w) (by decide)
      · rw [r6 35 (by decide) (by decide) (by decide) (by decide) (by decide), h35]; rfl
      · rw [z38, z39, z40]
        exact ⟨n00, nn1, Int.le_refl _, Int.le_refl _, show 0 ≤ i + 1 by omega⟩
      · rw [z38, z39, z41]
        exact cm.up (by omega)
      · rw [if_neg y, z39, z40]
theorem cl_place {M : ZM} {i : Int} (hB : BYT T L) (hT : TKC c v t) (hC : CVT T L c v) (hn : 4820 ≤ n) (p0 : 0 ≤ p) (p1 : p ≤ 15) (hS : crS T L i lv n0 M) (i0 : 0 ≤ i) (i1 : i ≤ t) (n00 : 0 ≤ n0) (ni : n0 ≤ i) (l0 : 0 ≤ lv) (l1 : lv ≤ 50) (hp : M 42 7 = p) {K : Int → ZM → Prop} (hk : clK T L c v n p n0 M (pL c v n i lv) K) : zcI (d + 46) 47 [zA 42] M K := by
  have lt : ∀ {q : Int}, q ≠ 0 → c i = q → i < t := fun {q} hq e => by
    by_cases z : i < t
    · exact z
    · exact absurd (by rw [← e]; exact hT.2.1 i (by omega)) hq
  have w0 : ∀ x, x ≠ 36 ∧ x ≠ 37 → wI x p ≤ p := fun x hx => by unfold wI; rw [if_neg (by omega)]; omega
  have s8 := hS.2.2
  apply vX5_readPlace
  rw [hp]
  refine ⟨⟨by omega, by omega⟩, zset ?_⟩
  rw [zup_row (show (42 : Nat) ≠ 33 by decide), hp]
  refine ⟨⟨by omega, by omega⟩, zset ?_⟩
  rw [zup_row (show (42 : Nat) ≠ 34 by decide), zup_row (show (42 : Nat) ≠ 33 by decide), hp]
  refine ⟨⟨by omega, by omega⟩, zset ?_⟩
  rw [zup_row (show (42 : Nat) ≠ 35 by decide), zup_row (show (42 : Nat) ≠ 34 by decide), zup_row (show (42 : Nat) ≠ 33 by decide), hp, s8]
  refine ⟨⟨by omega, by omega⟩, zset ?_⟩
  rw [zup_row (show (42 : Nat) ≠ 38 by decide), zup_row (show (42 : Nat) ≠ 35 by decide), zup_row (show (42 : Nat) ≠ 34 by decide), zup_row (show (42 : Nat) ≠ 33 by decide), hp, s8]
  refine ⟨⟨by omega, by omega⟩, zset ?_⟩
  rw [zup_row (show (42 : Nat) ≠ 39 by decide), zup_row (show (42 : Nat) ≠ 38 by decide), zup_row (show (42 : Nat) ≠ 35 by decide), zup_row (show (42 : Nat) ≠ 34 by decide), zup_row (show (42 : Nat) ≠ 33 by decide), hp, s8]
  refine ⟨⟨by omega, by omega⟩, zset ?_⟩
  have F1 : clF p M (zup (zup (zup (zup (zup (zup M 33 p 0) 34 p 0) 35 p 0) 38 p n0) 39 p n0) 40 p n0) := (((((clF.up (by decide) (by decide) (w0 33 (by decide))).tr (clF.up (by decide) (by decide) (w0 34 (by decide)))).tr (clF.up (by decide) (by decide) (w0 35 (by decide)))).tr (clF.up (by decide) (by decide) (w0 38 (by decide)))).tr (clF.up (by decide) (by decide) (w0 39 (by decide)))).tr (clF.up (by decide) (by decide) (w0 40 (by decide)))
  have r : ∀ x, x < 33 ∨ 40 < x → (zup (zup (zup (zup (zup (zup M 33 p 0) 34 p 0) 35 p 0) 38 p n0) 39 p n0) 40 p n0) x = M x := fun x hx => by rw [zup_row (by omega), zup_row (by omega), zup_row (by omega), zup_row (by omega), zup_row (by omega), zup_row (by omega)]
  have h34 : (zup (zup (zup (zup (zup (zup M 33 p 0) 34 p 0) 35 p 0) 38 p n0) 39 p n0) 40 p n0) 34 p = 0 := by rw [zup_row (by decide), zup_row (by decide), zup_row (by decide), zup_row (by decide), zup_eq]
  have h35 : (zup (zup (zup (zup (zup (zup M 33 p 0) 34 p 0) 35 p 0) 38 p n0) 39 p n0) 40 p n0) 35 p = 0 := by rw [zup_row (by decide), zup_row (by decide), zup_row (by decide), zup_eq]
  have h38 : (zup (zup (zup (zup (zup (zup M 33 p 0) 34 p 0) 35 p 0) 38 p n0) 39 p n0) 40 p n0) 38 p = n0 := by rw [zup_row (by decide), zup_row (by decide), zup_eq]
  generalize (zup (zup (zup (zup (zup (zup M 33 p 0) 34 p 0) 35 p 0) 38 p n0) 39 p n0) 40 p n0) = M1 at *
  have S1 : crS T L i lv n0 M1 := hS.cg (r 30 (by omega)) (r 42 (by omega))
  have hk1 : clK T L c v n p n0 M1 (pL c v n i lv) K := hk.st F1 (fun y _ => by rw [r 41 (by omega)])
  unfold pL at hk1
  have k7 : M1 42 7 = p := by rw [r 42 (by omega)]; exact hp
  have or0 : ∀ {x : Int} {M' : ZM}, K x M' → (x = 0 ∨ x = 1) → (x = 0 ∨ x = 1) ∧ K x M' := fun a b => ⟨b, a⟩
  -- a reading answers 0 or 1
  have bool : ∀ {r : PLR} {M2 : ZM}, clK T L c v n p n0 M2 r K → clK T L c v n p n0 M2 r (fun x M' => (x = 0 ∨ x = 1) ∧ K x M') := by
    intro r M2 h
    obtain ⟨j, l, o⟩ := r
    cases o with
    | none => exact fun M' x a b e => ⟨e.elim Or.inl (fun y => Or.inr y.1), h M' x a b e⟩
    | some f => exact fun M' n1 a b e g k u => ⟨Or.inr rfl, h M' n1 a b e g k u⟩
  refine c_wordI hB hC S1 i0 0 1 (by decide) rfl (fun z M2 a2 S2 => ⟨fun w => by omega, fun _ => ?_⟩) (fun z1 => ⟨fun _ => c_wordI hB hC S1 i0 2 3 (by decide) rfl (fun z M2 a2 S2 => ⟨fun w => by omega, fun _ => ?_⟩) (fun z2 => ⟨fun _ => c_wordI hB hC S1 i0 4 5 (by decide) rfl (fun z M2 a2 S2 => ⟨fun w => by omega, fun _ => ?_⟩) (fun z3 => ⟨fun _ => c_wordI hB hC S1 i0 5 6 (by decide) rfl (fun z M2 a2 S2 => ⟨fun w => by omega, fun _ => ?_⟩) (fun z4 => ⟨fun _ => ⟨Or.inl rfl, ?_⟩, fun w => absurd rfl w⟩), fun w => absurd rfl w⟩), fun w => absurd rfl w⟩), fun w => absurd rfl w⟩)
  · rw [if_pos z] at hk1
    exact cl_fork0 hB hC p0 p1 S2 i0 ni (by rw [a2.2 7 (by decide) (by decide) (by decide) (by decide)]; exact k7) (by rw [a2.1 34 (by decide)]; exact h34) (bool (hk1.st a2.cl (fun y _ => by rw [a2.1 41 (by decide)])))
  · rw [if_neg z1, if_pos z] at hk1
    exact cl_turn0 hB hC p0 p1 S2 i0 ni (by rw [a2.2 7 (by decide) (by decide) (by decide) (by decide)]; exact k7) (by rw [a2.1 34 (by decide)]; exact h34) (bool (hk1.st a2.cl (fun y _ => by rw [a2.1 41 (by decide)])))
  · rw [if_neg z1, if_neg z2, if_pos z] at hk1
    exact cl_inn hB hC p0 p1 S2 i0 ni (by rw [a2.2 7 (by decide) (by decide) (by decide) (by decide)]; exact k7) (bool (hk1.st a2.cl (fun y _ => by rw [a2.1 41 (by decide)])))
  · rw [if_neg z1, if_neg z2, if_neg z3, if_pos z] at hk1
    refine zcI_mono (cl_end hB hT hC hn p0 p1 S2 i0 (lt (by decide) z) n00 ni l0 l1 (by rw [a2.2 7 (by decide) (by decide) (by decide) (by decide)]; exact k7) (by rw [a2.1 34 (by decide)]; exact h34) (by rw [a2.1 35 (by decide)]; exact h35) (by rw [a2.1 38 (by decide)]; exact h38) (bool (hk1.st a2.cl (fun y _ => by rw [a2.1 41 (by decide)])))) (fun x M' _ h => ?_)
    obtain ⟨hx, hK⟩ := h
    refine ⟨fun w => ⟨Or.inl rfl, by rw [← w]; exact hK⟩, fun w => ⟨Or.inr rfl, ?_⟩⟩
    rw [show (1 : Int) = x from (hx.elim (fun y => absurd y w) (fun y => y.symm))]
    exact hK
  · rw [if_neg z1, if_neg z2, if_neg z3, if_neg z4] at hk1
    exact hk1 M1 0 clF.rf S1.1.2.2.1 (Or.inl rfl)
end CL
