/-! the class lays its Chart -/
theorem bt_mono {x y k : Int} (x0 : 0 ≤ x) (x1 : x ≤ 2147483647) (y0 : 0 ≤ y) (y1 : y ≤ 2147483647) (h : bt x k = true) : bt (zor x y) k = true := by
  rw [bt_or x0 x1 y0 y1, h]
  rfl
theorem bt_mono2 {x y k : Int} (x0 : 0 ≤ x) (x1 : x ≤ 2147483647) (y0 : 0 ≤ y) (y1 : y ≤ 2147483647) (h : bt y k = true) : bt (zor x y) k = true := by
  rw [bt_or x0 x1 y0 y1, h]
  cases bt x k <;> rfl
/-- ROADS from a PLACE, as bits -/
theorem c_roadsFrom {d : Nat} {M : ZM} {K : Int → Int} {p : Int} {Q : Int → ZM → Prop} (p0 : 0 ≤ p) (p1 : p < 16) (hw : ∀ k, 0 ≤ k → k < K (10 * p + 2) → 0 ≤ K (10 * p + 3 + k) ∧ K (10 * p + 3 + k) ≤ 15) (hr : 0 ≤ K (10 * p + 2) ∧ K (10 * p + 2) ≤ 3) (e1 : M 48 p = K (10 * p + 2)) (e2 : ∀ k, 0 ≤ k → k < K (10 * p + 2) → M 49 (p * 3 + k) = K (10 * p + 3 + k)) (hQ : ∀ x, bs 16 x → (∀ k, 0 ≤ k → k < K (10 * p + 2) → bt x (K (10 * p + 3 + k)) = true) → (∀ q, 0 ≤ q → bt x q = true → ∃ k, 0 ≤ k ∧ k < K (10 * p + 2) ∧ q = K (10 * p + 3 + k)) → Q x M) : zcI (d + 1) 5 [zA 89, zI p] M Q := by
  have lp : ∀ (n k : Nat) (x : Int), (k : Int) + n = K (10 * p + 2) → bs 16 x → (∀ j, 0 ≤ j → j < (k : Int) → bt x (K (10 * p + 3 + j)) = true) → (∀ q, 0 ≤ q → bt x q = true → ∃ j, 0 ≤ j ∧ j < (k : Int) ∧ q = K (10 * p + 3 + j)) → wX1_roadsFrom d 4 [(0, zA 89), (1, zI p), (2, zI x), (3, zI k)] M Q := by
    intro n
    induction n with
    | zero =>
      intro k x hk hx hb hb2
      apply vX1_roadsFrom_4
      rw [e1]
      refine ⟨by omega, fun _ => hQ x hx (fun j j0 j1 => hb j j0 (by omega)) (fun q q0 hq => ?_), fun q => by omega⟩
      obtain ⟨j, a, b, c⟩ := hb2 q q0 hq
      exact ⟨j, a, by omega, c⟩
    | succ n ih =>
      intro k x hk hx hb hb2
      have hd := hw k (by omega) (by omega)
      have xr := hx.r (by decide)
      have sb := bs_shl (m := 16) (by decide) (k := K (10 * p + 3 + k)) hd.1 (by omega)
      have sr := sb.r (by decide)
      apply vX1_roadsFrom_4
      rw [e1, e2 k (by omega) (by omega)]
      refine ⟨by omega, fun q => by omega, fun _ => ⟨⟨by omega, by omega⟩, ⟨by omega, by omega⟩, by omega, ⟨by omega, by omega⟩, ih (k + 1) _ (by omega) (bs_or (by decide) hx sb) (fun j j0 j1 => ?_) (fun q q0 hq => ?_)⟩⟩
      · by_cases hj : j < k
        · exact bt_mono xr.1 xr.2 sr.1 sr.2 (hb j j0 hj)
        · refine bt_mono2 xr.1 xr.2 sr.1 sr.2 ?_
          rw [show j = k by omega, bt_shl hd.1 (by omega) hd.1]
          simp
      · rw [bt_or xr.1 xr.2 sr.1 sr.2, Bool.or_eq_true] at hq
        rcases hq with hq | hq
        · obtain ⟨j, a, b, c⟩ := hb2 q q0 hq
          exact ⟨j, a, by omega, c⟩
        · rw [bt_shl hd.1 (by omega) q0, decide_eq_true_eq] at hq
          exact ⟨k, by omega, by omega, hq⟩
  exact vX1_roadsFrom _ _ _ _ (lp (K (10 * p + 2)).toNat 0 0 (by omega) (bs_zero 16) (fun j a b => by omega) (fun q q0 hq => by
    unfold bt at hq
    simp at hq))
/-- fill a row of ints -/
theorem c_fillI {d a n : Nat} {M : ZM} {x : Int} {Q : ZM → Prop} (ha : zt a = (100, n)) (ho : Nat.ble 29 a = true) (hn : n ≤ 5000) (hQ : Q (zrow M a (fun j => if 0 ≤ j ∧ j < n then x else M a j))) : zcV (d + 1) 259 [zA a, zI x] M Q := by
  have a1 : zk a = 100 := by unfold zk; rw [ha]
  have a2 : zn a = n := by unfold zn; rw [ha]
  have lp : ∀ m k : Nat, k + m = n → wJ7_fill_53178 d 5 [(0, zA a), (1, zI x), (2, zI k), (3, zI (n : Int))] (zrow M a (fun j => if 0 ≤ j ∧ j < k then x else M a j)) Q := by
    intro m
    induction m with
    | zero =>
      intro k hk
      have : k = n := by omega
      subst this
      apply vJ7_fill_53178_5
      exact ⟨fun _ => hQ, fun q => by omega⟩
    | succ m ih =>
      intro k hk
      have nx := ih (k + 1) (by omega)
      apply vJ7_fill_53178_5
      rw [a1, a2, ho]
      refine ⟨fun q => by omega, fun _ => ⟨by omega, zset ⟨⟨by omega, by omega⟩, ?_⟩⟩⟩
      rw [zup_zrow]
      have e : kup (fun j => if 0 ≤ j ∧ j < (k : Int) then x else M a j) k x = fun j => if 0 ≤ j ∧ j < ((k + 1 : Nat) : Int) then x else M a j := by
        funext j
        unfold kup
        by_cases hj : j = k
        · rw [if_pos hj, if_pos (by omega)]
        · rw [if_neg hj]
          dsimp only
          by_cases h2 : 0 ≤ j ∧ j < (k : Int)
          · rw [if_pos h2, if_pos (by omega)]
          · rw [if_neg h2, if_neg (by omega)]
      rw [e]
      exact nx
  have z : zrow M a (fun j => if 0 ≤ j ∧ j < ((0 : Nat) : Int) then x else M a j) = M := by
    have : (fun j => if 0 ≤ j ∧ j < ((0 : Nat) : Int) then x else M a j) = M a := by
      funext j
      rw [if_neg (by omega)]
    rw [this, zrow_self]
  have l0 := lp n 0 (by omega)
  rw [z] at l0
  apply vJ7_fill_53178
  rw [a1, a2]
  exact l0
/-- reach -/
theorem c_reach {d : Nat} {M : ZM} {K : Int → Int} {ev : Int} {Q : ZM → Prop} (hL : CL K M) (hv : ev = 0 ∨ ev = 1) (hQ : ∀ M', (∀ b, b ≠ 95 → M' b = M b) → (∀ s, 0 ≤ s → s ≤ 10 → bs 16 (M' 95 s)) → RSC K (fun s p => bt (M' 95 s) p) → (ev = 1 → ∀ s p, 0 ≤ s → s ≤ 10 → 0 ≤ p → p ≤ 15 → bt (M' 95 s) p = true) → Q M') : zcV (d + 2) 4 [zA 89, zI ev] M Q := by
  obtain ⟨hW, c1, c2, c3⟩ := id hL
  obtain ⟨a1, a2, a3, a4, a5, a6, a7, a8⟩ := id hW
  have all16 : ∀ p : Nat, p < 16 → bt 65535 p = true := by decide +kernel
  have b16 : bs 16 65535 := by unfold bs; decide
  have sbs := bs_shl (m := 16) (by decide) (k := K 178) a2.1 (by omega)
  have ssr := sbs.r (by decide)
  have k19 : ∀ x : Int, bs 16 x → (ev = 1 → x = 65535) → ∀ M1, (∀ b, b ≠ 95 → M1 b = M b) → (∀ s, 0 ≤ s → s ≤ 10 → M1 95 s = x) → wX1_reach (d + 1) 19 [(0, zA 89), (1, zI ev)] M1 Q := by
    intro x hx hx1 M1 r1 v1
    have xr := hx.r (by decide)
    apply vX1_reach_19
    refine ⟨by omega, by omega, by omega, zset ?_⟩
    rw [v1 0 (by omega) (by omega), r1 55 (by decide), c2.1]
    let Inv := fun (s p : Int) (M2 : ZM) => (∀ b, b ≠ 95 → M2 b = M b) ∧ (∀ s, 0 ≤ s → s ≤ 10 → bs 16 (M2 95 s)) ∧ bt (M2 95 0) (K 178) = true ∧ (ev = 1 → ∀ s p, 0 ≤ s → s ≤ 10 → 0 ≤ p → p ≤ 15 → bt (M2 95 s) p = true) ∧ ∀ s' p' k, 0 ≤ s' → s' < K 179 → (s' < s ∨ s' = s ∧ p' < p) → 0 ≤ p' → p' < K 182 → 0 ≤ k → k < K (10 * p' + 2) → bt (M2 95 s') p' = true → bt (M2 95 (s' + 1)) (K (10 * p' + 3 + k)) = true
    have inner : ∀ (s : Int), 0 ≤ s → s < K 179 → ev = 0 → (∀ M2, Inv (s + 1) 0 M2 → wX1_reach (d + 1) 41 [(0, zA 89), (1, zI ev), (3, zI (s + 1))] M2 Q) → ∀ (n p : Nat) (M2 : ZM), p + n = (K 182).toNat → Inv s p M2 → wX1_reach (d + 1) 61 [(0, zA 89), (1, zI ev), (3, zI s), (4, zI p)] M2 Q := by
      intro s s0 s1 hev nxt n
      induction n with
      | zero =>
        intro p M2 hn hI
        obtain ⟨i1, i2, i3, i4, i5⟩ := hI
        apply vX1_reach_61
        rw [i1 44 (by decide), c1]
        exact ⟨fun _ => ⟨⟨by omega, by omega⟩, nxt M2 ⟨i1, i2, i3, i4, fun s' p' k a b c e f g h => i5 s' p' k a b (by omega) e f g h⟩⟩, fun q => by omega⟩
      | succ n ih =>
        intro p M2 hn hI
        obtain ⟨i1, i2, i3, i4, i5⟩ := hI
        obtain ⟨q1, q2, q3, q4, q5, q6⟩ := c3 p (by omega) (by omega)
        have hw := a8 p (by omega) (by omega)
        have br := (i2 s s0 (by omega)).r (by decide)
        have br1 := (i2 (s + 1) (by omega) (by omega)).r (by decide)
        apply vX1_reach_61
        rw [i1 44 (by decide), c1, bt_read br.1 br.2 (by omega) (by omega)]
        refine ⟨fun q => by omega, fun _ => ⟨by omega, fun z => ⟨⟨by omega, by omega⟩, ih (p + 1) M2 (by omega) ⟨i1, i2, i3, i4, fun s' p' k a b c e f g h hb => ?_⟩⟩, fun z => ⟨⟨by omega, by omega⟩, by omega, ?_⟩⟩⟩
        · by_cases hsp : s' = s ∧ p' = p
          · obtain ⟨rfl, rfl⟩ := hsp
            rw [hb] at z
            exact absurd (if_pos rfl) z
          · exact i5 s' p' k a b (by omega) e f g h hb
        · refine c_roadsFrom (K := K) (by omega) (by omega) hw.2.2.2.2.2 hw.rc (by rw [i1 48 (by decide)]; exact q5) (fun k k0 k1 => by rw [i1 49 (by decide)]; exact q6 k k0 k1) (fun y hy y1 y2 => ⟨by omega, zset ⟨⟨by omega, by omega⟩, ?_⟩⟩)
          have yr := hy.r (by decide)
          have o2 : ∀ s', zup M2 95 (s + 1) (zor (M2 95 (s + 1)) y) 95 s' = if s' = s + 1 then zor (M2 95 (s + 1)) y else M2 95 s' := fun s' => zup_at
          have mono : ∀ s' q, bt (M2 95 s') q = true → bt (zup M2 95 (s + 1) (zor (M2 95 (s + 1)) y) 95 s') q = true := by
            intro s' q hq
            rw [o2]
            by_cases hs : s' = s + 1
            · rw [if_pos hs]
              rw [hs] at hq
              exact bt_mono br1.1 br1.2 yr.1 yr.2 hq
            · rw [if_neg hs]; exact hq
          refine ih (p + 1) _ (by omega) ⟨fun b hb => by rw [zup_row hb, i1 b hb], fun s' a b => ?_, mono _ _ i3, fun z => by omega, fun s' p' k a b c e f g h hb => ?_⟩
          · rw [o2]
            split
            · exact bs_or (by decide) (i2 (s + 1) (by omega) (by omega)) hy
            · exact i2 s' a b
          · rw [o2, if_neg (by omega)] at hb
            by_cases hsp : s' = s ∧ p' = p
            · obtain ⟨rfl, rfl⟩ := hsp
              rw [o2, if_pos rfl]
              exact bt_mono2 br1.1 br1.2 yr.1 yr.2 (y1 k g h)
            · exact mono _ _ (i5 s' p' k a b (by omega) e f g h hb)
    have fin : ∀ s M2, Inv s 0 M2 → (K 179 ≤ s ∨ ev = 1) → Q M2 := by
      intro s M2 hI hs
      obtain ⟨i1, i2, i3, i4, i5⟩ := hI
      refine hQ M2 i1 i2 ⟨i3, fun s' p' k a b c e f g h => ?_⟩ i4
      rcases hs with hs | hs
      · exact i5 s' p' k a b (by omega) c e f g h
      · have hw := (a8 p' c e).2.2.2.2.2 k f g
        exact i4 hs (s' + 1) _ (by omega) (by omega) hw.1 hw.2
    have outer : ∀ (n s : Nat) (M2 : ZM), (s : Int) + n = K 179 → Inv s 0 M2 → wX1_reach (d + 1) 41 [(0, zA 89), (1, zI ev), (3, zI s)] M2 Q := by
      intro n
      induction n with
      | zero =>
        intro s M2 hn hI
        apply vX1_reach_41
        rw [hI.1 55 (by decide), c2.2.1]
        exact ⟨by omega, fun _ => fin s M2 hI (by omega), fun q => by omega⟩
      | succ n ih =>
        intro s M2 hn hI
        apply vX1_reach_41
        rw [hI.1 55 (by decide), c2.2.1]
        exact ⟨by omega, fun q => by omega, fun _ => ⟨fun q => fin s M2 hI (by omega), fun q => inner s (by omega) (by omega) q (fun M3 h3 => ih (s + 1) M3 (by omega) h3) _ 0 M2 (Nat.zero_add _) hI⟩⟩
    have o2 : ∀ s', zup M1 95 0 (zor x (zshl 1 (K 178))) 95 s' = if s' = 0 then zor x (zshl 1 (K 178)) else M1 95 s' := fun s' => zup_at
    refine outer (K 179).toNat 0 _ (by omega) ⟨fun b hb => by rw [zup_row hb, r1 b hb], fun s a b => ?_, ?_, fun he s p a b c e => ?_, fun s' p' k a b c => by omega⟩
    · rw [o2]
      split
      · exact bs_or (by decide) hx sbs
      · rw [v1 s a b]; exact hx
    · rw [o2, if_pos rfl]
      refine bt_mono2 xr.1 xr.2 ssr.1 ssr.2 ?_
      rw [bt_shl a2.1 (by omega) a2.1]
      simp
    · have h16 : bt 65535 p = true := by
        have := all16 p.toNat (by omega)
        rw [Int.toNat_of_nonneg c] at this
        exact this
      rw [o2]
      split
      · exact bt_mono xr.1 xr.2 ssr.1 ssr.2 (by rw [hx1 he]; exact h16)
      · rw [v1 s a b, hx1 he]; exact h16
  apply vX1_reach
  refine ⟨fun q => c_fillI (n := 11) rfl rfl (by decide) (k19 0 (bs_zero 16) (fun z => by omega) _ (fun b hb => zrow_ne hb) (fun s a b => ?_)), fun q => c_fillI (n := 11) rfl rfl (by decide) (k19 65535 b16 (fun _ => rfl) _ (fun b hb => zrow_ne hb) (fun s a b => ?_))⟩
  · rw [zrow_at, if_pos (by omega)]
  · rw [zrow_at, if_pos (by omega)]
