/-! the class: SIGNS -/
theorem CH.paint {K : Int → Int} {E : Int → Int → Int} {rs : Int → Int → Bool} {M M' : ZM} {l s0 s : Int} (hW : WF K) (h : CH (pK K s0) E rs M) (h0 : SB K l s0) (hs : SB K l s) (r : ∀ b, (44 ≤ b ∧ b ≤ 55) ∨ b = 92 ∨ b = 93 ∨ b = 94 → M' b = M b) (e8 : M' 89 8 = M 89 8) (e90 : ∀ p, 0 ≤ p → p < K 182 → K (10 * p) = 0 → M' 90 p = pK K s (10 * p + 1)) : CH (pK K s) E rs M' := by
  obtain ⟨⟨hW0, c1, c2, c3⟩, ct, ⟨o1, o2, o3, o4⟩, ⟨u1, u2⟩, bas⟩ := h
  have q : ∀ i, i % 10 ≠ 1 ∨ i < 0 ∨ 160 ≤ i → pK K s i = pK K s0 i := fun i hi => by rw [pK_ne hi, pK_ne hi]
  have hpl := hW.1
  have z182 : pK K s 182 = K 182 := pK_ne (by omega)
  have z0 : pK K s0 182 = K 182 := pK_ne (by omega)
  have nf : ∀ p, 0 ≤ p → p < K 182 → K (10 * p) ≠ 0 → pK K s (10 * p + 1) = pK K s0 (10 * p + 1) := by
    intro p p0 p1 k
    rw [pK_at p0 (by omega), pK_at p0 (by omega), if_neg (fun z => k (hs.2 p p0 z).2.1), if_neg (fun z => k (h0.2 p p0 z).2.1)]
  refine ⟨⟨pK_wf hW hs, ?_, ?_, fun p p0 p1 => ?_⟩, fun p p0 p1 => ?_, ⟨?_, fun i i0 i1 => ?_, fun s' p a b c e f g => ?_, fun i j a b c => ?_⟩, ⟨?_, fun s' p k a b c e f g hr => ?_⟩, fun s' p a b c e hr => ?_⟩
  · rw [r 44 (by omega), q 182 (by omega)]; exact c1
  · rw [r 55 (by omega), q 178 (by omega), q 179 (by omega), q 180 (by omega), q 181 (by omega)]; exact c2
  · rw [z182] at p1
    obtain ⟨q1, q2, q3, q4, q5, q6⟩ := c3 p p0 (by omega)
    have hr := (hW.2.2.2.2.2.2.2 p p0 p1).rc
    rw [r 45 (by omega), r 47 (by omega), r 48 (by omega), r 49 (by omega), q (10 * p) (by omega), q (10 * p + 2) (by omega)]
    have k0 : pK K s0 (10 * p) = K (10 * p) := pK_ne (by omega)
    have k2 : pK K s0 (10 * p + 2) = K (10 * p + 2) := pK_ne (by omega)
    refine ⟨q1, fun k => e90 p p0 p1 (by rw [← k0]; exact k), fun k => ?_, q4, q5, fun k a b => ?_⟩
    · rw [nf p p0 p1 (by omega)]; exact q3 k
    · rw [q _ (by omega)]; exact q6 k a b
  · rw [z182] at p1
    have hr := (hW.2.2.2.2.2.2.2 p p0 p1).rc
    have k2 : pK K s0 (10 * p + 2) = K (10 * p + 2) := pK_ne (by omega)
    rw [r 94 (by omega), q (10 * p) (by omega), q (10 * p + 2) (by omega)]
    obtain ⟨t1, t2⟩ := ct p p0 (by omega)
    exact ⟨fun k j a b => by rw [q _ (by omega)]; exact t1 k j a b, t2⟩
  · rw [e8]; exact o1
  · rw [e8] at i1
    obtain ⟨s', p, a1, a2, a3, a4, a5, a6, a7⟩ := o2 i i0 i1
    rw [z0] at a5
    exact ⟨s', p, by rw [r 93 (by omega)]; exact a1, a2, by rw [q 179 (by omega)]; exact a3, a4, by rw [z182]; exact a5, by rw [q _ (by omega)]; exact a6, a7⟩
  · rw [q 179 (by omega)] at b
    rw [z182] at e
    rw [q (10 * p) (by omega)] at f
    rw [e8, r 93 (by omega)]
    exact o3 s' p a b c (by omega) f g
  · rw [e8] at c
    rw [r 93 (by omega)]
    exact o4 i j a b c
  · rw [q 178 (by omega)]; exact u1
  · rw [q 179 (by omega)] at b
    rw [z182] at e
    have hrc := (hW.2.2.2.2.2.2.2 p c e).rc
    have k2 : pK K s (10 * p + 2) = K (10 * p + 2) := pK_ne (by omega)
    have k3 : pK K s0 (10 * p + 2) = K (10 * p + 2) := pK_ne (by omega)
    rw [q (10 * p + 3 + k) (by omega)]
    exact u2 s' p k a b c (by omega) f (by omega) hr
  · rw [q 179 (by omega)] at b ⊢
    have := bas s' p a b c e hr
    rw [r 92 (by omega), z182, q 181 (by omega), q 180 (by omega)]
    rw [z0] at this
    refine ⟨this.1, fun x y => this.2.1 x ?_, fun x y => this.2.2 x ?_⟩
    · rw [← q (10 * p) (by omega)]; exact y
    · rw [← q (10 * p) (by omega)]; exact y
/-- the FORKS with LOOK l, as the class has them -/
def FL (K : Int → Int) (l : Int) (M : ZM) (n : Nat) (f : Nat → Nat) : Prop := (M 96 4 = n ∧ n ≤ 6) ∧ (∀ i : Nat, i < n → M 99 i = f i ∧ (f i : Int) < K 182 ∧ K (10 * (f i : Int)) = 0 ∧ K (10 * (f i : Int) + 1) = l) ∧ SI f n ∧ ∀ p : Int, 0 ≤ p → p < K 182 → K (10 * p) = 0 → K (10 * p + 1) = l → ∃ i, i < n ∧ (f i : Int) = p
theorem FL.fr {K : Int → Int} {l : Int} {M M' : ZM} {n : Nat} {f : Nat → Nat} (h : FL K l M n f) (e4 : M' 96 4 = M 96 4) (e9 : M' 99 = M 99) : FL K l M' n f := by
  unfold FL at *
  rw [e4, e9]
  exact h
/-- the set that SIGNS j tell of -/
abbrev pls (f : Nat → Nat) (n j : Nat) : Nat := ps (fun i => j.testBit i) f n
theorem FL.sb {K : Int → Int} {l : Int} {M : ZM} {n : Nat} {f : Nat → Nat} (hpl : K 182 ≤ 16) (h : FL K l M n f) (j : Nat) : SB K l (pls f n j : Nat) := by
  obtain ⟨h1, h2, h3, h4⟩ := h
  have lt := ps_lt (sel := fun i => j.testBit i) h3 16 (fun i hi => by have := (h2 i hi).2.1; omega)
  refine ⟨⟨by omega, Int.ofNat_lt.mpr lt⟩, fun p p0 hb => ?_⟩
  unfold bt at hb
  rw [Int.toNat_natCast] at hb
  obtain ⟨i, a, b, c⟩ := (ps_bit h3 _).mp hb
  have := (h2 i a).2
  have e : (f i : Int) = p := by omega
  rw [e] at this
  exact this
theorem FL.surj {K : Int → Int} {l : Int} {M : ZM} {n : Nat} {f : Nat → Nat} (h : FL K l M n f) {s : Int} (hs : SB K l s) : ∃ j, j < 2 ^ n ∧ ((pls f n j : Nat) : Int) = s := by
  obtain ⟨h1, h2, h3, h4⟩ := h
  obtain ⟨⟨s0, s1⟩, s2⟩ := hs
  obtain ⟨m, rfl⟩ : ∃ m : Nat, s = m := ⟨s.toNat, by omega⟩
  obtain ⟨j, a, b⟩ := ps_surj (s := m) h3 (fun p hp => by
    obtain ⟨x1, x2, x3⟩ := s2 p (by omega) (by unfold bt; rw [Int.toNat_natCast, Int.toNat_natCast]; exact hp)
    obtain ⟨i, y1, y2⟩ := h4 p (by omega) x1 x2 x3
    exact ⟨i, y1, by omega⟩)
  exact ⟨j, a, by rw [show pls f n j = m from b]⟩
theorem FL.cnt {K : Int → Int} {l : Int} {M : ZM} {n : Nat} {f : Nat → Nat} (hpl : K 182 ≤ 16) (h : FL K l M n f) {j : Nat} (hj : j < 2 ^ n) : bC ((pls f n j : Nat) : Int) = bC (j : Int) := by
  rw [ps_cnt h.2.2.1 (fun i hi => by have := (h.2.1 i hi).2.1; omega), bN_low hj (by have := h.1.2; omega)]
theorem c_placesOf {d : Nat} {M : ZM} {K : Int → Int} {l : Int} {n j : Nat} {f : Nat → Nat} {Q : Int → ZM → Prop} (hpl : K 182 ≤ 16) (h : FL K l M n f) (hj : j < 64) (hQ : Q (pls f n j : Nat) M) : zcI (d + 1) 90 [zA 96, zI (j : Int)] M Q := by
  obtain ⟨⟨h1, h1'⟩, h2, h3, h4⟩ := id h
  have lp : ∀ (m i : Nat), i + m = n → wX6_placesOf d 4 [(0, zA 96), (1, zI (j : Int)), (2, zI ((pls f i j : Nat) : Int)), (3, zI (i : Int))] M Q := by
    intro m
    induction m with
    | zero =>
      intro i hi
      obtain rfl : i = n := by omega
      apply vX6_placesOf_4
      rw [h1]
      exact ⟨fun _ => hQ, fun z => by omega⟩
    | succ m ih =>
      intro i hi
      have nx := ih (i + 1) (by omega)
      have e : pls f (i + 1) j = pls f i j + (if j.testBit i = true then 2 ^ f i else 0) := rfl
      have ej : bt (j : Int) i = j.testBit i := by unfold bt; rw [Int.toNat_natCast, Int.toNat_natCast]
      obtain ⟨a1, a2, a3, a4⟩ := h2 i (by omega)
      have lt : pls f i j < 2 ^ f i := ps_lt (h3.less (show i ≤ n by omega)) (f i) (fun k hk => h3 k i hk (by omega))
      have l16 : 2 ^ f i ≤ 2 ^ 15 := Nat.pow_le_pow_right (by decide) (by omega)
      apply vX6_placesOf_4
      rw [h1, bt_read (by omega) (by omega) (by omega) (by omega), ej, a1]
      refine ⟨fun z => by omega, fun _ => ⟨fun z => ⟨⟨by omega, by omega⟩, ?_⟩, fun z => ⟨by omega, ⟨by omega, by omega⟩, ?_⟩⟩⟩
      · rw [e, if_neg (fun y => z (if_pos y)), Nat.add_zero] at nx
        exact nx
      · have ht : j.testBit i = true := by
          cases hb : j.testBit i with
          | true => rfl
          | false => rw [hb] at z; simp at z
        rw [e, if_pos ht] at nx
        rw [zshl1 (by omega) (by omega), Int.toNat_natCast, zor_nat (by omega) (by omega)]
        have or := Nat.two_pow_add_eq_or_of_lt lt 1
        rw [Nat.mul_one] at or
        rw [Nat.or_comm, ← or, Nat.add_comm]
        exact nx
  apply vX6_placesOf
  exact lp n 0 (by omega)
theorem c_startSigns {d t : Nat} {M : ZM} {l : Int} {Q : ZM → Prop} (h : J t M) (hc : fN (M 115) l (M 115 182).toNat ≤ 6) (hQ : ∀ M' rs n f, (∀ b, (b < 87 ∨ 99 < b) → M' b = M b) → CH (M 115) (EW M) rs M' → FL (M 115) l M' n f → Q M') : zcV (d + 7) 88 [zA 96, zI l] M Q := by
  have hW := h.wf
  have hpl := h.pl
  have hs := h.size
  apply vX6_startSigns
  refine c_lay h (Or.inl rfl) (fun ML rs lay _ => zset ?_)
  have lp : ∀ (m i : Nat) (M1 : ZM) (c : Nat) (f : Nat → Nat), (i : Int) + m = M 115 182 → (∀ b, b ≠ 96 → b ≠ 99 → M1 b = ML b) → M1 96 4 = c → (c : Int) = fN (M 115) l i → (∀ k : Nat, k < c → M1 99 k = f k ∧ f k < i ∧ M 115 (10 * (f k : Int)) = 0 ∧ M 115 (10 * (f k : Int) + 1) = l) → SI f c → (∀ p : Int, 0 ≤ p → p < i → M 115 (10 * p) = 0 → M 115 (10 * p + 1) = l → ∃ k, k < c ∧ (f k : Int) = p) → wX6_startSigns (d + 6) 15 [(0, zA 96), (1, zI l), (2, zI (i : Int))] M1 Q := by
    intro m
    induction m with
    | zero =>
      intro i M1 c f hi r1 v4 vc hk si cp
      obtain rfl : i = (M 115 182).toNat := by omega
      apply vX6_startSigns_15
      rw [r1 44 (by decide) (by decide), lay.1 44 (by decide), hs, v4]
      refine ⟨fun _ => zset (hQ _ rs c f (fun b hb => by rw [zup_row (by omega), r1 b (by omega) (by omega), lay.1 b (by omega)]) (lay.ch.congr (fun b hb => by rw [zup_row (by omega), r1 b (by omega) (by omega)]) (by rw [zup_row (by decide), r1 89 (by decide) (by decide)])) ⟨⟨by rw [zup_eq]; omega, by omega⟩, fun k hk' => ?_, si, fun p p0 p1 p2 p3 => cp p p0 (by omega) p2 p3⟩), fun z => by omega⟩
      obtain ⟨a1, a2, a3, a4⟩ := hk k hk'
      exact ⟨by rw [zup_row (by decide)]; exact a1, by omega, a3, a4⟩
    | succ m ih =>
      intro i M1 c f hi r1 v4 vc hk si cp
      have rg := fN_rg (M 115) l i
      have e45 : M1 45 = M 45 := by rw [r1 45 (by decide) (by decide), lay.1 45 (by decide)]
      have e46 : M1 46 = M 46 := by rw [r1 46 (by decide) (by decide), lay.1 46 (by decide)]
      have no : ¬ (M 115 (10 * i) = 0 ∧ M 115 (10 * i + 1) = l) → r32 ((i : Int) + 1) ∧ wX6_startSigns (d + 6) 15 [(0, zA 96), (1, zI l), (2, zI ((i : Int) + 1))] M1 Q := by
        intro hn
        refine ⟨⟨by omega, by omega⟩, ih (i + 1) M1 c f (by omega) r1 v4 ?_ (fun k hk' => ?_) si (fun p p0 p1 p2 p3 => cp p p0 ?_ p2 p3)⟩
        · unfold fN; rw [if_neg hn]; omega
        · obtain ⟨a1, a2, a3, a4⟩ := hk k hk'
          exact ⟨a1, by omega, a3, a4⟩
        · have : p ≠ i := by rintro rfl; exact hn ⟨p2, p3⟩
          omega
      apply vX6_startSigns_15
      rw [r1 44 (by decide) (by decide), lay.1 44 (by decide), hs, e45, e46, h.kind (p := (i : Int)) (by omega) (by omega), v4]
      refine ⟨fun z => by omega, fun _ => ⟨by omega, fun z => no (fun y => z y.1), fun z => ?_⟩⟩
      rw [h.look (p := (i : Int)) (by omega) (by omega) z]
      refine ⟨by omega, fun y => no (fun w => y w.2), fun y => ⟨by omega, zset ?_⟩⟩
      rw [zup_row (by decide), v4]
      refine ⟨⟨by omega, by omega⟩, zset ⟨⟨by omega, by omega⟩, ih (i + 1) _ (c + 1) (fun k => if k = c then i else f k) (by omega) (fun b h1 h2 => by rw [zup_row h1, zup_row h2, r1 b h1 h2]) (by rw [zup_eq]; omega) ?_ (fun k hk' => ?_) (fun a b hab hb => ?_) (fun p p0 p1 p2 p3 => ?_)⟩⟩
      · unfold fN; rw [if_pos ⟨z, y⟩]; omega
      · rw [zup_row (by decide), zup_at]
        by_cases e : k = c
        · rw [if_pos (by omega), if_pos e]; exact ⟨rfl, by omega, z, y⟩
        · obtain ⟨a1, a2, a3, a4⟩ := hk k (by omega)
          rw [if_neg (by omega), if_neg e]
          exact ⟨a1, by omega, a3, a4⟩
      · dsimp only
        by_cases e : b = c
        · rw [if_pos e, if_neg (by omega)]
          exact (hk a (by omega)).2.1
        · rw [if_neg e, if_neg (by omega)]; exact si a b hab (by omega)
      · by_cases e : p = i
        · exact ⟨c, by omega, by rw [if_pos rfl, e]⟩
        · obtain ⟨k, k1, k2⟩ := cp p p0 (by omega) p2 p3
          exact ⟨k, by omega, by rw [if_neg (by omega)]; exact k2⟩
  exact lp (M 115 182).toNat 0 _ 0 (fun _ => 0) (by omega) (fun b h1 _ => zup_row h1) zup_eq rfl (fun k hk => by omega) (fun a b _ hb => by omega) (fun p p0 p1 => by omega)
theorem c_bestWith {d : Nat} {M : ZM} {K : Int → Int} {E : Int → Int → Int} {rs : Int → Int → Bool} {l s0 fl : Int} {n j : Nat} {f : Nat → Nat} {Q : Int → ZM → Prop} (hW : WF K) (hE : EB K E) (hC : CH (pK K s0) E rs M) (h0 : SB K l s0) (hF : FL K l M n f) (hj : j < 64) (hN : NOTH ≤ fl) (hQ : ∀ M', (∀ b, b ≠ 89 → b ≠ 90 → b ≠ 91 → b ≠ 92 → b ≠ 94 → b ≠ 96 → b ≠ 97 → b ≠ 98 → M' b = M b) → CH (pK K (pls f n j : Nat)) E rs M' → FL K l M' n f → Q (max fl (vS K E (pls f n j : Nat))) M') : zcL (d + 11) 89 [zA 96, zI (j : Int), zI l, zJ fl] M Q := by
  have hpl := hW.1
  have hs := hF.sb hpl.2 j
  obtain ⟨⟨h1, h1'⟩, h2, h3, h4⟩ := id hF
  have wr : ∀ (m i : Nat) (M1 : ZM), i + m = n → (∀ b, b ≠ 90 → M1 b = M b) → (∀ p : Int, (∀ k, k < i → (f k : Int) ≠ p) → M1 90 p = M 90 p) → (∀ k, k < i → M1 90 (f k) = if j.testBit k = true then 5 else l) → wX6_bestWithSigns (d + 10) 3 [(0, zA 96), (1, zI (j : Int)), (2, zI l), (3, zJ fl), (5, zI (i : Int))] M1 Q := by
    intro m
    induction m with
    | zero =>
      intro i M1 hi r1 o1 n1
      obtain rfl : i = n := by omega
      have C1 : CH (pK K (pls f i j : Nat)) E rs M1 := by
        refine hC.paint hW h0 hs (fun b hb => r1 b (by omega)) (by rw [r1 89 (by decide)]) (fun p p0 p1 pk => ?_)
        rw [pK_at p0 (by omega)]
        by_cases hl : K (10 * p + 1) = l
        · obtain ⟨k, k1, k2⟩ := h4 p p0 p1 pk hl
          have eb : bt ((pls f i j : Nat) : Int) p = j.testBit k := by
            unfold bt
            rw [Int.toNat_natCast]
            have b := ps_bit (sel := fun i => j.testBit i) h3 p.toNat
            cases hq : j.testBit k with
            | true => exact b.mpr ⟨k, k1, by omega, hq⟩
            | false =>
              cases hr : (pls f i j).testBit p.toNat with
              | false => rfl
              | true =>
                obtain ⟨k', a, b', c⟩ := b.mp hr
                have : k' = k := by
                  rcases Nat.lt_trichotomy k' k with x | x | x
                  · have := h3 k' k x k1; omega
                  · exact x
                  · have := h3 k k' x a; omega
                subst this
                rw [hq] at c; cases c
          rw [← k2, n1 k k1, k2, eb, hl]
        · have hn : ¬ bt ((pls f i j : Nat) : Int) p = true := fun z => hl (hs.2 p p0 z).2.2
          have hn0 : ¬ bt s0 p = true := fun z => hl (h0.2 p p0 z).2.2
          rw [if_neg hn, o1 p (fun k hk z => hl (by rw [← z]; exact (h2 k hk).2.2.2))]
          have := (hC.1.2.2.2 p p0 (by rw [pK_ne (by omega)]; exact p1)).2.1 (by rw [pK_ne (by omega)]; exact pk)
          rw [this, pK_at p0 (by omega), if_neg hn0]
      apply vX6_bestWithSigns_3
      rw [r1 96 (by decide), h1]
      refine ⟨fun _ => c_seekP (cn := 0) (show EB (pK K (pls f i j : Nat)) E from fun p s => hE p s) C1 (Or.inl rfl) hN (fun M' r' k' C' s' _ _ w8 _ => ?_), fun z => by omega⟩
      rw [w8]
      exact hQ M' (fun b b1 b2 b3 b4 b5 b6 b7 b8 => by rw [r' b b1 b3 b4 b5 b6 b7 b8, r1 b b2]) C' (hF.fr (by rw [s' 4 (by omega), r1 96 (by decide)]) (by rw [r' 99 (by decide) (by decide) (by decide) (by decide) (by decide) (by decide) (by decide), r1 99 (by decide)]))
    | succ m ih =>
      intro i M1 hi r1 o1 n1
      obtain ⟨a1, a2, a3, a4⟩ := h2 i (by omega)
      have ej : bt (j : Int) i = j.testBit i := by unfold bt; rw [Int.toNat_natCast, Int.toNat_natCast]
      have st : ∀ x, x = (if j.testBit i = true then 5 else l) → r32 ((i : Int) + 1) ∧ wX6_bestWithSigns (d + 10) 3 [(0, zA 96), (1, zI (j : Int)), (2, zI l), (3, zJ fl), (5, zI ((i : Int) + 1))] (zup M1 90 (f i : Int) x) Q := by
        intro x hx
        refine ⟨⟨by omega, by omega⟩, ih (i + 1) _ (by omega) (fun b hb => by rw [zup_row hb, r1 b hb]) (fun p hp => ?_) (fun k hk => ?_)⟩
        · rw [zup_at, if_neg (fun z => hp i (by omega) z.symm)]
          exact o1 p (fun k hk => hp k (by omega))
        · rw [zup_at]
          by_cases e : k = i
          · rw [e, if_pos rfl, hx]
          · have := h3 k i (by omega) (by omega)
            rw [if_neg (by omega)]; exact n1 k (by omega)
      apply vX6_bestWithSigns_3
      rw [r1 96 (by decide), h1, r1 99 (by decide), a1, bt_read (by omega) (by omega) (by omega) (by omega), ej]
      refine ⟨fun z => by omega, fun _ => ⟨by omega, fun z => ⟨by omega, zset (st l (by rw [if_neg (fun y => z (if_pos y))]))⟩, fun z => ⟨by omega, zset (st 5 ?_)⟩⟩⟩
      cases hb : j.testBit i with
      | true => rfl
      | false => rw [hb] at z; simp at z
  apply vX6_bestWithSigns
  exact wr n 0 M (by omega) (fun _ _ => rfl) (fun _ _ => rfl) (fun k hk => by omega)
