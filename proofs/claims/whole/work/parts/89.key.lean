/-! the class's Pebble: keyAhead, tryKey, seek -/
theorem c_keyAhead {d : Nat} {M : ZM} {K : Int → Int} {E : Int → Int → Int} {rs : Int → Int → Bool} {Q : Int → ZM → Prop} (hC : CH K E rs M) (hR : RU K (M 102)) (hN : ∀ M' R, (∀ b, b ≠ 104 → b ≠ 105 → M' b = M b) → PRS K (M 102) R → Q (-1) M') (hF : ∀ M' l b, (∀ b, b ≠ 104 → b ≠ 105 → M' b = M b) → 0 ≤ l → l < 6 → 0 ≤ b → b ≤ 1 → 0 < mR K l → M 102 (2 * l + b) = -1 → Q (2 * l + b) M') : zcI (d + 2) 40 [zA 100] M Q := by
  obtain ⟨hW, c1, c2, c3⟩ := id hC.1
  obtain ⟨a1, a2, a3, a4, a5, a6, a7, a8⟩ := id hW
  have sbs := bs_shl (m := 16) (by decide) (k := K 178) a2.1 (by omega)
  -- so far: sets by STEP and POCKET
  let Inv := fun (H : Int → Int → Int) (s : Int) (M1 : ZM) => (∀ b, b ≠ 104 → b ≠ 105 → M1 b = M b) ∧ (∀ b, 0 ≤ b → b ≤ 1 → M1 104 b = H s b ∧ bs 16 (H s b)) ∧ bt (H 0 0) (K 178) = true ∧ ∀ s' p b, 0 ≤ s' → s' < s → 0 ≤ p → p < K 182 → 0 ≤ b → b ≤ 1 → bt (H s' b) p = true → (K (10 * p) ≠ 0 → ∀ k, 0 ≤ k → k < K (10 * p + 2) → bt (H (s' + 1) b) (K (10 * p + 3 + k)) = true) ∧ (K (10 * p) = 0 → M 102 (2 * K (10 * p + 1) + b) ≠ -1 ∧ bt (H (s' + 1) (M 102 (2 * K (10 * p + 1) + b) % 2)) (rdc K p (M 102 (2 * K (10 * p + 1) + b) / 2)) = true)
  have outer : ∀ (m s : Nat) (H : Int → Int → Int) (M1 : ZM), (s : Int) + m = K 179 → Inv H s M1 → wX4_keyAhead (d + 1) 29 [(0, zA 100), (1, zI (s : Int))] M1 Q := by
    intro m
    induction m with
    | zero =>
      intro s H M1 hs hI
      obtain ⟨i1, i2, i3, i4⟩ := hI
      apply vX4_keyAhead_29
      rw [i1 55 (by decide) (by decide), c2.2.1]
      refine ⟨by omega, fun _ => hN M1 (fun s p b => bt (H s b) p = true) i1 ⟨i3, fun s' p b x1 x2 x3 x4 x5 x6 x7 => i4 s' p b x1 (by omega) x3 x4 x5 x6 x7⟩, fun z => by omega⟩
    | succ m ih =>
      intro s H M1 hs hI
      obtain ⟨i1, i2, i3, i4⟩ := hI
      apply vX4_keyAhead_29
      rw [i1 55 (by decide) (by decide), c2.2.1]
      refine ⟨by omega, fun z => by omega, fun _ => ⟨by omega, zset ⟨by omega, zset ?_⟩⟩⟩
      have inner : ∀ (k i : Nat) (M2 : ZM), (i : Int) + k = K 182 * 2 → (∀ b, b ≠ 105 → M2 b = M1 b) → (∀ b, 0 ≤ b → b ≤ 1 → bs 16 (M2 105 b)) → (∀ p b, 0 ≤ p → p < K 182 → 0 ≤ b → b ≤ 1 → 2 * p + b < i → bt (H s b) p = true → (K (10 * p) ≠ 0 → ∀ k, 0 ≤ k → k < K (10 * p + 2) → bt (M2 105 b) (K (10 * p + 3 + k)) = true) ∧ (K (10 * p) = 0 → M 102 (2 * K (10 * p + 1) + b) ≠ -1 ∧ bt (M2 105 (M 102 (2 * K (10 * p + 1) + b) % 2)) (rdc K p (M 102 (2 * K (10 * p + 1) + b) / 2)) = true)) → wX4_keyAhead (d + 1) 61 [(0, zA 100), (1, zI (s : Int)), (2, zI (i : Int))] M2 Q := by
        intro k
        induction k with
        | zero =>
          intro i M2 hi r2 b2 w2
          have e44 : M2 44 0 = K 182 := by rw [r2 44 (by decide), i1 44 (by decide) (by decide)]; exact c1
          apply vX4_keyAhead_61
          rw [e44]
          refine ⟨⟨by omega, by omega⟩, fun _ => ⟨by omega, by omega, zset ⟨by omega, by omega, zset ⟨⟨by omega, by omega⟩, ?_⟩⟩⟩, fun z => by omega⟩
          refine ih (s + 1) (fun s' b => if s' = (s : Int) + 1 then M2 105 b else H s' b) _ (by omega) ⟨fun b h1 h2 => ?_, fun b b0 b1 => ⟨?_, ?_⟩, ?_, fun s' p b x1 x2 x3 x4 x5 x6 x7 => ?_⟩
          · rw [zup_row h1, zup_row h1, r2 b h2, i1 b h1 h2]
          · dsimp only
            rw [if_pos (by omega)]
            rcases (by omega : b = 0 ∨ b = 1) with rfl | rfl
            · rw [zup_ne (by omega), zup_eq]
            · rw [zup_eq, zup_row (by decide)]
          · dsimp only
            rw [if_pos (by omega)]; exact b2 b b0 b1
          · dsimp only
            rw [if_neg (by omega)]; exact i3
          · dsimp only at x7 ⊢
            by_cases es : s' = s
            · subst es
              rw [if_neg (by omega)] at x7
              have := w2 p b x3 x4 x5 x6 (by omega) x7
              rw [if_pos rfl, if_pos rfl]
              exact this
            · rw [if_neg (by omega)] at x7
              rw [if_neg (by omega), if_neg (by omega)]
              exact i4 s' p b x1 (by omega) x3 x4 x5 x6 x7
        | succ k ihk =>
          intro i M2 hi r2 b2 w2
          have e44 : M2 44 0 = K 182 := by rw [r2 44 (by decide), i1 44 (by decide) (by decide)]; exact c1
          obtain ⟨p, b, hp, hb, ei⟩ : ∃ p b : Int, 0 ≤ p ∧ (0 ≤ b ∧ b ≤ 1) ∧ (i : Int) = 2 * p + b := ⟨(i : Int) / 2, (i : Int) % 2, by omega, by omega, by omega⟩
          have p1 : p < K 182 := by omega
          have td : Int.tdiv (i : Int) 2 = p := by rw [Int.tdiv_eq_ediv_of_nonneg (by omega)]; omega
          have tm : Int.tmod (i : Int) 2 = b := by rw [Int.tmod_eq_emod_of_nonneg (by omega)]; omega
          obtain ⟨q1, q2, q3, q4, q5, q6⟩ := c3 p hp p1
          have hw := a8 p hp p1
          have e104 : M2 104 b = H s b := by rw [r2 104 (by decide)]; exact (i2 b hb.1 hb.2).1
          have hbs := (i2 b hb.1 hb.2).2
          have hbr := hbs.r (by decide)
          have q2' : ∀ x, x ≠ 104 → x ≠ 105 → M2 x = M x := fun x h1 h2 => by rw [r2 x h2, i1 x h1 h2]
          have L2 : CL K M2 := hC.1.congr (fun x hx => q2' x (by omega) (by omega))
          have br := fun b b0 b1 => (b2 b b0 b1).r (by decide)
          -- a set of then grows
          have grow : ∀ (c x : Int), 0 ≤ c → c ≤ 1 → bs 16 x → (bt (H s b) p = true → (K (10 * p) ≠ 0 → c = b ∧ ∀ k, 0 ≤ k → k < K (10 * p + 2) → bt x (K (10 * p + 3 + k)) = true) ∧ (K (10 * p) = 0 → M 102 (2 * K (10 * p + 1) + b) ≠ -1 ∧ c = M 102 (2 * K (10 * p + 1) + b) % 2 ∧ bt x (rdc K p (M 102 (2 * K (10 * p + 1) + b) / 2)) = true)) → r32 ((i : Int) + 1) ∧ wX4_keyAhead (d + 1) 61 [(0, zA 100), (1, zI (s : Int)), (2, zI ((i : Int) + 1))] (zup M2 105 c (zor (M2 105 c) x)) Q := by
            intro c x c0 c1' hx hw2
            have xr := hx.r (by decide)
            have at5 : ∀ b', zup M2 105 c (zor (M2 105 c) x) 105 b' = if b' = c then zor (M2 105 c) x else M2 105 b' := fun b' => zup_at
            have mono : ∀ b' q, 0 ≤ b' → b' ≤ 1 → bt (M2 105 b') q = true → bt (zup M2 105 c (zor (M2 105 c) x) 105 b') q = true := by
              intro b' q b0' b1' hq
              rw [at5]
              by_cases e : b' = c
              · rw [if_pos e]
                rw [e] at hq
                exact bt_mono (br c c0 c1').1 (br c c0 c1').2 xr.1 xr.2 hq
              · rw [if_neg e]; exact hq
            have new : ∀ q, bt x q = true → bt (zup M2 105 c (zor (M2 105 c) x) 105 c) q = true := by
              intro q hq
              rw [at5, if_pos rfl]
              exact bt_mono2 (br c c0 c1').1 (br c c0 c1').2 xr.1 xr.2 hq
            refine ⟨⟨by omega, by omega⟩, ihk (i + 1) _ (by omega) (fun y hy => by rw [zup_row hy, r2 y hy]) (fun b' b0' b1' => ?_) (fun p' b' x1 x2 x3 x4 x5 x6 => ?_)⟩
            · rw [at5]
              split
              · exact bs_or (by decide) (b2 c c0 c1') hx
              · exact b2 b' b0' b1'
            · by_cases e : p' = p ∧ b' = b
              · obtain ⟨rfl, rfl⟩ := e
                obtain ⟨g1, g2⟩ := hw2 x6
                refine ⟨fun nf k k0 k1 => ?_, fun fk => ?_⟩
                · obtain ⟨rfl, g⟩ := g1 nf
                  exact new _ (g k k0 k1)
                · obtain ⟨y1, y2, y3⟩ := g2 fk
                  refine ⟨y1, ?_⟩
                  rw [← y2]
                  exact new _ y3
              · obtain ⟨g1, g2⟩ := w2 p' b' x1 x2 x3 x4 (by omega) x6
                refine ⟨fun nf k k0 k1 => mono _ _ x3 x4 (g1 nf k k0 k1), fun fk => ?_⟩
                obtain ⟨y1, y2⟩ := g2 fk
                exact ⟨y1, mono _ _ (by omega) (by omega) y2⟩
          apply vX4_keyAhead_61
          rw [e44, td, tm, e104, bt_read hbr.1 hbr.2 (by omega) (by omega), q2' 45 (by decide) (by decide), q1, q2' 90 (by decide) (by decide), q2' 102 (by decide) (by decide)]
          refine ⟨⟨by omega, by omega⟩, fun z => by omega, fun _ => ⟨by omega, ⟨by omega, by omega⟩, by omega, by omega, fun z => ⟨by omega, fun fk => ?_, fun nf => ⟨by omega, ?_⟩⟩, fun z => ?_⟩⟩
          · obtain ⟨hl, hm⟩ := mR_fork hW hp p1 fk
            have m3 : mR K (K (10 * p + 1)) ≤ 3 := (mB_rg hW _ (K 182).toNat (by omega)).2
            have rr := hR (K (10 * p + 1)) b hl.1 hl.2 hb.1 hb.2 hm
            rw [q2 fk, show K (10 * p + 1) * 2 + b = 2 * K (10 * p + 1) + b by omega]
            refine ⟨by omega, ⟨by omega, by omega⟩, ⟨by omega, by omega⟩, by omega, fun nf1 => ?_, fun f1 => hF M2 _ b q2' hl.1 hl.2 hb.1 hb.2 hm f1⟩
            have tm2 : Int.tmod (M 102 (2 * K (10 * p + 1) + b)) 2 = M 102 (2 * K (10 * p + 1) + b) % 2 := Int.tmod_eq_emod_of_nonneg (by omega)
            rw [tm2]
            refine ⟨by omega, by omega, by omega, by omega, c_roadChosen L2 hp p1 fk (by omega) (by omega) ⟨by omega, zset ?_⟩⟩
            have rb := rdc_nn hW hp p1 (by omega) (k := M 102 (2 * K (10 * p + 1) + b) / 2) (by omega)
            refine grow _ _ (by omega) (by omega) (bs_shl (by decide) rb.1 (by omega)) (fun _ => ⟨fun nf => absurd fk nf, fun _ => ⟨nf1, rfl, ?_⟩⟩)
            rw [bt_shl rb.1 (by omega) rb.1]
            simp
          · refine c_roadsFrom (K := K) hp (by omega) hw.2.2.2.2.2 hw.rc (by rw [q2' 48 (by decide) (by decide)]; exact q5) (fun k k0 k1 => by rw [q2' 49 (by decide) (by decide)]; exact q6 k k0 k1) (fun x hx x1 _ => ⟨by omega, zset ?_⟩)
            exact grow b x hb.1 hb.2 hx (fun _ => ⟨fun _ => ⟨rfl, x1⟩, fun fk => absurd fk nf⟩)
          · have hf : ¬ bt (H s b) p = true := by
              intro y
              rw [if_pos y] at z
              omega
            refine ⟨⟨by omega, by omega⟩, ihk (i + 1) M2 (by omega) r2 b2 (fun p' b' x1 x2 x3 x4 x5 x6 => w2 p' b' x1 x2 x3 x4 ?_ x6)⟩
            by_cases e : p' = p ∧ b' = b
            · obtain ⟨rfl, rfl⟩ := e
              exact absurd x6 hf
            · omega
      refine inner (K 182 * 2).toNat 0 _ (by omega) (fun b hb => by rw [zup_row hb, zup_row hb]) (fun b b0 b1 => ?_) (fun p b x1 x2 x3 x4 x5 => by omega)
      rcases (by omega : b = 0 ∨ b = 1) with rfl | rfl
      · rw [zup_ne (by omega), zup_eq]; exact bs_zero 16
      · rw [zup_eq]; exact bs_zero 16
  apply vX4_keyAhead
  rw [c2.1]
  refine ⟨by omega, by omega, zset ⟨by omega, zset ?_⟩⟩
  refine outer (K 179).toNat 0 (fun _ b => if b = 0 then zshl 1 (K 178) else 0) _ (by omega) ⟨fun b h1 _ => by rw [zup_row h1, zup_row h1], fun b b0 b1 => ?_, ?_, fun s' p b x1 x2 => by omega⟩
  · rcases (by omega : b = 0 ∨ b = 1) with rfl | rfl
    · rw [zup_ne (by omega), zup_eq]
      exact ⟨rfl, sbs⟩
    · rw [zup_eq]
      exact ⟨rfl, bs_zero 16⟩
  · dsimp only
    rw [if_pos rfl, bt_shl a2.1 (by omega) a2.1]
    simp
/-- how many are free -/
def cfr (ru : Int → Int) : Nat → Nat
  | 0 => 0
  | n + 1 => cfr ru n + (if ru n = -1 then 1 else 0)
theorem cfr_le (ru : Int → Int) (n : Nat) : cfr ru n ≤ n := by
  induction n with
  | zero => exact Nat.le_refl _
  | succ n ih => unfold cfr; split <;> omega
theorem cfr_up {ru : Int → Int} {k x : Int} (hk : ru k = -1) (hx : x ≠ -1) (k0 : 0 ≤ k) : ∀ n : Nat, cfr (kup ru k x) n + (if k < n then 1 else 0) = cfr ru n := by
  intro n
  induction n with
  | zero => rw [if_neg (by omega)]; rfl
  | succ n ih =>
    show cfr (kup ru k x) n + (if kup ru k x n = -1 then 1 else 0) + _ = cfr ru n + (if ru n = -1 then 1 else 0)
    by_cases e : (n : Int) = k
    · have c1 : (if kup ru k x n = -1 then 1 else 0) = 0 := by
        unfold kup
        rw [if_pos e, if_neg hx]
      have c2 : (if k < ((n + 1 : Nat) : Int) then 1 else 0) = 1 := if_pos (by omega)
      have c3 : (if ru n = -1 then 1 else 0) = 1 := by rw [e]; exact if_pos hk
      have c4 : (if k < (n : Int) then 1 else 0) = 0 := if_neg (by omega)
      rw [c4] at ih
      rw [c1, c2, c3]
      omega
    · have c1 : (if kup ru k x n = -1 then 1 else 0) = (if ru n = -1 then 1 else 0) := by
        unfold kup
        rw [if_neg e]
      have c2 : (if k < ((n + 1 : Nat) : Int) then 1 else 0) = (if k < (n : Int) then 1 else 0) := by
        by_cases h : k < (n : Int)
        · rw [if_pos h, if_pos (by omega)]
        · rw [if_neg h, if_neg (by omega)]
      rw [c1, c2, ← ih]
      omega
theorem cfr_no {ru : Int → Int} {n : Nat} (h : cfr ru n = 0) {k : Int} (k0 : 0 ≤ k) (k1 : k < n) : ru k ≠ -1 := by
  induction n with
  | zero => omega
  | succ n ih =>
    unfold cfr at h
    by_cases e : k = n
    · intro z
      rw [← e, if_pos z] at h
      omega
    · exact ih (by omega) (by omega)
/-- what a search leaves -/
def PST (K : Int → Int) (E : Int → Int → Int) (ru : Int → Int) (a b : Int) : Prop := a ≤ b ∧ (∀ r, VR K r → CP ru r → pW K E r * 10 ^ (10 - (K 179).toNat) ≤ b) ∧ (b = a ∨ ∃ r, VR K r ∧ CP ru r ∧ b = pW K E r * 10 ^ (10 - (K 179).toNat))
def PFR (K : Int → Int) (E : Int → Int → Int) (rs : Int → Int → Bool) (M M' : ZM) : Prop := (∀ x, x ≠ 100 → x ≠ 101 → x ≠ 102 → x ≠ 104 → x ≠ 105 → M' x = M x) ∧ (∀ k, k ≠ 6 → M' 100 k = M 100 k) ∧ M' 102 = M 102 ∧ PBAS K E rs M'
theorem pow10_mono {a b : Int} (h : a ≤ b) (n : Nat) : a * 10 ^ n ≤ b * 10 ^ n := Int.mul_le_mul_of_nonneg_right h (by have := pow10_pos n; omega)
theorem c_tryKey {K : Int → Int} {E : Int → Int → Int} {rs : Int → Int → Bool} (hE : EB K E) : ∀ (n : Nat) {d : Nat} {M : ZM} {j2 : Int} {Q : ZM → Prop}, n ≤ 12 → CH K E rs M → (∀ l, 0 ≤ l → l < 6 → M 103 l = mR K l) → RU K (M 102) → PBAS K E rs M → cfr (M 102) 12 ≤ n → j2 = pW K E (M 102) * 10 ^ (10 - (K 179).toNat) → (∀ M', PFR K E rs M M' → PST K E (M 102) (M 100 6) (M' 100 6) → Q M') → zcV (d + n + 4) 39 [zA 100, zI ((12 - n : Nat) : Int), zJ j2] M Q := by
  intro n
  induction n with
  | zero =>
    intro d M j2 Q hn hC h103 hR hB hf hj hQ
    have hW := hC.1.1
    have nf : cfr (M 102) 12 = 0 := by omega
    apply vX4_tryKey
    refine ⟨fun z => c_keyAhead hC hR (fun M1 R r1 pr => ⟨fun _ => zset ?_, fun y => absurd rfl y⟩) (fun M1 l b r1 l0 l1 b0 b1 lm hm => absurd hm (cfr_no nf (by omega) (by omega))), fun z => ?_⟩
    · have hbest : M 100 6 < j2 := by
        by_cases q : M 100 6 < j2
        · exact q
        · rw [if_neg q] at z
          split at z <;> omega
      refine hQ _ ⟨fun x x1 x2 x3 x4 x5 => by rw [zup_row x1, r1 x x4 x5], fun k hk => by rw [zup_ne (fun z => hk z.2), r1 100 (by decide) (by decide)], by rw [zup_row (by decide), r1 102 (by decide) (by decide)], fun s p b x1 x2 x3 x4 x5 x6 x7 => by rw [zup_row (by decide), r1 101 (by decide) (by decide)]; exact hB s p b x1 x2 x3 x4 x5 x6 x7⟩ ?_
      rw [zup_eq]
      have hday := hW.2.2.1
      have hst := hW.2.1
      have at0 : ∀ r, CP (M 102) r → pW K E r = pW K E (M 102) := fun r hr => PV_at hW hR hr pr _ _ _ (by omega) hst.1 (by omega) (by omega) (by rw [show K 179 - ((K 179).toNat : Int) = 0 by omega]; exact pr.1)
      refine ⟨by omega, fun r hv hc => by rw [at0 r hc, hj]; exact Int.le_refl _, Or.inr ⟨fun k => if M 102 k = -1 then 0 else M 102 k, fun l b l0 l1 b0 b1 lm => ?_, fun k k0 k1 hk => if_neg hk, ?_⟩⟩
      · have := hR l b l0 l1 b0 b1 lm
        dsimp only
        split <;> omega
      · rw [at0 _ (fun k k0 k1 hk => if_neg hk), hj]
    · have hbest : j2 ≤ M 100 6 := by
        by_cases q : M 100 6 < j2
        · rw [if_pos q] at z; omega
        · omega
      refine hQ M ⟨fun _ _ _ _ _ _ => rfl, fun _ _ => rfl, rfl, hB⟩ ⟨Int.le_refl _, fun r hv hc => ?_, Or.inl rfl⟩
      have := pow10_mono (PV_up (E := E) hW hv.ru hv hc (K 179).toNat (K 178) 0 hW.2.1.1 (by omega) (by omega)) (10 - (K 179).toNat)
      have : pW K E r * 10 ^ (10 - (K 179).toNat) ≤ pW K E (M 102) * 10 ^ (10 - (K 179).toNat) := this
      omega
  | succ n ih =>
    intro d M j2 Q hn hC h103 hR hB hf hj hQ
    have hW := hC.1.1
    have hpl := hW.1
    have hday := hW.2.2.1
    have hst := hW.2.1
    have e12 : ((12 - n : Nat) : Int) = ((12 - (n + 1) : Nat) : Int) + 1 := by omega
    apply vX4_tryKey
    refine ⟨fun z => c_keyAhead hC hR (fun M1 R r1 pr => ⟨fun _ => zset ?_, fun y => absurd rfl y⟩) (fun M1 l b r1 l0 l1 b0 b1 lm hm => ⟨fun y => by omega, fun _ => ⟨fun _ => ?_, fun y => by omega⟩⟩), fun z => ?_⟩
    · have hbest : M 100 6 < j2 := by
        by_cases q : M 100 6 < j2
        · exact q
        · rw [if_neg q] at z
          split at z <;> omega
      refine hQ _ ⟨fun x x1 x2 x3 x4 x5 => by rw [zup_row x1, r1 x x4 x5], fun k hk => by rw [zup_ne (fun z => hk z.2), r1 100 (by decide) (by decide)], by rw [zup_row (by decide), r1 102 (by decide) (by decide)], fun s p b x1 x2 x3 x4 x5 x6 x7 => by rw [zup_row (by decide), r1 101 (by decide) (by decide)]; exact hB s p b x1 x2 x3 x4 x5 x6 x7⟩ ?_
      rw [zup_eq]
      have at0 : ∀ r, CP (M 102) r → pW K E r = pW K E (M 102) := fun r hr => PV_at hW hR hr pr _ _ _ (by omega) hst.1 (by omega) (by omega) (by rw [show K 179 - ((K 179).toNat : Int) = 0 by omega]; exact pr.1)
      refine ⟨by omega, fun r hv hc => by rw [at0 r hc, hj]; exact Int.le_refl _, Or.inr ⟨fun k => if M 102 k = -1 then 0 else M 102 k, fun l b l0 l1 b0 b1 lm => ?_, fun k k0 k1 hk => if_neg hk, ?_⟩⟩
      · have := hR l b l0 l1 b0 b1 lm
        dsimp only
        split <;> omega
      · rw [at0 _ (fun k k0 k1 hk => if_neg hk), hj]
    · -- the choices of a KEY
      have m3 : mR K l ≤ 3 := (mB_rg hW _ (K 182).toNat (by omega)).2
      obtain ⟨k, hk⟩ : ∃ k, k = 2 * l + b := ⟨_, rfl⟩
      have td : Int.tdiv (2 * l + b) 2 = l := by rw [Int.tdiv_eq_ediv_of_nonneg (by omega)]; omega
      rw [td, r1 103 (by decide) (by decide), h103 l l0 l1, ← hk]
      rw [← hk] at hm
      refine ⟨by omega, ⟨by omega, by omega⟩, by omega, ⟨by omega, by omega⟩, ?_⟩
      have lp : ∀ (m i : Nat) (M2 : ZM), (i : Int) + m = mR K l * 2 → (∀ x, x ≠ 100 → x ≠ 101 → x ≠ 102 → x ≠ 104 → x ≠ 105 → M2 x = M x) → (∀ c, c ≠ 6 → M2 100 c = M 100 c) → (∀ c, c ≠ k → M2 102 c = M 102 c) → PBAS K E rs M2 → M 100 6 ≤ M2 100 6 → (∀ r, VR K r → CP (M 102) r → r k < i → pW K E r * 10 ^ (10 - (K 179).toNat) ≤ M2 100 6) → (M2 100 6 = M 100 6 ∨ ∃ r, VR K r ∧ CP (M 102) r ∧ M2 100 6 = pW K E r * 10 ^ (10 - (K 179).toNat)) → wX4_tryKey (d + (n + 1) + 3) 50 [(0, zA 100), (1, zI ((12 - (n + 1) : Nat) : Int)), (4, zI k), (5, zI (mR K l * 2)), (6, zI (i : Int))] M2 Q := by
        intro m
        induction m with
        | zero =>
          intro i M2 hi r2 k2 o2 B2 g1 g2 g3
          apply vX4_tryKey_50
          refine ⟨fun _ => ⟨by omega, zset (hQ _ ⟨fun x x1 x2 x3 x4 x5 => by rw [zup_row x3, r2 x x1 x2 x3 x4 x5], fun c hc => by rw [zup_row (by decide)]; exact k2 c hc, ?_, fun s p b x1 x2 x3 x4 x5 x6 x7 => by rw [zup_row (by decide)]; exact B2 s p b x1 x2 x3 x4 x5 x6 x7⟩ ?_)⟩, fun z => by omega⟩
          · funext c
            rw [zup_at]
            by_cases e : c = k
            · rw [if_pos e, e, hm]
            · rw [if_neg e]; exact o2 c e
          · rw [zup_row (by decide)]
            refine ⟨g1, fun r hv hc => g2 r hv hc ?_, g3⟩
            have := hv l b l0 l1 b0 b1 lm
            rw [← hk] at this
            omega
        | succ m ihm =>
          intro i M2 hi r2 k2 o2 B2 g1 g2 g3
          apply vX4_tryKey_50
          refine ⟨fun z => by omega, fun _ => ⟨by omega, zset ⟨⟨by omega, by omega⟩, ?_⟩⟩⟩
          generalize hM3 : zup M2 102 k (i : Int) = M3
          have r3 : ∀ x, x ≠ 102 → M3 x = M2 x := fun x hx => by subst hM3; exact zup_row hx
          have e102 : M3 102 = kup (M 102) k i := by
            subst hM3
            funext c
            rw [zup_at]
            unfold kup
            by_cases e : c = k
            · rw [if_pos e, if_pos e]
            · rw [if_neg e, if_neg e]; exact o2 c e
          have C3 : CH K E rs M3 := hC.congr (fun x hx => by rw [r3 x (by omega), r2 x (by omega) (by omega) (by omega) (by omega) (by omega)]) (by rw [r3 89 (by decide), r2 89 (by decide) (by decide) (by decide) (by decide) (by decide)])
          have R3 : RU K (M3 102) := by
            intro l' b' x1 x2 x3 x4 x5
            rw [e102]
            unfold kup
            by_cases e : 2 * l' + b' = k
            · rw [if_pos e]
              have : l' = l := by omega
              subst this
              omega
            · rw [if_neg e]; exact hR l' b' x1 x2 x3 x4 x5
          have B3 : PBAS K E rs M3 := fun s p b x1 x2 x3 x4 x5 x6 x7 => by rw [r3 101 (by decide)]; exact B2 s p b x1 x2 x3 x4 x5 x6 x7
          have cf := cfr_up (ru := M 102) (k := k) (x := (i : Int)) hm (by omega) (by omega) 12
          rw [if_pos (by omega)] at cf
          refine c_pWeigh C3 hE R3 B3 (fun M4 r4 B4 => ?_)
          have C4 : CH K E rs M4 := C3.congr (fun x hx => r4 x (by omega)) (by rw [r4 89 (by decide)])
          have f102 : M4 102 = M3 102 := r4 102 (by decide)
          have := ih (d := d) (M := M4) (j2 := pW K E (M3 102) * 10 ^ (10 - (K 179).toNat)) (Q := fun M5 => r32 ((i : Int) + 1) ∧ wX4_tryKey (d + (n + 1) + 3) 50 [(0, zA 100), (1, zI ((12 - (n + 1) : Nat) : Int)), (4, zI k), (5, zI (mR K l * 2)), (6, zI ((i : Int) + 1))] M5 Q) (by omega) C4 (fun l' x1 x2 => by rw [r4 103 (by decide), r3 103 (by decide), r2 103 (by decide) (by decide) (by decide) (by decide) (by decide)]; exact h103 l' x1 x2) (by rw [f102]; exact R3) B4 (by rw [f102, e102]; omega) (by rw [f102]) (fun M5 pf ps => ?_)
          · rw [e12] at this
            exact this
          · obtain ⟨f1, f2, f3, f4⟩ := pf
            obtain ⟨s1, s2, s3⟩ := ps
            have e6 : M4 100 6 = M2 100 6 := by rw [r4 100 (by decide), r3 100 (by decide)]
            rw [e6] at s1 s3
            rw [f102, e102] at s2 s3
            -- CP of the changed rule
            have cp : ∀ r, CP (kup (M 102) k i) r ↔ CP (M 102) r ∧ r k = i := by
              intro r
              constructor
              · intro h
                refine ⟨fun c c0 c1 hc => ?_, ?_⟩
                · have ne : c ≠ k := by rintro rfl; exact hc hm
                  have := h c c0 c1 (by unfold kup; rw [if_neg ne]; exact hc)
                  unfold kup at this
                  rw [if_neg ne] at this
                  exact this
                · have := h k (by omega) (by omega) (by unfold kup; rw [if_pos rfl]; omega)
                  unfold kup at this
                  rw [if_pos rfl] at this
                  exact this
              · rintro ⟨h, hi'⟩ c c0 c1 hc
                unfold kup at hc ⊢
                by_cases e : c = k
                · rw [if_pos e, e]; exact hi'
                · rw [if_neg e] at hc ⊢; exact h c c0 c1 hc
            refine ⟨⟨by omega, by omega⟩, ihm (i + 1) M5 (by omega) (fun x x1 x2 x3 x4 x5 => by rw [f1 x x1 x2 x3 x4 x5, r4 x x2, r3 x x3, r2 x x1 x2 x3 x4 x5]) (fun c hc => by rw [f2 c hc, r4 100 (by decide), r3 100 (by decide), k2 c hc]) (fun c hc => ?_) f4 (by omega) (fun r hv hc hlt => ?_) ?_⟩
            · rw [f3, f102, e102]
              unfold kup
              rw [if_neg hc]
            · by_cases e : r k = i
              · exact s2 r hv ((cp r).mpr ⟨hc, e⟩)
              · have := g2 r hv hc (by omega)
                omega
            · rcases s3 with s3 | ⟨r, y1, y2, y3⟩
              · rw [s3]; exact g3
              · exact Or.inr ⟨r, y1, ((cp r).mp y2).1, y3⟩
      refine lp (mR K l * 2).toNat 0 M1 (by omega) (fun x x1 x2 x3 x4 x5 => r1 x x4 x5) (fun c _ => by rw [r1 100 (by decide) (by decide)]) (fun c _ => by rw [r1 102 (by decide) (by decide)]) (fun s p b x1 x2 x3 x4 x5 x6 x7 => by rw [r1 101 (by decide) (by decide)]; exact hB s p b x1 x2 x3 x4 x5 x6 x7) (by rw [r1 100 (by decide) (by decide)]; exact Int.le_refl _) (fun r hv hc hlt => ?_) (Or.inl (by rw [r1 100 (by decide) (by decide)]))
      have := hv l b l0 l1 b0 b1 lm
      rw [← hk] at this
      omega
    · have hbest : j2 ≤ M 100 6 := by
        by_cases q : M 100 6 < j2
        · rw [if_pos q] at z; omega
        · omega
      refine hQ M ⟨fun _ _ _ _ _ _ => rfl, fun _ _ => rfl, rfl, hB⟩ ⟨Int.le_refl _, fun r hv hc => ?_, Or.inl rfl⟩
      have := pow10_mono (PV_up (E := E) hW hv.ru hv hc (K 179).toNat (K 178) 0 hW.2.1.1 (by omega) (by omega)) (10 - (K 179).toNat)
      have : pW K E r * 10 ^ (10 - (K 179).toNat) ≤ pW K E (M 102) * 10 ^ (10 - (K 179).toNat) := this
      omega
