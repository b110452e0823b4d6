/-! what is left free is worth no less; what no RIDE sees changes nothing -/
theorem wle {a b c x y z m S : Int} (ha : 0 ≤ a) (hb : 0 ≤ b) (hc : 0 ≤ c) (hs : a + b + c = S) (hx : x ≤ m) (hy : y ≤ m) (hz : z ≤ m) : a * x + b * y + c * z ≤ S * m := by
  have e : S * m = a * m + b * m + c * m := by rw [← hs, Int.add_mul, Int.add_mul]
  have x1 := Int.mul_le_mul_of_nonneg_left hx ha
  have y1 := Int.mul_le_mul_of_nonneg_left hy hb
  have z1 := Int.mul_le_mul_of_nonneg_left hz hc
  rw [e]
  omega
theorem VV_up {K : Int → Int} {E : Int → Int → Int} {hd hd' : Int → Int} {fr fr' : Int → Bool} (hW : WF K) (hH : HD hd) (hf : ∀ l, 0 ≤ l → l < 6 → fr l = true → fr' l = true) (he : ∀ l, 0 ≤ l → l < 6 → fr' l = false → hd' (3 * l) = hd (3 * l) ∧ hd' (3 * l + 1) = hd (3 * l + 1) ∧ hd' (3 * l + 2) = hd (3 * l + 2)) : ∀ (n : Nat) (p : Int), 0 ≤ p → VV K E hd fr n p ≤ VV K E hd' fr' n p := by
  obtain ⟨a1, a2, a3, a4, a5, a6, a7, a8⟩ := id hW
  intro n
  induction n with
  | zero => intro p _; exact Int.le_refl _
  | succ n ih =>
    intro p p0
    unfold VV
    by_cases hp : p < K 182
    · rw [if_pos hp, if_pos hp]
      have hw := a8 p p0 hp
      have hr := hw.rc
      obtain ⟨w1, w2, w3, w4, w5, w6⟩ := hw
      by_cases k3 : K (10 * p) = 3
      · rw [if_pos k3, if_pos k3]; exact Int.le_refl _
      · rw [if_neg k3, if_neg k3]
        have h1 : 1 ≤ K (10 * p + 2) := by
          rcases (by omega : K (10 * p) = 0 ∨ K (10 * p) = 1 ∨ K (10 * p) = 2) with q | q | q
          · have := w2 q; omega
          · have := w3 q; omega
          · have := w4 q; omega
        have rdb : ∀ k, 0 ≤ k → 0 ≤ rdc K p k := by
          intro k k0
          unfold rdc
          split
          · exact (w6 k k0 (by omega)).1
          · exact (w6 _ (by omega) (by omega)).1
        have i0 := ih _ (rdb 0 (by omega))
        have i1 := ih _ (rdb 1 (by omega))
        have i2 := ih _ (rdb 2 (by omega))
        by_cases k2 : K (10 * p) = 2
        · rw [if_pos k2, if_pos k2]; omega
        · rw [if_neg k2, if_neg k2]
          by_cases k1 : K (10 * p) = 1
          · rw [if_pos k1, if_pos k1]
            obtain ⟨t1, t2, t3, t4, t5⟩ := w3 k1
            have n6 : 0 ≤ K (10 * p + 6) := by have := t2 0 (by omega) (by omega); rw [Int.add_zero] at this; omega
            have n7 : 0 ≤ K (10 * p + 7) := by
              by_cases q : K (10 * p + 2) ≤ 1
              · have := t4 q; omega
              · have := t2 1 (by omega) (by omega); rw [show 10 * p + 6 + 1 = 10 * p + 7 by omega] at this; omega
            have n8 : 0 ≤ K (10 * p + 8) := by
              by_cases q : K (10 * p + 2) ≤ 2
              · have := t5 q; omega
              · have := t2 2 (by omega) (by omega); rw [show 10 * p + 6 + 2 = 10 * p + 8 by omega] at this; omega
            have x0 := Int.mul_le_mul_of_nonneg_left i0 n6
            have x1 := Int.mul_le_mul_of_nonneg_left i1 n7
            have x2 := Int.mul_le_mul_of_nonneg_left i2 n8
            omega
          · rw [if_neg k1, if_neg k1]
            have hl := (w2 (by omega)).1
            obtain ⟨q1, q2, q3, q4⟩ := hH (K (10 * p + 1)) hl.1 (by omega)
            by_cases f1 : fr (K (10 * p + 1)) = true
            · rw [if_pos f1, if_pos (hf _ hl.1 (by omega) f1)]
              unfold mx3
              omega
            · rw [if_neg f1]
              by_cases f2 : fr' (K (10 * p + 1)) = true
              · rw [if_pos f2]
                exact wle q1 q2 q3 q4 (by unfold mx3; omega) (by unfold mx3; omega) (by unfold mx3; omega)
              · rw [if_neg f2]
                obtain ⟨e0, e1, e2⟩ := he _ hl.1 (by omega) (by cases h : fr' (K (10 * p + 1)) with
                  | true => exact absurd h f2
                  | false => rfl)
                rw [e0, e1, e2]
                have x0 := Int.mul_le_mul_of_nonneg_left i0 q1
                have x1 := Int.mul_le_mul_of_nonneg_left i1 q2
                have x2 := Int.mul_le_mul_of_nonneg_left i2 q3
                omega
    · rw [if_neg hp, if_neg hp]; exact Int.le_refl _
theorem WS_up {K : Int → Int} {E : Int → Int → Int} {hd hd' : Int → Int} {fr fr' : Int → Bool} (hW : WF K) (hH : HD hd) (hf : ∀ l, 0 ≤ l → l < 6 → fr l = true → fr' l = true) (he : ∀ l, 0 ≤ l → l < 6 → fr' l = false → hd' (3 * l) = hd (3 * l) ∧ hd' (3 * l + 1) = hd (3 * l + 1) ∧ hd' (3 * l + 2) = hd (3 * l + 2)) : WS K E hd fr ≤ WS K E hd' fr' := by
  unfold WS
  exact Int.mul_le_mul_of_nonneg_right (VV_up hW hH hf he _ _ hW.2.1.1) (by have := pow10_pos (10 - (K 179).toNat); omega)
/-- reached states alone count -/
theorem VV_at {K : Int → Int} {E : Int → Int → Int} {hd hd' : Int → Int} {fr fr' : Int → Bool} {rs : Int → Int → Bool} (hW : WF K) (hC : RSC K rs) (he : ∀ s p, 0 ≤ s → s < K 179 → 0 ≤ p → p < K 182 → K (10 * p) = 0 → rs s p = true → fr' (K (10 * p + 1)) = fr (K (10 * p + 1)) ∧ (fr (K (10 * p + 1)) = false → hd' (3 * K (10 * p + 1)) = hd (3 * K (10 * p + 1)) ∧ hd' (3 * K (10 * p + 1) + 1) = hd (3 * K (10 * p + 1) + 1) ∧ hd' (3 * K (10 * p + 1) + 2) = hd (3 * K (10 * p + 1) + 2))) : ∀ (n : Nat) (p : Int), (n : Int) ≤ K 179 → 0 ≤ p → rs (K 179 - n) p = true → VV K E hd' fr' n p = VV K E hd fr n p := by
  obtain ⟨a1, a2, a3, a4, a5, a6, a7, a8⟩ := id hW
  intro n
  induction n with
  | zero => intro p _ _ _; rfl
  | succ n ih =>
    intro p hn p0 hr
    unfold VV
    by_cases hp : p < K 182
    · rw [if_pos hp, if_pos hp]
      have hw := a8 p p0 hp
      have hrc := hw.rc
      obtain ⟨w1, w2, w3, w4, w5, w6⟩ := hw
      by_cases k3 : K (10 * p) = 3
      · rw [if_pos k3, if_pos k3]
      · rw [if_neg k3, if_neg k3]
        have h1 : 1 ≤ K (10 * p + 2) := by
          rcases (by omega : K (10 * p) = 0 ∨ K (10 * p) = 1 ∨ K (10 * p) = 2) with q | q | q
          · have := w2 q; omega
          · have := w3 q; omega
          · have := w4 q; omega
        have rr : ∀ k, 0 ≤ k → 0 ≤ rdc K p k ∧ rs (K 179 - n) (rdc K p k) = true := by
          intro k k0
          have st : ∀ j, 0 ≤ j → j < K (10 * p + 2) → rs (K 179 - n) (K (10 * p + 3 + j)) = true := by
            intro j j0 j1
            have := hC.2 (K 179 - ((n + 1 : Nat) : Int)) p j (by omega) (by omega) p0 hp j0 j1 hr
            rw [show K 179 - ((n + 1 : Nat) : Int) + 1 = K 179 - n by omega] at this
            exact this
          unfold rdc
          split
          · exact ⟨(w6 k k0 (by omega)).1, st k k0 (by omega)⟩
          · exact ⟨(w6 _ (by omega) (by omega)).1, st _ (by omega) (by omega)⟩
        rw [ih _ (by omega) (rr 0 (by omega)).1 (rr 0 (by omega)).2, ih _ (by omega) (rr 1 (by omega)).1 (rr 1 (by omega)).2, ih _ (by omega) (rr 2 (by omega)).1 (rr 2 (by omega)).2]
        by_cases k2 : K (10 * p) = 2
        · rw [if_pos k2, if_pos k2]
        · rw [if_neg k2, if_neg k2]
          by_cases k1 : K (10 * p) = 1
          · rw [if_pos k1, if_pos k1]
          · rw [if_neg k1, if_neg k1]
            obtain ⟨e0, e1⟩ := he (K 179 - ((n + 1 : Nat) : Int)) p (by omega) (by omega) p0 hp (by omega) hr
            rw [e0]
            by_cases f : fr (K (10 * p + 1)) = true
            · rw [if_pos f, if_pos f]
            · rw [if_neg f, if_neg f]
              obtain ⟨x0, x1, x2⟩ := e1 (by cases h : fr (K (10 * p + 1)) with
                | true => exact absurd h f
                | false => rfl)
              rw [x0, x1, x2]
    · rw [if_neg hp, if_neg hp]
theorem WS_at {K : Int → Int} {E : Int → Int → Int} {hd hd' : Int → Int} {fr fr' : Int → Bool} {rs : Int → Int → Bool} (hW : WF K) (hC : RSC K rs) (he : ∀ s p, 0 ≤ s → s < K 179 → 0 ≤ p → p < K 182 → K (10 * p) = 0 → rs s p = true → fr' (K (10 * p + 1)) = fr (K (10 * p + 1)) ∧ (fr (K (10 * p + 1)) = false → hd' (3 * K (10 * p + 1)) = hd (3 * K (10 * p + 1)) ∧ hd' (3 * K (10 * p + 1) + 1) = hd (3 * K (10 * p + 1) + 1) ∧ hd' (3 * K (10 * p + 1) + 2) = hd (3 * K (10 * p + 1) + 2))) : WS K E hd' fr' = WS K E hd fr := by
  have hday := hW.2.2.1
  unfold WS
  rw [VV_at hW hC he _ _ (by omega) hW.2.1.1]
  rw [show K 179 - ((K 179).toNat : Int) = 0 by omega]
  exact hC.1
/-! the choices of a LOOK -/
def tr3 : Nat → Int → Int → Int × Int
  | 0, z, o => (z, o)
  | n + 1, z, o => if z < 10 ∧ 10 - z < o then tr3 n (z + 1) (o - (11 - z)) else (z, o)
/-- TENTHS of ROAD i by choice c; dc: with a DIE; rc: how many ROADS -/
def tri (dc : Bool) (rc : Int) (c : Nat) (i : Int) : Int :=
  if dc = true ∧ rc = 2 then (if i = 0 then (min c 10 : Nat) else if i = 1 then 10 - ((min c 10 : Nat) : Int) else 0)
  else if dc = true ∧ rc = 3 then (if i = 0 then (tr3 10 0 (min c 65 : Nat)).1 else if i = 1 then (tr3 10 0 (min c 65 : Nat)).2 else 10 - (tr3 10 0 (min c 65 : Nat)).1 - (tr3 10 0 (min c 65 : Nat)).2)
  else if i = (if c ≤ 2 then (c : Int) else 2) then 10 else 0
theorem tr3_ok : ∀ c : Nat, c < 66 → 0 ≤ (tr3 10 0 c).1 ∧ 0 ≤ (tr3 10 0 c).2 ∧ (tr3 10 0 c).1 + (tr3 10 0 c).2 ≤ 10 := by decide +kernel
theorem tri_ok (dc : Bool) (rc : Int) (c : Nat) : 0 ≤ tri dc rc c 0 ∧ 0 ≤ tri dc rc c 1 ∧ 0 ≤ tri dc rc c 2 ∧ tri dc rc c 0 + tri dc rc c 1 + tri dc rc c 2 = 10 := by
  unfold tri
  by_cases h1 : dc = true ∧ rc = 2
  · rw [if_pos h1, if_pos h1, if_pos h1]
    simp
    omega
  · rw [if_neg h1, if_neg h1, if_neg h1]
    by_cases h2 : dc = true ∧ rc = 3
    · rw [if_pos h2, if_pos h2, if_pos h2]
      have := tr3_ok (min c 65) (by omega)
      simp
      omega
    · rw [if_neg h2, if_neg h2, if_neg h2]
      by_cases c2 : c ≤ 2
      · rw [if_pos c2]
        rcases (by omega : c = 0 ∨ c = 1 ∨ c = 2) with rfl | rfl | rfl <;> decide
      · rw [if_neg c2]
        decide
/-- a hand by choices: sought LOOKS S, others as in b -/
def HH (S : Nat → Bool) (dc : Bool) (R b : Int → Int) (c : Nat → Nat) : Int → Int := fun j => if S (j / 3).toNat = true then tri dc (R (j / 3)) (c (j / 3).toNat) (j % 3) else b j
theorem HH_in {S : Nat → Bool} {dc : Bool} {R b : Int → Int} {c : Nat → Nat} {l : Nat} (h : S l = true) (i : Int) (i0 : 0 ≤ i) (i1 : i ≤ 2) : HH S dc R b c (3 * l + i) = tri dc (R l) (c l) i := by
  unfold HH
  rw [show (3 * (l : Int) + i) / 3 = l by omega, show (3 * (l : Int) + i) % 3 = i by omega, Int.toNat_natCast, if_pos h]
theorem HH_out {S : Nat → Bool} {dc : Bool} {R b : Int → Int} {c : Nat → Nat} {l : Nat} (h : S l = false) (i : Int) (i0 : 0 ≤ i) (i1 : i ≤ 2) : HH S dc R b c (3 * l + i) = b (3 * l + i) := by
  unfold HH
  rw [show (3 * (l : Int) + i) / 3 = l by omega, Int.toNat_natCast, if_neg (by rw [h]; decide)]
theorem HH_hd {S : Nat → Bool} {dc : Bool} {R b : Int → Int} (hb : HD b) (c : Nat → Nat) : HD (HH S dc R b c) := by
  intro l l0 l1
  obtain ⟨n, rfl⟩ : ∃ n : Nat, l = n := ⟨l.toNat, by omega⟩
  have e0 : HH S dc R b c (3 * (n : Int)) = HH S dc R b c (3 * (n : Int) + 0) := by rw [Int.add_zero]
  rw [e0]
  cases h : S n with
  | true =>
    rw [HH_in h 0 (by omega) (by omega), HH_in h 1 (by omega) (by omega), HH_in h 2 (by omega) (by omega)]
    exact tri_ok _ _ _
  | false =>
    rw [HH_out h 0 (by omega) (by omega), HH_out h 1 (by omega) (by omega), HH_out h 2 (by omega) (by omega), Int.add_zero]
    exact hb n l0 l1
