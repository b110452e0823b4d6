/-! a POCKET: the number itself -/
def PV (K : Int → Int) (E : Int → Int → Int) (ru : Int → Int) : Nat → Int → Int → Int
  | 0, p, _ => if p < K 182 then (if K (10 * p) = 3 then E p (K 179) else K 180) else K 181
  | n + 1, p, b => if p < K 182 then
      (if K (10 * p) = 3 then E p (K 179 - ((n + 1 : Nat) : Int)) * 10 ^ (n + 1)
      else if K (10 * p) = 2 then 10 * PV K E ru n (rdc K p 0) b - K (10 * p + 1) * 10 ^ (n + 1)
      else if K (10 * p) = 1 then K (10 * p + 6) * PV K E ru n (rdc K p 0) b + K (10 * p + 7) * PV K E ru n (rdc K p 1) b + K (10 * p + 8) * PV K E ru n (rdc K p 2) b
      else if ru (2 * K (10 * p + 1) + b) = -1 then 10 * mx3 (max (PV K E ru n (rdc K p 0) 0) (PV K E ru n (rdc K p 0) 1)) (max (PV K E ru n (rdc K p 1) 0) (PV K E ru n (rdc K p 1) 1)) (max (PV K E ru n (rdc K p 2) 0) (PV K E ru n (rdc K p 2) 1))
      else 10 * PV K E ru n (rdc K p (ru (2 * K (10 * p + 1) + b) / 2)) (ru (2 * K (10 * p + 1) + b) % 2))
    else K 181 * 10 ^ (n + 1)
/-- a rule with a POCKET, -1 where nothing is told yet -/
def RU (K : Int → Int) (ru : Int → Int) : Prop := ∀ l b, 0 ≤ l → l < 6 → 0 ≤ b → b ≤ 1 → 0 < mR K l → -1 ≤ ru (2 * l + b) ∧ ru (2 * l + b) < 2 * mR K l
def VR (K : Int → Int) (ru : Int → Int) : Prop := ∀ l b, 0 ≤ l → l < 6 → 0 ≤ b → b ≤ 1 → 0 < mR K l → 0 ≤ ru (2 * l + b) ∧ ru (2 * l + b) < 2 * mR K l
theorem VR.ru {K ru : Int → Int} (h : VR K ru) : RU K ru := fun l b a1 a2 a3 a4 a5 => by have := h l b a1 a2 a3 a4 a5; omega
def CP (ru0 ru : Int → Int) : Prop := ∀ k, 0 ≤ k → k < 12 → ru0 k ≠ -1 → ru k = ru0 k
theorem mR_fork {K : Int → Int} (hW : WF K) {p : Int} (p0 : 0 ≤ p) (p1 : p < K 182) (pk : K (10 * p) = 0) : (0 ≤ K (10 * p + 1) ∧ K (10 * p + 1) < 6) ∧ 0 < mR K (K (10 * p + 1)) := by
  have hpl := hW.1
  have := ((hW.2.2.2.2.2.2.2 p p0 p1).2.1 pk).1
  exact ⟨by omega, (mB_pos hW _ _ (by omega)).mpr ⟨p, p0, by omega, pk, rfl⟩⟩
theorem rdc_nn {K : Int → Int} (hW : WF K) {p : Int} (p0 : 0 ≤ p) (p1 : p < K 182) (k3 : K (10 * p) ≠ 3) {k : Int} (k0 : 0 ≤ k) : 0 ≤ rdc K p k ∧ rdc K p k ≤ 15 := by
  have hw := hW.2.2.2.2.2.2.2 p p0 p1
  have hr := hw.rc
  obtain ⟨w1, w2, w3, w4, w5, w6⟩ := hw
  have h1 : 1 ≤ K (10 * p + 2) := by
    rcases (by omega : K (10 * p) = 0 ∨ K (10 * p) = 1 ∨ K (10 * p) = 2) with q | q | q
    · have := w2 q; omega
    · have := w3 q; omega
    · have := w4 q; omega
  unfold rdc
  split
  · exact w6 k k0 (by omega)
  · exact w6 _ (by omega) (by omega)
theorem turn_nn {K : Int → Int} {p : Int} (hw : WP K p) (k1 : K (10 * p) = 1) : 0 ≤ K (10 * p + 6) ∧ 0 ≤ K (10 * p + 7) ∧ 0 ≤ K (10 * p + 8) ∧ K (10 * p + 6) + K (10 * p + 7) + K (10 * p + 8) = 10 := by
  have hr := hw.rc
  obtain ⟨t1, t2, t3, t4, t5⟩ := hw.2.2.1 k1
  refine ⟨?_, ?_, ?_, t3⟩
  · have := t2 0 (by omega) (by omega); rw [Int.add_zero] at this; omega
  · by_cases q : K (10 * p + 2) ≤ 1
    · have := t4 q; omega
    · have := t2 1 (by omega) (by omega); rw [show 10 * p + 6 + 1 = 10 * p + 7 by omega] at this; omega
  · by_cases q : K (10 * p + 2) ≤ 2
    · have := t5 q; omega
    · have := t2 2 (by omega) (by omega); rw [show 10 * p + 6 + 2 = 10 * p + 8 by omega] at this; omega
theorem PV_bd {K : Int → Int} {E : Int → Int → Int} {ru : Int → Int} (hW : WF K) (hE : EB K E) (hR : RU K ru) : ∀ (n : Nat) (p b : Int), 0 ≤ p → 0 ≤ b → b ≤ 1 → -BD n ≤ PV K E ru n p b ∧ PV K E ru n p b ≤ BD n := by
  obtain ⟨a1, a2, a3, a4, a5, a6, a7, a8⟩ := id hW
  intro n
  induction n with
  | zero =>
    intro p b p0 _ _
    have := hE p (K 179)
    rw [BD_0]
    unfold PV
    split
    · split <;> omega
    · omega
  | succ n ih =>
    intro p b p0 b0 b1
    have hs := BD_s n
    have hg := BD_ge (n + 1)
    have hp := pow10_pos (n + 1)
    unfold PV
    by_cases hpl : p < K 182
    · rw [if_pos hpl]
      have hw := a8 p p0 hpl
      by_cases k3 : K (10 * p) = 3
      · rw [if_pos k3]
        have := wone (T := 10 ^ (n + 1)) (by omega) (hE p (K 179 - ((n + 1 : Nat) : Int)))
        omega
      rw [if_neg k3]
      have rn : ∀ k, 0 ≤ k → 0 ≤ rdc K p k := fun k k0 => (rdc_nn hW p0 hpl k3 k0).1
      by_cases k2 : K (10 * p) = 2
      · rw [if_pos k2]
        have i0 := ih _ b (rn 0 (by omega)) b0 b1
        have := wone (B := 99) (x := K (10 * p + 1)) (T := 10 ^ (n + 1)) (by omega) (by have := hw.2.2.2.1 k2; omega)
        omega
      rw [if_neg k2]
      by_cases k1 : K (10 * p) = 1
      · rw [if_pos k1]
        obtain ⟨n6, n7, n8, t3⟩ := turn_nn hw k1
        have := wsum n6 n7 n8 t3 (ih _ b (rn 0 (by omega)) b0 b1) (ih _ b (rn 1 (by omega)) b0 b1) (ih _ b (rn 2 (by omega)) b0 b1)
        omega
      rw [if_neg k1]
      have k0 : K (10 * p) = 0 := by have := hw.1; omega
      obtain ⟨hl, hm⟩ := mR_fork hW p0 hpl k0
      have hr := hR (K (10 * p + 1)) b hl.1 hl.2 b0 b1 hm
      by_cases hf : ru (2 * K (10 * p + 1) + b) = -1
      · rw [if_pos hf]
        have x1 := ih _ 0 (rn 0 (by omega)) (by omega) (by omega)
        have x2 := ih _ 1 (rn 0 (by omega)) (by omega) (by omega)
        have x3 := ih _ 0 (rn 1 (by omega)) (by omega) (by omega)
        have x4 := ih _ 1 (rn 1 (by omega)) (by omega) (by omega)
        have x5 := ih _ 0 (rn 2 (by omega)) (by omega) (by omega)
        have x6 := ih _ 1 (rn 2 (by omega)) (by omega) (by omega)
        unfold mx3
        omega
      · rw [if_neg hf]
        have := ih _ (ru (2 * K (10 * p + 1) + b) % 2) (rn (ru (2 * K (10 * p + 1) + b) / 2) (by omega)) (by omega) (by omega)
        omega
    · rw [if_neg hpl]
      have := wone (T := 10 ^ (n + 1)) (by omega) a5
      omega
/-- three ROADS stand for all of them -/
theorem rdc_any {K : Int → Int} {p k : Int} (hr : 1 ≤ K (10 * p + 2) ∧ K (10 * p + 2) ≤ 3) (k0 : 0 ≤ k) : rdc K p k = rdc K p 0 ∨ rdc K p k = rdc K p 1 ∨ rdc K p k = rdc K p 2 := by
  by_cases h : k ≤ 2
  · rcases (by omega : k = 0 ∨ k = 1 ∨ k = 2) with rfl | rfl | rfl
    · exact Or.inl rfl
    · exact Or.inr (Or.inl rfl)
    · exact Or.inr (Or.inr rfl)
  · right; right
    unfold rdc
    rw [if_neg (by omega)]
    by_cases h2 : 2 < K (10 * p + 2)
    · rw [if_pos h2, show K (10 * p + 2) - 1 = 2 by omega]
    · rw [if_neg h2]
theorem PV_up {K : Int → Int} {E : Int → Int → Int} {ru0 ru : Int → Int} (hW : WF K) (hR : RU K ru) (hV : VR K ru) (hC : CP ru0 ru) : ∀ (n : Nat) (p b : Int), 0 ≤ p → 0 ≤ b → b ≤ 1 → PV K E ru n p b ≤ PV K E ru0 n p b := by
  obtain ⟨a1, a2, a3, a4, a5, a6, a7, a8⟩ := id hW
  intro n
  induction n with
  | zero => intro p b _ _ _; exact Int.le_refl _
  | succ n ih =>
    intro p b p0 b0 b1
    unfold PV
    by_cases hpl : p < K 182
    · rw [if_pos hpl, if_pos hpl]
      have hw := a8 p p0 hpl
      by_cases k3 : K (10 * p) = 3
      · rw [if_pos k3, if_pos k3]; exact Int.le_refl _
      rw [if_neg k3, if_neg k3]
      have rn : ∀ k, 0 ≤ k → 0 ≤ rdc K p k := fun k k0 => (rdc_nn hW p0 hpl k3 k0).1
      by_cases k2 : K (10 * p) = 2
      · rw [if_pos k2, if_pos k2]
        have i0 := ih _ b (rn 0 (by omega)) b0 b1
        omega
      rw [if_neg k2, if_neg k2]
      by_cases k1 : K (10 * p) = 1
      · rw [if_pos k1, if_pos k1]
        obtain ⟨n6, n7, n8, t3⟩ := turn_nn hw k1
        have x0 := Int.mul_le_mul_of_nonneg_left (ih _ b (rn 0 (by omega)) b0 b1) n6
        have x1 := Int.mul_le_mul_of_nonneg_left (ih _ b (rn 1 (by omega)) b0 b1) n7
        have x2 := Int.mul_le_mul_of_nonneg_left (ih _ b (rn 2 (by omega)) b0 b1) n8
        omega
      rw [if_neg k1, if_neg k1]
      have k0 : K (10 * p) = 0 := by have := hw.1; omega
      obtain ⟨hl, hm⟩ := mR_fork hW p0 hpl k0
      have hv := hV (K (10 * p + 1)) b hl.1 hl.2 b0 b1 hm
      rw [if_neg (by omega)]
      by_cases hf : ru0 (2 * K (10 * p + 1) + b) = -1
      · rw [if_pos hf]
        have rc := (hw.2.1 k0).2
        have e := rdc_any (K := K) (p := p) (k := ru (2 * K (10 * p + 1) + b) / 2) rc (by omega)
        have i := ih (rdc K p (ru (2 * K (10 * p + 1) + b) / 2)) (ru (2 * K (10 * p + 1) + b) % 2) (rn _ (by omega)) (by omega) (by omega)
        rcases (by omega : ru (2 * K (10 * p + 1) + b) % 2 = 0 ∨ ru (2 * K (10 * p + 1) + b) % 2 = 1) with f | f <;> rw [f] at i ⊢ <;> rcases e with e | e | e <;> rw [e] at i ⊢ <;> unfold mx3 <;> omega
      · rw [if_neg hf, hC _ (by omega) (by omega) hf]
        have hv' : ru (2 * K (10 * p + 1) + b) = ru0 (2 * K (10 * p + 1) + b) := hC _ (by omega) (by omega) hf
        have := ih (rdc K p (ru0 (2 * K (10 * p + 1) + b) / 2)) (ru0 (2 * K (10 * p + 1) + b) % 2) (rn _ (by omega)) (by omega) (by omega)
        omega
    · rw [if_neg hpl, if_neg hpl]; exact Int.le_refl _
/-- states to which he comes by what is chosen, none of which is free -/
def PRS (K : Int → Int) (ru : Int → Int) (R : Int → Int → Int → Prop) : Prop := R 0 (K 178) 0 ∧ ∀ s p b, 0 ≤ s → s < K 179 → 0 ≤ p → p < K 182 → 0 ≤ b → b ≤ 1 → R s p b → (K (10 * p) ≠ 0 → ∀ k, 0 ≤ k → k < K (10 * p + 2) → R (s + 1) (K (10 * p + 3 + k)) b) ∧ (K (10 * p) = 0 → ru (2 * K (10 * p + 1) + b) ≠ -1 ∧ R (s + 1) (rdc K p (ru (2 * K (10 * p + 1) + b) / 2)) (ru (2 * K (10 * p + 1) + b) % 2))
theorem PV_at {K : Int → Int} {E : Int → Int → Int} {ru0 ru : Int → Int} {R : Int → Int → Int → Prop} (hW : WF K) (hR0 : RU K ru0) (hC : CP ru0 ru) (hP : PRS K ru0 R) : ∀ (n : Nat) (p b : Int), (n : Int) ≤ K 179 → 0 ≤ p → 0 ≤ b → b ≤ 1 → R (K 179 - n) p b → PV K E ru n p b = PV K E ru0 n p b := by
  obtain ⟨a1, a2, a3, a4, a5, a6, a7, a8⟩ := id hW
  intro n
  induction n with
  | zero => intro p b _ _ _ _ _; rfl
  | succ n ih =>
    intro p b hn p0 b0 b1 hr
    unfold PV
    by_cases hpl : p < K 182
    · rw [if_pos hpl, if_pos hpl]
      have hw := a8 p p0 hpl
      have hrc := hw.rc
      obtain ⟨g1, g2⟩ := hP.2 (K 179 - ((n + 1 : Nat) : Int)) p b (by omega) (by omega) p0 hpl b0 b1 hr
      rw [show K 179 - ((n + 1 : Nat) : Int) + 1 = K 179 - n by omega] at g1 g2
      by_cases k3 : K (10 * p) = 3
      · rw [if_pos k3, if_pos k3]
      rw [if_neg k3, if_neg k3]
      have rn : ∀ k, 0 ≤ k → 0 ≤ rdc K p k := fun k k0 => (rdc_nn hW p0 hpl k3 k0).1
      have h1 : 1 ≤ K (10 * p + 2) := by
        obtain ⟨w1, w2, w3, w4, w5, w6⟩ := hw
        rcases (by omega : K (10 * p) = 0 ∨ K (10 * p) = 1 ∨ K (10 * p) = 2) with q | q | q
        · have := w2 q; omega
        · have := w3 q; omega
        · have := w4 q; omega
      have st : K (10 * p) ≠ 0 → ∀ k, 0 ≤ k → PV K E ru n (rdc K p k) b = PV K E ru0 n (rdc K p k) b := by
        intro nf k k0
        refine ih _ b (by omega) (rn k k0) b0 b1 ?_
        unfold rdc
        split
        · exact g1 nf k k0 (by omega)
        · exact g1 nf _ (by omega) (by omega)
      by_cases k2 : K (10 * p) = 2
      · rw [if_pos k2, if_pos k2, st (by omega) 0 (by omega)]
      rw [if_neg k2, if_neg k2]
      by_cases k1 : K (10 * p) = 1
      · rw [if_pos k1, if_pos k1, st (by omega) 0 (by omega), st (by omega) 1 (by omega), st (by omega) 2 (by omega)]
      rw [if_neg k1, if_neg k1]
      have k0 : K (10 * p) = 0 := by have := hw.1; omega
      obtain ⟨hl, hm⟩ := mR_fork hW p0 hpl k0
      obtain ⟨f1, f2⟩ := g2 k0
      have rr := hR0 (K (10 * p + 1)) b hl.1 hl.2 b0 b1 hm
      have e := hC _ (by omega) (by omega) f1
      rw [e, if_neg f1, if_neg f1, ih _ _ (by omega) (rn _ (by omega)) (by omega) (by omega) f2]
    · rw [if_neg hpl, if_neg hpl]
theorem PV_cg {K : Int → Int} {E : Int → Int → Int} {ru ru' : Int → Int} (hW : WF K) (hV : VR K ru) (e : ∀ l b, 0 ≤ l → l < 6 → 0 ≤ b → b ≤ 1 → 0 < mR K l → ru' (2 * l + b) = ru (2 * l + b)) : ∀ (n : Nat) (p b : Int), 0 ≤ p → 0 ≤ b → b ≤ 1 → PV K E ru' n p b = PV K E ru n p b := by
  obtain ⟨a1, a2, a3, a4, a5, a6, a7, a8⟩ := id hW
  intro n
  induction n with
  | zero => intro p b _ _ _; rfl
  | succ n ih =>
    intro p b p0 b0 b1
    unfold PV
    by_cases hpl : p < K 182
    · rw [if_pos hpl, if_pos hpl]
      have hw := a8 p p0 hpl
      by_cases k3 : K (10 * p) = 3
      · rw [if_pos k3, if_pos k3]
      rw [if_neg k3, if_neg k3]
      have rn : ∀ k, 0 ≤ k → 0 ≤ rdc K p k := fun k k0 => (rdc_nn hW p0 hpl k3 k0).1
      rw [ih _ b (rn 0 (by omega)) b0 b1, ih _ b (rn 1 (by omega)) b0 b1, ih _ b (rn 2 (by omega)) b0 b1]
      by_cases k2 : K (10 * p) = 2
      · rw [if_pos k2, if_pos k2]
      rw [if_neg k2, if_neg k2]
      by_cases k1 : K (10 * p) = 1
      · rw [if_pos k1, if_pos k1]
      rw [if_neg k1, if_neg k1]
      have k0 : K (10 * p) = 0 := by have := hw.1; omega
      obtain ⟨hl, hm⟩ := mR_fork hW p0 hpl k0
      have hv := hV (K (10 * p + 1)) b hl.1 hl.2 b0 b1 hm
      rw [e _ b hl.1 hl.2 b0 b1 hm, if_neg (by omega), if_neg (by omega), ih _ _ (rn _ (by omega)) (by omega) (by omega)]
    · rw [if_neg hpl, if_neg hpl]
/-- what a whole rule is worth, the most of them -/
abbrev pW (K : Int → Int) (E : Int → Int → Int) (ru : Int → Int) : Int := PV K E ru (K 179).toNat (K 178) 0
def PX (K : Int → Int) (E : Int → Int → Int) (x : Int) : Prop := (∃ ru, VR K ru ∧ x = pW K E ru) ∧ ∀ ru, VR K ru → pW K E ru ≤ x
theorem PX_one {K : Int → Int} {E : Int → Int → Int} {x x' : Int} (h : PX K E x) (h' : PX K E x') : x = x' := by
  obtain ⟨⟨s, a, b⟩, c⟩ := h
  obtain ⟨⟨s', a', b'⟩, c'⟩ := h'
  have := c s' a'
  have := c' s a
  omega
/-! mixed digits, the least ahead -/
def PB (ba : Nat → Nat) : Nat → Nat
  | 0 => 1
  | k + 1 => PB ba k * ba k
theorem PB_pos {ba : Nat → Nat} (h : ∀ k, 1 ≤ ba k) (k : Nat) : 1 ≤ PB ba k := by
  induction k with
  | zero => exact Nat.le_refl _
  | succ k ih => exact Nat.mul_le_mul ih (h k)
theorem PB_dvd {ba : Nat → Nat} {i : Nat} : ∀ {k : Nat}, i < k → ∃ X, PB ba k = PB ba i * ba i * X := by
  intro k
  induction k with
  | zero => intro h; omega
  | succ k ih =>
    intro h
    by_cases e : i = k
    · exact ⟨1, by rw [Nat.mul_one, e]; rfl⟩
    · obtain ⟨X, hX⟩ := ih (by omega)
      refine ⟨X * ba k, ?_⟩
      show PB ba k * ba k = _
      rw [hX, Nat.mul_assoc]
theorem PB_surj {ba c : Nat → Nat} (h1 : ∀ k, 1 ≤ ba k) (hc : ∀ k, c k < ba k) : ∀ k : Nat, ∃ r, r < PB ba k ∧ ∀ i, i < k → r / PB ba i % ba i = c i := by
  intro k
  induction k with
  | zero => exact ⟨0, Nat.one_pos, fun i hi => by omega⟩
  | succ k ih =>
    obtain ⟨r, hr, hd⟩ := ih
    refine ⟨r + PB ba k * c k, ?_, fun i hi => ?_⟩
    · show _ < PB ba k * ba k
      have : PB ba k * (c k + 1) ≤ PB ba k * ba k := Nat.mul_le_mul_left _ (hc k)
      rw [Nat.mul_add, Nat.mul_one] at this
      omega
    · by_cases e : i = k
      · subst e
        rw [Nat.add_comm, Nat.mul_add_div (by have := PB_pos h1 i; omega), Nat.div_eq_of_lt hr, Nat.add_zero, Nat.mod_eq_of_lt (hc i)]
      · obtain ⟨X, hX⟩ := PB_dvd (ba := ba) (show i < k by omega)
        have e1 : r + PB ba k * c k = PB ba i * (ba i * (X * c k)) + r := by
          rw [hX, Nat.add_comm, Nat.mul_assoc, Nat.mul_assoc]
        rw [e1, Nat.mul_add_div (by have := PB_pos h1 i; omega), Nat.mul_add_mod, hd i (by omega)]
