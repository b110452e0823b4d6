/-! the reference's second -/
def cO (K : Int → Int) (s : Nat) (p : Int) : Int := if GO K s p then sN (lsF K (cn K p)) 16 * 10 ^ (10 - (s + 1)) else 10 ^ (10 - s)
def BSv (K : Int → Int) (P : Int) (g : Int → Int → Int) (s p : Nat) : Int := TT2 K P g s + sN (lsF K (WG2 K P g s)) 16 * 10 ^ (10 - s) + sN (EX2 K P g s) p * 10 ^ (10 - s) + (if (s : Int) < K 179 then sN (lsF K (FP K (WG2 K P g s) p)) 16 * 10 ^ (10 - (s + 1)) else 0)
def PTv (K : Int → Int) (P : Int) (g : Int → Int → Int) (s : Nat) (p : Int) (i j : Nat) : Int := sN (fun i' => sN (fun j' => g i' j' * CC K P s p i' j') 12) i + sN (fun j' => g i j' * CC K P s p i j') j
/-- a weight that is at most c -/
def GOK (K : Int → Int) (P : Int) (g : Int → Int → Int) (c : Int) : Prop := 0 ≤ c ∧ ∀ s q i j, 0 ≤ i → j ≤ 11 → 0 ≤ g i j * CC K P s q i j ∧ g i j * CC K P s q i j ≤ c * CC K P s q i j
theorem GOK_A {K : Int → Int} {P : Int} (hW : WF K) (h : FKP K P) : GOK K P gA 1 := ⟨by decide, fun s q i j i0 j1 => by have := gBC_le hW h s q i0 j1; omega⟩
theorem GOK_B {K : Int → Int} {P : Int} (hW : WF K) (h : FKP K P) : GOK K P gB 27720 := ⟨by decide, fun s q i j i0 j1 => by have := gBC_le hW h s q i0 j1; omega⟩
section GG
variable {K : Int → Int} {P : Int} {g : Int → Int → Int} {c : Int}
theorem Wg_le (hW : WF K) (h : FKP K P) (hg : GOK K P g c) (s : Nat) (q : Int) : 0 ≤ WG2 K P g s q ∧ WG2 K P g s q ≤ c * FW K s q := by
  refine ⟨sN_nn (f := fun i => sN (fun j => g i j * CC K P s q i j) 12) (fun i i0 i1 => sN_nn (f := fun j => g i j * CC K P s q i j) (fun j j0 j1 => (hg.2 s q i j (by omega) (by omega)).1)), ?_⟩
  have m := Int.mul_le_mul_of_nonneg_left (MSS_le hW h s q) hg.1
  refine Int.le_trans ?_ m
  unfold WG2 MSS
  rw [Int.mul_comm, ← sN_mul]
  refine sN_leq (fun i i0 i1 => ?_)
  rw [← sN_mul]
  refine sN_leq (fun j j0 j1 => ?_)
  have := (hg.2 s q i j i0 (by omega)).2
  rw [Int.mul_comm c] at this
  exact this
theorem mulc {x c : Int} {s : Nat} (hs : s ≤ 10) (x0 : 0 ≤ x) (x1 : x ≤ c * 10 ^ s) : 0 ≤ x * 10 ^ (10 - s) ∧ x * 10 ^ (10 - s) ≤ c * 10000000000 := by
  have u := pow10_pos (10 - s)
  have m1 := Int.mul_nonneg x0 (show (0 : Int) ≤ 10 ^ (10 - s) by omega)
  have m2 := Int.mul_le_mul_of_nonneg_right x1 (show (0 : Int) ≤ 10 ^ (10 - s) by omega)
  rw [Int.mul_assoc, p10s hs] at m2
  exact ⟨m1, m2⟩
theorem sFW (hW : WF K) (hc : 0 ≤ c) {f : Int → Int} {s n : Nat} (hn : n ≤ 16) (hf : ∀ q, 0 ≤ f q ∧ f q ≤ c * FW K s q) : 0 ≤ sN f n ∧ sN f n ≤ c * 10 ^ s := by
  refine ⟨sN_nn (fun q _ _ => (hf q).1), ?_⟩
  have h1 := sN_leq (f := f) (g := fun q => FW K s q * c) (n := n) (fun q _ _ => by rw [Int.mul_comm]; exact (hf q).2)
  rw [sN_mul] at h1
  have h2 := sN_mono (f := FW K s) (m := n) (n := 16) (fun q _ _ => (FW_bd hW s).1 q) hn
  have h3 := (FW_bd hW s).2
  have h4 := Int.mul_le_mul_of_nonneg_right (Int.le_trans h2 h3) hc
  rw [Int.mul_comm (10 ^ s)] at h4
  omega
theorem Tg_le (hW : WF K) (h : FKP K P) (hg : GOK K P g c) : ∀ s : Nat, s ≤ 11 → 0 ≤ TT2 K P g s ∧ TT2 K P g s ≤ c * ((s : Int) * 10000000000) := by
  intro s
  induction s with
  | zero => intro _; unfold TT2; rw [show ((0 : Nat) : Int) * 10000000000 = 0 by omega, Int.mul_zero]; omega
  | succ s ih =>
    intro hs
    have ih := ih (by omega)
    have e := sFW hW hg.1 (f := EX2 K P g s) (s := s) (n := 16) (by omega) (fun q => by
      have w := Wg_le hW h hg s q
      have f := (FW_bd hW s).1 q
      have m := Int.mul_nonneg hg.1 f
      unfold EX2
      split <;> omega)
    have m := mulc (s := s) (by omega) e.1 e.2
    have x : c * (((s + 1 : Nat) : Int) * 10000000000) = c * ((s : Int) * 10000000000) + c * 10000000000 := by rw [← Int.mul_add, show ((s + 1 : Nat) : Int) * 10000000000 = (s : Int) * 10000000000 + 10000000000 by omega]
    rw [x]
    unfold TT2
    omega
theorem ex_le (hW : WF K) (h : FKP K P) (hg : GOK K P g c) (s : Nat) (q : Int) : 0 ≤ EX2 K P g s q ∧ EX2 K P g s q ≤ c * FW K s q := by
  have w := Wg_le hW h hg s q
  have f := (FW_bd hW s).1 q
  have m := Int.mul_nonneg hg.1 f
  unfold EX2
  split <;> omega
theorem BS_bd (hW : WF K) (h : FKP K P) (hg : GOK K P g c) {s p : Nat} (hs : (s : Int) ≤ K 179) (hp : (p : Int) ≤ K 182) : 0 ≤ BSv K P g s p ∧ BSv K P g s p ≤ c * 130000000000 + c * 10000000000 := by
  have hd := hW.2.2.1
  have hpl := hW.1
  have t := Tg_le hW h hg s (by omega)
  have t2 := Int.mul_le_mul_of_nonneg_left (show (s : Int) * 10000000000 ≤ 100000000000 by omega) hg.1
  have l := sFW hW hg.1 (f := lsF K (WG2 K P g s)) (s := s) (n := 16) (by omega) (fun q => by
    have w := Wg_le hW h hg s q
    have f := (FW_bd hW s).1 q
    have m := Int.mul_nonneg hg.1 f
    unfold lsF
    split <;> omega)
  have e := sFW hW hg.1 (f := EX2 K P g s) (s := s) (n := p) (by omega) (ex_le hW h hg s)
  have m1 := mulc (s := s) (by omega) l.1 l.2
  have m2 := mulc (s := s) (by omega) e.1 e.2
  have f4 : 0 ≤ (if (s : Int) < K 179 then sN (lsF K (FP K (WG2 K P g s) p)) 16 * 10 ^ (10 - (s + 1)) else 0) ∧ (if (s : Int) < K 179 then sN (lsF K (FP K (WG2 K P g s) p)) 16 * 10 ^ (10 - (s + 1)) else 0) ≤ c * 10000000000 := by
    split
    · have nn := fun q => FP_nn hW (f := WG2 K P g s) (fun r _ _ => (Wg_le hW h hg s r).1) p hp q
      have a1 := ls_le (K := K) (f := FP K (WG2 K P g s) p) (n := 16) (fun q _ _ => nn q)
      have a2 := FP_sum hW (f := WG2 K P g s) (fun r _ _ => (Wg_le hW h hg s r).1) p hp
      have a3 := sFW hW hg.1 (f := WG2 K P g s) (s := s) (n := p) (by omega) (Wg_le hW h hg s)
      have a4 : sN (lsF K (FP K (WG2 K P g s) p)) 16 ≤ c * 10 ^ (s + 1) := by
        rw [Int.pow_succ, ← Int.mul_assoc]; omega
      exact mulc (s := s + 1) (by omega) a1.1 a4
    · have := hg.1; omega
  unfold BSv
  omega
theorem cO_rg (hW : WF K) {s : Nat} {p : Int} (p0 : 0 ≤ p) (p1 : p < K 182) : 0 ≤ cO K s p ∧ cO K s p ≤ 10 ^ (10 - s) := by
  have hd := hW.2.2.1
  unfold cO
  have u := pow10_pos (10 - s)
  split
  · next hgo =>
    have u1 := pow10_pos (10 - (s + 1))
    have l := ls_le (K := K) (f := cn K p) (n := 16) (fun q _ _ => (cn_nn hW p0 p1 q).1)
    have cs := cn_sum hW p0 p1
    rw [if_neg hgo.2.1] at cs
    have pw : (10 : Int) ^ (10 - s) = 10 * 10 ^ (10 - (s + 1)) := by
      have := hgo.2.2
      rw [show 10 - s = 10 - (s + 1) + 1 by omega, Int.pow_succ, Int.mul_comm]
    refine ⟨Int.mul_nonneg l.1 (by omega), ?_⟩
    rw [pw]
    exact Int.mul_le_mul_of_nonneg_right (by omega) (by omega)
  · omega
theorem PT_rg (hW : WF K) (h : FKP K P) (hg : GOK K P g c) {s : Nat} {p : Int} {i j : Nat} (hi : i < 12) (hj : j ≤ 12) : 0 ≤ PTv K P g s p i j ∧ PTv K P g s p i j ≤ c * FW K s p := by
  have w := Wg_le hW h hg s p
  have n1 : ∀ r : Int, 0 ≤ r → r < (12 : Nat) → 0 ≤ (fun i' => sN (fun j' => g i' j' * CC K P s p i' j') 12) r := fun r r0 r1 => sN_nn (f := fun j => g r j * CC K P s p r j) (fun j j0 j1 => (hg.2 s p r j (by omega) (by omega)).1)
  have a1 := sN_nn (f := fun i' => sN (fun j' => g i' j' * CC K P s p i' j') 12) (n := i) (fun r r0 r1 => n1 r (by omega) (by omega))
  have a2 := sN_nn (f := fun j' => g i j' * CC K P s p i j') (n := j) (fun r r0 r1 => (hg.2 s p i r (by omega) (by omega)).1)
  have a3 := sN_mono (f := fun j' => g i j' * CC K P s p i j') (m := j) (n := 12) (fun r r0 r1 => (hg.2 s p i r (by omega) (by omega)).1) hj
  have a4 := sN_mono (f := fun i' => sN (fun j' => g i' j' * CC K P s p i' j') 12) (m := i + 1) (n := 12) (fun r r0 r1 => n1 r (by omega) (by omega)) (by omega)
  have a5 : sN (fun i' => sN (fun j' => g i' j' * CC K P s p i' j') 12) (i + 1) = sN (fun i' => sN (fun j' => g i' j' * CC K P s p i' j') 12) i + sN (fun j' => g i j' * CC K P s p i j') 12 := rfl
  have a6 : WG2 K P g s p = sN (fun i' => sN (fun j' => g i' j' * CC K P s p i' j') 12) 12 := rfl
  unfold PTv
  omega
theorem V_bd (hW : WF K) (h : FKP K P) (hg : GOK K P g c) {s p i j : Nat} (hs : (s : Int) ≤ K 179) (hp : (p : Int) < K 182) (hi : i < 12) (hj : j ≤ 12) : 0 ≤ BSv K P g s p + PTv K P g s p i j * cO K s p ∧ BSv K P g s p + PTv K P g s p i j * cO K s p ≤ c * 150000000000 := by
  have hd := hW.2.2.1
  have hpl := hW.1
  have b := BS_bd hW h hg hs (p := p) (by omega)
  have t := PT_rg (s := s) (p := p) hW h hg hi hj
  have o := cO_rg (s := s) (p := p) hW (by omega) hp
  have f := FW_le hW s (q := p) (by omega) (by omega)
  have m1 := Int.mul_nonneg t.1 o.1
  have t2 : PTv K P g s p i j ≤ c * 10 ^ s := by
    have := Int.mul_le_mul_of_nonneg_left f.2 hg.1
    omega
  have m2 := Int.mul_le_mul_of_nonneg_left o.2 t.1
  have m3 := mulc (s := s) (by omega) t.1 t2
  omega
theorem PT_j {s : Nat} {p : Int} {i j : Nat} : PTv K P g s p i (j + 1) = PTv K P g s p i j + g i j * CC K P s p i j := by
  unfold PTv
  rw [Int.add_assoc]
  rfl
theorem PT_i (h : FKP K P) {s : Nat} {p : Int} {i : Nat} : PTv K P g s p (i + 1) (i + 1) = PTv K P g s p i 12 := by
  have z : sN (fun j' => g ((i + 1 : Nat) : Int) j' * CC K P s p ((i + 1 : Nat) : Int) j') (i + 1) = 0 := sN_zero _ (fun r r0 r1 => by rw [CC_sup h s p _ _ (by omega), Int.mul_zero])
  show sN (fun i' => sN (fun j' => g i' j' * CC K P s p i' j') 12) (i + 1) + sN (fun j' => g ((i + 1 : Nat) : Int) j' * CC K P s p ((i + 1 : Nat) : Int) j') (i + 1) = _
  rw [z, Int.add_zero]
  rfl
theorem PT_end (h : FKP K P) {s : Nat} {p : Int} : PTv K P g s p 12 12 = WG2 K P g s p := by
  have z : sN (fun j' => g ((12 : Nat) : Int) j' * CC K P s p ((12 : Nat) : Int) j') 12 = 0 := sN_zero _ (fun r r0 r1 => by rw [CC_sup h s p _ _ (by omega), Int.mul_zero])
  show sN (fun i' => sN (fun j' => g i' j' * CC K P s p i' j') 12) 12 + sN (fun j' => g ((12 : Nat) : Int) j' * CC K P s p ((12 : Nat) : Int) j') 12 = _
  rw [z, Int.add_zero]
  rfl
theorem BS_p {s p : Nat} (hp : (p : Int) < K 182) : BSv K P g s (p + 1) = BSv K P g s p + WG2 K P g s p * cO K s p := by
  have e1 : sN (EX2 K P g s) (p + 1) = sN (EX2 K P g s) p + EX2 K P g s p := rfl
  unfold BSv
  rw [e1, ls_FP, Int.add_mul, Int.add_mul]
  unfold EX2 cO
  by_cases hd : (s : Int) < K 179
  · rw [if_pos hd, if_pos hd]
    by_cases k3 : K (10 * p) = 3
    · rw [if_neg (fun z => z.2.1 k3), if_neg (fun z => z.2.1 k3)]
      have cz : sN (lsF K (cn K p)) 16 = 0 := sN_zero _ (fun q _ _ => by unfold lsF cn; rw [if_pos k3]; split <;> rfl)
      rw [cz, Int.zero_mul, Int.zero_mul]
      omega
    · rw [if_pos ⟨hp, k3, hd⟩, if_pos ⟨hp, k3, hd⟩, Int.zero_mul, Int.mul_comm (sN (lsF K (cn K p)) 16), Int.mul_assoc]
      omega
  · rw [if_neg hd, if_neg hd, if_neg (fun z => hd z.2.2), if_neg (fun z => hd z.2.2)]
    omega
theorem BS_s (hW : WF K) (h : FKP K P) {s : Nat} : BSv K P g s (K 182).toNat = if (s : Int) < K 179 then BSv K P g (s + 1) 0 else TT2 K P g (s + 1) := by
  have t : TT2 K P g (s + 1) = TT2 K P g s + sN (EX2 K P g s) 16 * 10 ^ (10 - s) := rfl
  rw [EX2_split hW, Int.add_mul] at t
  unfold BSv
  by_cases hd : (s : Int) < K 179
  · rw [if_pos hd, if_pos hd]
    have e1 : lsF K (WG2 K P g (s + 1)) = lsF K (FP K (WG2 K P g s) (K 182).toNat) := by
      funext q
      unfold lsF
      split
      · rfl
      · exact WG2_off h (by omega)
    have e2 : sN (EX2 K P g (s + 1)) 0 = 0 := rfl
    have e3 : sN (lsF K (FP K (WG2 K P g (s + 1)) 0)) 16 = 0 := sN_zero _ (fun q _ _ => by unfold lsF FP; split <;> rfl)
    rw [e1, e2, e3, Int.zero_mul, Int.zero_mul, t]
    split <;> omega
  · rw [if_neg hd, if_neg hd, t]; omega
theorem BS_0 (h : FKP K P) (g0 : ∀ i, g i 0 = 0) : BSv K P g 0 0 = 0 := by
  have e1 : sN (lsF K (WG2 K P g 0)) 16 = 0 := sN_zero _ (fun q _ _ => by
    unfold lsF
    split
    · rfl
    · refine sN_zero 12 (fun i _ _ => sN_zero 12 (fun j _ _ => ?_))
      unfold CC
      by_cases e : q = K 178 ∧ i = mE P q ∧ j = lQ K P q
      · rw [e.2.2]
        have : lQ K P q = 0 := by unfold lQ; rw [if_neg (by omega)]
        rw [this, g0, Int.zero_mul]
      · rw [if_neg e, Int.mul_zero])
  have e2 : sN (EX2 K P g 0) 0 = 0 := rfl
  have e3 : sN (lsF K (FP K (WG2 K P g 0) 0)) 16 = 0 := sN_zero _ (fun q _ _ => by unfold lsF FP; split <;> rfl)
  unfold BSv TT2
  rw [e1, e2, e3]
  split <;> omega
end GG
