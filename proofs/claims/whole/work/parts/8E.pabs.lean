/-! the POLYNOMIAL: how large its numbers get -/
def ab (x : Int) : Int := max x (-x)
theorem ab_add (x y : Int) : ab (x + y) ≤ ab x + ab y := by unfold ab; omega
theorem ab_mul {c x : Int} (h : 0 ≤ c) : ab (c * x) ≤ c * ab x := by
  have h1 := Int.mul_le_mul_of_nonneg_left (show x ≤ ab x by unfold ab; omega) h
  have h2 := Int.mul_le_mul_of_nonneg_left (show -x ≤ ab x by unfold ab; omega) h
  rw [Int.mul_neg] at h2
  show max (c * x) (-(c * x)) ≤ _
  omega
theorem sN_leq {f g : Int → Int} {n : Nat} (h : ∀ q : Int, 0 ≤ q → q < n → f q ≤ g q) : sN f n ≤ sN g n := by
  induction n with
  | zero => exact Int.le_refl _
  | succ n ih =>
    unfold sN
    have := ih (fun q a b => h q a (by omega))
    have := h n (by omega) (by omega)
    omega
def sA (f : Int → Int) : Int := sN (fun i => ab (f i)) 11
theorem sA_nn (f : Int → Int) : 0 ≤ sA f := sN_nn (fun q _ _ => by unfold ab; omega)
theorem sA_at (f : Int → Int) {i : Int} (i0 : 0 ≤ i) (i1 : i < 11) : -sA f ≤ f i ∧ f i ≤ sA f := by
  have := sN_le (f := fun i => ab (f i)) (n := 11) (fun q _ _ => by unfold ab; omega) i0 (by omega)
  have : ab (f i) ≤ sA f := this
  unfold ab at this
  omega
def wA (K : Int → Int) (lk p q : Int) : Int := if OPN K lk p then (if rdc K p 0 = q then 10 else 0) + (if rdc K p 1 = q then 20 else 0) else cn K p q
def AEP (K : Int → Int) (lk : Int) (f : Int → Int) : Nat → Int → Int
  | 0, _ => 0
  | n + 1, q => AEP K lk f n q + wA K lk n q * f n
def AE (K : Int → Int) (lk : Int) : Nat → Int → Int
  | 0, q => if q = K 178 then 1 else 0
  | s + 1, q => AEP K lk (AE K lk s) (K 182).toNat q
theorem wA_nn {K : Int → Int} {lk : Int} (hW : WF K) {p : Int} (p0 : 0 ≤ p) (p1 : p < K 182) (q : Int) : 0 ≤ wA K lk p q := by
  unfold wA
  split
  · split <;> split <;> omega
  · exact (cn_nn hW p0 p1 q).1
theorem wA_sum {K : Int → Int} {lk : Int} (hW : WF K) {p : Int} (p0 : 0 ≤ p) (p1 : p < K 182) : sN (wA K lk p) 16 ≤ 30 := by
  by_cases ho : OPN K lk p
  · have e : wA K lk p = fun q => (if rdc K p 0 = q then 10 else 0) + (if rdc K p 1 = q then 20 else 0) := by
      funext q; unfold wA; rw [if_pos ho]
    have k3 : K (10 * p) ≠ 3 := by have := ho.1; omega
    have r0 := rdc_nn hW p0 p1 k3 (k := 0) (by omega)
    have r1 := rdc_nn hW p0 p1 k3 (k := 1) (by omega)
    rw [e, sN_add, sN_ind r0.1, sN_ind r1.1]
    split <;> split <;> omega
  · have e : wA K lk p = cn K p := by funext q; unfold wA; rw [if_neg ho]
    rw [e, cn_sum hW p0 p1]
    split <;> omega
theorem AEP_nn {K : Int → Int} {lk : Int} (hW : WF K) {f : Int → Int} (hf : ∀ q, 0 ≤ q → q < K 182 → 0 ≤ f q) : ∀ n : Nat, (n : Int) ≤ K 182 → ∀ q, 0 ≤ AEP K lk f n q := by
  intro n
  induction n with
  | zero => intro _ q; unfold AEP; omega
  | succ n ih =>
    intro hn q
    unfold AEP
    have := ih (by omega) q
    have := Int.mul_nonneg (wA_nn (lk := lk) hW (p := n) (by omega) (by omega) q) (hf n (by omega) (by omega))
    omega
theorem AEP_sum {K : Int → Int} {lk : Int} (hW : WF K) {f : Int → Int} (hf : ∀ q, 0 ≤ q → q < K 182 → 0 ≤ f q) : ∀ n : Nat, (n : Int) ≤ K 182 → sN (AEP K lk f n) 16 ≤ 30 * sN f n := by
  intro n
  induction n with
  | zero =>
    intro _
    have : AEP K lk f 0 = fun q => (fun _ => 0) q * (0 : Int) := by funext q; rfl
    rw [this, sN_mul]
    unfold sN
    omega
  | succ n ih =>
    intro hn
    have ih := ih (by omega)
    have e : AEP K lk f (n + 1) = fun q => AEP K lk f n q + (fun q => wA K lk n q * f n) q := rfl
    have h := hf n (by omega) (by omega)
    have := Int.mul_le_mul_of_nonneg_right (wA_sum (lk := lk) hW (p := n) (by omega) (by omega)) h
    rw [e, sN_add, sN_mul]
    show _ ≤ 30 * (sN f n + f n)
    omega
theorem AE_bd {K : Int → Int} {lk : Int} (hW : WF K) : ∀ s : Nat, (∀ q, 0 ≤ AE K lk s q) ∧ sN (AE K lk s) 16 ≤ 30 ^ s := by
  intro s
  have hpl := hW.1
  induction s with
  | zero =>
    refine ⟨fun q => by unfold AE; split <;> omega, ?_⟩
    have e : AE K lk 0 = fun q => if K 178 = q then 1 else 0 := by
      funext q
      unfold AE
      by_cases h : q = K 178
      · rw [if_pos h, if_pos h.symm]
      · rw [if_neg h, if_neg (fun z => h z.symm)]
    rw [e, sN_ind hW.2.1.1]
    split
    · decide
    · decide
  | succ s ih =>
    have nn : ∀ q, 0 ≤ AE K lk (s + 1) q := fun q => AEP_nn hW (fun q _ _ => ih.1 q) _ (by omega) q
    refine ⟨nn, ?_⟩
    have h1 : sN (AE K lk (s + 1)) 16 ≤ 30 * sN (AE K lk s) (K 182).toNat := AEP_sum hW (fun q _ _ => ih.1 q) _ (by omega)
    have h2 : sN (AE K lk s) (K 182).toNat ≤ sN (AE K lk s) 16 := sN_mono (fun q _ _ => ih.1 q) (by omega)
    rw [Int.pow_succ]
    omega
theorem cq_abs {K : Int → Int} {lk : Int} (hW : WF K) {f : Int → Int} (hf : f (-1) = 0) {p : Int} (p0 : 0 ≤ p) (p1 : p < K 182) (q : Int) : sA (cq K lk f p q) ≤ wA K lk p q * sA f := by
  have sh : sN (fun i => ab (f (i - 1))) 11 ≤ sA f := by
    have e := sN_shift (fun i => ab (f i)) 10
    have e0 : ab (f (-1)) = 0 := by rw [hf]; rfl
    have e1 : sN (fun i => ab (f (i - 1))) 11 = ab (f (-1)) + sN (fun i => ab (f i)) 10 := e
    have e2 : sA f = sN (fun i => ab (f i)) 10 + ab (f ((10 : Nat) : Int)) := rfl
    have : 0 ≤ ab (f ((10 : Nat) : Int)) := by unfold ab; omega
    omega
  by_cases ho : OPN K lk p
  · have pt : ∀ i, ab (cq K lk f p q i) ≤ (if rdc K p 0 = q then 10 else 0) * ab (f (i - 1)) + (if rdc K p 1 = q then 10 else 0) * (ab (f i) + ab (f (i - 1))) := by
      intro i
      unfold cq
      rw [if_pos ho]
      by_cases z : rdc K p 0 = q
      · by_cases o : rdc K p 1 = q
        · rw [if_pos z, if_pos o, if_pos z, if_pos o]; unfold ab; omega
        · rw [if_pos z, if_neg o, if_pos z, if_neg o]; unfold ab; omega
      · by_cases o : rdc K p 1 = q
        · rw [if_neg z, if_pos o, if_neg z, if_pos o]; unfold ab; omega
        · rw [if_neg z, if_neg o, if_neg z, if_neg o]; unfold ab; omega
    have s1 : sA (cq K lk f p q) ≤ sN (fun i => (fun i => ab (f (i - 1)) * (if rdc K p 0 = q then 10 else 0)) i + (fun i => (fun i => ab (f i) + ab (f (i - 1))) i * (if rdc K p 1 = q then 10 else 0)) i) 11 := sN_leq (fun i _ _ => by
      have := pt i
      dsimp only
      rw [Int.mul_comm (ab (f (i - 1))), Int.mul_comm (ab (f i) + ab (f (i - 1)))]
      exact this)
    rw [sN_add, sN_mul, sN_mul, sN_add] at s1
    have e : sN (fun i => ab (f i)) 11 = sA f := rfl
    rw [e] at s1
    generalize sN (fun i => ab (f (i - 1))) 11 = x at *
    have nn := sA_nn f
    generalize sA f = y at *
    refine Int.le_trans s1 ?_
    unfold wA
    rw [if_pos ho]
    by_cases z : rdc K p 0 = q
    · by_cases o : rdc K p 1 = q
      · rw [if_pos z, if_pos o, if_pos o]; omega
      · rw [if_pos z, if_neg o, if_neg o]; omega
    · by_cases o : rdc K p 1 = q
      · rw [if_neg z, if_pos o, if_pos o]; omega
      · rw [if_neg z, if_neg o, if_neg o]; omega
  · have hc := (cn_nn hW p0 p1 q).1
    have s1 : sA (cq K lk f p q) ≤ sN (fun i => ab (f i) * cn K p q) 11 := sN_leq (fun i _ _ => by
      unfold cq
      rw [if_neg ho, Int.mul_comm (ab (f i))]
      exact ab_mul hc)
    rw [sN_mul] at s1
    unfold wA
    rw [if_neg ho, Int.mul_comm]
    exact s1
theorem sA_add (f g : Int → Int) : sA (fun i => f i + g i) ≤ sA f + sA g := by
  unfold sA
  rw [← sN_add]
  exact sN_leq (fun i _ _ => ab_add _ _)
theorem FQP_abs {K : Int → Int} {lk : Int} (hW : WF K) {F : Int → Int → Int} {A : Int → Int} (hF : ∀ q, F q (-1) = 0) (hA : ∀ p, 0 ≤ p → p < K 182 → sA (F p) ≤ A p) : ∀ n : Nat, (n : Int) ≤ K 182 → ∀ q, sA (FQP K lk F n q) ≤ AEP K lk A n q := by
  intro n
  induction n with
  | zero =>
    intro _ q
    have : FQP K lk F 0 q = fun _ => 0 := by funext i; rfl
    rw [this]
    show sN (fun _ => ab 0) 11 ≤ 0
    decide
  | succ n ih =>
    intro hn q
    have i1 := ih (by omega) q
    have i2 := cq_abs (lk := lk) hW (hF n) (p := n) (by omega) (by omega) q
    have i3 := Int.mul_le_mul_of_nonneg_left (hA n (by omega) (by omega)) (wA_nn (lk := lk) hW (p := n) (by omega) (by omega) q)
    have e : FQP K lk F (n + 1) q = fun i => FQP K lk F n q i + cq K lk (F n) n q i := rfl
    have i4 := sA_add (FQP K lk F n q) (cq K lk (F n) n q)
    rw [e]
    show _ ≤ AEP K lk A n q + wA K lk n q * A n
    omega
theorem FQ_abs {K : Int → Int} {lk : Int} (hW : WF K) : ∀ (s : Nat) (q : Int), sA (FQ K lk s q) ≤ AE K lk s q := by
  have hpl := hW.1
  intro s
  induction s with
  | zero =>
    intro q
    by_cases h : q = K 178
    · have e : FQ K lk 0 q = fun i => if i = 0 then 1 else 0 := by
        funext i
        unfold FQ
        by_cases hi : i = 0
        · rw [if_pos ⟨h, hi⟩, if_pos hi]
        · rw [if_neg (fun z => hi z.2), if_neg hi]
      have e2 : AE K lk 0 q = 1 := by unfold AE; rw [if_pos h]
      rw [e, e2]
      decide
    · have e : FQ K lk 0 q = fun _ => 0 := by
        funext i
        unfold FQ
        rw [if_neg (fun z => h z.1)]
      have e2 : AE K lk 0 q = 0 := by unfold AE; rw [if_neg h]
      rw [e, e2]
      decide
  | succ s ih =>
    intro q
    exact FQP_abs (lk := lk) hW (fun q => FQ_neg s q (-1) (by omega)) (fun p _ _ => ih p) _ (by omega) q
theorem FQP_bd {K : Int → Int} {lk : Int} (hW : WF K) {s n : Nat} (hn : (n : Int) ≤ K 182) {q i : Int} (q0 : 0 ≤ q) (q1 : q < 16) (i0 : 0 ≤ i) (i1 : i < 11) : -(30 ^ (s + 1)) ≤ FQP K lk (FQ K lk s) n q i ∧ FQP K lk (FQ K lk s) n q i ≤ 30 ^ (s + 1) := by
  have hpl := hW.1
  have a1 := sA_at (FQP K lk (FQ K lk s) n q) i0 i1
  have a2 := FQP_abs (lk := lk) hW (F := FQ K lk s) (fun q => FQ_neg s q (-1) (by omega)) (fun p _ _ => FQ_abs hW s p) n hn q
  obtain ⟨b1, b2⟩ := AE_bd (lk := lk) hW s
  have a3 := sN_le (f := AEP K lk (AE K lk s) n) (n := 16) (fun q _ _ => AEP_nn hW (fun q _ _ => b1 q) n hn q) q0 (by omega)
  have a4 := AEP_sum (lk := lk) hW (f := AE K lk s) (fun q _ _ => b1 q) n hn
  have a5 := sN_mono (f := AE K lk s) (m := n) (n := 16) (fun q _ _ => b1 q) (by omega)
  rw [Int.pow_succ]
  omega
theorem FQ_bd {K : Int → Int} {lk : Int} (hW : WF K) (s : Nat) {q i : Int} (q0 : 0 ≤ q) (q1 : q < 16) (i0 : 0 ≤ i) (i1 : i < 11) : -(30 ^ s) ≤ FQ K lk s q i ∧ FQ K lk s q i ≤ 30 ^ s := by
  have a1 := sA_at (FQ K lk s q) i0 i1
  have a2 := FQ_abs (lk := lk) hW s q
  obtain ⟨b1, b2⟩ := AE_bd (lk := lk) hW s
  have a3 := sN_le (f := AE K lk s) (n := 16) (fun q _ _ => b1 q) q0 (by omega)
  omega
theorem pow30 : ∀ s : Nat, s ≤ 10 → (30 : Int) ^ s * 10 ^ (10 - s) ≤ 600000000000000 := by decide +kernel
theorem pow30n : ∀ s : Nat, s ≤ 9 → (30 : Int) ^ s * 10 ^ (10 - (s + 1)) ≤ 60000000000000 := by decide +kernel
theorem scl {x B u : Int} (hu : 0 ≤ u) (h : -B ≤ x ∧ x ≤ B) : -(B * u) ≤ x * u ∧ x * u ≤ B * u := wone hu h
/-! the class's Flow: start, goOn, factor -/
theorem c_startW {d a b : Nat} {M : ZM} {K : Int → Int} {w : Int} {Q : ZM → Prop} (hx : NX M a b) (hw : w = 11 ∨ w = 24) (hL : CL K M) (hT : CT K M) (hD : HD (M 91)) (hQ : ∀ M', (∀ x, x ≠ 94 → x ≠ 106 → x ≠ a → M' x = M x) → (∀ k, k ≠ 3 → M' 106 k = M 106 k) → M' 106 3 = w → CT K M' → CF K M' → (∀ q i, 0 ≤ q → q < 16 → 0 ≤ i → i < w → M' a (q * w + i) = if q = K 178 ∧ i = 0 then 10000000000 else 0) → Q M') : zcV (d + 2) 17 [zA 106, zI w] M Q := by
  obtain ⟨hW, c1, c2, c3⟩ := id hL
  obtain ⟨z1, z2, z3, z4, z5, z6, z7, z8⟩ := hx.zk
  have a2 := hW.2.1
  have hpl := hW.1
  have ao : ∀ x, x < 107 → x ≠ a := by intro x hx'; rcases hx.1 with ⟨rfl, rfl⟩ | ⟨rfl, rfl⟩ <;> omega
  apply vX2_start
  intro M1 hM1
  have r1 : ∀ x, x ≠ 106 → M1 x = M x := fun x hx => by subst hM1; exact zup_row hx
  have v1 : ∀ k, M1 106 k = if k = 3 then w else M 106 k := fun k => by subst hM1; exact zup_at
  refine c_share (d := d) (K := K) (hL.congr (fun x hx => r1 x (by omega))) (fun p p0 p1 => by rw [r1 94 (by decide)]; exact hT p p0 p1) (by rw [r1 91 (by decide)]; exact hD) (fun M2 r2 T2 F2 => ?_)
  have x1 : M2 106 1 = a := by rw [r2 106 (by decide), v1, if_neg (by omega)]; exact hx.2.1
  rw [x1, Int.toNat_natCast]
  refine c_fillL (n := 384) z7 z5 (by omega) ?_
  generalize hM3 : zrow M2 a (fun j => if 0 ≤ j ∧ j < ((384 : Nat) : Int) then (0 : Int) else M2 a j) = M3
  have r3 : ∀ x, x ≠ a → M3 x = M2 x := fun x hx => by subst hM3; exact zrow_ne hx
  have v3 : ∀ q, 0 ≤ q → q < 384 → M3 a q = 0 := fun q q0 q1 => by subst hM3; rw [zrow_at, if_pos (by omega)]
  have y1 : M3 106 1 = a := by rw [r3 106 (ao 106 (by decide))]; exact x1
  have y3 : M3 106 3 = w := by rw [r3 106 (ao 106 (by decide)), r2 106 (by decide), v1, if_pos rfl]
  have y5 : M3 55 0 = K 178 := by rw [r3 55 (ao 55 (by decide)), r2 55 (by decide), r1 55 (by decide)]; exact c2.1
  have ir := ix_rg hw a2.1 (by omega) (i := 0) (by omega) (by omega)
  rw [y1, y3, y5, Int.toNat_natCast, z1, z2, z5]
  refine ⟨⟨by omega, by omega⟩, ⟨by omega, by omega⟩, ⟨by omega, by omega⟩, zset ?_⟩
  refine hQ _ (fun x h1 h2 h3 => ?_) (fun k hk => ?_) ?_ (fun p p0 p1 => ?_) (fun p p0 p1 pk => ?_) (fun q i q0 q1 i0 i1 => ?_)
  · rw [zup_row h3, r3 x h3, r2 x h1, r1 x h2]
  · rw [zup_row (ao 106 (by decide)), r3 106 (ao 106 (by decide)), r2 106 (by decide), v1, if_neg hk]
  · rw [zup_row (ao 106 (by decide))]; exact y3
  · rw [zup_row (ao 94 (by decide)), r3 94 (ao 94 (by decide))]; exact T2 p p0 p1
  · rw [zup_row (ao 94 (by decide)), r3 94 (ao 94 (by decide)), zup_row (ao 91 (by decide)), r3 91 (ao 91 (by decide))]; exact F2 p p0 p1 pk
  · rw [zup_at]
    have ib := ix_rg hw q0 q1 i0 i1
    by_cases e : q * w + i = K 178 * w
    · obtain ⟨e1, e2⟩ := ix_inj (i' := 0) hw i0 i1 (by omega) (by omega) (show q * w + i = K 178 * w + 0 by omega)
      rw [if_pos e, if_pos ⟨e1, e2⟩]
    · rw [if_neg e, v3 _ ib.1 ib.2.1, if_neg]
      rintro ⟨rfl, rfl⟩
      omega
theorem c_goOnP {d a b s : Nat} {M : ZM} {K : Int → Int} {lk : Int} {Q : ZM → Prop} (hx : NX M a b) (hw : M 106 3 = 11) (hL : CL K M) (hT : CT K M) (hF : CF K M) (hH : ∀ j, 0 ≤ j → j < 18 → M 91 j = K (160 + j)) (hs : (s : Int) ≤ K 179) (hn : ∀ q i, 0 ≤ q → q < 16 → 0 ≤ i → i < 11 → M a (q * 11 + i) = FQ K lk s q i * 10 ^ (10 - s)) (hQ : ∀ M', (∀ x, x ≠ 106 → x ≠ b → M' x = M x) → (∀ k, k ≠ 1 → k ≠ 2 → M' 106 k = M 106 k) → NX M' b a → ((s : Int) < K 179 → ∀ q i, 0 ≤ q → q < 16 → 0 ≤ i → i < 11 → M' b (q * 11 + i) = FQ K lk (s + 1) q i * 10 ^ (10 - (s + 1))) → Q M') : zcV (d + 2) 18 [zA 106, zI (s : Int), zI lk] M Q := by
  obtain ⟨hW, c1, c2, c3⟩ := id hL
  obtain ⟨a1, a2, a3, a4, a5, a6, a7, a8⟩ := id hW
  obtain ⟨z1, z2, z3, z4, z5, z6, z7, z8⟩ := hx.zk
  have hab : a ≠ b := by rcases hx.1 with ⟨rfl, rfl⟩ | ⟨rfl, rfl⟩ <;> decide
  have b106 : b ≠ 106 := by rcases hx.1 with ⟨rfl, rfl⟩ | ⟨rfl, rfl⟩ <;> decide
  have bo : ∀ x, x ≤ 105 → x ≠ b := by rcases hx.1 with ⟨rfl, rfl⟩ | ⟨rfl, rfl⟩ <;> intro x h <;> omega
  apply vX2_goOn
  rw [hx.2.2, Int.toNat_natCast]
  refine c_fillL (n := 384) z8 z6 (by decide) ?_
  let Inv := fun (p : Int) (M1 : ZM) => (∀ x, x ≠ b → M1 x = M x) ∧ ((s : Int) < K 179 → ∀ q i, 0 ≤ q → q < 16 → 0 ≤ i → i < 11 → M1 b (q * 11 + i) = FQP K lk (FQ K lk s) (if p < K 182 then p else K 182).toNat q i * 10 ^ (10 - (s + 1)))
  have lp : ∀ (n p : Nat) (M1 : ZM), p + n = 16 → Inv p M1 → wX2_goOn (d + 1) 10 [(0, zA 106), (1, zI (s : Int)), (2, zI lk), (3, zI p)] M1 Q := by
    intro n
    induction n with
    | zero =>
      intro p M1 hp hI
      obtain ⟨i1, i2⟩ := hI
      have x1 : M1 106 1 = a := by rw [i1 106 (Ne.symm b106)]; exact hx.2.1
      have x2 : M1 106 2 = b := by rw [i1 106 (Ne.symm b106)]; exact hx.2.2
      have o1 : b = 107 ∨ b = 108 := by rcases hx.1 with ⟨rfl, rfl⟩ | ⟨rfl, rfl⟩ <;> decide
      have o2 : a = 107 ∨ a = 108 := by rcases hx.1 with ⟨rfl, rfl⟩ | ⟨rfl, rfl⟩ <;> decide
      apply vX2_goOn_10
      rw [x1, x2, Int.toNat_natCast, Int.toNat_natCast]
      refine ⟨fun _ => ⟨o1, zset ⟨o2, zset (hQ _ (fun x y1 y2 => ?_) (fun k k1 k2 => ?_) ⟨?_, ?_, zup_eq⟩ (fun hd q i q0 q1 i0 i1' => ?_))⟩⟩, fun z => by omega⟩
      · rw [zup_row y1, zup_row y1, i1 x y2]
      · rw [zup_ne (fun z => k2 z.2), zup_ne (fun z => k1 z.2), i1 106 (Ne.symm b106)]
      · rcases hx.1 with h | h
        · exact Or.inr ⟨h.2, h.1⟩
        · exact Or.inl ⟨h.2, h.1⟩
      · rw [zup_ne (by omega), zup_eq]
      · rw [zup_row b106, zup_row b106, i2 hd q i q0 q1 i0 i1', if_neg (by omega)]
        rfl
    | succ n ih =>
      intro p M1 hp hI
      obtain ⟨i1, i2⟩ := hI
      have L1 : CL K M1 := hL.congr (fun x hx => i1 x (bo x (by omega)))
      have nxt : ¬ ((p : Int) < K 182 ∧ K (10 * p) ≠ 3 ∧ (s : Int) < K 179) → wX2_goOn (d + 1) 10 [(0, zA 106), (1, zI (s : Int)), (2, zI lk), (3, zI ((p : Int) + 1))] M1 Q := by
        intro hno
        refine ih (p + 1) M1 (by omega) ⟨i1, fun hd q i q0 q1 i0 i1' => ?_⟩
        rw [i2 hd q i q0 q1 i0 i1']
        by_cases hpl : (p : Int) < K 182
        · have k3 : K (10 * p) = 3 := by omega
          have e1 : (if (p : Int) < K 182 then (p : Int) else K 182).toNat = p := by rw [if_pos hpl]; omega
          have e2 : (if ((p + 1 : Nat) : Int) < K 182 then ((p + 1 : Nat) : Int) else K 182).toNat = p + 1 := by split <;> omega
          rw [e1, e2]
          show _ = (FQP K lk (FQ K lk s) p q i + cq K lk (FQ K lk s p) p q i) * _
          unfold cq cn
          rw [if_neg (fun z => by have := z.1; omega), if_pos k3, Int.zero_mul, Int.add_zero]
        · rw [if_neg hpl, if_neg (by omega)]
      apply vX2_goOn_10
      refine ⟨fun z => by omega, fun _ => c_goesOn L1 (by omega) (fun hp1 k3 hd => ⟨fun _ => ?_, fun z => by omega⟩) (fun hno => ⟨fun z => by omega, fun _ => ⟨⟨by omega, by omega⟩, nxt hno⟩⟩)⟩
      have e45 : M1 45 p = K (10 * p) := by rw [i1 45 (bo 45 (by decide))]; exact (c3 p (by omega) hp1).1
      have e90 : K (10 * p) = 0 → M1 90 p = K (10 * p + 1) := fun k => by rw [i1 90 (bo 90 (by decide))]; exact (c3 p (by omega) hp1).2.1 k
      have e48 : M1 48 p = K (10 * p + 2) := by rw [i1 48 (bo 48 (by decide))]; exact (c3 p (by omega) hp1).2.2.2.2.1
      have hs9 : s ≤ 9 := by omega
      have pw : (10 : Int) ^ (10 - s) = 10 * 10 ^ (10 - (s + 1)) := by
        rw [show 10 - s = 10 - (s + 1) + 1 by omega, Int.pow_succ, Int.mul_comm]
      have u0 := pow10_pos (10 - (s + 1))
      have p30 := pow30n s hs9
      have e1 : (if (p : Int) < K 182 then (p : Int) else K 182).toNat = p := by rw [if_pos hp1]; omega
      have e2 : (if ((p + 1 : Nat) : Int) < K 182 then ((p + 1 : Nat) : Int) else K 182).toNat = p + 1 := by split <;> omega
      have bnd : ∀ q i, 0 ≤ q → q < 16 → 0 ≤ i → i < 11 → -1000000000000000000 ≤ M1 b (q * 11 + i) ∧ M1 b (q * 11 + i) ≤ 1000000000000000000 := by
        intro q i q0 q1 i0 i1'
        rw [i2 hd q i q0 q1 i0 i1', e1]
        have x := scl (u := 10 ^ (10 - (s + 1))) (by omega) (FQP_bd (lk := lk) hW (s := s) (n := p) (by omega) q0 q1 i0 i1')
        have y : (30 : Int) ^ (s + 1) * 10 ^ (10 - (s + 1)) ≤ 600000000000000 := pow30 (s + 1) (by omega)
        omega
      have cbd : ∀ i, 0 ≤ i → i < 11 → -60000000000000 ≤ FQ K lk s p i * 10 ^ (10 - (s + 1)) ∧ FQ K lk s p i * 10 ^ (10 - (s + 1)) ≤ 60000000000000 := by
        intro i i0 i1'
        have x := scl (u := 10 ^ (10 - (s + 1))) (by omega) (FQ_bd (lk := lk) hW s (q := p) (by omega) (by omega) i0 i1')
        omega
      have nx1 : NX M1 a b := ⟨hx.1, by rw [i1 106 (Ne.symm b106)]; exact hx.2.1, by rw [i1 106 (Ne.symm b106)]; exact hx.2.2⟩
      have fin : ∀ M2, (∀ x, x ≠ b → M2 x = M1 x) → (∀ q i, 0 ≤ q → q < 16 → 0 ≤ i → i < 11 → M2 b (q * 11 + i) = M1 b (q * 11 + i) + cq K lk (FQ K lk s p) p q i * 10 ^ (10 - (s + 1))) → r32 ((p : Int) + 1) ∧ wX2_goOn (d + 1) 10 [(0, zA 106), (1, zI (s : Int)), (2, zI lk), (3, zI ((p : Int) + 1))] M2 Q := by
        intro M2 r2 v2
        refine ⟨⟨by omega, by omega⟩, ih (p + 1) M2 (by omega) ⟨fun x hx => by rw [r2 x hx, i1 x hx], fun _ q i q0 q1 i0 i1' => ?_⟩⟩
        rw [v2 q i q0 q1 i0 i1', i2 hd q i q0 q1 i0 i1', e1, e2]
        show _ = (FQP K lk (FQ K lk s) p q i + cq K lk (FQ K lk s p) p q i) * _
        rw [Int.add_mul]
      -- a row that is passed on as it is
      have k82 : (∀ q i, cq K lk (FQ K lk s p) p q i = cn K p q * FQ K lk s p i) → wX2_goOn (d + 1) 82 [(0, zA 106), (1, zI (s : Int)), (2, zI lk), (3, zI p), (4, zI 0)] M1 Q := by
        intro hcq
        apply vX2_goOn_82
        refine ⟨fun _ => ?_, fun z => absurd rfl z⟩
        refine c_passRowW (a := a) (b := b) (K := K) (w := 11) (c := fun i => FQ K lk s p i * 10 ^ (10 - (s + 1))) nx1 (Or.inl rfl) (by rw [i1 106 (Ne.symm b106)]; exact hw) L1 (fun p p0 p1 => by rw [i1 94 (bo 94 (by decide))]; exact hT p p0 p1) (fun p p0 p1 pk => by rw [i1 94 (bo 94 (by decide)), i1 91 (bo 91 (by decide))]; exact hF p p0 p1 pk) (fun j j0 j1 => by rw [i1 91 (bo 91 (by decide))]; exact hH j j0 j1) (by omega) hp1 k3 (fun i i0 i1' => ?_) (fun i i0 i1' => ?_) bnd (fun M2 r2 v2 => fin M2 r2 (fun q i q0 q1 i0 i1' => ?_))
        · rw [i1 a hab, hn p i (by omega) (by omega) i0 i1', pw, Int.mul_left_comm]
        · have := cbd i i0 i1'
          omega
        · rw [v2 q i q0 q1 i0 i1', hcq, Int.mul_assoc]
      rw [e45]
      refine ⟨by omega, fun nf => k82 (fun q i => by unfold cq; rw [if_neg (fun z => nf z.1)]), fun k0 => ⟨by omega, fun z => k82 (fun q i => by unfold cq; rw [if_neg (fun y => z (by rw [e90 k0]; exact y.2))]), fun z => ⟨by omega, fun y => k82 (fun q i => ?_), fun y => ?_⟩⟩⟩
      · -- one ROAD alone
        rw [e90 k0] at z
        rw [e48] at y
        have rc := ((a8 p (by omega) hp1).2.1 k0).2
        have r1 : rdc K p 1 = rdc K p 0 := by unfold rdc; rw [if_neg (by omega), if_pos (by omega), show K (10 * (p : Int) + 2) - 1 = 0 by omega]
        have r2 : rdc K p 2 = rdc K p 0 := by unfold rdc; rw [if_neg (by omega), if_pos (by omega), show K (10 * (p : Int) + 2) - 1 = 0 by omega]
        have ws := wO_sum hW (p := p) (by omega) hp1 k3
        unfold cq cn
        rw [if_pos ⟨k0, z⟩, if_neg k3, r1, r2]
        by_cases e : rdc K p 0 = q
        · rw [if_pos e, if_pos e, if_pos e, if_pos e, if_pos e, ws.2.2.2]; omega
        · rw [if_neg e, if_neg e, if_neg e, if_neg e, if_neg e]; omega
      · rw [e90 k0] at z
        rw [e48] at y
        apply vX2_goOn_82
        refine ⟨fun z => by omega, fun _ => ?_⟩
        have g10 : FQ K lk s p 10 = 0 := FQ_high s p 10 (by omega)
        refine c_passOpen (a := a) (b := b) (K := K) (g := fun i => if 0 ≤ i ∧ i < 11 then FQ K lk s p i * 10 ^ (10 - s) else 0) nx1 (by rw [i1 106 (Ne.symm b106)]; exact hw) L1 (by omega) hp1 k0 (by omega) (fun i i0 i1' => ?_) (by rw [if_neg (by omega)]) (by rw [if_pos (by omega), g10, Int.zero_mul]) (fun i => ?_) bnd (fun M2 r2 v2 => fin M2 r2 (fun q i q0 q1 i0 i1' => ?_))
        · rw [if_pos (by omega), i1 a hab, hn p i (by omega) (by omega) i0 i1']
        · show _ ≤ _ ∧ _ ≤ _
          by_cases hi : 0 ≤ i ∧ i < 11
          · have := cbd i hi.1 hi.2
            rw [if_pos hi, pw, Int.mul_left_comm]
            omega
          · rw [if_neg hi]; omega
        · rw [v2 q i q0 q1 i0 i1']
          have x1 : (if 0 ≤ i ∧ i < 11 then FQ K lk s p i * 10 ^ (10 - s) else 0) = 10 * (FQ K lk s p i * 10 ^ (10 - (s + 1))) := by rw [if_pos (by omega), pw, Int.mul_left_comm]
          have x2 : (if 0 ≤ i - 1 ∧ i - 1 < 11 then FQ K lk s p (i - 1) * 10 ^ (10 - s) else 0) = 10 * (FQ K lk s p (i - 1) * 10 ^ (10 - (s + 1))) := by
            by_cases hi : 0 ≤ i - 1
            · rw [if_pos (by omega), pw, Int.mul_left_comm]
            · rw [if_neg (by omega), FQ_neg s p (i - 1) (by omega), Int.zero_mul]; rfl
          have hq : cq K lk (FQ K lk s p) p q i = 10 * ((if rdc K p 0 = q then FQ K lk s p (i - 1) else 0) + (if rdc K p 1 = q then FQ K lk s p i - FQ K lk s p (i - 1) else 0)) := if_pos ⟨k0, z⟩
          rw [x1, x2, hq]
          generalize (10 : Int) ^ (10 - (s + 1)) = u
          by_cases ez : rdc K p 0 = q
          · by_cases eo : rdc K p 1 = q
            · rw [if_pos ez, if_pos eo, if_pos ez, if_pos eo, Int.mul_assoc, Int.add_mul, Int.sub_mul]; omega
            · rw [if_pos ez, if_neg eo, if_pos ez, if_neg eo, Int.mul_assoc, Int.add_mul]; omega
          · by_cases eo : rdc K p 1 = q
            · rw [if_neg ez, if_pos eo, if_neg ez, if_pos eo, Int.mul_assoc, Int.add_mul, Int.sub_mul]; omega
            · rw [if_neg ez, if_neg eo, if_neg ez, if_neg eo, Int.mul_assoc, Int.add_mul]; omega
  refine lp 16 0 _ (by omega) ⟨fun x hx => zrow_ne hx, fun _ q i q0 q1 i0 i1 => ?_⟩
  rw [zrow_at, if_pos (by omega)]
  have : (if ((0 : Nat) : Int) < K 182 then ((0 : Nat) : Int) else K 182).toNat = 0 := by split <;> omega
  rw [this]
  show (0 : Int) = 0 * _
  omega
