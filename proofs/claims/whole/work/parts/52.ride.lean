/-! the book, by rows, without J -/
theorem BK.wf {K : Int → Int} {L : LB} (h : BK K L) : WF K := h.1
theorem BK.pl {K : Int → Int} {L : LB} (h : BK K L) : 0 ≤ K 182 ∧ K 182 ≤ 16 := h.1.1
theorem BK.size {M : ZM} (h : BK (M 115) (bL M 44)) : M 44 0 = M 115 182 := h.2.1
theorem BK.pq {M : ZM} (h : BK (M 115) (bL M 44)) {p : Int} (h0 : 0 ≤ p) (h1 : p < M 115 182) : PQ (M 115) (bL M 44) p := (h.2.2.1 p h0 h1).1
theorem BK.kind {M : ZM} (h : BK (M 115) (bL M 44)) {p : Int} (h0 : 0 ≤ p) (h1 : p < M 115 182) : M 45 p = M 115 (10 * p) := (h.pq h0 h1).1
theorem BK.look {M : ZM} (h : BK (M 115) (bL M 44)) {p : Int} (h0 : 0 ≤ p) (h1 : p < M 115 182) (hk : M 115 (10 * p) = 0) : M 46 p = M 115 (10 * p + 1) := (h.pq h0 h1).2.1 hk
theorem BK.toll {M : ZM} (h : BK (M 115) (bL M 44)) {p : Int} (h0 : 0 ≤ p) (h1 : p < M 115 182) (hk : M 115 (10 * p) = 2) : M 47 p = M 115 (10 * p + 1) := (h.pq h0 h1).2.2.1 hk
theorem BK.toll0 {M : ZM} (h : BK (M 115) (bL M 44)) {p : Int} (h0 : 0 ≤ p) (h1 : p < M 115 182) (hk : M 115 (10 * p) ≠ 2) : M 47 p = 0 := (h.pq h0 h1).2.2.2.1 hk
theorem BK.rc {M : ZM} (h : BK (M 115) (bL M 44)) {p : Int} (h0 : 0 ≤ p) (h1 : p < M 115 182) : M 48 p = M 115 (10 * p + 2) := (h.pq h0 h1).2.2.2.2.1
theorem BK.rd {M : ZM} (h : BK (M 115) (bL M 44)) {p k : Int} (h0 : 0 ≤ p) (h1 : p < M 115 182) (k0 : 0 ≤ k) (k1 : k < M 115 (10 * p + 2)) : M 49 (p * 3 + k) = M 115 (10 * p + 3 + k) := (h.pq h0 h1).2.2.2.2.2.1 k k0 k1
theorem BK.tn {M : ZM} (h : BK (M 115) (bL M 44)) {p k : Int} (h0 : 0 ≤ p) (h1 : p < M 115 182) (hk : M 115 (10 * p) = 1) (k0 : 0 ≤ k) (k1 : k < M 115 (10 * p + 2)) : M 50 (p * 3 + k) = M 115 (10 * p + 6 + k) := (h.pq h0 h1).2.2.2.2.2.2 hk k k0 k1
theorem BK.term {M : ZM} (h : BK (M 115) (bL M 44)) {i : Int} (h0 : 0 ≤ i) (h1 : i < 4) : M 55 i = M 115 (178 + i) := h.2.2.2.1 i h0 h1
theorem BK.rl {M : ZM} (h : BK (M 115) (bL M 44)) {i : Int} (h0 : 0 ≤ i) (h1 : i < 18) : M 56 i = M 115 (160 + i) := h.2.2.2.2 i h0 h1
theorem BK.wp {K : Int → Int} {L : LB} (h : BK K L) {p : Int} (h0 : 0 ≤ p) (h1 : p < K 182) : WP K p := h.1.2.2.2.2.2.2.2 p h0 h1
/-! ride -/
def dr (x : Int) : Int := (x * 1103 + 12345) % 1000003
def tnO (K : Int → Int) (p k : Int) : Int := if K (10 * p) = 1 then K (10 * p + 6 + k) else K (160 + 3 * K (10 * p + 1) + k)
def pick (a b d : Int) : Int := if d < a then 0 else if d < a + b then 1 else 2
/-- place, number drawn last, tolls paid -/
def rS (K : Int → Int) (seed : Int) : Nat → Int × Int × Int
  | 0 => (K 178, seed, 0)
  | i + 1 => if K (10 * (rS K seed i).1) = 2 then (rdc K (rS K seed i).1 0, (rS K seed i).2.1, (rS K seed i).2.2 + K (10 * (rS K seed i).1 + 1))
    else (rdc K (rS K seed i).1 (pick (tnO K (rS K seed i).1 0) (tnO K (rS K seed i).1 1) (dr (rS K seed i).2.1 % 10)), dr (rS K seed i).2.1, (rS K seed i).2.2)
def rStop (K : Int → Int) (seed : Int) (i : Nat) : Prop := K 179 ≤ i ∨ K 182 ≤ (rS K seed i).1 ∨ K (10 * (rS K seed i).1) = 3
def rL (K : Int → Int) (seed : Int) (l : Nat) : Prop := rStop K seed l ∧ ∀ j, j < l → ¬ rStop K seed j
theorem rL_uniq {K : Int → Int} {seed : Int} {a b : Nat} (ha : rL K seed a) (hb : rL K seed b) : a = b := by
  rcases Nat.lt_trichotomy a b with h | h | h
  · exact absurd ha.1 (hb.2 a h)
  · exact h
  · exact absurd hb.1 (ha.2 b h)
theorem tnO_sum {K : Int → Int} (hW : WF K) {p : Int} (p0 : 0 ≤ p) (p1 : p < K 182) (hk : K (10 * p) = 0 ∨ K (10 * p) = 1) : 0 ≤ tnO K p 0 ∧ 0 ≤ tnO K p 1 ∧ 0 ≤ tnO K p 2 ∧ tnO K p 0 + tnO K p 1 + tnO K p 2 = 10 := by
  obtain ⟨w1, w2, w3, w4, w5, w6⟩ := hW.2.2.2.2.2.2.2 p p0 p1
  unfold tnO
  rcases hk with q | q
  · rw [if_neg (by omega), if_neg (by omega), if_neg (by omega), Int.add_zero]
    have := hW.2.2.2.2.2.1 (K (10 * p + 1)) (w2 q).1.1 (by have := (w2 q).1.2; omega)
    rw [show 161 + 3 * K (10 * p + 1) = 160 + 3 * K (10 * p + 1) + 1 by omega, show 162 + 3 * K (10 * p + 1) = 160 + 3 * K (10 * p + 1) + 2 by omega] at this
    exact this
  · rw [if_pos q, if_pos q, if_pos q, Int.add_zero, show 10 * p + 6 + 1 = 10 * p + 7 by omega, show 10 * p + 6 + 2 = 10 * p + 8 by omega]
    obtain ⟨t1, t2, t3, t4, t5⟩ := w3 q
    have n6 : 0 ≤ K (10 * p + 6) := by have := t2 0 (by omega) (by omega); rw [Int.add_zero] at this; omega
    have n7 : 0 ≤ K (10 * p + 7) := by
      by_cases q : K (10 * p + 2) ≤ 1
      · have := t4 q; omega
      · have := t2 1 (by omega) (by omega); rw [show 10 * p + 6 + 1 = 10 * p + 7 by omega] at this; omega
    have n8 : 0 ≤ K (10 * p + 8) := by
      by_cases q : K (10 * p + 2) ≤ 2
      · have := t5 q; omega
      · have := t2 2 (by omega) (by omega); rw [show 10 * p + 6 + 2 = 10 * p + 8 by omega] at this; omega
    exact ⟨n6, n7, n8, t3⟩
theorem rdc_rg {K : Int → Int} (hW : WF K) {p k : Int} (p0 : 0 ≤ p) (p1 : p < K 182) (k3 : K (10 * p) ≠ 3) (k0 : 0 ≤ k) : 0 ≤ rdc K p k ∧ rdc K p k ≤ 15 := by
  obtain ⟨w1, w2, w3, w4, w5, w6⟩ := hW.2.2.2.2.2.2.2 p p0 p1
  have hr := (hW.2.2.2.2.2.2.2 p p0 p1).rc
  have h1 : 1 ≤ K (10 * p + 2) := by
    rcases (by omega : K (10 * p) = 0 ∨ K (10 * p) = 1 ∨ K (10 * p) = 2) with q | q | q
    · have := w2 q; omega
    · have := w3 q; omega
    · have := w4 q; omega
  unfold rdc
  split
  · exact w6 k k0 (by omega)
  · exact w6 _ (by omega) (by omega)
theorem pick_rg (a b d : Int) : 0 ≤ pick a b d ∧ pick a b d ≤ 2 := by
  unfold pick
  split
  · omega
  · split <;> omega
theorem dr_rg (x : Int) : 0 ≤ dr x ∧ dr x ≤ 1000002 := by unfold dr; omega
theorem rS_rg {K : Int → Int} {seed : Int} (hW : WF K) (h0 : 0 ≤ seed) (h1 : seed ≤ 1000002) : ∀ i : Nat, (∀ j, j < i → ¬ rStop K seed j) → (0 ≤ (rS K seed i).1 ∧ (rS K seed i).1 ≤ 15) ∧ (0 ≤ (rS K seed i).2.1 ∧ (rS K seed i).2.1 ≤ 1000002) ∧ (0 ≤ (rS K seed i).2.2 ∧ (rS K seed i).2.2 ≤ 99 * i) := by
  intro i
  induction i with
  | zero => intro _; exact ⟨hW.2.1, ⟨h0, h1⟩, by show (0 : Int) ≤ 0 ∧ (0 : Int) ≤ _; omega⟩
  | succ i ih =>
    intro hj
    have ih := ih (fun j hj' => hj j (by omega))
    have hs := hj i (by omega)
    unfold rStop at hs
    unfold rS
    generalize rS K seed i = q at ih hs ⊢
    obtain ⟨p, x, T⟩ := q
    dsimp only at ih hs ⊢
    have hp : p < K 182 := by omega
    have k3 : K (10 * p) ≠ 3 := fun z => hs (Or.inr (Or.inr z))
    obtain ⟨w1, w2, w3, w4, w5, w6⟩ := hW.2.2.2.2.2.2.2 p ih.1.1 hp
    split
    · rename_i q
      exact ⟨rdc_rg hW ih.1.1 hp k3 (by omega), ih.2.1, by have := (w4 q).1; dsimp only; omega⟩
    · exact ⟨rdc_rg hW ih.1.1 hp k3 (pick_rg _ _ _).1, dr_rg _, by dsimp only; omega⟩
/-- the class's drawn road -/
theorem c_drawnRoad {d : Nat} {M : ZM} {p x : Int} {Q : Int → ZM → Prop} (h : BK (M 115) (bL M 44)) (p0 : 0 ≤ p) (p1 : p < M 115 182) (hk : M 115 (10 * p) = 0 ∨ M 115 (10 * p) = 1) (x0 : 0 ≤ x) (x1 : x ≤ 9) (hQ : ∀ r, 0 ≤ r → r < M 115 (10 * p + 2) → M 115 (10 * p + 3 + r) = rdc (M 115) p (pick (tnO (M 115) p 0) (tnO (M 115) p 1) x) → Q r M) : zcI (d + 1) 100 [zA 110, zI p, zI x] M Q := by
  have hpl := h.pl
  have ek := h.kind p0 p1
  have ec := h.rc p0 p1
  have hwp := h.wp p0 p1
  obtain ⟨w1, w2, w3, w4, w5, w6⟩ := id hwp
  have ts := tnO_sum h.wf p0 p1 hk
  have hr : 1 ≤ M 115 (10 * p + 2) ∧ M 115 (10 * p + 2) ≤ 3 := by
    rcases hk with q | q
    · exact (w2 q).2
    · exact (w3 q).1
  have res : ∀ r, 0 ≤ r → r < M 115 (10 * p + 2) → (r = (if pick (tnO (M 115) p 0) (tnO (M 115) p 1) x < M 115 (10 * p + 2) then pick (tnO (M 115) p 0) (tnO (M 115) p 1) x else M 115 (10 * p + 2) - 1)) → Q r M := by
    intro r r0 r1 e
    refine hQ r r0 r1 ?_
    unfold rdc
    rw [← e]
  apply vX8_drawnRoad
  rw [ek]
  rcases hk with q | q
  · obtain ⟨⟨l0, l1⟩, -⟩ := w2 q
    have el := h.look p0 p1 q
    have e0 : M 56 (M 115 (10 * p + 1) * 3) = tnO (M 115) p 0 := by
      rw [h.rl (by omega) (by omega)]; unfold tnO; rw [if_neg (by omega)]; congr 1; omega
    have e1 : M 56 (M 115 (10 * p + 1) * 3 + (0 + 1)) = tnO (M 115) p 1 := by
      rw [h.rl (by omega) (by omega)]; unfold tnO; rw [if_neg (by omega)]; congr 1; omega
    have e2 : M 56 (M 115 (10 * p + 1) * 3 + (0 + 1 + 1)) = tnO (M 115) p 2 := by
      rw [h.rl (by omega) (by omega)]; unfold tnO; rw [if_neg (by omega)]; congr 1; omega
    refine ⟨by omega, fun z => by omega, fun _ => ?_⟩
    apply vX8_drawnRoad_33a
    rw [ek, el, e0]
    refine ⟨by omega, fun z => by omega, fun _ => ⟨by omega, ⟨by omega, by omega⟩, by omega, ?_⟩⟩
    unfold pick at res
    apply vX8_drawnRoad_66a
    rw [ec, e1]
    refine ⟨by omega, ⟨by omega, by omega⟩, fun z => res 0 (by omega) (by omega) (by split <;> omega), fun z => ⟨fun y => res 0 (by omega) (by omega) (by split <;> omega), fun y => ⟨⟨by omega, by omega⟩, ⟨by omega, by omega⟩, by omega, ⟨by omega, by omega⟩, ?_⟩⟩⟩
    apply vX8_drawnRoad_66a
    rw [ec, e2]
    refine ⟨by omega, ⟨by omega, by omega⟩, fun z => res (0 + 1) (by omega) (by omega) (by split <;> omega), fun z => ⟨fun y => res (0 + 1) (by omega) (by omega) (by split <;> omega), fun y => ⟨⟨by omega, by omega⟩, ⟨by omega, by omega⟩, by omega, ⟨by omega, by omega⟩, ?_⟩⟩⟩
    apply vX8_drawnRoad_66a
    rw [ec]
    exact ⟨by omega, ⟨by omega, by omega⟩, fun z => res (0 + 1 + 1) (by omega) (by omega) (by split <;> omega), fun z => by omega⟩
  · obtain ⟨t1, t2, t3, t4, t5⟩ := w3 q
    have e0 : M 50 (p * 3) = tnO (M 115) p 0 := by
      have := h.tn p0 p1 q (k := 0) (by omega) (by omega)
      rw [Int.add_zero] at this
      rw [this]; unfold tnO; rw [if_pos q]
    refine ⟨by omega, fun _ => ?_, fun z => by omega⟩
    apply vX8_drawnRoad_33
    rw [ek, e0]
    refine ⟨by omega, fun _ => ⟨⟨by omega, by omega⟩, by omega, ?_⟩, fun z => by omega⟩
    unfold pick at res
    apply vX8_drawnRoad_66
    rw [ec]
    refine ⟨by omega, ⟨by omega, by omega⟩, fun z => res 0 (by omega) (by omega) (by split <;> omega), fun z => ⟨fun y => res 0 (by omega) (by omega) (by split <;> omega), fun y => ?_⟩⟩
    have e1 : M 50 (p * 3 + (0 + 1)) = tnO (M 115) p 1 := by
      rw [show (0 : Int) + 1 = 1 by omega, h.tn p0 p1 q (k := 1) (by omega) (by omega)]; unfold tnO; rw [if_pos q]
    rw [e1]
    refine ⟨⟨by omega, by omega⟩, ⟨by omega, by omega⟩, by omega, ⟨by omega, by omega⟩, ?_⟩
    apply vX8_drawnRoad_66
    rw [ec]
    refine ⟨by omega, ⟨by omega, by omega⟩, fun z => res (0 + 1) (by omega) (by omega) (by split <;> omega), fun z => ⟨fun y => res (0 + 1) (by omega) (by omega) (by split <;> omega), fun y => ?_⟩⟩
    have e2 : M 50 (p * 3 + (0 + 1 + 1)) = tnO (M 115) p 2 := by
      rw [show (0 : Int) + 1 + 1 = 2 by omega, h.tn p0 p1 q (k := 2) (by omega) (by omega)]; unfold tnO; rw [if_pos q]
    rw [e2]
    refine ⟨⟨by omega, by omega⟩, ⟨by omega, by omega⟩, by omega, ⟨by omega, by omega⟩, ?_⟩
    apply vX8_drawnRoad_66
    rw [ec]
    exact ⟨by omega, ⟨by omega, by omega⟩, fun z => res (0 + 1 + 1) (by omega) (by omega) (by split <;> omega), fun z => by omega⟩
/-- what the last PLACE gives -/
def rF (K : Int → Int) (E : Int → Int → Int) (p s : Int) : Int := if K 182 ≤ p then K 181 else if K (10 * p) = 3 then E p s else K 180
/-- the class rides -/
theorem c_go {d : Nat} {M : ZM} {seed : Int} {Q : ZM → Prop} (hB : BK (M 115) (bL M 44)) (s0 : 0 ≤ seed) (s1 : seed ≤ 1000000) (hQ : ∀ (M' : ZM) (l : Nat), rL (M 115) seed l → (∀ b, b ≠ 87 → b ≠ 88 → b ≠ 110 → b ≠ 111 → M' b = M b) → M' 110 3 = (l : Int) → M' 110 4 = rF (M 115) (EW M) (rS (M 115) seed l).1 l - (rS (M 115) seed l).2.2 → (∀ j : Nat, j ≤ l → M' 111 j = (rS (M 115) seed j).1) → Q M') : zcV (d + 5) 99 [zA 110, zI seed] M Q := by
  have hW := hB.wf
  have hpl := hB.pl
  have hday := hW.2.2.1
  apply vX8_go
  refine ⟨by omega, by omega, zset (zset ⟨by omega, zset ?_⟩)⟩
  rw [show M 55 1 = M 115 179 from hB.term (i := 1) (by omega) (by omega), show M 55 0 = M 115 178 from hB.term (i := 0) (by omega) (by omega)]
  let Inv := fun (i : Nat) (M1 : ZM) => (∀ b, b ≠ 110 → b ≠ 111 → M1 b = M b) ∧ M1 110 3 = i ∧ M1 110 4 = - (rS (M 115) seed i).2.2 ∧ (∀ j : Nat, j ≤ i → M1 111 j = (rS (M 115) seed j).1) ∧ ∀ j, j < i → ¬ rStop (M 115) seed j
  have fin : ∀ (i : Nat) (M1 : ZM), (i : Int) ≤ M 115 179 → Inv i M1 → rStop (M 115) seed i → wX8_go (d + 4) 178 [(0, zA 110), (2, zA 44), (3, zI (M 115 179)), (4, zI (rS (M 115) seed i).1)] M1 Q := by
    intro i M1 hi hI hs
    obtain ⟨i1, i2, i3, i4, i5⟩ := hI
    have rg := rS_rg hW s0 (by omega) i i5
    have e44 : M1 44 0 = M 115 182 := by rw [i1 44 (by decide) (by decide)]; exact hB.size
    have e55 : ∀ k, 0 ≤ k → k < 4 → M1 55 k = M 115 (178 + k) := fun k k0 k1 => by rw [i1 55 (by decide) (by decide)]; exact hB.term k0 k1
    have out : ∀ (M2 : ZM) (x : Int), (∀ b, b ≠ 87 → b ≠ 88 → M2 b = M1 b) → x = - (rS (M 115) seed i).2.2 + rF (M 115) (EW M) (rS (M 115) seed i).1 i → Q (zup M2 110 4 x) := by
      intro M2 x r2 hx
      refine hQ _ i ⟨hs, i5⟩ (fun b b1 b2 b3 b4 => by rw [zup_row b3, r2 b b1 b2, i1 b b3 b4]) ?_ ?_ (fun j hj => ?_)
      · rw [zup_ne (by omega), r2 110 (by decide) (by decide), i2]
      · rw [zup_eq, hx]; omega
      · rw [zup_row (by decide), r2 111 (by decide) (by decide), i4 j hj]
    generalize hq : rS (M 115) seed i = q at rg out i3 ⊢
    obtain ⟨p, x, T⟩ := q
    dsimp only at rg out i3 ⊢
    unfold rF at out
    apply vX8_go_178
    refine c_isKind (by omega) (fun a b c => ⟨fun z => by omega, fun _ => ?_⟩) (fun a => ⟨fun _ => c_has (fun b c => ⟨fun z => by omega, fun _ => ?_⟩) (fun b => ⟨fun _ => ?_, fun z => by omega⟩), fun z => by omega⟩)
    · have hp : p < M 115 182 := by omega
      have hk : M 115 (10 * p) = 3 := by rw [← hB.kind a hp, ← i1 45 (by decide) (by decide)]; exact c
      obtain ⟨⟨g0, g1, g2⟩, -⟩ := (hB.2.2.1 p a hp).2 hk
      rw [i2]
      refine zcall_rg (fun R1 => c_tell R1 (by omega) (by omega) (by omega) (by rw [i1 51 (by decide) (by decide)]; exact g0) (by rw [i1 52 (by decide) (by decide)]; exact g1) (fun M2 r2 => ?_))
      have et : tTell (bL M1 44) p i (M 115 179) = EW M p i := by
        unfold EW tTell
        show (if M1 52 p < M1 53 p ∧ tRun (M1 54) (mEnv i p (M 115 179)) (M1 53 p) 401 (M1 52 p) [] ≠ 1 then 0 else if tRun (M1 54) (mEnv i p (M 115 179)) (M1 52 p) 401 (M1 51 p) [] = NOTH then 0 else max (-999) (min 999 (tRun (M1 54) (mEnv i p (M 115 179)) (M1 52 p) 401 (M1 51 p) []))) = _
        rw [i1 51 (by decide) (by decide), i1 52 (by decide) (by decide), i1 53 (by decide) (by decide), i1 54 (by decide) (by decide)]
      rw [et, i3]
      have eb : -999 ≤ EW M p i ∧ EW M p i ≤ 999 := tTell_rg _ _ _ _
      refine ⟨⟨by omega, by omega⟩, zset (out M2 _ r2 ?_)⟩
      rw [if_neg (by omega), if_pos hk]
    · have hk : M 115 (10 * p) ≠ 3 := by
        intro hk
        refine a ⟨b, c, ?_⟩
        rw [i1 45 (by decide) (by decide), hB.kind b (by omega)]
        exact hk
      rw [i3, show M1 55 2 = M 115 180 from e55 2 (by omega) (by omega)]
      have := hW.2.2.2.1
      refine ⟨by omega, ⟨by omega, by omega⟩, zset (out M1 _ (fun _ _ _ => rfl) ?_)⟩
      rw [if_neg (by omega), if_neg hk]
    · rw [i3, show M1 55 3 = M 115 181 from e55 3 (by omega) (by omega)]
      have := hW.2.2.2.2.1
      refine ⟨by omega, ⟨by omega, by omega⟩, zset (out M1 _ (fun _ _ _ => rfl) ?_)⟩
      rw [if_pos (by omega)]
  have lp : ∀ (n i : Nat) (M1 : ZM), (i : Int) + n = M 115 179 → Inv i M1 → wX8_go (d + 4) 50 [(0, zA 110), (2, zA 44), (3, zI (M 115 179)), (4, zI (rS (M 115) seed i).1), (5, zI (rS (M 115) seed i).2.1)] M1 Q := by
    intro n
    induction n with
    | zero =>
      intro i M1 hn hI
      apply vX8_go_50
      rw [hI.2.1]
      exact ⟨fun _ => fin i M1 (by omega) hI (Or.inl (by omega)), fun q => by omega⟩
    | succ n ih =>
      intro i M1 hn hI
      have fin' := fin i M1 (by omega) hI
      obtain ⟨i1, i2, i3, i4, i5⟩ := id hI
      have rg := rS_rg hW s0 (by omega) i i5
      have e44 : M1 44 0 = M 115 182 := by rw [i1 44 (by decide) (by decide)]; exact hB.size
      have hB1 : BK (M1 115) (bL M1 44) := by
        rw [i1 115 (by decide) (by decide)]
        exact hB.congr (fun j hj => i1 _ (by omega) (by omega))
      have e115 : M1 115 = M 115 := i1 115 (by decide) (by decide)
      have st : ∀ (M2 : ZM) (x p' : Int), M2 = zup (zup (zup M1 110 4 (M1 110 4 - x)) 110 3 (M1 110 3 + 1)) 111 (M1 110 3 + 1) p' → ¬ rStop (M 115) seed i → p' = (rS (M 115) seed (i + 1)).1 → (rS (M 115) seed (i + 1)).2.2 = (rS (M 115) seed i).2.2 + x → wX8_go (d + 4) 50 [(0, zA 110), (2, zA 44), (3, zI (M 115 179)), (4, zI p'), (5, zI (rS (M 115) seed (i + 1)).2.1)] M2 Q := by
        intro M2 x p' hM2 hns hp hT
        have nx := ih (i + 1) M2 (by omega) ⟨fun b b1 b2 => by subst hM2; rw [zup_row b2, zup_row b1, zup_row b1, i1 b b1 b2], ?_, ?_, fun j hj => ?_, fun j hj => ?_⟩
        · rw [hp]; exact nx
        · subst hM2
          rw [zup_row (by decide), zup_eq, i2]; rfl
        · subst hM2
          rw [zup_row (by decide), zup_ne (by omega), zup_eq, i3, hT]; omega
        · subst hM2
          rw [zup_at, i2]
          by_cases hji : (j : Int) = (i : Int) + 1
          · rw [if_pos hji, hp, show j = i + 1 by omega]
          · rw [if_neg hji, zup_row (by decide), zup_row (by decide), i4 j (by omega)]
        · by_cases hji : j = i
          · subst hji; exact hns
          · exact i5 j (by omega)
      have rs1 : rS (M 115) seed (i + 1) = if M 115 (10 * (rS (M 115) seed i).1) = 2 then (rdc (M 115) (rS (M 115) seed i).1 0, (rS (M 115) seed i).2.1, (rS (M 115) seed i).2.2 + M 115 (10 * (rS (M 115) seed i).1 + 1)) else (rdc (M 115) (rS (M 115) seed i).1 (pick (tnO (M 115) (rS (M 115) seed i).1 0) (tnO (M 115) (rS (M 115) seed i).1 1) (dr (rS (M 115) seed i).2.1 % 10)), dr (rS (M 115) seed i).2.1, (rS (M 115) seed i).2.2) := rfl
      unfold rStop at fin' st
      generalize hq : rS (M 115) seed i = q at rg fin' st rs1 i3 ⊢
      obtain ⟨p, x, T⟩ := q
      dsimp only at rg fin' st rs1 i3 ⊢
      apply vX8_go_50
      rw [i2]
      refine ⟨fun q => by omega, fun _ => c_has (fun a b => ⟨fun z => by omega, fun _ => ?_⟩) (fun a => ⟨fun _ => fin' (by omega), fun z => by omega⟩)⟩
      have hp : p < M 115 182 := by omega
      have ek : M1 45 p = M 115 (10 * p) := by rw [i1 45 (by decide) (by decide)]; exact hB.kind a hp
      rw [ek]
      obtain ⟨w1, w2, w3, w4, w5, w6⟩ := hB.wp a hp
      refine ⟨by omega, fun z => fin' (by omega), fun k3 => ⟨by omega, fun k2 => ?_, fun k2 => ?_⟩⟩
      · rw [if_pos k2] at rs1
        rw [rs1] at st
        apply vX8_go_123
        have et : M1 47 p = M 115 (10 * p + 1) := by rw [i1 47 (by decide) (by decide)]; exact hB.toll a hp k2
        have er : M1 49 (p * 3 + 0) = rdc (M 115) p 0 := by
          rw [i1 49 (by decide) (by decide), hB.rd a hp (by omega) (by have := (w4 k2).2; omega)]
          unfold rdc; rw [if_pos (by have := (w4 k2).2; omega)]
        have hx := (w4 k2).1
        rw [et]
        refine ⟨by omega, ⟨by omega, by omega⟩, zset ?_⟩
        simp only [zupE, reduceIte, false_and, and_false, true_and, and_true, Nat.reduceEqDiff, Int.reduceEq]
        rw [er, i2]
        refine ⟨⟨by omega, by omega⟩, ⟨by omega, by omega⟩, by omega, ⟨by omega, by omega⟩, zset ?_⟩
        rw [zup_eq]
        refine ⟨by omega, zset ?_⟩
        exact st _ (M 115 (10 * p + 1)) _ (by rw [i2, i3]) (by omega) rfl rfl
      · rw [if_neg k2] at rs1
        rw [rs1] at st
        have ed : Int.tmod (x * 1103 + 12345) 1000003 = dr x := by rw [Int.tmod_eq_emod_of_nonneg (by omega)]; rfl
        have drg := dr_rg x
        have ed2 : Int.tmod (dr x) 10 = dr x % 10 := Int.tmod_eq_emod_of_nonneg drg.1
        rw [ed, ed2]
        refine ⟨⟨by omega, by omega⟩, ⟨by omega, by omega⟩, by omega, ⟨by omega, by omega⟩, by omega, c_drawnRoad hB1 a (by rw [e115]; exact hp) (by rw [e115]; omega) (by omega) (by omega) (fun r r0 r1 er => ?_)⟩
        rw [e115] at r1 er
        apply vX8_go_123
        have et : M1 47 p = 0 := by rw [i1 47 (by decide) (by decide)]; exact hB.toll0 a hp k2
        have er2 : M1 49 (p * 3 + r) = rdc (M 115) p (pick (tnO (M 115) p 0) (tnO (M 115) p 1) (dr x % 10)) := by
          rw [i1 49 (by decide) (by decide), hB.rd a hp r0 r1]; exact er
        have hr3 := (hB.wp a hp).rc
        rw [et]
        refine ⟨by omega, ⟨by omega, by omega⟩, zset ?_⟩
        simp only [zupE, reduceIte, false_and, and_false, true_and, and_true, Nat.reduceEqDiff, Int.reduceEq]
        rw [er2, i2]
        refine ⟨⟨by omega, by omega⟩, ⟨by omega, by omega⟩, by omega, ⟨by omega, by omega⟩, zset ?_⟩
        rw [zup_eq]
        refine ⟨by omega, zset ?_⟩
        exact st _ 0 _ (by rw [i2, i3]) (by omega) rfl (by show T = T + 0; omega)
  refine lp (M 115 179).toNat 0 _ (by omega) ⟨fun b b1 b2 => by rw [zup_row b2, zup_row b1, zup_row b1], ?_, ?_, fun j hj => ?_, fun j hj => by omega⟩
  · rw [zup_row (by decide), zup_eq]; rfl
  · rw [zup_row (by decide), zup_ne (by omega), zup_eq]; rfl
  · obtain rfl : j = 0 := by omega
    exact zup_eq
