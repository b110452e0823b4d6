/-! the reference reads, by the language -/
/-- token, leaves, bad -/
def rdS (M0 : ZM) (t l b : Int) : ZM := fun x k => if x = 113 ∧ k = 15 then t else if x = 113 ∧ k = 16 then l else if x = 113 ∧ k = 17 then b else M0 x k
theorem rdS_tok {M0 : ZM} {t l b t' : Int} : zup (rdS M0 t l b) 113 15 t' = rdS M0 t' l b := by
  funext x k
  unfold zup rdS
  by_cases h : x = 113 ∧ k = 15
  · rw [if_pos h, if_pos h]
  · rw [if_neg h, if_neg h, if_neg h]
theorem rdS_lv {M0 : ZM} {t l b l' : Int} : zup (rdS M0 t l b) 113 16 l' = rdS M0 t l' b := by
  funext x k
  unfold zup rdS
  by_cases h : x = 113 ∧ k = 16
  · rw [if_pos h, if_neg (by omega), if_pos h]
  · rw [if_neg h, if_neg h, if_neg h]
theorem rdS_bad {M0 : ZM} {t l b b' : Int} : zup (rdS M0 t l b) 113 17 b' = rdS M0 t l b' := by
  funext x k
  unfold zup rdS
  by_cases h : x = 113 ∧ k = 17
  · rw [if_pos h, if_neg (by omega), if_neg (by omega), if_pos h]
  · rw [if_neg h, if_neg h, if_neg h]
theorem rdS_15 {M0 : ZM} {t l b : Int} : rdS M0 t l b 113 15 = t := if_pos ⟨rfl, rfl⟩
theorem rdS_16 {M0 : ZM} {t l b : Int} : rdS M0 t l b 113 16 = l := by unfold rdS; rw [if_neg (by omega), if_pos ⟨rfl, rfl⟩]
theorem rdS_17 {M0 : ZM} {t l b : Int} : rdS M0 t l b 113 17 = b := by unfold rdS; rw [if_neg (by omega), if_neg (by omega), if_pos ⟨rfl, rfl⟩]
theorem rdS_row {M0 : ZM} {t l b : Int} {x : Nat} (h : x ≠ 113) : rdS M0 t l b x = M0 x := by
  funext k
  unfold rdS
  rw [if_neg (fun z => h z.1), if_neg (fun z => h z.1), if_neg (fun z => h z.1)]
/-- the TOKENS stand ready in M0, t of them -/
def TKN (c v : Int → Int) (M0 : ZM) (t : Int) : Prop := (0 ≤ t ∧ t ≤ 400) ∧ (∀ i, t ≤ i → c i = 0) ∧ ∀ i, 0 ≤ i → i ≤ t → M0 121 i = c i ∧ M0 122 i = v i ∧ 0 ≤ M0 123 i ∧ 0 ≤ v i ∧ v i ≤ 10000009
section RD
variable {c v : Int → Int} {M0 : ZM} {T : Int} {D : Nat} {i lv b : Int}
theorem r_fine {K : Int → ZM → Prop} (h : K 1 (rdS M0 i lv (-1))) : zcI (D + 1) 165 [zA 113] (rdS M0 i lv (-1)) K := by
  apply vX10_fine
  rw [rdS_17]
  exact ⟨fun z => absurd rfl z, fun _ => ⟨Or.inr rfl, h⟩⟩
theorem r_nfine {K : Int → ZM → Prop} (hb : 0 ≤ b) (h : K 0 (rdS M0 i lv b)) : zcI (D + 1) 165 [zA 113] (rdS M0 i lv b) K := by
  apply vX10_fine
  rw [rdS_17]
  exact ⟨fun _ => ⟨Or.inl rfl, h⟩, fun z => by omega⟩
theorem r_faults (hT : TKN c v M0 T) (i0 : 0 ≤ i) (i1 : i ≤ T) {K : ZM → Prop} (h : K (rdS M0 i lv (M0 123 i))) : zcV (D + 2) 166 [zA 113] (rdS M0 i lv (-1)) K := by
  have := hT.1
  apply vX10_faults
  refine r_fine ⟨fun z => by omega, fun _ => ?_⟩
  rw [rdS_15, rdS_row (show (123 : Nat) ≠ 113 by decide)]
  refine ⟨⟨by omega, by omega⟩, zset ?_⟩
  rw [rdS_bad]
  exact h
theorem r_nfaults {K : ZM → Prop} (hb : 0 ≤ b) (h : K (rdS M0 i lv b)) : zcV (D + 2) 166 [zA 113] (rdS M0 i lv b) K := by
  apply vX10_faults
  exact r_nfine hb ⟨fun _ => h, fun z => absurd rfl z⟩
theorem r_takes {q : Int} (hT : TKN c v M0 T) (i0 : 0 ≤ i) (i1 : i ≤ T) {K : Int → ZM → Prop} (h1 : c i = q → K 1 (rdS M0 (i + 1) lv (-1))) (h0 : c i ≠ q → K 0 (rdS M0 i lv (-1))) : zcI (D + 2) 167 [zA 113, zI q] (rdS M0 i lv (-1)) K := by
  have := hT.1
  apply vX10_takes0
  refine r_fine ⟨fun z => by omega, fun _ => ?_⟩
  rw [rdS_15, rdS_row (show (121 : Nat) ≠ 113 by decide), (hT.2.2 i i0 i1).1]
  refine ⟨⟨by omega, by omega⟩, fun z => ⟨fun _ => ⟨Or.inl rfl, h0 z⟩, fun y => absurd rfl y⟩, fun z => ⟨fun y => by omega, fun _ => ⟨⟨by omega, by omega⟩, zset ?_⟩⟩⟩
  rw [rdS_tok]
  exact ⟨Or.inr rfl, h1 z⟩
theorem r_ntakes {q : Int} {K : Int → ZM → Prop} (hb : 0 ≤ b) (h : K 0 (rdS M0 i lv b)) : zcI (D + 2) 167 [zA 113, zI q] (rdS M0 i lv b) K := by
  apply vX10_takes0
  exact r_nfine hb ⟨fun _ => ⟨fun _ => ⟨Or.inl rfl, h⟩, fun z => absurd rfl z⟩, fun z => absurd rfl z⟩
theorem r_must {q : Int} (hT : TKN c v M0 T) (i0 : 0 ≤ i) (i1 : i ≤ T) {K : ZM → Prop} (h1 : c i = q → K (rdS M0 (i + 1) lv (-1))) (h0 : c i ≠ q → K (rdS M0 i lv (M0 123 i))) : zcV (D + 3) 168 [zA 113, zI q] (rdS M0 i lv (-1)) K := by
  apply vX10_must
  exact r_takes hT i0 i1 (fun z => ⟨fun _ => h1 z, fun y => by omega⟩) (fun z => ⟨fun y => absurd rfl y, fun _ => r_faults hT i0 i1 (h0 z)⟩)
theorem r_nmust {q : Int} {K : ZM → Prop} (hb : 0 ≤ b) (h : K (rdS M0 i lv b)) : zcV (D + 3) 168 [zA 113, zI q] (rdS M0 i lv b) K := by
  apply vX10_must
  exact r_ntakes hb ⟨fun y => absurd rfl y, fun _ => r_nfaults hb h⟩
theorem r_sign {M : ZM} {q : Int} (q0 : 0 ≤ q) (q1 : q ≤ 255) {K : Int → ZM → Prop} (h : K (100 + q) M) : zcI (D + 1) 170 [zI q] M K := vX10_sign _ _ _ _ ⟨⟨by omega, by omega⟩, h⟩
theorem r_leaf (hT : TKN c v M0 T) (i0 : 0 ≤ i) (i1 : i ≤ T) (l0 : 0 ≤ lv) (l1 : lv ≤ 50) {K : ZM → Prop} (h0 : lv = 50 → ∀ t l, K (rdS M0 t l (M0 123 i))) (h1 : lv ≠ 50 → K (rdS M0 (i + 1) (lv + 1) (-1))) : zcV (D + 3) 169 [zA 113] (rdS M0 i lv (-1)) K := by
  have := hT.1
  apply vX10_leaf
  rw [rdS_16]
  refine ⟨fun z => ?_, fun z => r_faults hT i0 i1 ?_⟩
  · apply vX10_leaf_13
    rw [rdS_16]
    refine ⟨⟨by omega, by omega⟩, zset ?_⟩
    rw [rdS_lv]
    refine r_fine ⟨fun y => by omega, fun _ => ?_⟩
    rw [rdS_15]
    refine ⟨⟨by omega, by omega⟩, zset ?_⟩
    rw [rdS_tok]
    exact h1 z
  · apply vX10_leaf_13
    rw [rdS_16]
    refine ⟨⟨by omega, by omega⟩, zset ?_⟩
    rw [rdS_lv]
    exact r_nfine (hT.2.2 i i0 i1).2.2.1 ⟨fun _ => h0 z _ _, fun y => absurd rfl y⟩
/-! where a FAULT is told, nothing more is read -/
theorem n_10 {dp : Int} {K : ZM → Prop} (hb : 0 ≤ b) (h : K (rdS M0 i lv b)) : zcV (D + 2) 176 [zA 113, zI dp] (rdS M0 i lv b) K := by
  apply vX10_readPart
  exact r_nfine hb ⟨fun z => absurd rfl z, fun _ => h⟩
theorem n_9 {dp : Int} {K : ZM → Prop} (hb : 0 ≤ b) (h : K (rdS M0 i lv b)) : wX10_readTerm (D + 2) 5 [(0, zA 113), (1, zI dp)] (rdS M0 i lv b) K := by
  apply vX10_readTerm_5
  exact r_sign (by omega) (by omega) (r_ntakes hb ⟨fun z => absurd rfl z, fun _ => r_sign (by omega) (by omega) (r_ntakes hb ⟨fun _ => h, fun z => absurd rfl z⟩)⟩)
theorem n_8 {dp : Int} {K : ZM → Prop} (hb : 0 ≤ b) (h : K (rdS M0 i lv b)) : zcV (D + 3) 175 [zA 113, zI dp] (rdS M0 i lv b) K := by
  apply vX10_readTerm
  exact n_10 hb (n_9 hb h)
theorem n_7 {dp : Int} {K : ZM → Prop} (hb : 0 ≤ b) (h : K (rdS M0 i lv b)) : wX10_readSum (D + 2) 5 [(0, zA 113), (1, zI dp)] (rdS M0 i lv b) K := by
  apply vX10_readSum_5
  exact r_sign (by omega) (by omega) (r_ntakes hb ⟨fun z => absurd rfl z, fun _ => r_sign (by omega) (by omega) (r_ntakes hb ⟨fun _ => h, fun z => absurd rfl z⟩)⟩)
theorem n_6 {dp : Int} {K : ZM → Prop} (hb : 0 ≤ b) (h : K (rdS M0 i lv b)) : zcV (D + 4) 174 [zA 113, zI dp] (rdS M0 i lv b) K := by
  apply vX10_readSum
  exact n_8 hb (n_7 hb h)
theorem n_3 {dp : Int} {K : ZM → Prop} (hb : 0 ≤ b) (h : K (rdS M0 i lv b)) : wX10_readBoth (D + 2) 5 [(0, zA 113), (1, zI dp)] (rdS M0 i lv b) K := by
  apply vX10_readBoth_5
  exact r_ntakes hb ⟨fun _ => h, fun z => absurd rfl z⟩
theorem n_1 {dp : Int} {K : ZM → Prop} (hb : 0 ≤ b) (h : K (rdS M0 i lv b)) : wX10_readTest (D + 2) 5 [(0, zA 113), (1, zI dp)] (rdS M0 i lv b) K := by
  apply vX10_readTest_5
  exact r_ntakes hb ⟨fun _ => h, fun z => absurd rfl z⟩
end RD
/-- what is behind a reading -/
def rdK (M0 : ZM) (r : PR) (K : ZM → Prop) : Prop := match r.2.2 with
  | some _ => K (rdS M0 r.1 r.2.1 (-1))
  | none => ∀ t l, K (rdS M0 t l (M0 123 r.1))
def rdM (M0 : ZM) (m : Nat) (dp i lv : Int) (r : PR) : Prop := match m with
  | 0 => ∀ (D : Nat) (K : ZM → Prop), 3 * (8 - dp) + 9 ≤ D → rdK M0 r K → zcV D 171 [zA 113, zI dp] (rdS M0 i lv (-1)) K
  | 1 => ∀ (D : Nat) (K : ZM → Prop), 3 * (8 - dp) + 8 ≤ D → rdK M0 r K → wX10_readTest D 5 [(0, zA 113), (1, zI dp)] (rdS M0 i lv (-1)) K
  | 2 => ∀ (D : Nat) (K : ZM → Prop), 3 * (8 - dp) + 8 ≤ D → rdK M0 r K → zcV D 172 [zA 113, zI dp] (rdS M0 i lv (-1)) K
  | 3 => ∀ (D : Nat) (K : ZM → Prop), 3 * (8 - dp) + 7 ≤ D → rdK M0 r K → wX10_readBoth D 5 [(0, zA 113), (1, zI dp)] (rdS M0 i lv (-1)) K
  | 4 => ∀ (D : Nat) (K : ZM → Prop), 3 * (8 - dp) + 6 ≤ D → rdK M0 r K → wX10_readPlain D 2 [(0, zA 113), (1, zI dp), (2, zI 1)] (rdS M0 i lv (-1)) K
  | 5 => ∀ (D : Nat) (K : ZM → Prop), 3 * (8 - dp) + 6 ≤ D → rdK M0 r K → wX10_readPlain D 2 [(0, zA 113), (1, zI dp), (2, zI 0)] (rdS M0 i lv (-1)) K
  | 6 => ∀ (D : Nat) (K : ZM → Prop), 3 * (8 - dp) + 6 ≤ D → rdK M0 r K → zcV D 174 [zA 113, zI dp] (rdS M0 i lv (-1)) K
  | 7 => ∀ (D : Nat) (K : ZM → Prop), 3 * (8 - dp) + 5 ≤ D → rdK M0 r K → wX10_readSum D 5 [(0, zA 113), (1, zI dp)] (rdS M0 i lv (-1)) K
  | 8 => ∀ (D : Nat) (K : ZM → Prop), 3 * (8 - dp) + 5 ≤ D → rdK M0 r K → zcV D 175 [zA 113, zI dp] (rdS M0 i lv (-1)) K
  | 9 => ∀ (D : Nat) (K : ZM → Prop), 3 * (8 - dp) + 4 ≤ D → rdK M0 r K → wX10_readTerm D 5 [(0, zA 113), (1, zI dp)] (rdS M0 i lv (-1)) K
  | _ => ∀ (D : Nat) (K : ZM → Prop), 3 * (8 - dp) + 4 ≤ D → rdK M0 r K → zcV D 176 [zA 113, zI dp] (rdS M0 i lv (-1)) K
def rk (m : Nat) : Nat := [7, 1, 6, 1, 5, 4, 3, 1, 2, 1, 1].getD m 1
/-- where it ends -/
def rdG (T i lv : Int) (r : PR) : Prop := i ≤ r.1 ∧ r.1 ≤ T ∧ (r.2.2.isSome = true → lv ≤ r.2.1 ∧ r.2.1 ≤ 50)
theorem rd_all {c v : Int → Int} {M0 : ZM} {T : Int} (hT : TKN c v M0 T) : ∀ (n m : Nat) (dp i lv : Int) (h : ME), m ≤ 10 → 0 ≤ i → i ≤ T → 0 ≤ dp → dp ≤ 8 → 0 ≤ lv → lv ≤ 50 → 12 * (T + 1 - i) + rk m ≤ n → rdG T i lv (pP c v n m dp i lv h) ∧ rdM M0 m dp i lv (pP c v n m dp i lv h) := by
  obtain ⟨t4, cz, tk⟩ := id hT
  intro n
  induction n with
  | zero => intro m dp i lv h hm i0 i1 d0 d8 l0 l1 hn; omega
  | succ n ih =>
    intro m dp i lv h hm i0 i1 d0 d8 l0 l1 hn
    have p0 : ∀ j, 0 ≤ j → j ≤ T → 0 ≤ M0 123 j := fun j a b => (tk j a b).2.2.1
    have lt : ∀ {q : Int}, q ≠ 0 → c i = q → i < T := fun {q} hq e => by
      by_cases z : i < T
      · exact z
      · exact absurd (by rw [← e]; exact cz i (by omega)) hq
    -- one, then its rest
    have seq : ∀ {m1 m2 : Nat} {i' lv' : Int} {hh : ME} {G : ME → ME}, m1 ≤ 10 → m2 ≤ 10 → 0 ≤ i' → i' ≤ T → 0 ≤ lv' → lv' ≤ 50 → 12 * (T + 1 - i') + rk m1 ≤ n → (∀ i1, i' ≤ i1 → 12 * (T + 1 - i1) + rk m2 ≤ n) → rdG T i' lv' (pB (pP c v n m1 dp i' lv' hh) (fun i1 lv1 h1 => pP c v n m2 dp i1 lv1 (G h1))) ∧ ∀ {D1 : Nat} {K : ZM → Prop} {W1 : (ZM → Prop) → Prop} {W2 : ZM → Prop}, rdK M0 (pB (pP c v n m1 dp i' lv' hh) (fun i1 lv1 h1 => pP c v n m2 dp i1 lv1 (G h1))) K → (∀ K1, rdK M0 (pP c v n m1 dp i' lv' hh) K1 → W1 K1) → (∀ i1 lv1 r, rdM M0 m2 dp i1 lv1 r → rdK M0 r K → W2 (rdS M0 i1 lv1 (-1))) → (∀ t l b, 0 ≤ b → K (rdS M0 t l b) → W2 (rdS M0 t l b)) → W1 W2 := by
      intro m1 m2 i' lv' hh G a1 a2 x0 x1 y0 y1 f1 f2
      have s1 := ih m1 dp i' lv' hh a1 x0 x1 d0 d8 y0 y1 f1
      generalize pP c v n m1 dp i' lv' hh = r1 at *
      obtain ⟨j1, lv1, o⟩ := r1
      cases o with
      | none =>
        refine ⟨⟨s1.1.1, s1.1.2.1, fun z => by cases z⟩, ?_⟩
        intro D1 K W1 W2 hk w1 w2 wn
        refine w1 W2 (fun t l => wn t l _ (p0 j1 ?_ s1.1.2.1) (hk t l))
        have := s1.1.1
        exact Int.le_trans x0 this
      | some h1 =>
        have b1 := s1.1.2.2 rfl
        have g1 := s1.1.1
        have g2 := s1.1.2.1
        have g1 : i' ≤ j1 := g1
        have g2 : j1 ≤ T := g2
        have b1 : lv' ≤ lv1 ∧ lv1 ≤ 50 := b1
        have s2 := ih m2 dp j1 lv1 (G h1) a2 (by omega) g2 d0 d8 (by omega) b1.2 (f2 j1 g1)
        refine ⟨⟨?_, s2.1.2.1, fun z => ?_⟩, ?_⟩
        · have := s2.1.1
          exact Int.le_trans g1 this
        · have := s2.1.2.2 z
          exact ⟨Int.le_trans b1.1 this.1, this.2⟩
        · intro D1 K W1 W2 hk w1 w2 wn
          exact w1 W2 (w2 j1 lv1 _ s2.2 hk)
    have stop : rdG T i lv (i, lv, some h) := ⟨Int.le_refl _, i1, fun _ => ⟨Int.le_refl _, l1⟩⟩
    have halt : rdG T i lv (i, lv, none) := ⟨Int.le_refl _, i1, fun z => by cases z⟩
    rcases (by omega : m = 0 ∨ m = 1 ∨ m = 2 ∨ m = 3 ∨ m = 4 ∨ m = 5 ∨ m = 6 ∨ m = 7 ∨ m = 8 ∨ m = 9 ∨ m = 10) with rfl | rfl | rfl | rfl | rfl | rfl | rfl | rfl | rfl | rfl | rfl
    · have e : rk 0 = 7 := rfl
      have e2 : rk 2 = 6 := rfl
      have e1 : rk 1 = 1 := rfl
      rw [pP_0]
      have s := seq (m1 := 2) (m2 := 1) (i' := i) (lv' := lv) (hh := h) (G := id) (by decide) (by decide) i0 i1 l0 l1 (by omega) (fun j hj => by omega)
      refine ⟨s.1, fun D K hD hk => ?_⟩
      obtain ⟨D, rfl⟩ : ∃ D', D = D' + 3 := ⟨D - 3, by omega⟩
      apply vX10_readTest
      have sub := (ih 2 dp i lv h (by decide) i0 i1 d0 d8 l0 l1 (by omega)).2
      exact s.2 (D1 := D) (W1 := fun W => zcV (D + 2) 172 [zA 113, zI dp] (rdS M0 i lv (-1)) W) (W2 := fun M1 => wX10_readTest (D + 2) 5 [(0, zA 113), (1, zI dp)] M1 K) hk (fun K1 hk1 => sub (D + 2) K1 (by omega) hk1) (fun i1 lv1 r hr hk2 => hr (D + 2) K (by omega) hk2) (fun t l b hb hkb => n_1 hb hkb)
    · have e : rk 1 = 1 := rfl
      have e2 : rk 2 = 6 := rfl
      rw [pP_1]
      by_cases hc : c i = 8
      · rw [if_pos hc]
        have il := lt (by decide) hc
        have s := seq (m1 := 2) (m2 := 1) (i' := i + 1) (lv' := lv) (hh := h) (G := mOr h) (by decide) (by decide) (by omega) (by omega) l0 l1 (by omega) (fun j hj => by omega)
        refine ⟨⟨Int.le_trans (by omega) s.1.1, s.1.2.1, s.1.2.2⟩, fun D K hD hk => ?_⟩
        obtain ⟨D, rfl⟩ : ∃ D', D = D' + 2 := ⟨D - 2, by omega⟩
        apply vX10_readTest_5
        have sub := (ih 2 dp (i + 1) lv h (by decide) (by omega) (by omega) d0 d8 l0 l1 (by omega)).2
        refine r_takes hT i0 i1 (fun _ => ⟨fun z => by omega, fun _ => ?_⟩) (fun z => absurd hc z)
        exact s.2 (D1 := D) (W1 := fun W => zcV (D + 2) 172 [zA 113, zI dp] (rdS M0 (i + 1) lv (-1)) W) (W2 := fun M1 => wX10_readTest (D + 2) 5 [(0, zA 113), (1, zI dp)] M1 K) hk (fun K1 hk1 => sub (D + 2) K1 (by omega) hk1) (fun i1 lv1 r hr hk2 => hr (D + 2) K (by omega) hk2) (fun t l b hb hkb => n_1 hb hkb)
      · rw [if_neg hc]
        refine ⟨stop, fun D K hD hk => ?_⟩
        obtain ⟨D, rfl⟩ : ∃ D', D = D' + 2 := ⟨D - 2, by omega⟩
        apply vX10_readTest_5
        exact r_takes hT i0 i1 (fun z => absurd z hc) (fun _ => ⟨fun _ => hk, fun z => absurd rfl z⟩)
    · have e : rk 2 = 6 := rfl
      have e2 : rk 4 = 5 := rfl
      have e1 : rk 3 = 1 := rfl
      rw [pP_2]
      have s := seq (m1 := 4) (m2 := 3) (i' := i) (lv' := lv) (hh := h) (G := id) (by decide) (by decide) i0 i1 l0 l1 (by omega) (fun j hj => by omega)
      refine ⟨s.1, fun D K hD hk => ?_⟩
      obtain ⟨D, rfl⟩ : ∃ D', D = D' + 3 := ⟨D - 3, by omega⟩
      apply vX10_readBoth
      have sub := (ih 4 dp i lv h (by decide) i0 i1 d0 d8 l0 l1 (by omega)).2
      exact s.2 (D1 := D) (W1 := fun W => zcV (D + 2) 173 [zA 113, zI dp] (rdS M0 i lv (-1)) W) (W2 := fun M1 => wX10_readBoth (D + 2) 5 [(0, zA 113), (1, zI dp)] M1 K) hk (fun K1 hk1 => vX10_readPlain _ _ _ _ (sub (D + 1) K1 (by omega) hk1)) (fun i1 lv1 r hr hk2 => hr (D + 2) K (by omega) hk2) (fun t l b hb hkb => n_3 hb hkb)
    · have e : rk 3 = 1 := rfl
      have e2 : rk 4 = 5 := rfl
      rw [pP_3]
      by_cases hc : c i = 9
      · rw [if_pos hc]
        have il := lt (by decide) hc
        have s := seq (m1 := 4) (m2 := 3) (i' := i + 1) (lv' := lv) (hh := h) (G := mAnd h) (by decide) (by decide) (by omega) (by omega) l0 l1 (by omega) (fun j hj => by omega)
        refine ⟨⟨Int.le_trans (by omega) s.1.1, s.1.2.1, s.1.2.2⟩, fun D K hD hk => ?_⟩
        obtain ⟨D, rfl⟩ : ∃ D', D = D' + 2 := ⟨D - 2, by omega⟩
        apply vX10_readBoth_5
        have sub := (ih 4 dp (i + 1) lv h (by decide) (by omega) (by omega) d0 d8 l0 l1 (by omega)).2
        refine r_takes hT i0 i1 (fun _ => ⟨fun z => by omega, fun _ => ?_⟩) (fun z => absurd hc z)
        exact s.2 (D1 := D) (W1 := fun W => zcV (D + 2) 173 [zA 113, zI dp] (rdS M0 (i + 1) lv (-1)) W) (W2 := fun M1 => wX10_readBoth (D + 2) 5 [(0, zA 113), (1, zI dp)] M1 K) hk (fun K1 hk1 => vX10_readPlain _ _ _ _ (sub (D + 1) K1 (by omega) hk1)) (fun i1 lv1 r hr hk2 => hr (D + 2) K (by omega) hk2) (fun t l b hb hkb => n_3 hb hkb)
      · rw [if_neg hc]
        refine ⟨stop, fun D K hD hk => ?_⟩
        obtain ⟨D, rfl⟩ : ∃ D', D = D' + 2 := ⟨D - 2, by omega⟩
        apply vX10_readBoth_5
        exact r_takes hT i0 i1 (fun z => absurd z hc) (fun _ => ⟨fun _ => hk, fun z => absurd rfl z⟩)
    · -- nots
      have e : rk 4 = 5 := rfl
      have e2 : rk 5 = 4 := rfl
      rw [pP_4]
      by_cases hc : c i = 10
      · rw [if_pos hc]
        have il := lt (by decide) hc
        have sub := ih 4 dp (i + 1) lv h (by decide) (by omega) (by omega) d0 d8 l0 l1 (by omega)
        generalize pP c v n 4 dp (i + 1) lv h = r1 at *
        obtain ⟨j1, lv1, o⟩ := r1
        have a1 := sub.1.1
        have a1 : i + 1 ≤ j1 := a1
        have go : ∀ (D : Nat) (K : ZM → Prop), 3 * (8 - dp) + 6 ≤ (D : Int) → rdK M0 (j1, lv1, o) K → wX10_readPlain D 2 [(0, zA 113), (1, zI dp), (2, zI 1)] (rdS M0 i lv (-1)) K := by
          intro D K hD hk
          have nx := sub.2 D K hD hk
          obtain ⟨D, rfl⟩ : ∃ D', D = D' + 2 := ⟨D - 2, by omega⟩
          apply vX10_readPlain_2
          exact ⟨fun z => by omega, fun _ => r_takes hT i0 i1 (fun _ => nx) (fun z => absurd hc z)⟩
        cases o with
        | none => exact ⟨⟨show i ≤ j1 by omega, sub.1.2.1, fun z => by cases z⟩, fun D K hD hk => go D K hD hk⟩
        | some f => exact ⟨⟨show i ≤ j1 by omega, sub.1.2.1, fun _ => sub.1.2.2 rfl⟩, fun D K hD hk => go D K hD hk⟩
      · rw [if_neg hc]
        have sub := ih 5 dp i lv h (by decide) i0 i1 d0 d8 l0 l1 (by omega)
        refine ⟨sub.1, fun D K hD hk => ?_⟩
        have nx := sub.2 D K hD hk
        obtain ⟨D, rfl⟩ : ∃ D', D = D' + 2 := ⟨D - 2, by omega⟩
        apply vX10_readPlain_2
        exact ⟨fun z => by omega, fun _ => r_takes hT i0 i1 (fun z => absurd z hc) (fun _ => nx)⟩
    · -- behind them
      have e : rk 5 = 4 := rfl
      have e0 : rk 0 = 7 := rfl
      have e6 : rk 6 = 3 := rfl
      rw [pP_5]
      have ci := (tk i i0 i1).1
      by_cases hc : c i = 140
      · rw [if_pos hc]
        have il := lt (by decide) hc
        by_cases h8 : dp = 8
        · rw [if_pos h8]
          refine ⟨halt, fun D K hD hk => ?_⟩
          obtain ⟨D, rfl⟩ : ∃ D', D = D' + 3 := ⟨D - 3, by omega⟩
          apply vX10_readPlain_2
          refine ⟨fun _ => r_fine ⟨fun _ => ?_, fun z => by omega⟩, fun z => absurd rfl z⟩
          rw [rdS_15, rdS_row (show (121 : Nat) ≠ 113 by decide), ci, hc]
          refine ⟨⟨by omega, by omega⟩, r_sign (by omega) (by omega) ⟨fun z => absurd rfl z, fun _ => ⟨fun z => absurd h8 z, fun _ => r_faults hT i0 i1 ?_⟩⟩⟩
          apply vX10_readPlain_53
          exact r_nfine (p0 i i0 i1) ⟨fun z => absurd rfl z, fun _ => hk i lv⟩
        · rw [if_neg h8]
          have sub := ih 0 (dp + 1) (i + 1) lv h (by decide) (by omega) (by omega) (by omega) (by omega) l0 l1 (by omega)
          generalize pP c v n 0 (dp + 1) (i + 1) lv h = r1 at *
          obtain ⟨j1, lv1, o⟩ := r1
          have a1 := sub.1.1
          have a1 : i + 1 ≤ j1 := a1
          have a2 := sub.1.2.1
          have a2 : j1 ≤ T := a2
          have go : ∀ (D : Nat) (K : ZM → Prop), 3 * (8 - dp) + 6 ≤ (D : Int) → rdK M0 (j1, lv1, o) (fun M1 => zcV D 168 [zA 113, zI 141] M1 K) → wX10_readPlain D 2 [(0, zA 113), (1, zI dp), (2, zI 0)] (rdS M0 i lv (-1)) K := by
            intro D K hD hk
            have nx := sub.2 D (fun M1 => zcI D 170 [zI 41] M1 (fun x6 M5 => zcV D 168 [zA 113, zI x6] M5 K)) (by omega)
            obtain ⟨D, rfl⟩ : ∃ D', D = D' + 3 := ⟨D - 3, by omega⟩
            apply vX10_readPlain_2
            refine ⟨fun _ => r_fine ⟨fun _ => ?_, fun z => by omega⟩, fun z => absurd rfl z⟩
            rw [rdS_15, rdS_row (show (121 : Nat) ≠ 113 by decide), ci, hc]
            refine ⟨⟨by omega, by omega⟩, r_sign (by omega) (by omega) ⟨fun z => absurd rfl z, fun _ => ⟨fun _ => ?_, fun z => absurd z h8⟩⟩⟩
            apply vX10_readPlain_53
            refine r_fine ⟨fun _ => ?_, fun z => by omega⟩
            rw [rdS_15]
            refine ⟨⟨by omega, by omega⟩, zset ?_⟩
            rw [rdS_tok]
            refine ⟨⟨by omega, by omega⟩, nx ?_⟩
            cases o with
            | none => exact fun t l => r_sign (by omega) (by omega) (hk t l)
            | some f => exact r_sign (by omega) (by omega) hk
          cases o with
          | none =>
            refine ⟨⟨show i ≤ j1 by omega, a2, fun z => by cases z⟩, fun D K hD hk => go D K hD (fun t l => ?_)⟩
            obtain ⟨D, rfl⟩ : ∃ D', D = D' + 3 := ⟨D - 3, by omega⟩
            exact r_nmust (p0 j1 (by omega) a2) (hk t l)
          | some f =>
            have b1 := sub.1.2.2 rfl
            have b1 : lv ≤ lv1 ∧ lv1 ≤ 50 := b1
            show rdG T i lv (if c j1 = 141 then (j1 + 1, lv1, some f) else (j1, lv1, none)) ∧ _
            by_cases hj : c j1 = 141
            · have jl : j1 < T := by
                by_cases z : j1 < T
                · exact z
                · have := cz j1 (by omega); omega
              have er : (pB (j1, lv1, some f) fun i1 lv1 h1 => if c i1 = 141 then (i1 + 1, lv1, some h1) else (i1, lv1, none)) = (j1 + 1, lv1, some f) := if_pos hj
              rw [er, if_pos hj]
              refine ⟨⟨show i ≤ j1 + 1 by omega, show j1 + 1 ≤ T by omega, fun _ => b1⟩, fun D K hD hk => go D K hD ?_⟩
              obtain ⟨D, rfl⟩ : ∃ D', D = D' + 3 := ⟨D - 3, by omega⟩
              exact r_must hT (by omega) a2 (fun _ => hk) (fun z => absurd hj z)
            · have er : (pB (j1, lv1, some f) fun i1 lv1 h1 => if c i1 = 141 then (i1 + 1, lv1, some h1) else (i1, lv1, none)) = (j1, lv1, none) := if_neg hj
              rw [er, if_neg hj]
              refine ⟨⟨show i ≤ j1 by omega, a2, fun z => by cases z⟩, fun D K hD hk => go D K hD ?_⟩
              obtain ⟨D, rfl⟩ : ∃ D', D = D' + 3 := ⟨D - 3, by omega⟩
              exact r_must hT (by omega) a2 (fun z => absurd z hj) (fun _ => hk _ _)
      · rw [if_neg hc]
        have sub := ih 6 dp i lv h (by decide) i0 i1 d0 d8 l0 l1 (by omega)
        generalize pP c v n 6 dp i lv h = r1 at *
        obtain ⟨j1, lv1, o⟩ := r1
        have a1 := sub.1.1
        have a1 : i ≤ j1 := a1
        have a2 := sub.1.2.1
        have a2 : j1 ≤ T := a2
        have go : ∀ (D : Nat) (K : ZM → Prop), 3 * (8 - dp) + 6 ≤ ((D + 3 : Nat) : Int) → rdK M0 (j1, lv1, o) (fun M5 => zcI (D + 3) 167 [zA 113, zI 160] M5 (fun x9 M8 => (¬ x9 = 0 → zcV (D + 3) 174 [zA 113, zI dp] M8 K) ∧ (x9 = 0 → zcI (D + 3) 167 [zA 113, zI 162] M8 (fun x14 M13 => (¬ x14 = 0 → zcV (D + 3) 174 [zA 113, zI dp] M13 K) ∧ (x14 = 0 → zcV (D + 3) 168 [zA 113, zI 161] M13 (fun M18 => zcV (D + 3) 174 [zA 113, zI dp] M18 K)))))) → wX10_readPlain (D + 3) 2 [(0, zA 113), (1, zI dp), (2, zI 0)] (rdS M0 i lv (-1)) K := by
          intro D K hD hk
          have wrap : ∀ M5 : ZM, zcI (D + 3) 167 [zA 113, zI 160] M5 (fun x9 M8 => (¬ x9 = 0 → zcV (D + 3) 174 [zA 113, zI dp] M8 K) ∧ (x9 = 0 → zcI (D + 3) 167 [zA 113, zI 162] M8 (fun x14 M13 => (¬ x14 = 0 → zcV (D + 3) 174 [zA 113, zI dp] M13 K) ∧ (x14 = 0 → zcV (D + 3) 168 [zA 113, zI 161] M13 (fun M18 => zcV (D + 3) 174 [zA 113, zI dp] M18 K))))) → zcI (D + 3) 170 [zI 60] M5 (fun x7 M6 => zcI (D + 3) 167 [zA 113, zI x7] M6 (fun x9 M8 => (¬ x9 = 0 → zcV (D + 3) 174 [zA 113, zI dp] M8 K) ∧ (x9 = 0 → zcI (D + 3) 170 [zI 62] M8 (fun x12 M11 => zcI (D + 3) 167 [zA 113, zI x12] M11 (fun x14 M13 => (¬ x14 = 0 → zcV (D + 3) 174 [zA 113, zI dp] M13 K) ∧ (x14 = 0 → zcI (D + 3) 170 [zI 61] M13 (fun x17 M16 => zcV (D + 3) 168 [zA 113, zI x17] M16 (fun M18 => zcV (D + 3) 174 [zA 113, zI dp] M18 K)))))))) := by
            intro M5 h5
            refine r_sign (by omega) (by omega) (zcI_mono h5 (fun x9 M8 _ h8 => ⟨h8.1, fun z => r_sign (by omega) (by omega) (zcI_mono (h8.2 z) (fun x14 M13 _ h13 => ⟨h13.1, fun y => r_sign (by omega) (by omega) (h13.2 y)⟩))⟩))
          apply vX10_readPlain_2
          refine ⟨fun _ => r_fine ⟨fun _ => ?_, fun z => by omega⟩, fun z => absurd rfl z⟩
          rw [rdS_15, rdS_row (show (121 : Nat) ≠ 113 by decide), ci]
          refine ⟨⟨by omega, by omega⟩, r_sign (by omega) (by omega) ⟨fun _ => sub.2 (D + 3) _ hD ?_, fun z => absurd z hc⟩⟩
          cases o with
          | none => exact fun t l => wrap _ (hk t l)
          | some f => exact wrap _ hk
        cases o with
        | none =>
          refine ⟨⟨a1, a2, fun z => by cases z⟩, fun D K hD hk => ?_⟩
          obtain ⟨D, rfl⟩ : ∃ D', D = D' + 4 := ⟨D - 4, by omega⟩
          have pj := p0 j1 (by omega) a2
          exact go (D + 1) K hD (fun t l => r_ntakes pj ⟨fun z => absurd rfl z, fun _ => r_ntakes pj ⟨fun z => absurd rfl z, fun _ => r_nmust pj (n_6 pj (hk t l))⟩⟩)
        | some f =>
          have b1 := sub.1.2.2 rfl
          have b1 : lv ≤ lv1 ∧ lv1 ≤ 50 := b1
          by_cases hj : c j1 = 160 ∨ c j1 = 161 ∨ c j1 = 162
          · have jl : j1 < T := by
              by_cases z : j1 < T
              · exact z
              · have := cz j1 (by omega); omega
            have no3 : c j1 ≠ 160 → c j1 ≠ 162 → c j1 ≠ 161 → False := fun a b d => hj.elim a (fun z => z.elim d b)
            have su2 := ih 6 dp (j1 + 1) lv1 h (by decide) (by omega) (by omega) d0 d8 (by omega) b1.2 (by omega)
            have er : (pB (j1, lv1, some f) fun i1 lv1 h1 => if c i1 = 160 ∨ c i1 = 161 ∨ c i1 = 162 then pB (pP c v n 6 dp (i1 + 1) lv1 h) (fun i2 lv2 h2 => (i2, lv2, some (mTwo (if c i1 = 160 then 4 else if c i1 = 162 then 5 else 6) h1 h2))) else (i1, lv1, none)) = pB (pP c v n 6 dp (j1 + 1) lv1 h) (fun i2 lv2 h2 => (i2, lv2, some (mTwo (if c j1 = 160 then 4 else if c j1 = 162 then 5 else 6) f h2))) := if_pos hj
            rw [er]
            generalize pP c v n 6 dp (j1 + 1) lv1 h = r2 at *
            obtain ⟨j2, lv2, o2⟩ := r2
            have a3 := su2.1.1
            have a3 : j1 + 1 ≤ j2 := a3
            have a4 := su2.1.2.1
            have a4 : j2 ≤ T := a4
            have fin : ∀ (D : Nat) (K : ZM → Prop), 3 * (8 - dp) + 6 ≤ (D : Int) → rdK M0 (j2, lv2, o2) K → wX10_readPlain D 2 [(0, zA 113), (1, zI dp), (2, zI 0)] (rdS M0 i lv (-1)) K := by
              intro D K hD hk
              have nx := su2.2 D K hD hk
              obtain ⟨D, rfl⟩ : ∃ D', D = D' + 3 := ⟨D - 3, by omega⟩
              exact go D K hD (r_takes hT (by omega) a2 (fun _ => ⟨fun _ => nx, fun z => by omega⟩) (fun n1 => ⟨fun z => absurd rfl z, fun _ => r_takes hT (by omega) a2 (fun _ => ⟨fun _ => nx, fun z => by omega⟩) (fun n2 => ⟨fun z => absurd rfl z, fun _ => r_must hT (by omega) a2 (fun _ => nx) (fun n3 => (no3 n1 n2 n3).elim)⟩)⟩))
            cases o2 with
            | none => exact ⟨⟨show i ≤ j2 by omega, a4, fun z => by cases z⟩, fun D K hD hk => fin D K hD hk⟩
            | some f2 =>
              have b2 := su2.1.2.2 rfl
              have b2 : lv1 ≤ lv2 ∧ lv2 ≤ 50 := b2
              exact ⟨⟨show i ≤ j2 by omega, a4, fun _ => ⟨show lv ≤ lv2 by omega, b2.2⟩⟩, fun D K hD hk => fin D K hD hk⟩
          · have er : (pB (j1, lv1, some f) fun i1 lv1 h1 => if c i1 = 160 ∨ c i1 = 161 ∨ c i1 = 162 then pB (pP c v n 6 dp (i1 + 1) lv1 h) (fun i2 lv2 h2 => (i2, lv2, some (mTwo (if c i1 = 160 then 4 else if c i1 = 162 then 5 else 6) h1 h2))) else (i1, lv1, none)) = (j1, lv1, none) := if_neg hj
            rw [er]
            refine ⟨⟨a1, a2, fun z => by cases z⟩, fun D K hD hk => ?_⟩
            obtain ⟨D, rfl⟩ : ∃ D', D = D' + 4 := ⟨D - 4, by omega⟩
            have pj := p0 j1 (by omega) a2
            exact go (D + 1) K hD (r_takes hT (by omega) a2 (fun z => absurd (Or.inl z) hj) (fun n1 => ⟨fun z => absurd rfl z, fun _ => r_takes hT (by omega) a2 (fun z => absurd (Or.inr (Or.inr z)) hj) (fun n2 => ⟨fun z => absurd rfl z, fun _ => r_must hT (by omega) a2 (fun z => absurd (Or.inr (Or.inl z)) hj) (fun n3 => n_6 pj (hk _ _))⟩)⟩))
    · have e : rk 6 = 3 := rfl
      have e2 : rk 8 = 2 := rfl
      have e1 : rk 7 = 1 := rfl
      rw [pP_6]
      have s := seq (m1 := 8) (m2 := 7) (i' := i) (lv' := lv) (hh := h) (G := id) (by decide) (by decide) i0 i1 l0 l1 (by omega) (fun j hj => by omega)
      refine ⟨s.1, fun D K hD hk => ?_⟩
      obtain ⟨D, rfl⟩ : ∃ D', D = D' + 3 := ⟨D - 3, by omega⟩
      apply vX10_readSum
      have sub := (ih 8 dp i lv h (by decide) i0 i1 d0 d8 l0 l1 (by omega)).2
      exact s.2 (D1 := D) (W1 := fun W => zcV (D + 2) 175 [zA 113, zI dp] (rdS M0 i lv (-1)) W) (W2 := fun M1 => wX10_readSum (D + 2) 5 [(0, zA 113), (1, zI dp)] M1 K) hk (fun K1 hk1 => sub (D + 2) K1 (by omega) hk1) (fun i1 lv1 r hr hk2 => hr (D + 2) K (by omega) hk2) (fun t l b hb hkb => n_7 hb hkb)
    · have e : rk 7 = 1 := rfl
      have e2 : rk 8 = 2 := rfl
      rw [pP_7]
      by_cases hc : c i = 143 ∨ c i = 145
      · rw [if_pos hc]
        have il : i < T := by
          by_cases z : i < T
          · exact z
          · have := cz i (by omega); omega
        have s := seq (m1 := 8) (m2 := 7) (i' := i + 1) (lv' := lv) (hh := h) (G := mTwo (if c i = 143 then 0 else 1) h) (by decide) (by decide) (by omega) (by omega) l0 l1 (by omega) (fun j hj => by omega)
        refine ⟨⟨Int.le_trans (by omega) s.1.1, s.1.2.1, s.1.2.2⟩, fun D K hD hk => ?_⟩
        obtain ⟨D, rfl⟩ : ∃ D', D = D' + 2 := ⟨D - 2, by omega⟩
        apply vX10_readSum_5
        have sub := (ih 8 dp (i + 1) lv h (by decide) (by omega) (by omega) d0 d8 l0 l1 (by omega)).2
        have nx := s.2 (D1 := D) (W1 := fun W => zcV (D + 2) 175 [zA 113, zI dp] (rdS M0 (i + 1) lv (-1)) W) (W2 := fun M1 => wX10_readSum (D + 2) 5 [(0, zA 113), (1, zI dp)] M1 K) hk (fun K1 hk1 => sub (D + 2) K1 (by omega) hk1) (fun i1 lv1 r hr hk2 => hr (D + 2) K (by omega) hk2) (fun t l b hb hkb => n_7 hb hkb)
        exact r_sign (by omega) (by omega) (r_takes hT i0 i1 (fun _ => ⟨fun _ => nx, fun z => by omega⟩) (fun n1 => ⟨fun z => absurd rfl z, fun _ => r_sign (by omega) (by omega) (r_takes hT i0 i1 (fun _ => ⟨fun z => by omega, fun _ => nx⟩) (fun n2 => by omega))⟩))
      · rw [if_neg hc]
        refine ⟨stop, fun D K hD hk => ?_⟩
        obtain ⟨D, rfl⟩ : ∃ D', D = D' + 2 := ⟨D - 2, by omega⟩
        apply vX10_readSum_5
        exact r_sign (by omega) (by omega) (r_takes hT i0 i1 (fun z => by omega) (fun n1 => ⟨fun z => absurd rfl z, fun _ => r_sign (by omega) (by omega) (r_takes hT i0 i1 (fun z => by omega) (fun n2 => ⟨fun _ => hk, fun z => absurd rfl z⟩))⟩))
    · have e : rk 8 = 2 := rfl
      have e2 : rk 10 = 1 := rfl
      have e1 : rk 9 = 1 := rfl
      rw [pP_8]
      have s := seq (m1 := 10) (m2 := 9) (i' := i) (lv' := lv) (hh := h) (G := id) (by decide) (by decide) i0 i1 l0 l1 (by omega) (fun j hj => by omega)
      refine ⟨s.1, fun D K hD hk => ?_⟩
      obtain ⟨D, rfl⟩ : ∃ D', D = D' + 3 := ⟨D - 3, by omega⟩
      apply vX10_readTerm
      have sub := (ih 10 dp i lv h (by decide) i0 i1 d0 d8 l0 l1 (by omega)).2
      exact s.2 (D1 := D) (W1 := fun W => zcV (D + 2) 176 [zA 113, zI dp] (rdS M0 i lv (-1)) W) (W2 := fun M1 => wX10_readTerm (D + 2) 5 [(0, zA 113), (1, zI dp)] M1 K) hk (fun K1 hk1 => sub (D + 2) K1 (by omega) hk1) (fun i1 lv1 r hr hk2 => hr (D + 2) K (by omega) hk2) (fun t l b hb hkb => n_9 hb hkb)
    · have e : rk 9 = 1 := rfl
      have e2 : rk 10 = 1 := rfl
      rw [pP_9]
      by_cases hc : c i = 142 ∨ c i = 147
      · rw [if_pos hc]
        have il : i < T := by
          by_cases z : i < T
          · exact z
          · have := cz i (by omega); omega
        have s := seq (m1 := 10) (m2 := 9) (i' := i + 1) (lv' := lv) (hh := h) (G := mTwo (if c i = 142 then 2 else 3) h) (by decide) (by decide) (by omega) (by omega) l0 l1 (by omega) (fun j hj => by omega)
        refine ⟨⟨Int.le_trans (by omega) s.1.1, s.1.2.1, s.1.2.2⟩, fun D K hD hk => ?_⟩
        obtain ⟨D, rfl⟩ : ∃ D', D = D' + 2 := ⟨D - 2, by omega⟩
        apply vX10_readTerm_5
        have sub := (ih 10 dp (i + 1) lv h (by decide) (by omega) (by omega) d0 d8 l0 l1 (by omega)).2
        have nx := s.2 (D1 := D) (W1 := fun W => zcV (D + 2) 176 [zA 113, zI dp] (rdS M0 (i + 1) lv (-1)) W) (W2 := fun M1 => wX10_readTerm (D + 2) 5 [(0, zA 113), (1, zI dp)] M1 K) hk (fun K1 hk1 => sub (D + 2) K1 (by omega) hk1) (fun i1 lv1 r hr hk2 => hr (D + 2) K (by omega) hk2) (fun t l b hb hkb => n_9 hb hkb)
        exact r_sign (by omega) (by omega) (r_takes hT i0 i1 (fun _ => ⟨fun _ => nx, fun z => by omega⟩) (fun n1 => ⟨fun z => absurd rfl z, fun _ => r_sign (by omega) (by omega) (r_takes hT i0 i1 (fun _ => ⟨fun z => by omega, fun _ => nx⟩) (fun n2 => by omega))⟩))
      · rw [if_neg hc]
        refine ⟨stop, fun D K hD hk => ?_⟩
        obtain ⟨D, rfl⟩ : ∃ D', D = D' + 2 := ⟨D - 2, by omega⟩
        apply vX10_readTerm_5
        exact r_sign (by omega) (by omega) (r_takes hT i0 i1 (fun z => by omega) (fun n1 => ⟨fun z => absurd rfl z, fun _ => r_sign (by omega) (by omega) (r_takes hT i0 i1 (fun z => by omega) (fun n2 => ⟨fun _ => hk, fun z => absurd rfl z⟩))⟩))
    · -- a PART
      have e : rk 10 = 1 := rfl
      have e6 : rk 6 = 3 := rfl
      obtain ⟨ci, vi, -, v0, v1⟩ := tk i i0 i1
      rw [pP_10]
      by_cases hc : c i = 191
      · rw [if_pos hc]
        have il := lt (by decide) hc
        by_cases h8 : dp = 8
        · rw [if_pos h8]
          refine ⟨halt, fun D K hD hk => ?_⟩
          obtain ⟨D, rfl⟩ : ∃ D', D = D' + 3 := ⟨D - 3, by omega⟩
          apply vX10_readPart
          refine r_fine ⟨fun _ => ?_, fun z => by omega⟩
          rw [rdS_15, rdS_row (show (121 : Nat) ≠ 113 by decide), ci, hc]
          refine ⟨⟨by omega, by omega⟩, r_sign (by omega) (by omega) ⟨fun z => absurd rfl z, fun _ => ⟨fun z => absurd h8 z, fun _ => r_faults hT i0 i1 ?_⟩⟩⟩
          apply vX10_readPart_37
          exact r_nfine (p0 i i0 i1) ⟨fun z => absurd rfl z, fun _ => hk i lv⟩
        · rw [if_neg h8]
          have sub := ih 6 (dp + 1) (i + 1) lv h (by decide) (by omega) (by omega) (by omega) (by omega) l0 l1 (by omega)
          generalize pP c v n 6 (dp + 1) (i + 1) lv h = r1 at *
          obtain ⟨j1, lv1, o⟩ := r1
          have a1 := sub.1.1
          have a1 : i + 1 ≤ j1 := a1
          have a2 := sub.1.2.1
          have a2 : j1 ≤ T := a2
          have go : ∀ (D : Nat) (K : ZM → Prop), 3 * (8 - dp) + 4 ≤ ((D + 1 : Nat) : Int) → rdK M0 (j1, lv1, o) (fun M1 => zcV D 168 [zA 113, zI 193] M1 K) → zcV (D + 1) 176 [zA 113, zI dp] (rdS M0 i lv (-1)) K := by
            intro D K hD hk
            have nx := sub.2 D (fun M1 => zcI D 170 [zI 93] M1 (fun x6 M5 => zcV D 168 [zA 113, zI x6] M5 K)) (by omega)
            obtain ⟨D, rfl⟩ : ∃ D', D = D' + 3 := ⟨D - 3, by omega⟩
            apply vX10_readPart
            refine r_fine ⟨fun _ => ?_, fun z => by omega⟩
            rw [rdS_15, rdS_row (show (121 : Nat) ≠ 113 by decide), ci, hc]
            refine ⟨⟨by omega, by omega⟩, r_sign (by omega) (by omega) ⟨fun z => absurd rfl z, fun _ => ⟨fun _ => ?_, fun z => absurd z h8⟩⟩⟩
            apply vX10_readPart_37
            refine r_fine ⟨fun _ => ?_, fun z => by omega⟩
            rw [rdS_15]
            refine ⟨⟨by omega, by omega⟩, zset ?_⟩
            rw [rdS_tok]
            refine ⟨⟨by omega, by omega⟩, nx ?_⟩
            cases o with
            | none => exact fun t l => r_sign (by omega) (by omega) (hk t l)
            | some f => exact r_sign (by omega) (by omega) hk
          cases o with
          | none =>
            refine ⟨⟨show i ≤ j1 by omega, a2, fun z => by cases z⟩, fun D K hD hk => ?_⟩
            obtain ⟨D, rfl⟩ : ∃ D', D = D' + 4 := ⟨D - 4, by omega⟩
            exact go (D + 3) K hD (fun t l => r_nmust (p0 j1 (by omega) a2) (hk t l))
          | some f =>
            have b1 := sub.1.2.2 rfl
            have b1 : lv ≤ lv1 ∧ lv1 ≤ 50 := b1
            show rdG T i lv (if c j1 = 193 then (j1 + 1, lv1, some f) else (j1, lv1, none)) ∧ _
            by_cases hj : c j1 = 193
            · have jl : j1 < T := by
                by_cases z : j1 < T
                · exact z
                · have := cz j1 (by omega); omega
              have er : (pB (j1, lv1, some f) fun i1 lv1 h1 => if c i1 = 193 then (i1 + 1, lv1, some h1) else (i1, lv1, none)) = (j1 + 1, lv1, some f) := if_pos hj
              rw [er, if_pos hj]
              refine ⟨⟨show i ≤ j1 + 1 by omega, show j1 + 1 ≤ T by omega, fun _ => b1⟩, fun D K hD hk => ?_⟩
              obtain ⟨D, rfl⟩ : ∃ D', D = D' + 4 := ⟨D - 4, by omega⟩
              exact go (D + 3) K hD (r_must hT (by omega) a2 (fun _ => hk) (fun z => absurd hj z))
            · have er : (pB (j1, lv1, some f) fun i1 lv1 h1 => if c i1 = 193 then (i1 + 1, lv1, some h1) else (i1, lv1, none)) = (j1, lv1, none) := if_neg hj
              rw [er, if_neg hj]
              refine ⟨⟨show i ≤ j1 by omega, a2, fun z => by cases z⟩, fun D K hD hk => ?_⟩
              obtain ⟨D, rfl⟩ : ∃ D', D = D' + 4 := ⟨D - 4, by omega⟩
              exact go (D + 3) K hD (r_must hT (by omega) a2 (fun z => absurd z hj) (fun _ => hk _ _))
      · rw [if_neg hc]
        by_cases hl : (c i = 50 ∧ 0 ≤ v i ∧ v i ≤ 1000) ∨ (11 ≤ c i ∧ c i ≤ 13)
        · rw [if_pos hl]
          have il : i < T := by
            by_cases z : i < T
            · exact z
            · have := cz i (by omega); omega
          have go : ∀ (D : Nat) (K : ZM → Prop), zcV (D + 3) 169 [zA 113] (rdS M0 i lv (-1)) K → zcV (D + 4) 176 [zA 113, zI dp] (rdS M0 i lv (-1)) K := by
            intro D K hk
            apply vX10_readPart
            refine r_fine ⟨fun _ => ?_, fun z => by omega⟩
            rw [rdS_15, rdS_row (show (121 : Nat) ≠ 113 by decide), ci]
            refine ⟨⟨by omega, by omega⟩, r_sign (by omega) (by omega) ⟨fun _ => ⟨fun n5 => ?_, fun e5 => ⟨by rw [rdS_15]; exact ⟨by omega, by omega⟩, fun _ => hk, fun z => ?_⟩⟩, fun z => absurd z hc⟩⟩
            · apply vX10_readPart_95
              exact ⟨fun z => by omega, fun _ => ⟨fun z => by omega, fun _ => hk⟩⟩
            · rw [rdS_15, rdS_row (show (122 : Nat) ≠ 113 by decide), vi] at z
              omega
          by_cases h50 : lv = 50
          · rw [if_pos h50]
            refine ⟨halt, fun D K hD hk => ?_⟩
            obtain ⟨D, rfl⟩ : ∃ D', D = D' + 4 := ⟨D - 4, by omega⟩
            exact go D K (r_leaf hT i0 i1 l0 l1 (fun _ t l => hk t l) (fun z => absurd h50 z))
          · rw [if_neg h50]
            refine ⟨⟨show i ≤ i + 1 by omega, show i + 1 ≤ T by omega, fun _ => ⟨show lv ≤ lv + 1 by omega, show lv + 1 ≤ 50 by omega⟩⟩, fun D K hD hk => ?_⟩
            obtain ⟨D, rfl⟩ : ∃ D', D = D' + 4 := ⟨D - 4, by omega⟩
            exact go D K (r_leaf hT i0 i1 l0 l1 (fun z => absurd z h50) (fun _ => hk))
        · rw [if_neg hl]
          refine ⟨halt, fun D K hD hk => ?_⟩
          obtain ⟨D, rfl⟩ : ∃ D', D = D' + 4 := ⟨D - 4, by omega⟩
          have bad : wX10_readPart (D + 3) 95 [(0, zA 113), (2, zI (c i))] (rdS M0 i lv (-1)) K := by
            apply vX10_readPart_95
            exact ⟨fun _ => r_faults hT i0 i1 (hk _ _), fun _ => ⟨fun _ => r_faults hT i0 i1 (hk _ _), fun z => absurd (Or.inr ⟨by omega, by omega⟩) hl⟩⟩
          apply vX10_readPart
          refine r_fine ⟨fun _ => ?_, fun z => by omega⟩
          rw [rdS_15, rdS_row (show (121 : Nat) ≠ 113 by decide), ci]
          refine ⟨⟨by omega, by omega⟩, r_sign (by omega) (by omega) ⟨fun _ => ⟨fun n5 => bad, fun e5 => ⟨by rw [rdS_15]; exact ⟨by omega, by omega⟩, fun z => ?_, fun _ => bad⟩⟩, fun z => absurd z hc⟩⟩
          rw [rdS_15, rdS_row (show (122 : Nat) ≠ 113 by decide), vi] at z
          exact absurd (Or.inl ⟨e5, v0, z⟩) hl
