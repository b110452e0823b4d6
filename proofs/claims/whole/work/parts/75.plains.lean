/-! the reference's plains -/
def mapR {α β : Type} (g : α → β) (x : SR α) : SR β := (x.1, x.2.1, g x.2.2)
theorem mg_map {α β : Type} (g : α → β) (x y : SR α) : mg (mapR g x) (mapR g y) = mapR g (mg x y) := by
  rcases Int.lt_trichotomy x.1 y.1 with h | h | h
  · rw [mg_lt h, mg_lt (show (mapR g x).1 < (mapR g y).1 from h)]
  · rw [mg_eq h, mg_eq (show (mapR g x).1 = (mapR g y).1 from h)]
    rfl
  · rw [mg_gt h, mg_gt (show (mapR g y).1 < (mapR g x).1 from h)]
theorem mgf_map {α β : Type} (g : α → β) (a : SR α) (f : Nat → SR α) (k : Nat) : mgf (mapR g a) (fun i => mapR g (f i)) k = mapR g (mgf a f k) := by
  induction k with
  | zero => rfl
  | succ k ih => unfold mgf; rw [ih, mg_map]
theorem SUM_map {α β : Type} {nn : Nat → Nat} {lf : (Nat → Nat) → SR α} {f0 : α} (g : α → β) : ∀ (n : Nat) (c : Nat → Nat), SUM nn (fun c => mapR g (lf c)) (g f0) n c = mapR g (SUM nn lf f0 n c) := by
  intro n
  induction n with
  | zero => intro c; rfl
  | succ n ih =>
    intro c
    show mgf (bot (g f0)) (fun k => SUM nn (fun c => mapR g (lf c)) (g f0) n (cu c (5 - n) k)) (nn (5 - n)) = mapR g (mgf (bot f0) (fun k => SUM nn lf f0 n (cu c (5 - n) k)) (nn (5 - n)))
    rw [← mgf_map]
    exact mgf_congr (fun i _ => ih _)
theorem mgf_f0 {α : Type} {f f' : α} {g : Nat → SR α} (hv : NOTH < (g 0).1) (k : Nat) : mgf (bot f) g (k + 1) = mgf (bot f') g (k + 1) := by
  induction k with
  | zero =>
    show mg (bot f) (g 0) = mg (bot f') (g 0)
    rw [bot_mg hv, bot_mg hv]
  | succ k ih =>
    show mg (mgf (bot f) g (k + 1)) (g (k + 1)) = mg (mgf (bot f') g (k + 1)) (g (k + 1))
    rw [ih]
theorem SUM_f0 {α : Type} {nn : Nat → Nat} {lf : (Nat → Nat) → SR α} {f0 f1 : α} (hn : ∀ l, 1 ≤ nn l) (hv : ∀ c, NOTH < (lf c).1) : ∀ (n : Nat) (c : Nat → Nat), SUM nn lf f0 n c = SUM nn lf f1 n c := by
  intro n
  induction n with
  | zero => intro c; rfl
  | succ n ih =>
    intro c
    show mgf (bot f0) (fun k => SUM nn lf f0 n (cu c (5 - n) k)) (nn (5 - n)) = mgf (bot f1) (fun k => SUM nn lf f1 n (cu c (5 - n) k)) (nn (5 - n))
    obtain ⟨j, hj⟩ : ∃ j, nn (5 - n) = j + 1 := ⟨nn (5 - n) - 1, by have := hn (5 - n); omega⟩
    rw [hj, mgf_f0 (f' := f1) (SUM_ge hn hv _ _)]
    exact mgf_congr (fun i _ => ih _)
theorem mgf_third {α : Type} {f : α} {g : Nat → SR α} {P : α → Prop} (h0 : P f) (k : Nat) (h : ∀ i, i < k → P (g i).2.2) : P (mgf (bot f) g k).2.2 := by
  induction k with
  | zero => exact h0
  | succ k ih =>
    have i1 := ih (fun i hi => h i (by omega))
    have i2 := h k (by omega)
    show P (mg (mgf (bot f) g k) (g k)).2.2
    rcases Int.lt_trichotomy (mgf (bot f) g k).1 (g k).1 with q | q | q
    · rw [mg_lt q]; exact i2
    · rw [mg_eq q]; exact i1
    · rw [mg_gt q]; exact i1
theorem dg_lt {nn : Nat → Nat} (hn : ∀ l, 1 ≤ nn l) (r : Nat) {l : Nat} (hl : l < 6) : dg nn 6 r (fun _ => 0) l < nn l := by
  unfold dg
  rw [if_pos ⟨by omega, hl⟩]
  exact Nat.mod_lt _ (hn l)
theorem m_most {d : Nat} {M : ZM} {l : Int} {Q : Int → ZM → Prop} (hW : WF (M 115)) (hQ : Q (max 1 (mR (M 115) l)) M) : zcI (d + 4) 209 [zA 113, zI l] M Q := by
  have hpl := hW.1
  have lp : ∀ (m i : Nat), (i : Int) + m = M 115 182 → wX10_most (d + 3) 4 [(0, zA 113), (1, zI l), (2, zI (max 1 (mB (M 115) l i))), (3, zI (i : Int))] M Q := by
    intro m
    induction m with
    | zero =>
      intro i hi
      obtain rfl : i = (M 115 182).toNat := by omega
      apply vX10_most_4
      exact m_places ⟨fun _ => hQ, fun z => by omega⟩
    | succ m ih =>
      intro i hi
      have nx := ih (i + 1) (by omega)
      have rg := mB_rg hW l i (by omega)
      unfold mB at nx
      have no : ¬ (M 115 (10 * i) = 0 ∧ M 115 (10 * i + 1) = l) → r32 ((i : Int) + 1) ∧ wX10_most (d + 3) 4 [(0, zA 113), (1, zI l), (2, zI (max 1 (mB (M 115) l i))), (3, zI ((i : Int) + 1))] M Q := by
        intro z
        rw [if_neg z] at nx
        exact ⟨⟨by omega, by omega⟩, nx⟩
      apply vX10_most_4
      refine m_places ⟨fun z => by omega, fun _ => m_isFork hpl (fun a b c => ⟨fun z => by omega, fun _ => m_fld (by omega) (by omega) ⟨fun z => no (fun y => z y.2), fun e => m_fld (by omega) (by omega) ?_⟩⟩) (fun z => ⟨fun _ => no (fun y => z ⟨by omega, by omega, y.1⟩), fun y => absurd rfl y⟩)⟩
      rw [if_pos ⟨c, e⟩] at nx
      refine ⟨fun z => ⟨⟨by omega, by omega⟩, ?_⟩, fun z => m_fld (by omega) (by omega) ⟨⟨by omega, by omega⟩, ?_⟩⟩
      · rw [show max 1 (max (mB (M 115) l i) (M 115 (10 * i + 2))) = max 1 (mB (M 115) l i) by omega] at nx
        exact nx
      · rw [show max 1 (max (mB (M 115) l i) (M 115 (10 * i + 2))) = M 115 (10 * i + 2) by omega] at nx
        exact nx
  apply vX10_most
  exact lp (M 115 182).toNat 0 (by omega)
theorem BKE.congr {K : Int → Int} {L L' : LB} (h : BKE K L) (e : ∀ j, j ≤ 12 → L' j = L j) : BKE K L' := by
  refine ⟨h.1, fun p a b c => ?_⟩
  have := h.2 p a b c
  unfold EQ tTell at *
  rw [e 7 (by decide), e 8 (by decide), e 9 (by decide), e 10 (by decide)]
  exact this
theorem JV.cg {M M' : ZM} (h : JV M) (e1 : M' 113 26 = M 113 26) (e2 : M' 113 1 = M 113 1) (e3 : M' 115 = M 115) (e4 : M' 126 = M 126) (e5 : ∀ b, 51 ≤ b → b ≤ 54 → M' b = M b) : JV M' := by
  have ee : ∀ p s, EW M' p s = EW M p s := fun p s => EW.fr (e5 51 (by decide) (by decide)) (e5 52 (by decide) (by decide)) (e5 53 (by decide) (by decide)) (e5 54 (by decide) (by decide)) (by rw [e3]) p s
  unfold JV at *
  rw [e1, e2, e3, e4]
  refine ⟨h.1, fun q p s a b c d => ?_⟩
  rw [h.2 q p s a b c d, ee]
/-- weighs, atStart -/
theorem m_val {d : Nat} {M : ZM} {h : Int → Int} {Q : Int → ZM → Prop} (hB : BKE (M 115) (bL M 44)) (hV : JV M) (h29 : M 113 29 = 0) (hH : HD h) (hh : ∀ j, 0 ≤ j → j < 18 → M 127 j = h j) (hQ : ∀ M', JV M' → (∀ b, b ≠ 113 → b ≠ 125 → b ≠ 126 → b ≠ 128 → M' b = M b) → (∀ k, k ≠ 21 → k ≠ 22 → k ≠ 23 → k ≠ 26 → M' 113 k = M 113 k) → Q (WS (M 115) (EW M) h (fun _ => false)) M') : zcV (d + 45) 202 [zA 113] M (fun M1 => zcL (d + 45) 204 [zA 113] M1 Q) := by
  have H1 : HD (M 127) := hH.congr hh
  refine m_weighsE (fr := fun _ => false) hB hV H1 (Or.inl ⟨h29, fun _ => rfl⟩) (fun M' g gk => m_atStart hB.1 H1 g ?_)
  rw [WS_cg hB.1 hh (fun _ _ _ => rfl)]
  exact hQ M' g.2.1 g.2.2.1 gk
def b10 : Int → Int := fun j => if j % 3 = 0 then 10 else 0
theorem b10_hd : HD b10 := by
  intro l l0 l1
  unfold b10
  rw [if_pos (by omega), if_neg (by omega), if_neg (by omega)]
  omega
abbrev NP (K : Int → Int) : Nat → Nat := nnS (fun l => bt (uS K) l) false (mR K)
theorem NP_v {K : Int → Int} (hW : WF K) (l : Nat) : ((NP K l : Nat) : Int) = max 1 (mR K l) ∧ 1 ≤ NP K l ∧ NP K l ≤ 3 := by
  have hpl := hW.1
  have rg : 0 ≤ mR K l ∧ mR K l ≤ 3 := mB_rg hW l (K 182).toNat (by omega)
  have us := mR_used hW (l := (l : Int)) (by omega)
  show ((nnS (fun l => bt (uS K) l) false (mR K) l : Nat) : Int) = max 1 (mR K l) ∧ 1 ≤ nnS (fun l => bt (uS K) l) false (mR K) l ∧ nnS (fun l => bt (uS K) l) false (mR K) l ≤ 3
  unfold nnS cho
  by_cases hb : bt (uS K) l = true
  · rw [if_pos hb, if_neg (by decide)]
    have := us.mpr hb
    omega
  · rw [if_neg hb]
    have : ¬ 0 < mR K l := fun z => hb (us.mp z)
    omega
abbrev hP (K : Int → Int) (c : Nat → Nat) : Int → Int := HH (fun l => bt (uS K) l) false (mR K) b10 c
theorem hP_v {K : Int → Int} (hW : WF K) {c : Nat → Nat} {l : Nat} (hc : c l < NP K l) {i : Int} (i0 : 0 ≤ i) (i1 : i ≤ 2) : hP K c (3 * l + i) = if (c l : Int) = i then 10 else 0 := by
  have nv := NP_v hW l
  cases hs : bt (uS K) l with
  | true =>
    rw [hP, HH_in (S := fun l => bt (uS K) l) hs i i0 i1]
    unfold tri
    have ec : (if c l ≤ 2 then (c l : Int) else 2) = c l := if_pos (by omega)
    rw [if_neg (by simp), if_neg (by simp), ec]
    by_cases e : i = (c l : Int)
    · rw [if_pos e, if_pos e.symm]
    · rw [if_neg e, if_neg (fun z => e z.symm)]
  | false =>
    have n1 : NP K l = 1 := by
      show nnS (fun l => bt (uS K) l) false (mR K) l = 1
      unfold nnS
      rw [if_neg (by show ¬ bt (uS K) l = true; rw [hs]; decide)]
    rw [hP, HH_out (S := fun l => bt (uS K) l) hs i i0 i1]
    unfold b10
    by_cases e : i = 0
    · rw [if_pos (by omega), if_pos (by omega)]
    · rw [if_neg (by omega), if_neg (by omega)]
def lfV (K : Int → Int) (E : Int → Int → Int) (c : Nat → Nat) : SR (Nat → Nat) := (WS K E (hP K c) (fun _ => false), 1, c)
abbrev TP (K : Int → Int) (E : Int → Int → Int) : SR (Nat → Nat) := SUM (NP K) (lfV K E) (fun _ => 0) 6 (fun _ => 0)
theorem lfV_v {K : Int → Int} {E : Int → Int → Int} (hW : WF K) (hE : EB K E) (c : Nat → Nat) : NOTH < (lfV K E c).1 := lfH_v (S := fun l => bt (uS K) l) (dc := false) (R := mR K) hW hE b10_hd c
/-- class and reference seek the same -/
theorem TT_TP {K : Int → Int} {E : Int → Int → Int} (hW : WF K) (hE : EB K E) : TT K E (uS K) false (mR K) b10 = mapR (hP K) (TP K E) := by
  have e := SUM_map (nn := NP K) (lf := lfV K E) (f0 := fun _ => 0) (hP K) 6 (fun _ => 0)
  rw [← e]
  exact SUM_f0 (fun l => (NP_v hW l).2.1) (lfH_v hW hE b10_hd) 6 _
theorem TP_enum {K : Int → Int} {E : Int → Int → Int} (hW : WF K) (hE : EB K E) : TP K E = mgf (bot (fun _ => 0)) (fun r => lfV K E (dg (NP K) 6 r (fun _ => 0))) (PN (NP K) 6) := SUM_enum (fun l => (NP_v hW l).2.1) (lfV_v hW hE) 6 (Nat.le_refl _) _
theorem TP_lt {K : Int → Int} {E : Int → Int → Int} (hW : WF K) (hE : EB K E) {l : Nat} (hl : l < 6) : (TP K E).2.2 l < NP K l := by
  rw [TP_enum hW hE]
  exact mgf_third (P := fun c : Nat → Nat => c l < NP K l) (by have := (NP_v hW l).2.1; omega) _ (fun i _ => dg_lt (fun l => (NP_v hW l).2.1) i hl)
/-- behind plains() -/
def PLN (M M' : ZM) : Prop := frm M M' ∧ JV M' ∧ (∀ b, b ≠ 113 → b ≠ 125 → b ≠ 126 → b ≠ 127 → b ≠ 128 → b ≠ 129 → b ≠ 130 → M' b = M b) ∧ M' 113 32 = (TP (M 115) (EW M)).1 ∧ M' 113 33 = (TP (M 115) (EW M)).2.1 ∧ M' 113 34 = (PN (NP (M 115)) 6 : Nat) ∧ ∀ l : Nat, l < 6 → M' 130 l = (TP (M 115) (EW M)).2.2 l
theorem pfx_NP {K : Int → Int} (hW : WF K) (k : Nat) : pfx (NP K) k ≤ 3 ^ k := by
  induction k with
  | zero => exact Nat.le_refl _
  | succ k ih => rw [Nat.pow_succ]; exact Nat.mul_le_mul ih (NP_v hW k).2.2
theorem m_plains {d : Nat} {M : ZM} {Q : ZM → Prop} (hB : BKE (M 115) (bL M 44)) (hV : JV M) (h29 : M 113 29 = 0) (hQ : ∀ M', PLN M M' → Q M') : zcV (d + 46) 210 [zA 113] M Q := by
  have hW := hB.1
  have hE := EB_ew M
  generalize hK : M 115 = K at *
  generalize hEE : EW M = E at *
  have nn1 : ∀ l, 1 ≤ NP K l := fun l => (NP_v hW l).2.1
  let c : Nat → Nat → Nat := fun r => dg (NP K) 6 r (fun _ => 0)
  let σ : Nat → SR (Nat → Nat) := fun r => mgf (bot (fun _ => 0)) (fun r => lfV K E (c r)) r
  have σS : ∀ r, σ (r + 1) = mg (σ r) (lfV K E (c r)) := fun r => rfl
  have σc : ∀ r, 0 ≤ (σ r).2.1 ∧ (σ r).2.1 ≤ r := by
    intro r
    have := mgf_cnt (f := fun _ => 0) (g := fun r => lfV K E (c r)) (P := 1) r (fun i _ => ⟨by show (0 : Int) ≤ 1; omega, Int.le_refl 1⟩)
    rw [Int.mul_one] at this
    exact this
  have p6 : PN (NP K) 6 ≤ 729 := by
    rw [← pfx6]
    exact pfx_NP hW 6
  -- what holds ahead of each RULE
  let PI := fun (r : Nat) (M1 : ZM) => JV M1 ∧ (∀ b, b ≠ 113 → b ≠ 125 → b ≠ 126 → b ≠ 127 → b ≠ 128 → b ≠ 129 → b ≠ 130 → M1 b = M b) ∧ (∀ k, k ≠ 21 → k ≠ 22 → k ≠ 23 → k ≠ 26 → k ≠ 32 → k ≠ 33 → k ≠ 34 → M1 113 k = M 113 k) ∧ M1 113 34 = (PN (NP K) 6 : Nat) ∧ M1 113 32 = (σ r).1 ∧ M1 113 33 = (σ r).2.1 ∧ (1 ≤ r → ∀ l : Nat, l < 6 → M1 130 l = (σ r).2.2 l)
  have lp43 : ∀ (m r : Nat) (M1 : ZM), r + m = PN (NP K) 6 → PI r M1 → wX10_plains (d + 45) 43 [(0, zA 113), (1, zI ((PN (NP K) 6 : Nat) : Int)), (2, zI (r : Int))] M1 Q := by
    intro m
    induction m with
    | zero =>
      intro r M1 hr hI
      obtain ⟨i1, i2, i3, i4, i5, i6, i7⟩ := hI
      obtain rfl : r = PN (NP K) 6 := by omega
      apply vX10_plains_43
      refine ⟨fun _ => hQ M1 ⟨frm.of (fun b b1 b2 => i2 b b1 (by omega) (by omega) (by omega) (by omega) (by omega) (by omega)) (fun k hk => i3 k (by omega) (by omega) (by omega) (by omega) (by omega) (by omega) (by omega)), i1, i2, ?_, ?_, ?_, fun l hl => ?_⟩, fun z => by omega⟩
      · rw [i5, hK, hEE, TP_enum hW hE]
      · rw [i6, hK, hEE, TP_enum hW hE]
      · rw [i4, hK]
      · rw [i7 (PN_pos nn1 6) l hl, hK, hEE, TP_enum hW hE]
    | succ m ih =>
      intro r M1 hr hI
      obtain ⟨i1, i2, i3, i4, i5, i6, i7⟩ := hI
      have e115 : M1 115 = K := by rw [i2 115 (by decide) (by decide) (by decide) (by decide) (by decide) (by decide) (by decide)]; exact hK
      have cl : ∀ l, l < 6 → c r l < NP K l := fun l hl => dg_lt nn1 r hl
      apply vX10_plains_43
      refine ⟨fun z => by omega, fun _ => ?_⟩
      -- the digits, the last LOOK ahead
      have dl : ∀ (m : Nat) (M2 : ZM), m ≤ 6 → (∀ b, b ≠ 127 → b ≠ 129 → M2 b = M1 b) → (∀ l : Nat, m ≤ l → l < 6 → M2 129 l = (c r l : Nat) ∧ ∀ i : Int, 0 ≤ i → i ≤ 2 → M2 127 (3 * l + i) = if (c r l : Int) = i then 10 else 0) → wX10_plains (d + 45) 53 [(0, zA 113), (1, zI ((PN (NP K) 6 : Nat) : Int)), (2, zI (r : Int)), (3, zI ((r / PN (NP K) (6 - m) : Nat) : Int)), (4, zI ((m : Int) - 1))] M2 Q := by
        intro m
        induction m with
        | zero =>
          intro M2 _ r2 o2
          have e2 : M2 115 = K := by rw [r2 115 (by decide) (by decide)]; exact e115
          have q2 : ∀ b, b < 113 → M2 b = M b := fun b hb => by rw [r2 b (by omega) (by omega), i2 b (by omega) (by omega) (by omega) (by omega) (by omega) (by omega) (by omega)]
          have B2 : BKE (M2 115) (bL M2 44) := by rw [e2]; exact hB.congr (fun j hj => q2 _ (by omega))
          have V2 : JV M2 := i1.cg (by rw [r2 113 (by decide) (by decide)]) (by rw [r2 113 (by decide) (by decide)]) (r2 115 (by decide) (by decide)) (r2 126 (by decide) (by decide)) (fun b _ _ => r2 b (by omega) (by omega))
          have E2 : EW M2 = E := by
            rw [← hEE]
            funext p s
            exact EW.fr (q2 51 (by decide)) (q2 52 (by decide)) (q2 53 (by decide)) (q2 54 (by decide)) (by rw [e2, hK]) p s
          have hh : ∀ j, 0 ≤ j → j < 18 → M2 127 j = hP K (c r) j := by
            intro j j0 j1
            have h1 := (o2 (j / 3).toNat (by omega) (by omega)).2 (j % 3) (by omega) (by omega)
            have h2 := hP_v hW (cl (j / 3).toNat (by omega)) (i := j % 3) (by omega) (by omega)
            rw [show 3 * (((j / 3).toNat : Nat) : Int) + j % 3 = j by omega] at h1 h2
            rw [h1, h2]
          apply vX10_plains_53
          refine ⟨fun _ => m_val B2 V2 (by rw [r2 113 (by decide) (by decide), i3 29 (by decide) (by decide) (by decide) (by decide) (by decide) (by decide) (by decide)]; exact h29) (HH_hd b10_hd (c r)) hh (fun M3 V3 r3 k3 => ?_), fun z => by omega⟩
          rw [e2, E2]
          have q3 : ∀ b, b ≠ 113 → b ≠ 125 → b ≠ 126 → b ≠ 127 → b ≠ 128 → b ≠ 129 → M3 b = M1 b := fun b h1 h2 h3 h4 h5 h6 => by rw [r3 b h1 h2 h3 h5, r2 b h4 h6]
          have kk : ∀ k, k ≠ 21 → k ≠ 22 → k ≠ 23 → k ≠ 26 → M3 113 k = M1 113 k := fun k h1 h2 h3 h4 => by rw [k3 k h1 h2 h3 h4, r2 113 (by decide) (by decide)]
          have f32 : M3 113 32 = (σ r).1 := by rw [kk 32 (by decide) (by decide) (by decide) (by decide)]; exact i5
          have f33 : M3 113 33 = (σ r).2.1 := by rw [kk 33 (by decide) (by decide) (by decide) (by decide)]; exact i6
          have f129 : ∀ l : Nat, l < 6 → M3 129 l = (c r l : Nat) := fun l hl => by rw [r3 129 (by decide) (by decide) (by decide) (by decide)]; exact (o2 l (by omega) hl).1
          have lv : (lfV K E (c r)).1 = WS K E (hP K (c r)) (fun _ => false) := rfl
          have gt := lfV_v hW hE (c r)
          have ss := σS r
          have cc := σc r
          generalize hv : WS K E (hP K (c r)) (fun _ => false) = v at *
          -- the count
          have k194 : ∀ M4 : ZM, (∀ b, b ≠ 113 → b ≠ 130 → M4 b = M3 b) → (∀ k, k ≠ 32 → k ≠ 33 → M4 113 k = M3 113 k) → ((M4 113 32 = v ∧ M4 113 33 = 0 ∧ (σ r).1 < v ∧ ∀ l : Nat, l < 6 → M4 130 l = (c r l : Nat)) ∨ (M4 = M3 ∧ v ≤ (σ r).1)) → wX10_plains (d + 45) 194 [(0, zA 113), (1, zI ((PN (NP K) 6 : Nat) : Int)), (2, zI (r : Int)), (4, zJ v)] M4 Q := by
            intro M4 r4 k4 h4
            have nxt : ∀ x, x = (σ (r + 1)).2.1 → M4 113 32 = (σ (r + 1)).1 → (∀ l : Nat, l < 6 → M4 130 l = (σ (r + 1)).2.2 l) → r32 ((r : Int) + 1) ∧ wX10_plains (d + 45) 43 [(0, zA 113), (1, zI ((PN (NP K) 6 : Nat) : Int)), (2, zI ((r : Int) + 1))] (zup M4 113 33 x) Q := by
              intro x hx h32 h130
              refine ⟨⟨by omega, by omega⟩, ih (r + 1) _ (by omega) ⟨?_, fun b h1 h2 h3 h4' h5 h6 h7 => ?_, fun k h1 h2 h3 h4' h5 h6 h7 => ?_, ?_, ?_, ?_, fun _ l hl => ?_⟩⟩
              · exact V3.cg (by rw [zup_ne (by omega), k4 26 (by decide) (by decide)]) (by rw [zup_ne (by omega), k4 1 (by decide) (by decide)]) (by rw [zup_row (by decide), r4 115 (by decide) (by decide)]) (by rw [zup_row (by decide), r4 126 (by decide) (by decide)]) (fun b _ _ => by rw [zup_row (by omega), r4 b (by omega) (by omega)])
              · rw [zup_row h1, r4 b h1 h7, q3 b h1 h2 h3 h4' h5 h6, i2 b h1 h2 h3 h4' h5 h6 h7]
              · rw [zup_ne (fun z => h6 z.2), k4 k h5 h6, kk k h1 h2 h3 h4', i3 k h1 h2 h3 h4' h5 h6 h7]
              · rw [zup_ne (by omega), k4 34 (by decide) (by decide), kk 34 (by decide) (by decide) (by decide) (by decide)]; exact i4
              · rw [zup_ne (by omega)]; exact h32
              · rw [zup_eq]; exact hx
              · rw [zup_row (by decide)]; exact h130 l hl
            apply vX10_plains_194
            rcases h4 with ⟨a1, a2, a3, a4⟩ | ⟨rfl, a2⟩
            · have e : σ (r + 1) = lfV K E (c r) := by rw [ss, mg_lt (by rw [lv]; exact a3)]
              rw [a1, a2, if_neg (by omega), if_pos rfl]
              refine ⟨fun z => absurd rfl z, fun _ => ⟨⟨by omega, by omega⟩, zset (nxt _ (by rw [e]; rfl) (by rw [a1, e, lv]) (fun l hl => by rw [a4 l hl, e]; rfl))⟩⟩
            · have h1r : 1 ≤ r := by
                by_cases hr0 : r = 0
                · subst hr0
                  have : (σ 0).1 = NOTH := rfl
                  rw [lv] at gt
                  omega
                · omega
              have o130 : ∀ l : Nat, l < 6 → M4 130 l = (σ r).2.2 l := fun l hl => by rw [q3 130 (by decide) (by decide) (by decide) (by decide) (by decide) (by decide)]; exact i7 h1r l hl
              rw [f32, f33]
              by_cases he : v = (σ r).1
              · have e : σ (r + 1) = ((σ r).1, (σ r).2.1 + 1, (σ r).2.2) := by rw [ss, mg_eq (by rw [lv]; exact he.symm)]; rfl
                rw [if_neg (by omega), if_pos he]
                refine ⟨fun z => absurd rfl z, fun _ => ⟨⟨by omega, by omega⟩, zset (nxt _ (by rw [e]) (by rw [f32, e]) (fun l hl => by rw [o130 l hl, e]))⟩⟩
              · have e : σ (r + 1) = σ r := by rw [ss, mg_gt (by rw [lv]; omega)]
                rw [if_neg (by omega), if_neg he]
                refine ⟨fun _ => ⟨⟨by omega, by omega⟩, zset (nxt _ (by rw [e, Int.add_zero]) (by rw [f32, e]) (fun l hl => by rw [o130 l hl, e]))⟩, fun z => by omega⟩
          rw [f32]
          by_cases hlt : (σ r).1 < v
          · rw [if_pos hlt]
            refine ⟨fun z => by omega, fun _ => zset (zset ?_)⟩
            have l167 : ∀ (m i : Nat) (M4 : ZM), i + m = 6 → (∀ b, b ≠ 113 → b ≠ 130 → M4 b = M3 b) → (∀ k, k ≠ 32 → k ≠ 33 → M4 113 k = M3 113 k) → M4 113 32 = v → M4 113 33 = 0 → (∀ l : Nat, l < i → M4 130 l = (c r l : Nat)) → wX10_plains (d + 45) 167 [(0, zA 113), (1, zI ((PN (NP K) 6 : Nat) : Int)), (2, zI (r : Int)), (4, zJ v), (6, zI (i : Int))] M4 Q := by
              intro m
              induction m with
              | zero =>
                intro i M4 hi r4 k4 a1 a2 a4
                apply vX10_plains_167
                exact ⟨fun _ => k194 M4 r4 k4 (Or.inl ⟨a1, a2, hlt, fun l hl => a4 l (by omega)⟩), fun z => by omega⟩
              | succ m ihm =>
                intro i M4 hi r4 k4 a1 a2 a4
                apply vX10_plains_167
                refine ⟨fun z => by omega, fun _ => ⟨by omega, by omega, zset ⟨⟨by omega, by omega⟩, ihm (i + 1) _ (by omega) (fun b h1 h2 => by rw [zup_row h2, r4 b h1 h2]) (fun k h1 h2 => by rw [zup_row (by decide), k4 k h1 h2]) (by rw [zup_row (by decide)]; exact a1) (by rw [zup_row (by decide)]; exact a2) (fun l hl => ?_)⟩⟩⟩
                rw [zup_at]
                by_cases e : l = i
                · rw [if_pos (by omega), r4 129 (by decide) (by decide), f129 i (by omega), e]
                · rw [if_neg (by omega)]; exact a4 l (by omega)
            exact l167 6 0 _ (by omega) (fun b h1 _ => by rw [zup_row h1, zup_row h1]) (fun k h1 h2 => by rw [zup_ne (fun z => h2 z.2), zup_ne (fun z => h1 z.2)]) (by rw [zup_ne (by omega), zup_eq]) zup_eq (fun l hl => by omega)
          · rw [if_neg hlt]
            refine ⟨fun _ => k194 M3 (fun _ _ _ => rfl) (fun _ _ _ => rfl) (Or.inr ⟨rfl, by omega⟩), fun z => ?_⟩
            split at z <;> omega
        | succ m ihm =>
          intro M2 hm r2 o2
          have e2 : M2 115 = K := by rw [r2 115 (by decide) (by decide)]; exact e115
          have nv := NP_v hW m
          have dv : c r m = r / PN (NP K) (5 - m) % NP K m := by
            show dg (NP K) 6 r (fun _ => 0) m = _
            unfold dg
            rw [if_pos ⟨by omega, by omega⟩]
          have ps : PN (NP K) (6 - m) = NP K m * PN (NP K) (5 - m) := by
            rw [show 6 - m = (5 - m) + 1 by omega]
            show NP K (5 - (5 - m)) * _ = _
            rw [show 5 - (5 - m) = m by omega]
          have dd : r / PN (NP K) (6 - m) = r / PN (NP K) (5 - m) / NP K m := by
            rw [ps, Nat.mul_comm, Nat.div_div_eq_div_mul]
          apply vX10_plains_53
          rw [show ((m + 1 : Nat) : Int) - 1 = m by omega, show 6 - (m + 1) = 5 - m by omega]
          refine ⟨fun z => by omega, fun _ => m_most (by rw [e2]; exact hW) ?_⟩
          rw [e2, ← nv.1]
          refine ⟨by omega, by omega, zset (m_most (by rw [zup_row (by decide), e2]; exact hW) ?_)⟩
          rw [zup_row (by decide), e2, ← nv.1]
          have em : Int.tmod ((r / PN (NP K) (5 - m) : Nat) : Int) ((NP K m : Nat) : Int) = (c r m : Nat) := by rw [dv]; rfl
          have ed : Int.tdiv ((r / PN (NP K) (5 - m) : Nat) : Int) ((NP K m : Nat) : Int) = ((r / PN (NP K) (6 - m) : Nat) : Int) := by rw [dd]; rfl
          rw [em, ed]
          have le := Int.ofNat_le.mpr (Nat.div_le_self r (PN (NP K) (6 - m)))
          have ge := Int.natCast_nonneg (r / PN (NP K) (6 - m))
          refine ⟨by omega, ⟨Int.le_trans (by decide) ge, Int.le_trans le (by omega)⟩, ?_⟩
          have cm := cl m (by omega)
          have l85 : ∀ (n i : Nat) (M3 : ZM), i + n = 3 → (∀ b, b ≠ 127 → b ≠ 129 → M3 b = M1 b) → (∀ l : Nat, m ≤ l → l < 6 → M3 129 l = (c r l : Nat)) → (∀ (l : Nat) (j : Int), m ≤ l → l < 6 → 0 ≤ j → j ≤ 2 → (m < l ∨ j < i) → M3 127 (3 * l + j) = if (c r l : Int) = j then 10 else 0) → wX10_plains (d + 45) 85 [(0, zA 113), (1, zI ((PN (NP K) 6 : Nat) : Int)), (2, zI (r : Int)), (3, zI ((r / PN (NP K) (6 - m) : Nat) : Int)), (4, zI (m : Int)), (5, zI (i : Int))] M3 Q := by
            intro n
            induction n with
            | zero =>
              intro i M3 hi r3 o3 p3
              apply vX10_plains_85
              refine ⟨fun _ => ⟨⟨by omega, by omega⟩, ?_⟩, fun z => by omega⟩
              exact ihm M3 (by omega) r3 (fun l h1 h2 => ⟨o3 l h1 h2, fun j j0 j1 => p3 l j h1 h2 j0 j1 (by omega)⟩)
            | succ n ihn =>
              intro i M3 hi r3 o3 p3
              have st : ∀ x, x = (if (c r m : Int) = i then 10 else 0) → r32 ((i : Int) + 1) ∧ wX10_plains (d + 45) 85 [(0, zA 113), (1, zI ((PN (NP K) 6 : Nat) : Int)), (2, zI (r : Int)), (3, zI ((r / PN (NP K) (6 - m) : Nat) : Int)), (4, zI (m : Int)), (5, zI ((i : Int) + 1))] (zup M3 127 (3 * (m : Int) + i) x) Q := by
                intro x hx
                refine ⟨⟨by omega, by omega⟩, ihn (i + 1) _ (by omega) (fun b h1 h2 => by rw [zup_row h1, r3 b h1 h2]) (fun l h1 h2 => by rw [zup_row (by decide)]; exact o3 l h1 h2) (fun l j h1 h2 j0 j1 h3 => ?_)⟩
                rw [zup_at]
                by_cases e : l = m ∧ j = i
                · rw [if_pos (by omega), hx, e.1, e.2]
                · rw [if_neg (by omega)]; exact p3 l j h1 h2 j0 j1 (by omega)
              apply vX10_plains_85
              rw [o3 m (by omega) (by omega)]
              refine ⟨fun z => by omega, fun _ => ⟨⟨by omega, by omega⟩, ⟨by omega, by omega⟩, by omega, fun z => ⟨by omega, zset (st 0 (by rw [if_neg z]))⟩, fun z => ⟨by omega, zset (st 10 (by rw [if_pos z]))⟩⟩⟩
          refine l85 3 0 _ (by omega) (fun b h1 h2 => by rw [zup_row h2, r2 b h1 h2]) (fun l h1 h2 => ?_) (fun l j h1 h2 j0 j1 h3 => ?_)
          · rw [zup_at]
            by_cases e : l = m
            · rw [if_pos (by omega), e]
            · rw [if_neg (by omega)]; exact (o2 l (by omega) h2).1
          · rw [zup_row (by decide)]
            exact (o2 l (by omega) h2).2 j j0 j1
      have := dl 6 M1 (by omega) (fun _ _ _ => rfl) (fun l h1 h2 => by omega)
      rw [show 6 - 6 = 0 from rfl, show r / PN (NP K) 0 = r from Nat.div_one r] at this
      exact this
  -- how many there are
  have lp4 : ∀ (m i : Nat), i + m = 6 → wX10_plains (d + 45) 4 [(0, zA 113), (1, zI ((pfx (NP K) i : Nat) : Int)), (2, zI (i : Int))] M Q := by
    intro m
    induction m with
    | zero =>
      intro i hi
      obtain rfl : i = 6 := by omega
      apply vX10_plains_4
      rw [pfx6]
      refine ⟨fun _ => zset (zset (zset (lp43 (PN (NP K) 6) 0 _ (by omega) ⟨?_, fun b h1 _ _ _ _ _ _ => by rw [zup_row h1, zup_row h1, zup_row h1], fun k _ _ _ _ h5 h6 h7 => by rw [zup_ne (fun z => h7 z.2), zup_ne (fun z => h6 z.2), zup_ne (fun z => h5 z.2)], zup_eq, ?_, ?_, fun h => by omega⟩))), fun z => by omega⟩
      · exact hV.cg (by rw [zup_ne (by omega), zup_ne (by omega), zup_ne (by omega)]) (by rw [zup_ne (by omega), zup_ne (by omega), zup_ne (by omega)]) (by rw [zup_row (by decide), zup_row (by decide), zup_row (by decide)]) (by rw [zup_row (by decide), zup_row (by decide), zup_row (by decide)]) (fun b _ _ => by rw [zup_row (by omega), zup_row (by omega), zup_row (by omega)])
      · rw [zup_ne (by omega), zup_ne (by omega), zup_eq]; rfl
      · rw [zup_ne (by omega), zup_eq]; rfl
    | succ m ih =>
      intro i hi
      have nv := NP_v hW i
      have b1 := pfx_NP hW (i + 1)
      have b2 : 3 ^ (i + 1) ≤ 3 ^ 6 := Nat.pow_le_pow_right (by decide) (by omega)
      have b3 : (3 : Nat) ^ 6 = 729 := by decide
      have ev : ((pfx (NP K) (i + 1) : Nat) : Int) = (pfx (NP K) i : Nat) * (NP K i : Nat) := by
        show ((pfx (NP K) i * NP K i : Nat) : Int) = _
        rw [Int.natCast_mul]
      apply vX10_plains_4
      refine ⟨fun z => by omega, fun _ => m_most (by rw [hK]; exact hW) ?_⟩
      rw [hK, ← nv.1, ← ev]
      exact ⟨⟨by omega, by omega⟩, ⟨by omega, by omega⟩, ih (i + 1) (by omega)⟩
  apply vX10_plains
  exact lp4 6 0 (by omega)
