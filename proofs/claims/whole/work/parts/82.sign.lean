/-! SIGNS: FORKS of a LOOK, painted COUNTRIES -/
def fb (K : Int → Int) (l : Int) : Nat → Int
  | 0 => 0
  | n + 1 => if K (10 * n) = 0 ∧ K (10 * n + 1) = l then zor (fb K l n) (zshl 1 n) else fb K l n
def fN (K : Int → Int) (l : Int) : Nat → Int
  | 0 => 0
  | n + 1 => fN K l n + (if K (10 * n) = 0 ∧ K (10 * n + 1) = l then 1 else 0)
theorem fN_rg (K : Int → Int) (l : Int) (n : Nat) : 0 ≤ fN K l n ∧ fN K l n ≤ n := by
  induction n with
  | zero => unfold fN; omega
  | succ n ih => unfold fN; split <;> omega
theorem fb_bs {K : Int → Int} {l : Int} : ∀ n : Nat, n ≤ 16 → bs 16 (fb K l n) := by
  intro n
  induction n with
  | zero => intro _; exact bs_zero 16
  | succ n ih =>
    intro hn
    unfold fb
    split
    · exact bs_or (by decide) (ih (by omega)) (bs_shl (by decide) (by omega) (by omega))
    · exact ih (by omega)
theorem fb_bt {K : Int → Int} {l p : Int} (p0 : 0 ≤ p) : ∀ n : Nat, n ≤ 16 → (bt (fb K l n) p = true ↔ p < n ∧ K (10 * p) = 0 ∧ K (10 * p + 1) = l) := by
  intro n
  induction n with
  | zero =>
    intro _
    constructor
    · intro q; unfold fb at q; rw [bt_zero] at q; cases q
    · rintro ⟨a, -⟩; omega
  | succ n ih =>
    intro hn
    have ih := ih (by omega)
    have br := (fb_bs (K := K) (l := l) n (by omega)).r (by decide)
    have sr := (bs_shl (m := 16) (by decide) (k := (n : Int)) (by omega) (by omega)).r (by decide)
    unfold fb
    by_cases h : K (10 * n) = 0 ∧ K (10 * n + 1) = l
    · rw [if_pos h, bt_or br.1 br.2 sr.1 sr.2, Bool.or_eq_true, ih, bt_shl (by omega) (by omega) p0, decide_eq_true_eq]
      constructor
      · rintro (⟨a, b, c⟩ | e)
        · exact ⟨by omega, b, c⟩
        · rw [e]; exact ⟨by omega, h.1, h.2⟩
      · rintro ⟨a, b, c⟩
        by_cases e : p = n
        · exact Or.inr e
        · exact Or.inl ⟨by omega, b, c⟩
    · rw [if_neg h, ih]
      constructor
      · rintro ⟨a, b, c⟩; exact ⟨by omega, b, c⟩
      · rintro ⟨a, b, c⟩
        refine ⟨?_, b, c⟩
        have : p ≠ n := by rintro rfl; exact h ⟨b, c⟩
        omega
theorem fb_cnt {K : Int → Int} {l : Int} {n : Nat} (hn : n ≤ 16) : bC (fb K l n) = fN K l n := by
  have h1 : ∀ k : Nat, k ≤ n → bN (fb K l n) k = fN K l k := by
    intro k
    induction k with
    | zero => intro _; rfl
    | succ k ih =>
      intro hk
      have b := fb_bt (K := K) (l := l) (p := (k : Int)) (by omega) n hn
      unfold bN fN
      rw [ih (by omega)]
      by_cases h : K (10 * k) = 0 ∧ K (10 * k + 1) = l
      · rw [if_pos (b.mpr ⟨by omega, h.1, h.2⟩), if_pos h]
      · rw [if_neg (fun z => h (b.mp z).2), if_neg h]
  have h2 : ∀ m : Nat, bN (fb K l n) (n + m) = fN K l n := by
    intro m
    induction m with
    | zero => exact h1 n (Nat.le_refl _)
    | succ m ih =>
      have b := fb_bt (K := K) (l := l) (p := ((n + m : Nat) : Int)) (by omega) n hn
      show bN (fb K l n) (n + m) + (if bt (fb K l n) ((n + m : Nat) : Int) = true then 1 else 0) = _
      rw [ih, if_neg (fun z => by have := (b.mp z).1; omega)]
      omega
  have := h2 (16 - n)
  rw [show n + (16 - n) = 16 by omega] at this
  exact this
theorem bN_zero {x : Int} {k : Nat} (h : ∀ i : Nat, i < k → bt x i = false) : bN x k = 0 := by
  induction k with
  | zero => rfl
  | succ k ih =>
    unfold bN
    rw [ih (fun i hi => h i (by omega)), if_neg (by rw [h k (by omega)]; decide)]
    rfl
theorem bN_pos {x : Int} {k i : Nat} (hi : i < k) (h : bt x i = true) : 1 ≤ bN x k := by
  induction k with
  | zero => omega
  | succ k ih =>
    have := bN_rg x k
    unfold bN
    by_cases e : i = k
    · subst e; rw [if_pos h]; omega
    · have := ih (by omega)
      split <;> omega
theorem bC_zero {x : Int} (hx : bs 16 x) : bC x = 0 ↔ x = 0 := by
  constructor
  · intro h
    refine bs_ext hx (bs_zero 16) (fun k hk => ?_)
    rw [bt_zero]
    cases hb : bt x k with
    | false => rfl
    | true =>
      have : 1 ≤ bC x := bN_pos hk hb
      omega
  · rintro rfl
    exact bN_zero (fun i _ => bt_zero _)
theorem m_forksOf {d : Nat} {M : ZM} {l : Int} {Q : Int → ZM → Prop} (hpl : 0 ≤ M 115 182 ∧ M 115 182 ≤ 16) (hQ : Q (fb (M 115) l (M 115 182).toNat) M) : zcI (d + 4) 225 [zA 113, zI l] M Q := by
  have lp : ∀ (m i : Nat), (i : Int) + m = M 115 182 → wX10_forksOf (d + 3) 4 [(0, zA 113), (1, zI l), (2, zI (fb (M 115) l i)), (3, zI (i : Int))] M Q := by
    intro m
    induction m with
    | zero =>
      intro i hi
      obtain rfl : i = (M 115 182).toNat := by omega
      apply vX10_forksOf_4
      exact m_places ⟨fun _ => hQ, fun z => by omega⟩
    | succ m ih =>
      intro i hi
      have nx := ih (i + 1) (by omega)
      have br := (fb_bs (K := M 115) (l := l) i (by omega)).r (by decide)
      unfold fb at nx
      have z0 : zor (fb (M 115) l i) 0 = fb (M 115) l i := zor_zero ⟨by omega, by omega⟩
      have no : ¬ (M 115 (10 * i) = 0 ∧ M 115 (10 * i + 1) = l) → r32 ((i : Int) + 1) ∧ wX10_forksOf (d + 3) 4 [(0, zA 113), (1, zI l), (2, zI (zor (fb (M 115) l i) 0)), (3, zI ((i : Int) + 1))] M Q := by
        intro z
        rw [if_neg z] at nx
        rw [z0]
        exact ⟨⟨by omega, by omega⟩, nx⟩
      apply vX10_forksOf_4
      refine m_places ⟨fun z => by omega, fun _ => m_isFork hpl (fun a b c => ⟨fun z => by omega, fun _ => m_fld (by omega) (by omega) ⟨fun z => no (fun y => z y.2), fun e => ?_⟩⟩) (fun z => ⟨fun _ => no (fun y => z ⟨by omega, by omega, y.1⟩), fun y => absurd rfl y⟩)⟩
      rw [if_pos ⟨c, e⟩] at nx
      exact ⟨⟨by omega, by omega⟩, nx⟩
  apply vX10_forksOf
  exact lp (M 115 182).toNat 0 (by omega)
theorem c_forksOf {d t : Nat} {M : ZM} {l : Int} {Q : Int → ZM → Prop} (h : J t M) (hQ : Q (fN (M 115) l (M 115 182).toNat) M) : zcI (d + 1) 35 [zA 44, zI l] M Q := by
  have hpl := h.pl
  have hs := h.size
  have lp : ∀ (m i : Nat), (i : Int) + m = M 115 182 → wX3_forksOf d 4 [(0, zA 44), (1, zI l), (2, zI (fN (M 115) l i)), (3, zI (i : Int))] M Q := by
    intro m
    induction m with
    | zero =>
      intro i hi
      obtain rfl : i = (M 115 182).toNat := by omega
      apply vX3_forksOf_4
      rw [hs]
      exact ⟨fun _ => hQ, fun z => by omega⟩
    | succ m ih =>
      intro i hi
      have nx := ih (i + 1) (by omega)
      have rg := fN_rg (M 115) l i
      have kd := h.kind (p := (i : Int)) (by omega) (by omega)
      unfold fN at nx
      have no : ¬ (M 115 (10 * i) = 0 ∧ M 115 (10 * i + 1) = l) → r32 ((i : Int) + 1) ∧ wX3_forksOf d 4 [(0, zA 44), (1, zI l), (2, zI (fN (M 115) l i)), (3, zI ((i : Int) + 1))] M Q := by
        intro z
        rw [if_neg z, Int.add_zero] at nx
        exact ⟨⟨by omega, by omega⟩, nx⟩
      apply vX3_forksOf_4
      rw [hs, kd]
      refine ⟨fun z => by omega, fun _ => ⟨by omega, fun z => no (fun y => z y.1), fun z => ⟨by omega, fun y => no (fun w => y ?_), fun y => ?_⟩⟩⟩
      · rw [h.look (by omega) (by omega) z]; exact w.2
      · rw [h.look (by omega) (by omega) z] at y
        rw [if_pos ⟨z, y⟩] at nx
        exact ⟨⟨by omega, by omega⟩, ⟨by omega, by omega⟩, nx⟩
  apply vX3_forksOf
  exact lp (M 115 182).toNat 0 (by omega)
/-- SIGNS can be had -/
def CS (K : Int → Int) (l : Int) : Prop := (0 ≤ l ∧ l ≤ 4) ∧ (1 ≤ fN K l (K 182).toNat ∧ fN K l (K 182).toNat ≤ 6) ∧ fN K 5 (K 182).toNat = 0
theorem c_canSign {d t : Nat} {M : ZM} {l : Int} {Q : Int → ZM → Prop} (h : J t M) (h1 : CS (M 115) l → Q 1 M) (h0 : ¬ CS (M 115) l → Q 0 M) : zcI (d + 2) 127 [zA 29, zI l] M Q := by
  unfold CS at h1 h0
  apply vX9_canSign
  exact ⟨fun z => ⟨by omega, h0 (by omega)⟩, fun z => ⟨fun y => c_forksOf h ⟨fun w => ⟨by omega, h0 (by omega)⟩, fun w => ⟨fun v => ⟨by omega, h0 (by omega)⟩, fun v => c_forksOf h ⟨fun u => ⟨by omega, h0 (by omega)⟩, fun u => ⟨by omega, h1 ⟨by omega, by omega, u⟩⟩⟩⟩⟩, fun y => ⟨by omega, h0 (by omega)⟩⟩⟩
theorem m_canSign {d : Nat} {M : ZM} {l : Int} {Q : Int → ZM → Prop} (hpl : 0 ≤ M 115 182 ∧ M 115 182 ≤ 16) (h1 : CS (M 115) l → Q 1 M) (h0 : ¬ CS (M 115) l → Q 0 M) : zcI (d + 5) 226 [zA 113, zI l] M Q := by
  have bb : ∀ l, bs 16 (fb (M 115) l (M 115 182).toNat) := fun l => fb_bs _ (by omega)
  have bc : ∀ l, bC (fb (M 115) l (M 115 182).toNat) = fN (M 115) l (M 115 182).toNat := fun l => fb_cnt (by omega)
  have bz : ∀ l, fb (M 115) l (M 115 182).toNat = 0 ↔ fN (M 115) l (M 115 182).toNat = 0 := fun l => by rw [← bc l]; exact (bC_zero (bb l)).symm
  have rg := fN_rg (M 115) l (M 115 182).toNat
  have br := (bb l).r (by decide)
  have z1 := bz l
  have z5 := bz 5
  unfold CS at h1 h0
  apply vX10_canSign
  refine m_lies (fun a b => ⟨fun z => by omega, fun _ => m_places ⟨fun z => ⟨by omega, h0 ?_⟩, fun z => m_forksOf hpl ⟨fun y => ⟨by omega, h0 (by omega)⟩, fun y => m_forksOf hpl (m_ones br.1 br.2 ?_)⟩⟩⟩) (fun a => ⟨fun _ => ⟨by omega, h0 (by omega)⟩, fun z => absurd rfl z⟩)
  · rw [show (M 115 182).toNat = 0 by omega]
    intro w
    have : fN (M 115) l 0 = 0 := rfl
    omega
  · rw [bc l]
    exact ⟨fun w => ⟨by omega, h0 (by omega)⟩, fun w => m_forksOf hpl ⟨fun u => ⟨by omega, h0 (by omega)⟩, fun u => ⟨by omega, h1 (by omega)⟩⟩⟩
/-- a COUNTRY with SIGNS on PLACES s -/
def pK (K : Int → Int) (s : Int) : Int → Int := fun i => if 0 ≤ i ∧ i < 160 ∧ i % 10 = 1 ∧ bt s (i / 10) = true then 5 else K i
theorem pK_ne {K : Int → Int} {s i : Int} (h : i % 10 ≠ 1 ∨ i < 0 ∨ 160 ≤ i) : pK K s i = K i := if_neg (by omega)
theorem pK_at {K : Int → Int} {s p : Int} (p0 : 0 ≤ p) (p1 : p < 16) : pK K s (10 * p + 1) = if bt s p = true then 5 else K (10 * p + 1) := by
  unfold pK
  rw [show (10 * p + 1) / 10 = p by omega]
  by_cases h : bt s p = true
  · rw [if_pos ⟨by omega, by omega, by omega, h⟩, if_pos h]
  · rw [if_neg (fun z => h z.2.2.2), if_neg h]
/-- s is a set of FORKS with LOOK l -/
def SB (K : Int → Int) (l s : Int) : Prop := bs 16 s ∧ ∀ p : Int, 0 ≤ p → bt s p = true → p < K 182 ∧ K (10 * p) = 0 ∧ K (10 * p + 1) = l
theorem pK_wf {K : Int → Int} {l s : Int} (hW : WF K) (hs : SB K l s) : WF (pK K s) := by
  obtain ⟨a1, a2, a3, a4, a5, a6, a7, a8⟩ := hW
  unfold WF
  rw [pK_ne (i := 182) (by omega), pK_ne (i := 183) (by omega), pK_ne (i := 178) (by omega), pK_ne (i := 179) (by omega), pK_ne (i := 180) (by omega), pK_ne (i := 181) (by omega)]
  refine ⟨a1, a2, a3, a4, a5, fun l' l0 l1 => ?_, a7, fun p p0 p1 => ?_⟩
  · rw [pK_ne (by omega), pK_ne (by omega), pK_ne (by omega)]; exact a6 l' l0 l1
  · have hw := a8 p p0 p1
    have hr := hw.rc
    unfold WP at *
    rw [pK_ne (i := 10 * p) (by omega), pK_ne (i := 10 * p + 2) (by omega), pK_ne (i := 10 * p + 6) (by omega), pK_ne (i := 10 * p + 7) (by omega), pK_ne (i := 10 * p + 8) (by omega), pK_at p0 (by omega)]
    obtain ⟨w1, w2, w3, w4, w5, w6⟩ := hw
    refine ⟨w1, fun k => ⟨?_, (w2 k).2⟩, fun k => ?_, fun k => ?_, w5, fun k k0 k1 => ?_⟩
    · have := (w2 k).1
      split <;> omega
    · obtain ⟨t1, t2, t3, t4, t5⟩ := w3 k
      exact ⟨t1, fun j j0 j1 => by rw [pK_ne (by omega)]; exact t2 j j0 j1, t3, t4, t5⟩
    · have hn : ¬ bt s p = true := fun z => by have := (hs.2 p p0 z).2.1; omega
      rw [if_neg hn]; exact w4 k
    · rw [pK_ne (by omega)]; exact w6 k k0 k1
theorem pK_bke {K : Int → Int} {L : LB} {l s : Int} (h : BKE K L) (hs : SB K l s) : BKE (pK K s) L := by
  have hpl := h.1.1
  refine ⟨pK_wf h.1 hs, fun p p0 p1 k => ?_⟩
  rw [pK_ne (i := 182) (by omega)] at p1
  rw [pK_ne (i := 10 * p) (by omega)] at k
  have := h.2 p p0 p1 k
  have c1 : cTok (pK K s) = cTok K := by
    funext i
    unfold cTok
    rw [pK_ne (i := 183) (by omega)]
    by_cases hi : 0 ≤ i ∧ i < K 183
    · rw [if_pos hi, if_pos hi, pK_ne (by omega)]
    · rw [if_neg hi, if_neg hi]
  have c2 : vTok (pK K s) = vTok K := by
    funext i
    unfold vTok
    rw [pK_ne (i := 183) (by omega)]
    by_cases hi : 0 ≤ i ∧ i < K 183
    · rw [if_pos hi, if_pos hi, pK_ne (by omega)]
    · rw [if_neg hi, if_neg hi]
  unfold EQ at *
  rw [c1, c2, pK_ne (i := 10 * p + 9) (by omega)]
  exact this
theorem pK_zero (K : Int → Int) : pK K 0 = K := by
  funext i
  unfold pK
  rw [if_neg (fun z => by rw [bt_zero] at z; cases z.2.2.2)]
