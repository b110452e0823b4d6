/-! tryLook, seek -/
/-- what a choice of all sought LOOKS is worth -/
def lfH (K : Int → Int) (E : Int → Int → Int) (S : Nat → Bool) (dc : Bool) (R b : Int → Int) (c : Nat → Nat) : SR (Int → Int) := (WS K E (HH S dc R b c) (fun _ => false), 1, HH S dc R b c)
theorem lfH_v {K : Int → Int} {E : Int → Int → Int} {S : Nat → Bool} {dc : Bool} {R b : Int → Int} (hW : WF K) (hE : EB K E) (hb : HD b) (c : Nat → Nat) : NOTH < (lfH K E S dc R b c).1 := by
  have := WS_bd (fr := fun _ => false) hW hE (HH_hd (S := S) (dc := dc) (R := R) hb c)
  show NOTH < WS K E (HH S dc R b c) (fun _ => false)
  unfold NOTH
  omega
theorem cu_self {c : Nat → Nat} {l : Nat} (h : c l = 0) : cu c l 0 = c := by
  funext i
  unfold cu
  by_cases hi : i = l
  · rw [if_pos hi, hi, h]
  · rw [if_neg hi]
/-- a hand that is that of c where nothing is left free -/
def AG (kx : Int) (S : Nat → Bool) (dc : Bool) (R b : Int → Int) (c : Nat → Nat) (n : Nat) (h : Int → Int) : Prop := ∀ (l : Nat) (i : Int), l < 6 → 0 ≤ i → i ≤ 2 → (l < 6 - n ∨ bt kx l = false) → h (3 * l + i) = HH S dc R b c (3 * l + i)
theorem HH_cu {S : Nat → Bool} {dc : Bool} {R b : Int → Int} {c : Nat → Nat} {l k l' : Nat} (h : l' ≠ l) {i : Int} (i0 : 0 ≤ i) (i1 : i ≤ 2) : HH S dc R b (cu c l k) (3 * l' + i) = HH S dc R b c (3 * l' + i) := by
  cases hs : S l' with
  | true =>
    rw [HH_in hs i i0 i1, HH_in hs i i0 i1]
    unfold cu
    rw [if_neg h]
  | false => rw [HH_out hs i i0 i1, HH_out hs i i0 i1]
theorem hand3 {h h' : Int → Int} {l : Nat} (e : ∀ i : Int, 0 ≤ i → i ≤ 2 → h' (3 * l + i) = h (3 * l + i)) : h' (3 * l) = h (3 * l) ∧ h' (3 * l + 1) = h (3 * l + 1) ∧ h' (3 * l + 2) = h (3 * l + 2) := by
  have := e 0 (by omega) (by omega)
  rw [Int.add_zero] at this
  exact ⟨this, e 1 (by omega) (by omega), e 2 (by omega) (by omega)⟩
/-- choices of what is sought in order -/
def nnK (kx : Int) (dc : Bool) (R : Int → Int) (l : Nat) : Nat := if bt kx l = true then (cho dc (R l)).toNat else 1
theorem SUM_ub {K : Int → Int} {E : Int → Int → Int} {S : Nat → Bool} {dc : Bool} {R b f0 : Int → Int} {kx : Int} (hW : WF K) (hE : EB K E) (hb : HD b) : ∀ (n : Nat), n ≤ 6 → ∀ (c : Nat → Nat) (h : Int → Int) (fr : Int → Bool), (∀ l, 6 - n ≤ l → c l = 0) → HD h → AG kx S dc R b c n h → (∀ l : Nat, l < 6 → fr l = (bt kx l && decide (6 - n ≤ l))) → (SUM (nnK kx dc R) (lfH K E S dc R b) f0 n c).1 ≤ WS K E h fr := by
  intro n
  induction n with
  | zero =>
    intro _ c h fr hc hH ha hf
    show WS K E (HH S dc R b c) (fun _ => false) ≤ WS K E h fr
    refine WS_up hW (HH_hd hb c) (fun l l0 l1 z => by cases z) (fun l l0 l1 _ => ?_)
    obtain ⟨m, rfl⟩ : ∃ m : Nat, l = m := ⟨l.toNat, by omega⟩
    exact hand3 (fun i i0 i1 => ha m i (by omega) i0 i1 (by omega))
  | succ n ih =>
    intro h6 c h fr hc hH ha hf
    have wb := WS_bd (fr := fr) hW hE hH
    show (mgf (bot f0) (fun k => SUM (nnK kx dc R) (lfH K E S dc R b) f0 n (cu c (5 - n) k)) (nnK kx dc R (5 - n))).1 ≤ _
    refine mgf_up (by unfold NOTH; omega) _ (fun k hk => ?_)
    refine Int.le_trans (ih (by omega) (cu c (5 - n) k) (HH S dc R b (cu c (5 - n) k)) (fun l => bt kx l && decide (((6 - n : Nat) : Int) ≤ l)) (fun l hl => by unfold cu; rw [if_neg (by omega)]; exact hc l (by omega)) (HH_hd hb _) (fun l i _ _ _ _ => rfl) (fun l _ => by congr 1; exact decide_eq_decide.mpr (by omega))) ?_
    refine WS_up hW (HH_hd hb _) (fun l l0 l1 z => ?_) (fun l l0 l1 z => ?_)
    · obtain ⟨m, rfl⟩ : ∃ m : Nat, l = m := ⟨l.toNat, by omega⟩
      rw [hf m (by omega)]
      rw [Bool.and_eq_true, decide_eq_true_eq] at z ⊢
      exact ⟨z.1, by omega⟩
    · obtain ⟨m, rfl⟩ : ∃ m : Nat, l = m := ⟨l.toNat, by omega⟩
      rw [hf m (by omega)] at z
      refine hand3 (fun i i0 i1 => ?_)
      have hm : m < 6 - (n + 1) ∨ bt kx m = false := by
        cases hq : bt kx m with
        | false => exact Or.inr rfl
        | true =>
          left
          rw [hq, Bool.true_and, decide_eq_false_iff_not] at z
          omega
      rw [ha m i (by omega) i0 i1 hm]
      by_cases e : m = 5 - n
      · have hkf : bt kx m = false := by
          rcases hm with q | q
          · omega
          · exact q
        have k0 : k = 0 := by
          unfold nnK at hk
          rw [← e, if_neg (by rw [hkf]; decide)] at hk
          omega
        rw [k0, cu_self (hc _ (by omega))]
      · rw [HH_cu e i0 i1]
theorem c_mayBe {d : Nat} {M : ZM} {j : Int} {Q : Int → ZM → Prop} (h0 : (M 96 7 = 0 → j ≤ M 96 8) → (M 96 7 ≠ 0 → j < M 96 8) → Q 0 M) (h1 : M 96 8 ≤ j → (M 96 7 = 0 → M 96 8 < j) → Q 1 M) : zcI (d + 1) 84 [zA 96, zJ j] M Q := by
  have cm : (if M 96 8 < j then (1 : Int) else if j = M 96 8 then 0 else -1) = 1 ∧ M 96 8 < j ∨ (if M 96 8 < j then (1 : Int) else if j = M 96 8 then 0 else -1) = 0 ∧ j = M 96 8 ∨ (if M 96 8 < j then (1 : Int) else if j = M 96 8 then 0 else -1) = -1 ∧ j < M 96 8 := by
    by_cases a : M 96 8 < j
    · exact Or.inl ⟨if_pos a, a⟩
    · by_cases b : j = M 96 8
      · exact Or.inr (Or.inl ⟨by rw [if_neg a, if_pos b], b⟩)
      · exact Or.inr (Or.inr ⟨by rw [if_neg a, if_neg b], by omega⟩)
  apply vX6_mayBeBest
  generalize (if M 96 8 < j then (1 : Int) else if j = M 96 8 then 0 else -1) = w at cm ⊢
  refine ⟨fun z => ⟨fun a => ⟨by omega, h0 (fun _ => by omega) (fun y => absurd z y)⟩, fun a => ⟨by omega, h1 (by omega) (fun _ => by omega)⟩⟩, fun z => ⟨fun a => ⟨by omega, h0 (fun y => absurd y z) (fun _ => by omega)⟩, fun a => ⟨by omega, h1 (by omega) (fun y => absurd y z)⟩⟩⟩
/-- what is kept and what has become of it -/
def TRY (K : Int → Int) (E : Int → Int → Int) (rs : Int → Int → Bool) (kx : Int) (n : Nat) (M M' : ZM) (T : SR (Int → Int)) (P : Int) : Prop :=
  (∀ x, x ≠ 89 → x ≠ 91 → x ≠ 92 → x ≠ 94 → x ≠ 96 → x ≠ 98 → M' x = M x) ∧ (∀ k, k ≠ 5 → M' 89 k = M 89 k) ∧ CH K E rs M' ∧ (∀ k, k ≠ 8 → k ≠ 9 → M' 96 k = M 96 k)
  ∧ (∀ (l : Nat) (i : Int), l < 6 → 0 ≤ i → i ≤ 2 → (l < 6 - n ∨ bt kx l = false) → M' 91 (3 * l + i) = M 91 (3 * l + i)) ∧ HD (M' 91) ∧ bs 6 (M' 89 5)
  ∧ M' 96 8 = max (M 96 8) T.1 ∧ (0 ≤ M' 96 9 ∧ M' 96 9 ≤ M 96 9 + P) ∧ (M 96 7 ≠ 0 → M' 96 9 = (mg (M 96 8, M 96 9, M 98) T).2.1 ∧ ∀ j, 0 ≤ j → j < 18 → M' 98 j = (mg (M 96 8, M 96 9, M 98) T).2.2 j)
theorem TRY.trans {K : Int → Int} {E : Int → Int → Int} {rs : Int → Int → Bool} {kx : Int} {n : Nat} {M M1 M2 : ZM} {T1 T2 : SR (Int → Int)} {P1 P2 : Int} (h1 : TRY K E rs kx n M M1 T1 P1) (h2 : TRY K E rs kx n M1 M2 T2 P2) : TRY K E rs kx n M M2 (mg T1 T2) (P1 + P2) := by
  obtain ⟨a1, a2, a3, a4, a5, a6, a7, a8, a9, a10⟩ := h1
  obtain ⟨b1, b2, b3, b4, b5, b6, b7, b8, b9, b10⟩ := h2
  have e7 : M1 96 7 = M 96 7 := a4 7 (by omega) (by omega)
  refine ⟨fun x x1 x2 x3 x4 x5 x6 => by rw [b1 x x1 x2 x3 x4 x5 x6, a1 x x1 x2 x3 x4 x5 x6], fun k hk => by rw [b2 k hk, a2 k hk], b3, fun k k1 k2 => by rw [b4 k k1 k2, a4 k k1 k2], fun l i l6 i0 i1 hl => by rw [b5 l i l6 i0 i1 hl, a5 l i l6 i0 i1 hl], b6, b7, ?_, by omega, fun hc => ?_⟩
  · rw [b8, a8, mg_b]; omega
  · obtain ⟨u1, u2⟩ := a10 hc
    obtain ⟨v1, v2⟩ := b10 (by rw [e7]; exact hc)
    have as := mg_assoc (M 96 8, M 96 9, M 98) T1 T2
    rw [← as]
    have m1 : (mg (M 96 8, M 96 9, M 98) T1).1 = M1 96 8 := by rw [mg_b, a8]
    -- the third part only as far as 18
    have key : ∀ f : Int → Int, (mg (M1 96 8, M1 96 9, M1 98) T2).2.1 = (mg (M1 96 8, M1 96 9, f) T2).2.1 ∧ ((∀ j, 0 ≤ j → j < 18 → M1 98 j = f j) → ∀ j, 0 ≤ j → j < 18 → (mg (M1 96 8, M1 96 9, M1 98) T2).2.2 j = (mg (M1 96 8, M1 96 9, f) T2).2.2 j) := by
      intro f
      rcases Int.lt_trichotomy (M1 96 8) T2.1 with q | q | q
      · rw [mg_lt (x := (M1 96 8, M1 96 9, M1 98)) q, mg_lt (x := (M1 96 8, M1 96 9, f)) q]
        exact ⟨rfl, fun _ j _ _ => rfl⟩
      · rw [mg_eq (x := (M1 96 8, M1 96 9, M1 98)) q, mg_eq (x := (M1 96 8, M1 96 9, f)) q]
        exact ⟨rfl, fun e j j0 j1 => e j j0 j1⟩
      · rw [mg_gt (x := (M1 96 8, M1 96 9, M1 98)) q, mg_gt (x := (M1 96 8, M1 96 9, f)) q]
        exact ⟨rfl, fun e j j0 j1 => e j j0 j1⟩
    have et : mg (M 96 8, M 96 9, M 98) T1 = (M1 96 8, M1 96 9, (mg (M 96 8, M 96 9, M 98) T1).2.2) := by
      rw [← m1, u1]
    obtain ⟨k1, k2⟩ := key (mg (M 96 8, M 96 9, M 98) T1).2.2
    rw [et]
    exact ⟨by rw [v1]; exact k1, fun j j0 j1 => by rw [v2 j j0 j1]; exact k2 u2 j j0 j1⟩
theorem c_takeRule {d : Nat} {M : ZM} {v : Int} {h : Int → Int} {Q : ZM → Prop} (hv : M 96 8 ≤ v) (h9 : 0 ≤ M 96 9 ∧ M 96 9 ≤ 1000000000000) (hh : ∀ j, 0 ≤ j → j < 18 → M 91 j = h j) (hQ : ∀ M', (∀ x, x ≠ 96 → x ≠ 98 → M' x = M x) → (∀ k, k ≠ 8 → k ≠ 9 → M' 96 k = M 96 k) → M' 96 8 = max (M 96 8) v → (0 ≤ M' 96 9 ∧ M' 96 9 ≤ M 96 9 + 1) → (M' 96 9 = (mg (M 96 8, M 96 9, M 98) (v, 1, h)).2.1 ∧ ∀ j, 0 ≤ j → j < 18 → M' 98 j = (mg (M 96 8, M 96 9, M 98) (v, 1, h)).2.2 j) → Q M') : zcV (d + 2) 85 [zA 96, zJ v] M Q := by
  apply vX6_takeRule
  by_cases a : M 96 8 < v
  · rw [if_pos a]
    refine ⟨fun z => by omega, fun _ => zset (zset (c_copyRow (n := 18) rfl rfl rfl ?_))⟩
    have e9 : zcp (zup (zup M 96 8 v) 96 9 0) 91 0 98 0 (18 : Nat) 96 9 = 0 := by rw [zcp_row (by decide), zup_eq]
    rw [e9]
    refine ⟨⟨by omega, by omega⟩, zset (hQ _ (fun x x1 x2 => ?_) (fun k k1 k2 => ?_) ?_ ?_ ⟨?_, fun j j0 j1 => ?_⟩)⟩
    · rw [zup_row x1, zcp_row x2, zup_row x1, zup_row x1]
    · rw [zup_ne (fun z => k2 z.2), zcp_row (by decide), zup_ne (fun z => k2 z.2), zup_ne (fun z => k1 z.2)]
    · rw [zup_ne (by omega), zcp_row (by decide), zup_ne (by omega), zup_eq]; omega
    · rw [zup_eq]; omega
    · rw [zup_eq, mg_lt (x := (M 96 8, M 96 9, M 98)) (y := (v, 1, h)) a]; rfl
    · rw [zup_row (by decide), zcp_eq j0 (by omega), show 0 + (j - 0) = j by omega, zup_row (by decide), zup_row (by decide), hh j j0 j1, mg_lt (x := (M 96 8, M 96 9, M 98)) (y := (v, 1, h)) a]
  · have e : v = M 96 8 := by omega
    rw [if_neg a, if_pos e]
    refine ⟨fun _ => ⟨⟨by omega, by omega⟩, zset (hQ _ (fun x x1 x2 => zup_row x1) (fun k k1 k2 => zup_ne (fun z => k2 z.2)) ?_ ?_ ⟨?_, fun j j0 j1 => ?_⟩)⟩, fun z => by omega⟩
    · rw [zup_ne (by omega)]; omega
    · rw [zup_eq]; omega
    · rw [zup_eq, mg_eq (x := (M 96 8, M 96 9, M 98)) (y := (v, 1, h)) e.symm]
    · rw [zup_row (by decide), mg_eq (x := (M 96 8, M 96 9, M 98)) (y := (v, 1, h)) e.symm]
