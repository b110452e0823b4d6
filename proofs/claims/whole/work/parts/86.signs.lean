/-! signs, signed -/
theorem TP_bd {K : Int → Int} {E : Int → Int → Int} (hW : WF K) (hE : EB K E) : -19890000000000 ≤ (TP K E).1 ∧ (TP K E).1 ≤ 19890000000000 := by
  have lb : ∀ c, -19890000000000 ≤ (lfV K E c).1 ∧ (lfV K E c).1 ≤ 19890000000000 := fun c => WS_bd hW hE (HH_hd b10_hd c)
  rw [TP_enum hW hE]
  refine ⟨?_, mgf_up (by unfold NOTH; omega) _ (fun i _ => (lb _).2)⟩
  obtain ⟨k, hk⟩ : ∃ k, PN (NP K) 6 = k + 1 := ⟨PN (NP K) 6 - 1, by have := PN_pos (fun l => (NP_v hW l).2.1) 6; omega⟩
  rw [hk]
  show _ ≤ (mg (mgf _ _ k) (lfV K E (dg (NP K) 6 k (fun _ => 0)))).1
  rw [mg_b]
  have := (lb (dg (NP K) 6 k (fun _ => 0))).1
  omega
theorem vS_bd {K : Int → Int} {E : Int → Int → Int} {l s : Int} (hW : WF K) (hE : EB K E) (hs : SB K l s) : -19890000000000 ≤ vS K E s ∧ vS K E s ≤ 19890000000000 := TP_bd (pK_wf hW hs) (fun p s => hE p s)
theorem cmp_lt {a b : Int} : (if a < b then (1 : Int) else if b = a then 0 else -1) < 0 ↔ b < a := by
  by_cases h : a < b
  · rw [if_pos h]; omega
  · rw [if_neg h]
    split <;> omega
theorem cmp_le {a b : Int} : (if a < b then (1 : Int) else if b = a then 0 else -1) ≤ 0 ↔ b ≤ a := by
  by_cases h : a < b
  · rw [if_pos h]; omega
  · rw [if_neg h]
    split <;> omega
theorem c_fewest {d t : Nat} {M : ZM} {l least : Int} {Q : Int → ZM → Prop} (h : J t M) (hc : CS (M 115) l) (hN : NOTH < least) (hU : least ≤ 1000000000000000000) (hQ : ∀ M' r, (∀ b, (b < 87 ∨ 99 < b) → M' b = M b) → GB (M 115) (EW M) l least r → Q r M') : zcI (d + 12) 86 [zA 96, zI l, zJ least] M Q := by
  have hW := h.wf
  have hpl := h.pl
  have hE := EB_ew M
  have hN' : -1000000000000000000 < least := hN
  apply vX6_fewestSigns
  refine c_startSigns h hc.2.1.2 (fun M1 rs n f r1 C1 F1 => ?_)
  generalize M 115 = K at *
  generalize EW M = E at *
  have n6 := F1.1.2
  have p64 : 2 ^ n ≤ 64 := by
    have : 2 ^ n ≤ 2 ^ 6 := Nat.pow_le_pow_right (by decide) n6
    exact this
  let INV := fun (M2 : ZM) => (∀ b, (b < 87 ∨ 99 < b) → M2 b = M b) ∧ (∃ s0, CH (pK K s0) E rs M2 ∧ SB K l s0) ∧ FL K l M2 n f
  let no := fun (many j : Nat) => ∀ j' : Nat, j' < 2 ^ n → (bC (j' : Int) < many ∨ (bC (j' : Int) = many ∧ j' < j)) → vS K E (pls f n j' : Nat) < least
  have inner : ∀ (many : Nat), many ≤ n → (∀ M2, INV M2 → no (many + 1) 0 → wX6_fewestSigns (d + 11) 8 [(0, zA 96), (1, zI l), (2, zJ least), (4, zI ((many : Int) + 1))] M2 Q) → ∀ (m j : Nat) (M2 : ZM), j + m = 2 ^ n → INV M2 → no many j → wX6_fewestSigns (d + 11) 20 [(0, zA 96), (1, zI l), (2, zJ least), (4, zI (many : Int)), (5, zI (j : Int))] M2 Q := by
    intro many hm nxt m
    induction m with
    | zero =>
      intro j M2 hj hI hn
      have e4 := hI.2.2.1.1
      apply vX6_fewestSigns_20
      rw [e4, zshl1 (by omega) (by omega), Int.toNat_natCast]
      refine ⟨fun _ => ⟨⟨by omega, by omega⟩, nxt M2 hI (fun j' h1 h2 => hn j' h1 (by omega))⟩, fun z => by omega⟩
    | succ m ih =>
      intro j M2 hj hI hn
      obtain ⟨i1, ⟨s0, i2, i3⟩, i4⟩ := id hI
      have e4 := i4.1.1
      have jb : bs 6 (j : Int) := ⟨by omega, by show (j : Int) < 64; omega⟩
      apply vX6_fewestSigns_20
      rw [e4, zshl1 (by omega) (by omega), Int.toNat_natCast]
      refine ⟨fun z => by omega, fun _ => c_bitCount jb ⟨fun z => ⟨⟨by omega, by omega⟩, ih (j + 1) M2 (by omega) hI (fun j' h1 h2 => hn j' h1 ?_)⟩, fun z => ⟨⟨by omega, by omega⟩, c_bestWith hW hE i2 i3 i4 (by omega) (by omega) (fun M3 r3 C3 F3 => ⟨fun y => ?_, fun y => ?_⟩)⟩⟩⟩
      · by_cases e : j' = j
        · subst e; omega
        · omega
      · rw [cmp_lt] at y
        refine ⟨⟨by omega, by omega⟩, ih (j + 1) M3 (by omega) ⟨fun b hb => by rw [r3 b (by omega) (by omega) (by omega) (by omega) (by omega) (by omega) (by omega) (by omega), i1 b hb], ⟨_, C3, i4.sb hpl.2 j⟩, F3⟩ (fun j' h1 h2 => ?_)⟩
        by_cases e : j' = j
        · subst e; omega
        · exact hn j' h1 (by omega)
      · rw [cmp_lt] at y
        have sb := i4.sb hpl.2 j
        have c1 := i4.cnt hpl.2 (j := j) (by omega)
        refine c_placesOf hpl.2 F3 (by omega) (hQ M3 _ (fun b hb => by rw [r3 b (by omega) (by omega) (by omega) (by omega) (by omega) (by omega) (by omega) (by omega), i1 b hb]) (Or.inr ⟨sb, by omega, fun s hs hg => ?_⟩))
        obtain ⟨j', k1, rfl⟩ := i4.surj hs
        have c2 := i4.cnt hpl.2 k1
        rw [c1, c2]
        by_cases a : bC (j' : Int) < many
        · have := hn j' k1 (Or.inl a); omega
        · by_cases b : bC (j' : Int) = many
          · right
            refine ⟨by omega, ?_⟩
            by_cases c : j' < j
            · have := hn j' k1 (Or.inr ⟨b, c⟩); omega
            · have := ps_mono (f := f) (j := j) (j' := j') i4.2.2.1 (by rw [Nat.mod_eq_of_lt (by omega), Nat.mod_eq_of_lt k1]; omega)
              exact Int.ofNat_le.mpr this
          · left; omega
  have outer : ∀ (m many : Nat) (M2 : ZM), many + m = n + 1 → INV M2 → no many 0 → wX6_fewestSigns (d + 11) 8 [(0, zA 96), (1, zI l), (2, zJ least), (4, zI (many : Int))] M2 Q := by
    intro m
    induction m with
    | zero =>
      intro many M2 hm hI hn
      have e4 := hI.2.2.1.1
      apply vX6_fewestSigns_8
      rw [e4]
      refine ⟨fun _ => hQ M2 _ hI.1 (Or.inl ⟨rfl, fun s hs => ?_⟩), fun z => by omega⟩
      obtain ⟨j', k1, rfl⟩ := hI.2.2.surj hs
      refine hn j' k1 (Or.inl ?_)
      rw [bN_low k1 (by omega)]
      have := (bN_rg (j' : Int) n).2
      omega
    | succ m ih =>
      intro many M2 hm hI hn
      have e4 := hI.2.2.1.1
      apply vX6_fewestSigns_8
      rw [e4]
      exact ⟨fun z => by omega, fun _ => inner many (by omega) (fun M3 hI3 hn3 => ih (many + 1) M3 (by omega) hI3 hn3) (2 ^ n) 0 M2 (by omega) hI hn⟩
  refine outer (n + 1) 0 M1 (by omega) ⟨r1, ⟨0, by rw [pK_zero]; exact C1, SB_zero K l⟩, F1⟩ (fun j' h1 h2 => ?_)
  have := (bN_rg (j' : Int) 16).1
  have : 0 ≤ bC (j' : Int) := this
  omega
theorem c_bestSigned {d t : Nat} {M : ZM} {l : Int} {Q : Int → ZM → Prop} (h : J t M) (hc : CS (M 115) l) (hQ : ∀ M' x, (∀ b, (b < 87 ∨ 99 < b) → M' b = M b) → MX (M 115) (EW M) l x → Q x M') : zcL (d + 12) 87 [zA 96, zI l] M Q := by
  have hW := h.wf
  have hpl := h.pl
  have hE := EB_ew M
  apply vX6_bestSigned
  refine c_startSigns h hc.2.1.2 (fun M1 rs n f r1 C1 F1 => ?_)
  generalize M 115 = K at *
  generalize EW M = E at *
  have n6 := F1.1.2
  have p64 : 2 ^ n ≤ 64 := by
    have : 2 ^ n ≤ 2 ^ 6 := Nat.pow_le_pow_right (by decide) n6
    exact this
  have p1 := Nat.two_pow_pos n
  let INV := fun (M2 : ZM) => (∀ b, (b < 87 ∨ 99 < b) → M2 b = M b) ∧ (∃ s0, CH (pK K s0) E rs M2 ∧ SB K l s0) ∧ FL K l M2 n f
  have lp : ∀ (m j : Nat) (M2 : ZM) (x : Int), j + m = 2 ^ n → INV M2 → ((j = 0 ∧ x = NOTH) ∨ (∃ j', j' < j ∧ x = vS K E (pls f n j' : Nat))) → (∀ j', j' < j → vS K E (pls f n j' : Nat) ≤ x) → NOTH ≤ x → wX6_bestSigned (d + 11) 12 [(0, zA 96), (1, zI l), (2, zJ x), (4, zI (j : Int))] M2 Q := by
    intro m
    induction m with
    | zero =>
      intro j M2 x hj hI hx hm hN
      have e4 := hI.2.2.1.1
      apply vX6_bestSigned_12
      rw [e4, zshl1 (by omega) (by omega), Int.toNat_natCast]
      refine ⟨fun _ => hQ M2 x hI.1 ⟨?_, fun s hs => ?_⟩, fun z => by omega⟩
      · rcases hx with ⟨a, b⟩ | ⟨j', a, b⟩
        · omega
        · exact ⟨_, hI.2.2.sb hpl.2 j', b⟩
      · obtain ⟨j', k1, rfl⟩ := hI.2.2.surj hs
        exact hm j' (by omega)
    | succ m ih =>
      intro j M2 x hj hI hx hm hN
      obtain ⟨i1, ⟨s0, i2, i3⟩, i4⟩ := id hI
      have e4 := i4.1.1
      apply vX6_bestSigned_12
      rw [e4, zshl1 (by omega) (by omega), Int.toNat_natCast]
      refine ⟨fun z => by omega, fun _ => c_bestWith hW hE i2 i3 i4 (by omega) hN (fun M3 r3 C3 F3 => ⟨⟨by omega, by omega⟩, ?_⟩)⟩
      have vb := vS_bd hW hE (i4.sb hpl.2 j)
      refine ih (j + 1) M3 _ (by omega) ⟨fun b hb => by rw [r3 b (by omega) (by omega) (by omega) (by omega) (by omega) (by omega) (by omega) (by omega), i1 b hb], ⟨_, C3, i4.sb hpl.2 j⟩, F3⟩ (Or.inr ?_) (fun j' hj' => ?_) (by omega)
      · by_cases a : vS K E (pls f n j : Nat) ≤ x
        · rcases hx with ⟨b, c⟩ | ⟨j', b, c⟩
          · unfold NOTH at c; omega
          · exact ⟨j', by omega, by omega⟩
        · exact ⟨j, by omega, by omega⟩
      · by_cases e : j' = j
        · subst e; omega
        · have := hm j' (by omega); omega
  exact lp (2 ^ n) 0 M1 NOTH (by omega) ⟨r1, ⟨0, by rw [pK_zero]; exact C1, SB_zero K l⟩, F1⟩ (Or.inl ⟨rfl, rfl⟩) (fun j' hj' => by omega) (Int.le_refl _)
/-- what a call of the reference that only tells may change here -/
def SGI (M M1 : ZM) : Prop := frm M M1 ∧ JV M1 ∧ ∀ b, b ≠ 113 → b ≠ 125 → b ≠ 126 → b ≠ 127 → b ≠ 128 → b ≠ 129 → b ≠ 130 → M1 b = M b
theorem SGI.bke {M M1 : ZM} (h : SGI M M1) (hB : BKE (M 115) (bL M 44)) : M1 115 = M 115 ∧ EW M1 = EW M ∧ BKE (M1 115) (bL M1 44) := by
  obtain ⟨h1, h2, h3⟩ := h
  have e : M1 115 = M 115 := h3 115 (by decide) (by decide) (by decide) (by decide) (by decide) (by decide) (by decide)
  refine ⟨e, EW_fun h1.1, ?_⟩
  rw [e]
  exact hB.congr (fun j hj => h3 _ (by omega) (by omega) (by omega) (by omega) (by omega) (by omega) (by omega))
theorem m_paintedI {d : Nat} {M M1 : ZM} {l s : Int} {Q : Int → ZM → Prop} (hB : BKE (M 115) (bL M 44)) (h29 : M 113 29 = 0) (hI : SGI M M1) (hs : SB (M 115) l s) (hQ : ∀ M', SGI M M' → Q (vS (M 115) (EW M) s) M') : zcL (d + 47) 227 [zA 113, zI s] M1 Q := by
  obtain ⟨e1, e2, e3⟩ := hI.bke hB
  refine m_painted e3 hI.2.1 (by rw [hI.1.1.fk (k := 29) (by omega)]; exact h29) (by rw [e1]; exact hs) (fun M' f v r => ?_)
  rw [e1, e2]
  exact hQ M' ⟨hI.1.tr f, v, fun b h1 h2 h3 h4 h5 h6 h7 => by rw [r b h1 h2 h3 h4 h5 h6 h7, hI.2.2 b h1 h2 h3 h4 h5 h6 h7]⟩
theorem m_signsLoop {d : Nat} {M : ZM} {l least w : Int} {Q : Int → ZM → Prop} (hB : BKE (M 115) (bL M 44)) (hV : JV M) (h29 : M 113 29 = 0) (hQ : ∀ M' r, SGI M M' → GB (M 115) (EW M) l least r → Q (if r = -1 then -1 else if w = 0 then bC r else r) M') : wX10_signs (d + 47) 33 [(0, zA 113), (2, zJ least), (4, zI w), (5, zI (fb (M 115) l (M 115 182).toNat)), (6, zI (-1)), (7, zI 0)] M Q := by
  have hpl := hB.1.1
  have lp : ∀ (m i : Nat) (b : Int) (M1 : ZM), i + m = 65536 → SGI M M1 → ((b = -1 ∧ ∀ s, SB (M 115) l s → s < i → vS (M 115) (EW M) s < least) ∨ (SB (M 115) l b ∧ b < i ∧ least ≤ vS (M 115) (EW M) b ∧ ∀ s, SB (M 115) l s → s < i → least ≤ vS (M 115) (EW M) s → bC b < bC s ∨ (bC b = bC s ∧ b ≤ s))) → wX10_signs (d + 47) 33 [(0, zA 113), (2, zJ least), (4, zI w), (5, zI (fb (M 115) l (M 115 182).toNat)), (6, zI b), (7, zI (i : Int))] M1 Q := by
    intro m
    induction m with
    | zero =>
      intro i b M1 hi hI hb
      obtain rfl : i = 65536 := by omega
      have lt : ∀ s, SB (M 115) l s → s < ((65536 : Nat) : Int) := fun s hs => hs.1.2
      apply vX10_signs_33
      rcases hb with ⟨rfl, h2⟩ | ⟨h1, h2, h3, h4⟩
      · have q := hQ M1 (-1) hI (Or.inl ⟨rfl, fun s hs => h2 s hs (lt s hs)⟩)
        rw [if_pos rfl] at q
        exact ⟨fun _ => ⟨fun z => absurd rfl z, fun _ => q⟩, fun z => by omega⟩
      · have q := hQ M1 b hI (Or.inr ⟨h1, h3, fun s hs hg => h4 s hs (lt s hs) hg⟩)
        have b0 := h1.1.1
        have br := h1.1.r (by decide)
        rw [if_neg (by omega)] at q
        refine ⟨fun _ => ⟨fun _ => ⟨fun z => ?_, fun z => m_ones br.1 br.2 ?_⟩, fun z => by omega⟩, fun z => by omega⟩
        · rw [if_neg z] at q; exact q
        · rw [if_pos z] at q; exact q
    | succ m ih =>
      intro i b M1 hi hI hb
      have ib : bs 16 (i : Int) := ⟨by omega, by show (i : Int) < 65536; omega⟩
      have ir := ib.r (by decide)
      have sub := SB_iff (K := M 115) (l := l) hpl ib
      -- i is none of those that count
      have skip : ∀ M2, SGI M M2 → (SB (M 115) l i → least ≤ vS (M 115) (EW M) i → b ≠ -1 ∧ bC b ≤ bC i) → r32 ((i : Int) + 1) ∧ wX10_signs (d + 47) 33 [(0, zA 113), (2, zJ least), (4, zI w), (5, zI (fb (M 115) l (M 115 182).toNat)), (6, zI b), (7, zI ((i : Int) + 1))] M2 Q := by
        intro M2 hI2 hs2
        refine ⟨⟨by omega, by omega⟩, ih (i + 1) b M2 (by omega) hI2 ?_⟩
        rcases hb with ⟨h1, h2⟩ | ⟨h1, h2, h3, h4⟩
        · left
          refine ⟨h1, fun s hs hlt => ?_⟩
          by_cases e : s = i
          · subst e
            by_cases g : least ≤ vS (M 115) (EW M) i
            · exact absurd h1 (hs2 hs g).1
            · omega
          · exact h2 s hs (by omega)
        · right
          refine ⟨h1, by omega, h3, fun s hs hlt hg => ?_⟩
          by_cases e : s = i
          · subst e
            have := (hs2 hs hg).2
            omega
          · exact h4 s hs (by omega) hg
      -- i is the best so far
      have take : ∀ M2, SGI M M2 → SB (M 115) l i → least ≤ vS (M 115) (EW M) i → (b ≠ -1 → bC i < bC b) → r32 ((i : Int) + 1) ∧ wX10_signs (d + 47) 33 [(0, zA 113), (2, zJ least), (4, zI w), (5, zI (fb (M 115) l (M 115 182).toNat)), (6, zI (i : Int)), (7, zI ((i : Int) + 1))] M2 Q := by
        intro M2 hI2 hs2 hg2 hlt2
        refine ⟨⟨by omega, by omega⟩, ih (i + 1) i M2 (by omega) hI2 (Or.inr ⟨hs2, by omega, hg2, fun s hs hlt hg => ?_⟩)⟩
        by_cases e : s = i
        · subst e; omega
        · rcases hb with ⟨h1, h2⟩ | ⟨h1, h2, h3, h4⟩
          · have := h2 s hs (by omega); omega
          · have b0 := h1.1.1
            have := h4 s hs (by omega) hg
            have := hlt2 (by omega)
            omega
      apply vX10_signs_33
      refine ⟨fun z => by omega, fun _ => ⟨fun z => skip M1 hI (fun hs => absurd (sub.mpr hs) z), fun z => ?_⟩⟩
      have hs := sub.mp z
      refine ⟨fun hb1 => m_paintedI hB h29 hI hs (fun M2 hI2 => ⟨fun y => ?_, fun y => ?_⟩), fun hb1 => m_ones ir.1 ir.2 ?_⟩
      · rw [cmp_lt] at y
        exact skip M2 hI2 (fun _ g => by omega)
      · rw [cmp_lt] at y
        exact take M2 hI2 hs (by omega) (fun y => absurd hb1 y)
      · have hbs : bs 16 b := by
          rcases hb with ⟨h1, h2⟩ | ⟨h1, h2, h3, h4⟩
          · exact absurd h1 hb1
          · exact h1.1
        have br := hbs.r (by decide)
        refine m_ones br.1 br.2 ⟨fun hlt => m_paintedI hB h29 hI hs (fun M2 hI2 => ⟨fun y => ?_, fun y => ?_⟩), fun hlt => skip M1 hI (fun _ _ => ⟨hb1, by omega⟩)⟩
        · rw [cmp_lt] at y
          exact skip M2 hI2 (fun _ g => by omega)
        · rw [cmp_lt] at y
          exact take M2 hI2 hs (by omega) (fun _ => hlt)
  exact lp 65536 0 (-1) M (by omega) ⟨frm.rf, hV, fun _ _ _ _ _ _ _ _ => rfl⟩ (Or.inl ⟨rfl, fun s hs hlt => by have := hs.1.1; omega⟩)
theorem m_signedLoop {d : Nat} {M : ZM} {l : Int} {Q : Int → ZM → Prop} (hB : BKE (M 115) (bL M 44)) (hV : JV M) (h29 : M 113 29 = 0) (hQ : ∀ M' x, SGI M M' → MX (M 115) (EW M) l x → Q x M') : wX10_signed (d + 47) 25 [(0, zA 113), (2, zI (fb (M 115) l (M 115 182).toNat)), (3, zJ (-1000000000000000000)), (5, zI 0)] M Q := by
  have hpl := hB.1.1
  have hW := hB.1
  have lp : ∀ (m i : Nat) (x : Int) (M1 : ZM), i + m = 65536 → SGI M M1 → ((i = 0 ∧ x = NOTH) ∨ (∃ s, SB (M 115) l s ∧ s < i ∧ x = vS (M 115) (EW M) s)) → (∀ s, SB (M 115) l s → s < i → vS (M 115) (EW M) s ≤ x) → wX10_signed (d + 47) 25 [(0, zA 113), (2, zI (fb (M 115) l (M 115 182).toNat)), (3, zJ x), (5, zI (i : Int))] M1 Q := by
    intro m
    induction m with
    | zero =>
      intro i x M1 hi hI hx hm
      obtain rfl : i = 65536 := by omega
      apply vX10_signed_25
      refine ⟨fun _ => hQ M1 x hI ⟨?_, fun s hs => hm s hs hs.1.2⟩, fun z => by omega⟩
      rcases hx with ⟨a, b⟩ | ⟨s, a, b, c⟩
      · omega
      · exact ⟨s, a, c⟩
    | succ m ih =>
      intro i x M1 hi hI hx hm
      have ib : bs 16 (i : Int) := ⟨by omega, by show (i : Int) < 65536; omega⟩
      have sub := SB_iff (K := M 115) (l := l) hpl ib
      apply vX10_signed_25
      refine ⟨fun z => by omega, fun _ => ⟨fun z => ?_, fun z => ⟨⟨by omega, by omega⟩, ih (i + 1) x M1 (by omega) hI ?_ (fun s hs hlt => ?_)⟩⟩⟩
      · have hs := sub.mp z
        have vb := vS_bd hW (EB_ew M) hs
        refine m_paintedI hB h29 hI hs (fun M2 hI2 => ⟨fun y => ⟨⟨by omega, by omega⟩, ih (i + 1) x M2 (by omega) hI2 ?_ (fun s hs' hlt => ?_)⟩, fun y => ⟨⟨by omega, by omega⟩, ih (i + 1) _ M2 (by omega) hI2 (Or.inr ⟨i, hs, by omega, rfl⟩) (fun s hs' hlt => ?_)⟩⟩)
        · rw [cmp_le] at y
          rcases hx with ⟨a, b⟩ | ⟨s, a, b, c⟩
          · unfold NOTH at b; omega
          · exact Or.inr ⟨s, a, by omega, c⟩
        · rw [cmp_le] at y
          by_cases e : s = i
          · subst e; exact y
          · exact hm s hs' (by omega)
        · rw [cmp_le] at y
          by_cases e : s = i
          · subst e; exact Int.le_refl _
          · have := hm s hs' (by omega); omega
      · rcases hx with ⟨a, b⟩ | ⟨s, a, b, c⟩
        · exfalso
          subst a
          exact z (sub.mpr (SB_zero _ _))
        · exact Or.inr ⟨s, a, by omega, c⟩
      · by_cases e : s = i
        · subst e; exact absurd (sub.mpr hs) z
        · exact hm s hs (by omega)
  exact lp 65536 0 _ M (by omega) ⟨frm.rf, hV, fun _ _ _ _ _ _ _ _ => rfl⟩ (Or.inl ⟨rfl, rfl⟩) (fun s hs hlt => by have := hs.1.1; omega)
theorem rows_frc9 {M M' : ZM} (r : ∀ b, (b < 87 ∨ 99 < b) → M' b = M b) : frc M M' := frc.of (fun b hb => r b (by omega))
theorem s_signed {d t : Nat} {M : ZM} (h : J t M) {l : Int} : zcL (d + 48) 126 [zA 29, zI l] M (fun x M1 => zcL (d + 48) 229 [zA 113, zI l] M1 (fun y M2 => x = y ∧ J (t + 1) M2)) := by
  have hpl := h.pl
  apply vX9_signed
  refine c_canSign h (fun hc => ⟨fun _ => c_bestSigned h hc (fun MC x rC mx => ?_), fun z => by omega⟩) (fun hc => ⟨fun z => absurd rfl z, fun _ => ?_⟩)
  · have fc := rows_frc9 rC
    have h1 := h.frc fc (h.jf.fr (rC 106 (by decide)))
    have e115 : MC 115 = M 115 := rC 115 (by decide)
    apply vX10_signed
    refine m_canSign (by rw [e115]; exact hpl) (fun _ => ⟨fun _ => m_forksOf (by rw [e115]; exact hpl) (m_signedLoop h1.2.2.1.e h1.jv h1.2.2.2.2.2.2.1.1 (fun M2 y hI my => ⟨?_, ?_⟩)), fun z => by omega⟩) (fun z => by rw [e115] at z; exact absurd hc z)
    · rw [e115, EW_fun fc.1] at my
      exact MX_one mx my
    · exact h.frame (fc.1.tr hI.1.1) (h.jf.fr (by rw [hI.2.2 106 (by decide) (by decide) (by decide) (by decide) (by decide) (by decide) (by decide), rC 106 (by decide)])) hI.2.1
  · apply vX10_signed
    exact m_canSign hpl (fun z => absurd z hc) (fun _ => ⟨fun z => absurd rfl z, fun _ => ⟨rfl, h.idle⟩⟩)
theorem GB_clamp {K : Int → Int} {E : Int → Int → Int} {l a b r : Int} (h : ∀ s, SB K l s → (a ≤ vS K E s ↔ b ≤ vS K E s)) (g : GB K E l a r) : GB K E l b r := by
  rcases g with ⟨x, y⟩ | ⟨x, y, z⟩
  · left
    refine ⟨x, fun s hs => ?_⟩
    have := h s hs
    have := y s hs
    omega
  · right
    exact ⟨x, (h r x).mp y, fun s hs hg => z s hs ((h s hs).mpr hg)⟩
theorem s_signs {d t : Nat} {M : ZM} (h : J t M) {l least w : Int} : zcI (d + 48) 125 [zA 29, zI l, zJ least, zI w] M (fun x M1 => zcI (d + 48) 228 [zA 113, zI l, zJ least, zI w] M1 (fun y M2 => x = y ∧ J (t + 1) M2)) := by
  have hpl := h.pl
  have hW := h.wf
  have no : ¬ (CS (M 115) l ∧ 0 ≤ w ∧ w ≤ 1) → zcI (d + 48) 228 [zA 113, zI l, zJ least, zI w] M (fun y M2 => -1 = y ∧ J (t + 1) M2) := by
    intro hn
    apply vX10_signs
    exact m_canSign hpl (fun z => ⟨fun y => by omega, fun _ => m_lies (fun a b => absurd ⟨z, a, b⟩ hn) (fun _ => ⟨fun y => absurd rfl y, fun _ => ⟨rfl, h.idle⟩⟩)⟩) (fun z => ⟨fun _ => ⟨rfl, h.idle⟩, fun y => absurd rfl y⟩)
  apply vX9_signs
  refine ⟨fun z => no (by omega), fun w0 => ⟨fun z => no (by omega), fun w1 => c_canSign h (fun hc => ⟨fun _ => ?_, fun z => by omega⟩) (fun hc => ⟨fun z => absurd rfl z, fun _ => no (fun y => hc y.1)⟩)⟩⟩
  refine c_fewest h hc (by unfold NOTH; omega) (by omega) (fun MC r rC gb => ?_)
  have fc := rows_frc9 rC
  have h1 := h.frc fc (h.jf.fr (rC 106 (by decide)))
  have e115 : MC 115 = M 115 := rC 115 (by decide)
  have g1 : GB (M 115) (EW M) l least r := GB_clamp (fun s hs => by have := vS_bd hW (EB_ew M) hs; omega) gb
  have ref : ∀ x, x = (if r = -1 then -1 else if w = 0 then bC r else r) → zcI (d + 48) 228 [zA 113, zI l, zJ least, zI w] MC (fun y M2 => x = y ∧ J (t + 1) M2) := by
    intro x hx
    apply vX10_signs
    refine m_canSign (by rw [e115]; exact hpl) (fun _ => ⟨fun z => by omega, fun _ => m_lies (fun _ _ => ⟨fun _ => m_forksOf (by rw [e115]; exact hpl) (m_signsLoop h1.2.2.1.e h1.jv h1.2.2.2.2.2.2.1.1 (fun M2 y hI my => ⟨?_, ?_⟩)), fun z => by omega⟩) (fun z => by omega)⟩) (fun z => by rw [e115] at z; exact absurd hc z)
    · rw [e115, EW_fun fc.1] at my
      rw [hx, GB_one g1 my]
    · exact h.frame (fc.1.tr hI.1.1) (h.jf.fr (by rw [hI.2.2 106 (by decide) (by decide) (by decide) (by decide) (by decide) (by decide) (by decide), rC 106 (by decide)])) hI.2.1
  refine ⟨fun z => ref _ (by rw [if_pos z]; exact z), fun z => ⟨fun y => ?_, fun y => ref _ (by rw [if_neg z, if_neg (by omega)])⟩⟩
  have hb : bs 16 r := by
    rcases g1 with ⟨a, b⟩ | ⟨a, b, c⟩
    · exact absurd a z
    · exact a.1
  exact c_bitCount16 hb (ref _ (by rw [if_neg z, if_pos (by omega)]))
