theorem fr.fk {M M' : ZM} (f : fr M M') {k : Int} (hk : ¬ ((11 ≤ k ∧ k ≤ 26) ∨ (30 ≤ k ∧ k ≤ 45) ∨ 48 ≤ k)) : M' 113 k = M 113 k := f.f k (by
  rw [Bool.eq_false_iff]
  intro h
  simp only [ne_eq, Bool.or_eq_true, Bool.and_eq_true, decide_eq_true_eq] at h
  omega)
/-! worth, from, knowing -/
theorem VV_cg {K : Int → Int} {E : Int → Int → Int} {hd hd' : Int → Int} {fr fr' : Int → Bool} (hW : WF K) (e : ∀ j, 0 ≤ j → j < 18 → hd' j = hd j) (ef : ∀ l, 0 ≤ l → l < 6 → fr' l = fr l) : ∀ (n : Nat) (p : Int), 0 ≤ p → VV K E hd' fr' n p = VV K E hd fr n p := by
  obtain ⟨a1, a2, a3, a4, a5, a6, a7, a8⟩ := hW
  intro n
  induction n with
  | zero => intro p _; rfl
  | succ n ih =>
    intro p p0
    unfold VV
    by_cases hp : p < K 182
    · rw [if_pos hp, if_pos hp]
      have hw := a8 p p0 hp
      have hr := hw.rc
      obtain ⟨w1, w2, w3, w4, w5, w6⟩ := hw
      by_cases k3 : K (10 * p) = 3
      · rw [if_pos k3, if_pos k3]
      · rw [if_neg k3, if_neg k3]
        have h1 : 1 ≤ K (10 * p + 2) := by
          rcases (by omega : K (10 * p) = 0 ∨ K (10 * p) = 1 ∨ K (10 * p) = 2) with q | q | q
          · have := w2 q; omega
          · have := w3 q; omega
          · have := w4 q; omega
        have rdb : ∀ k, 0 ≤ k → 0 ≤ rdc K p k := by
          intro k k0
          unfold rdc
          split
          · exact (w6 k k0 (by omega)).1
          · exact (w6 _ (by omega) (by omega)).1
        rw [ih _ (rdb 0 (by omega)), ih _ (rdb 1 (by omega)), ih _ (rdb 2 (by omega))]
        by_cases k2 : K (10 * p) = 2
        · rw [if_pos k2, if_pos k2]
        · rw [if_neg k2, if_neg k2]
          by_cases k1 : K (10 * p) = 1
          · rw [if_pos k1, if_pos k1]
          · rw [if_neg k1, if_neg k1]
            have hl := (w2 (by omega)).1
            rw [e _ (by omega) (by omega), e _ (by omega) (by omega), e _ (by omega) (by omega), ef _ hl.1 (by omega)]
    · rw [if_neg hp, if_neg hp]
theorem WS_cg {K : Int → Int} {E : Int → Int → Int} {hd hd' : Int → Int} {fr fr' : Int → Bool} (hW : WF K) (e : ∀ j, 0 ≤ j → j < 18 → hd' j = hd j) (ef : ∀ l, 0 ≤ l → l < 6 → fr' l = fr l) : WS K E hd' fr' = WS K E hd fr := by
  unfold WS
  rw [VV_cg hW e ef _ _ hW.2.1.1]
theorem bt_zero (l : Int) : bt 0 l = false := by
  unfold bt
  simp
theorem bt_63 {l : Int} (l0 : 0 ≤ l) (l1 : l < 6) : bt 63 l = true := by
  have : ∀ k : Nat, k < 6 → bt 63 k = true := by decide +kernel
  have := this l.toNat (by omega)
  rwa [Int.toNat_of_nonneg l0] at this
/-- the reference: takesRule and weighs, with the RULE as told -/
theorem jr127 {t : Nat} {M : ZM} (h : J t M) (f : Int → Int) : J (t + 1) (zrow M 127 f) := by
  have fm : frm M (zrow M 127 f) := frm.of (fun b b1 b2 => zrow_ne (by omega)) (fun k _ => by rw [zrow_ne (by decide)])
  exact h.frm fm (h.jv.fr fm.1 (zrow_ne (by decide)) (by rw [zrow_ne (by decide)]))
theorem fr_r127 {M : ZM} {f : Int → Int} : frm M (zrow M 127 f) := frm.of (fun b b1 b2 => zrow_ne (by omega)) (fun k _ => by rw [zrow_ne (by decide)])
theorem EW_fun {M M' : ZM} (f : fr M M') : EW M' = EW M := by
  funext p s
  exact f.ew p s
theorem m_wt {d t : Nat} {M : ZM} {Q : ZM → Prop} (h : J t M) (hQ : ∀ M', frm M M' → JV M' → M' 115 = M 115 → (∀ (n : Nat) (q : Int), (n : Int) ≤ M 115 179 → 0 ≤ q → q < M 115 182 → M' 128 (16 * (M 115 179 - n) + q) = VV (M 115) (EW M) (rlH (M 115)) (fun _ => false) n q) → (∀ {d : Nat} {K : Int → ZM → Prop}, K (WS (M 115) (EW M) (rlH (M 115)) (fun _ => false)) M' → zcL (d + 3) 204 [zA 113] M' K) → Q M') : zcV (d + 46) 200 [zA 113] M (fun M1 => zcV (d + 46) 202 [zA 113] M1 Q) := by
  refine m_takesRule ?_
  have h1 := jr127 h (trR M 18)
  have e115 : zrow M 127 (trR M 18) 115 = M 115 := zrow_ne (by decide)
  have e127 : ∀ j, 0 ≤ j → j < 18 → zrow M 127 (trR M 18) 127 j = rlH (M 115) j := fun j j0 j1 => by
    rw [zrow_at]; unfold trR; rw [if_pos (by omega)]
  have hH : HD (zrow M 127 (trR M 18) 127) := h.wf.hd.congr e127
  have eE : EW (zrow M 127 (trR M 18)) = EW M := EW_fun fr_r127.1
  refine m_weighs (fr := fun _ => false) h1.2.2.1 h1.jv hH (Or.inl ⟨h1.2.2.2.2.2.2.1.1, fun _ => rfl⟩) (fun M2 g => hQ M2 (fr_r127.tr g.1) g.2.1 (by rw [g.2.2.1 115 (by decide) (by decide) (by decide) (by decide), e115]) (fun n q a b c => ?_) (fun {d K} hk => m_atStart (by rw [e115]; exact h.wf) hH g ?_))
  · have := g.2.2.2 n q (by rw [e115]; exact a) b (by rw [e115]; exact c)
    rw [e115, eE] at this
    rw [this, VV_cg h.wf e127 (fun _ _ _ => rfl) n q b]
  · rw [e115, eE, WS_cg h.wf e127 (fun _ _ _ => rfl)]
    exact hk
theorem LAY.frc {K : Int → Int} {E : Int → Int → Int} {M M' : ZM} {rs : Int → Int → Bool} (l : LAY K E M rs M') {M2 : ZM} (r : ∀ b, b ≠ 92 → b ≠ 94 → M2 b = M' b) : frc M M2 := frc.of (fun b hb => by rw [r b (by omega) (by omega), l.1 b (by omega)])
theorem HD_lay {t : Nat} {M M' : ZM} (h : J t M) {rs : Int → Int → Bool} (l : LAY (M 115) (EW M) M rs M') : HD (M' 91) := h.wf.hd.congr l.2.2.2.2.2.2.2.1
theorem s_worth {d t : Nat} {M : ZM} (h : J t M) : zcL (d + 47) 114 [zA 29] M (fun x M1 => zcL (d + 47) 205 [zA 113] M1 (fun y M2 => x = y ∧ J (t + 1) M2)) := by
  have hs := h.size
  apply vX9_worth
  refine c_noPlaces (fun q => ⟨fun z => by omega, fun _ => ?_⟩) (fun q => ⟨fun _ => c_lay h (Or.inl rfl) (fun ML rs l _ => ?_), fun z => by omega⟩)
  · apply vX10_worth
    exact m_places ⟨fun z => by omega, fun _ => ⟨rfl, h.idle⟩⟩
  · obtain ⟨l1, l2, l3, l4, l5, l6, l7, l8, l9⟩ := id l
    refine c_weigh l2 l3 l4 l5 l6 (EB_ew M) (HD_lay h l) (by rw [l7]; exact bs_zero 6) (fun MC r ct cf ba fi => ?_)
    have fc := l.frc r
    have e106 : MC 106 = M 106 := by rw [r 106 (by decide) (by decide), l1 106 (by decide)]
    have h1 := h.frc fc (h.jf.fr e106)
    have e115 : MC 115 = M 115 := fc.2 115 (by decide)
    apply vX10_worth
    refine m_places ⟨fun _ => m_wt h1 (fun M2 f2 v2 _ _ at2 => at2 ⟨?_, ?_⟩), fun z => ?_⟩
    · rw [e115, EW_fun fc.1, l7]
      exact WS_cg h.wf l8 (fun l _ _ => bt_zero l)
    · exact h.frame (fc.1.tr f2.1) (h.jf.fr (by rw [f2.2 106 (by decide), e106])) v2
    · rw [e115] at z; omega
theorem s_from {d t : Nat} {M : ZM} (h : J t M) {p s : Int} : zcL (d + 47) 115 [zA 29, zI p, zI s] M (fun x M1 => zcL (d + 47) 206 [zA 113, zI p, zI s] M1 (fun y M2 => x = y ∧ J (t + 1) M2)) := by
  have hs := h.size
  have hpl := h.pl
  have hday := h.wf.2.2.1
  have hd1 : M 55 1 = M 115 179 := h.term (i := 1) (by omega) (by omega)
  have no : ¬ (0 ≤ p ∧ p < M 115 182 ∧ 0 ≤ s ∧ s ≤ M 115 179) → zcL (d + 47) 206 [zA 113, zI p, zI s] M (fun y M2 => -1000000000000000000 = y ∧ J (t + 1) M2) := by
    intro hn
    apply vX10_from
    refine m_isPlace hpl (fun a b => ⟨fun z => by omega, fun _ => m_day (m_lies (fun c e => by omega) (fun z => ⟨fun y => by omega, fun _ => ⟨rfl, h.idle⟩⟩))⟩) (fun z => ⟨fun _ => ⟨rfl, h.idle⟩, fun y => by omega⟩)
  apply vX9_from
  refine c_has (fun p0 p1 => ⟨fun z => by omega, fun _ => ⟨fun z => no (by omega), fun s0 => ⟨by omega, ?_⟩⟩⟩) (fun q => ⟨fun _ => no (by omega), fun z => by omega⟩)
  rw [hd1]
  refine ⟨fun s1 => c_lay h (Or.inr rfl) (fun ML rs l al => ?_), fun z => no (by omega)⟩
  obtain ⟨l1, l2, l3, l4, l5, l6, l7, l8, l9⟩ := id l
  refine c_weigh l2 l3 l4 l5 l6 (EB_ew M) (HD_lay h l) (by rw [l7]; exact bs_zero 6) (fun MC r ct cf ba fi => ⟨⟨by omega, by omega⟩, ⟨by omega, by omega⟩, by omega, ?_⟩)
  have fc := l.frc r
  have e106 : MC 106 = M 106 := by rw [r 106 (by decide) (by decide), l1 106 (by decide)]
  have h1 := h.frc fc (h.jf.fr e106)
  have e115 : MC 115 = M 115 := fc.2 115 (by decide)
  have fx := fi s p (by omega) s1 p0 (by omega) (al rfl s p (by omega) (by omega) p0 (by omega))
  apply vX10_from
  refine m_isPlace (by rw [e115]; exact hpl) (fun _ _ => ⟨fun z => by omega, fun _ => m_day (m_lies (fun c e => ⟨fun _ => m_wt h1 (fun M2 f2 v2 e2 tb at2 => ⟨⟨by omega, by omega⟩, ⟨by omega, by omega⟩, by omega, m_day ?_⟩), fun z => by omega⟩) (fun z => ?_))⟩) (fun z => ?_)
  · rw [e2, e115]
    have tv := tb (M 115 179 - s).toNat p (by rw [e115]; omega) p0 (by rw [e115]; omega)
    rw [e115, EW_fun fc.1, show 16 * (M 115 179 - ((M 115 179 - s).toNat : Int)) + p = 16 * s + p by omega] at tv
    refine ⟨⟨by omega, by omega⟩, ⟨by omega, by omega⟩, m_ten (n := 10 - (M 115 179 - s).toNat) (by omega) (by omega) ?_⟩
    have bd := scale_bd (n := (M 115 179 - s).toNat) (by omega) (VV_bd (hd := rlH (M 115)) (fr := fun _ => false) h.wf (EB_ew M) h.wf.hd _ p p0)
    rw [tv]
    refine ⟨⟨by omega, by omega⟩, ?_, ?_⟩
    · rw [show s * 16 + p = 16 * s + p by omega, fx, l7]
      rw [VV_cg h.wf l8 (fun l _ _ => bt_zero l) _ _ p0]
    · exact h.frame (fc.1.tr f2.1) (h.jf.fr (by rw [f2.2 106 (by decide), e106])) v2
  · rw [e115] at z; omega
  · rw [e115] at z; omega
/-- knowing: the class -/
theorem c_knowing {d t : Nat} {M : ZM} {ev : Int} {Q : Int → ZM → Prop} (h : J t M) (hv : ev = 0 ∨ ev = 1) (hQ : ∀ ML rs MC, LAY (M 115) (EW M) M rs ML → (ev = 1 → ∀ s p, 0 ≤ s → s ≤ 10 → 0 ≤ p → p ≤ 15 → rs s p = true) → frc M MC → MC 106 = M 106 → (∀ b, 44 ≤ b → b ≤ 56 → MC b = M b) → FIN (M 115) (EW M) (rlH (M 115)) (fun _ => true) rs MC → Q (WS (M 115) (EW M) (rlH (M 115)) (fun _ => true)) MC) : zcV (d + 6) 3 [zA 89, zI ev] M (fun M3 => zcV (d + 6) 7 [zA 89] M3 (fun M4 => zcL (d + 6) 8 [zA 89] M4 Q)) := by
  refine c_lay h hv (fun ML rs l al => ?_)
  obtain ⟨l1, l2, l3, l4, l5, l6, l7, l8, l9⟩ := id l
  apply vX1_freeAll
  refine zset ?_
  have rw' : ∀ b, b ≠ 89 → zup ML 89 5 63 b = ML b := fun b hb => zup_row hb
  have e5 : zup ML 89 5 63 89 5 = 63 := zup_eq
  have e8 : zup ML 89 5 63 89 8 = ML 89 8 := zup_ne (by omega)
  refine c_weigh (K := M 115) (E := EW M) (rs := rs) (l2.congr (fun b hb => rw' b (by omega))) (fun p p0 p1 => by rw [rw' 94 (by decide)]; exact l3 p p0 p1) ?_ l5 (fun s p a b c e f => by rw [rw' 92 (by decide)]; exact l6 s p a b c e f) (EB_ew M) (by rw [rw' 91 (by decide)]; exact HD_lay h l) (by rw [e5]; unfold bs; decide) (fun MC r ct cf ba fi => ?_)
  · unfold ORD at *
    rw [e8, rw' 93 (by decide)]
    exact l4
  · have r2 : ∀ b, b ≠ 89 → b ≠ 92 → b ≠ 94 → MC b = ML b := fun b b1 b2 b3 => by rw [r b b2 b3, rw' b b1]
    have e91 : zup ML 89 5 63 91 = ML 91 := rw' 91 (by decide)
    rw [e91, e5] at fi ⊢
    rw [WS_cg (fr := fun _ => true) h.wf l8 (fun l a b => bt_63 a b)]
    refine hQ ML rs MC l al (frc.of (fun b hb => by rw [r2 b (by omega) (by omega) (by omega), l1 b (by omega)])) (by rw [r2 106 (by decide) (by decide) (by decide), l1 106 (by decide)]) (fun b b1 b2 => by rw [r2 b (by omega) (by omega) (by omega), l1 b (by omega)]) (fun s p a b c e f => ?_)
    rw [fi s p a b c e f, VV_cg (fr := fun _ => true) h.wf l8 (fun l x y => bt_63 x y) _ _ c]
/-- knowing: the reference -/
theorem m_knowing {d t : Nat} {M : ZM} {Q : Int → ZM → Prop} (h : J t M) (hp : M 115 182 ≠ 0) (hQ : ∀ M', frm M M' → JV M' → M' 115 = M 115 → (∀ (n : Nat) (q : Int), (n : Int) ≤ M 115 179 → 0 ≤ q → q < M 115 182 → M' 128 (16 * (M 115 179 - n) + q) = VV (M 115) (EW M) (M' 127) (fun _ => true) n q) → (∀ j, 0 ≤ j → j < 18 → M' 127 j = rlH (M 115) j) → Q (WS (M 115) (EW M) (rlH (M 115)) (fun _ => true)) M') : zcL (d + 47) 207 [zA 113] M Q := by
  apply vX10_knowing
  refine m_places ⟨fun _ => m_takesRule ⟨by omega, zset ?_⟩, fun z => absurd z hp⟩
  generalize hM1 : zup (zrow M 127 (trR M 18)) 113 29 1 = M1
  have row : ∀ b, b ≠ 113 → b ≠ 127 → M1 b = M b := fun b b1 b2 => by subst hM1; rw [zup_row b1, zrow_ne b2]
  have r113 : ∀ k, k ≠ 29 → M1 113 k = M 113 k := fun k hk => by subst hM1; rw [zup_ne (fun q => hk q.2), zrow_ne (by decide)]
  have r29 : M1 113 29 = 1 := by subst hM1; exact zup_eq
  have e115 : M1 115 = M 115 := row 115 (by decide) (by decide)
  have e127 : ∀ j, 0 ≤ j → j < 18 → M1 127 j = rlH (M 115) j := fun j j0 j1 => by
    subst hM1
    rw [zup_row (by decide), zrow_at]; unfold trR; rw [if_pos (by omega)]
  have hH : HD (M1 127) := h.wf.hd.congr e127
  have eE : EW M1 = EW M := by
    funext p s
    exact EW.fr (row 51 (by decide) (by decide)) (row 52 (by decide) (by decide)) (row 53 (by decide) (by decide)) (row 54 (by decide) (by decide)) (by rw [e115]) p s
  have hB : BK (M1 115) (bL M1 44) := by
    rw [e115]
    exact h.2.2.1.congr (fun j hj => row _ (by omega) (by omega))
  have hV : JV M1 := by
    have := h.jv
    unfold JV at *
    rw [r113 26 (by decide), r113 1 (by decide), e115, row 126 (by decide) (by decide), eE]
    exact this
  refine m_weighs (fr := fun _ => true) hB hV hH (Or.inr ⟨by rw [r29]; decide, fun _ => rfl⟩) (fun M2 g => ⟨by omega, zset ?_⟩)
  obtain ⟨g1, g2, g3, g4⟩ := id g
  have z29 : ∀ b, b ≠ 113 → zup M2 113 29 0 b = M2 b := fun b hb => zup_row hb
  have fM : frm M (zup M2 113 29 0) := by
    refine frm.of (fun b b1 b2 => ?_) (fun k hk => ?_)
    · rw [z29 b b1, g3 b b1 (by omega) (by omega) (by omega), row b b1 (by omega)]
    · rw [zup_at]
      by_cases hk29 : k = 29
      · rw [if_pos hk29, hk29]; exact h.2.2.2.2.2.2.1.1.symm
      · rw [if_neg hk29, g1.1.fk hk, r113 k hk29]
  have vM : JV (zup M2 113 29 0) := by
    have := g2
    unfold JV at *
    have e126 : zup M2 113 29 0 126 = M2 126 := z29 126 (by decide)
    have e115' : zup M2 113 29 0 115 = M2 115 := z29 115 (by decide)
    have f26 : zup M2 113 29 0 113 26 = M2 113 26 := zup_ne (by omega)
    have f1 : zup M2 113 29 0 113 1 = M2 113 1 := zup_ne (by omega)
    have ee : ∀ p s, EW (zup M2 113 29 0) p s = EW M2 p s := fun p s => EW.fr (z29 51 (by decide)) (z29 52 (by decide)) (z29 53 (by decide)) (z29 54 (by decide)) (by rw [e115']) p s
    rw [e126, e115', f26, f1]
    refine ⟨this.1, fun q p s a b c d => ?_⟩
    rw [this.2 q p s a b c d, ee]
  have e115'' : zup M2 113 29 0 115 = M 115 := by rw [z29 115 (by decide), g3 115 (by decide) (by decide) (by decide) (by decide), e115]
  have e127' : zup M2 113 29 0 127 = M1 127 := by rw [z29 127 (by decide), g3 127 (by decide) (by decide) (by decide) (by decide)]
  -- atStart looks at rows 115, 128 alone
  have hst := h.wf.2.1
  have hday := h.wf.2.2.1
  have bd := WS_bd (hd := rlH (M 115)) (fr := fun _ => true) h.wf (EB_ew M) h.wf.hd
  have tbl : ∀ (n : Nat) (q : Int), (n : Int) ≤ M 115 179 → 0 ≤ q → q < M 115 182 → zup M2 113 29 0 128 (16 * (M 115 179 - n) + q) = VV (M 115) (EW M) (zup M2 113 29 0 127) (fun _ => true) n q := by
    intro n q a b c
    have := g4 n q (by rw [e115]; exact a) b (by rw [e115]; exact c)
    rw [e115, eE] at this
    rw [z29 128 (by decide), this, e127']
  have hK := hQ _ fM vM e115'' tbl (fun j j0 j1 => by rw [e127']; exact e127 j j0 j1)
  apply vX10_atStart
  rw [e115'']
  refine ⟨by omega, m_next (E := EW M) (fr := fun _ => true) (n := (M 115 179).toNat) (by rw [e115'']; exact h.wf) hst.1 hst.2 (by rw [e115'']; omega) (by omega) (fun q => ?_) (m_day ?_)⟩
  · rw [e115''] at q
    rw [e115'']
    have := tbl (M 115 179).toNat (M 115 178) (by omega) hst.1 q
    rw [show M 115 179 - ((M 115 179).toNat : Int) = 0 by omega] at this
    exact this
  · rw [e115'', e127', VV_cg h.wf e127 (fun _ _ _ => rfl) _ _ hst.1]
    refine ⟨⟨by omega, by omega⟩, m_ten (n := 10 - (M 115 179).toNat) (by omega) (by omega) ⟨?_, hK⟩⟩
    unfold WS at bd
    exact ⟨by omega, by omega⟩
theorem s_knowing {d t : Nat} {M : ZM} (h : J t M) : zcL (d + 47) 123 [zA 29] M (fun x M1 => zcL (d + 47) 207 [zA 113] M1 (fun y M2 => x = y ∧ J (t + 1) M2)) := by
  have hs := h.size
  apply vX9_knowing
  refine c_noPlaces (fun q => ⟨fun z => by omega, fun _ => ?_⟩) (fun q => ⟨fun _ => c_knowing h (Or.inl rfl) (fun ML rs MC l al fc e106 rb fi => ?_), fun z => by omega⟩)
  · apply vX10_knowing
    exact m_places ⟨fun z => by omega, fun _ => ⟨rfl, h.idle⟩⟩
  · have h1 := h.frc fc (h.jf.fr e106)
    have e115 : MC 115 = M 115 := fc.2 115 (by decide)
    refine m_knowing h1 (by rw [e115]; omega) (fun M2 f2 v2 _ _ _ => ⟨?_, ?_⟩)
    · rw [e115, EW_fun fc.1]
    · exact h.frame (fc.1.tr f2.1) (h.jf.fr (by rw [f2.2 106 (by decide), e106])) v2
