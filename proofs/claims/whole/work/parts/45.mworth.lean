/-! the reference: weighs, worth, from, knowing, knows -/
theorem VV_hd {K : Int → Int} {E : Int → Int → Int} {hd hd' : Int → Int} {fr : Int → Bool} (hW : WF K) (e : ∀ j, 0 ≤ j → j < 18 → hd' j = hd j) : ∀ (n : Nat) (p : Int), 0 ≤ p → VV K E hd' fr n p = VV K E hd fr n p := by
  obtain ⟨a1, a2, a3, a4, a5, a6, a7, a8⟩ := hW
  intro n
  induction n with
  | zero => intro p _; rfl
  | succ n ih =>
    intro p p0
    unfold VV
    by_cases hp : p < K 182
    · rw [if_pos hp, if_pos hp]
      have hw := a8 p p0 hp
      have hr := hw.rc
      obtain ⟨w1, w2, w3, w4, w5, w6⟩ := hw
      by_cases k3 : K (10 * p) = 3
      · rw [if_pos k3, if_pos k3]
      · rw [if_neg k3, if_neg k3]
        have h1 : 1 ≤ K (10 * p + 2) := by
          rcases (by omega : K (10 * p) = 0 ∨ K (10 * p) = 1 ∨ K (10 * p) = 2) with q | q | q
          · have := w2 q; omega
          · have := w3 q; omega
          · have := w4 q; omega
        have rdb : ∀ k, 0 ≤ k → 0 ≤ rdc K p k := by
          intro k k0
          unfold rdc
          split
          · exact (w6 k k0 (by omega)).1
          · exact (w6 _ (by omega) (by omega)).1
        rw [ih _ (rdb 0 (by omega)), ih _ (rdb 1 (by omega)), ih _ (rdb 2 (by omega))]
        by_cases k2 : K (10 * p) = 2
        · rw [if_pos k2, if_pos k2]
        · rw [if_neg k2, if_neg k2]
          by_cases k1 : K (10 * p) = 1
          · rw [if_pos k1, if_pos k1]
          · rw [if_neg k1, if_neg k1]
            have hl := (w2 (by omega)).1
            rw [e _ (by omega) (by omega), e _ (by omega) (by omega), e _ (by omega) (by omega)]
    · rw [if_neg hp, if_neg hp]
/-- worth from START, in ten-thousandths of millionths -/
def WS (K : Int → Int) (E : Int → Int → Int) (hd : Int → Int) (fr : Int → Bool) : Int := VV K E hd fr (K 179).toNat (K 178) * 10 ^ (10 - (K 179).toNat)
theorem scale_bd {n : Nat} (hn : n ≤ 10) {x : Int} (hx : -BD n ≤ x ∧ x ≤ BD n) : -19890000000000 ≤ x * 10 ^ (10 - n) ∧ x * 10 ^ (10 - n) ≤ 19890000000000 := by
  have hp := pow10_pos (10 - n)
  have h1 := wone (T := 10 ^ (10 - n)) (by omega) hx
  have h2 : ∀ n, n ≤ 10 → BD n * 10 ^ (10 - n) ≤ 19890000000000 := by decide +kernel
  have := h2 n hn
  omega
theorem WS_bd {K : Int → Int} {E : Int → Int → Int} {hd : Int → Int} {fr : Int → Bool} (hW : WF K) (hE : EB K E) (hH : HD hd) : -19890000000000 ≤ WS K E hd fr ∧ WS K E hd fr ≤ 19890000000000 :=
  scale_bd (by have := hW.2.2.1; omega) (VV_bd hW hE hH _ _ hW.2.1.1)
theorem EB_ew (M : ZM) : EB (M 115) (EW M) := fun p s => tTell_rg _ _ _ _
/-- behind weighs() -/
def WG (M M' : ZM) (fr : Int → Bool) : Prop := frm M M' ∧ JV M' ∧ (∀ b, b ≠ 113 → b ≠ 125 → b ≠ 126 → b ≠ 128 → M' b = M b) ∧ ∀ (n : Nat) (q : Int), (n : Int) ≤ M 115 179 → 0 ≤ q → q < M 115 182 → M' 128 (16 * (M 115 179 - n) + q) = VV (M 115) (EW M) (M 127) fr n q
theorem m_weighsE {d : Nat} {M : ZM} {fr : Int → Bool} {K : ZM → Prop} (hB : BKE (M 115) (bL M 44)) (hV : JV M) (hH : HD (M 127)) (hk : (M 113 29 = 0 ∧ ∀ l, fr l = false) ∨ (M 113 29 ≠ 0 ∧ ∀ l, fr l = true)) (hK : ∀ M', WG M M' fr → (∀ k, k ≠ 21 → k ≠ 22 → k ≠ 23 → k ≠ 26 → M' 113 k = M 113 k) → K M') : zcV (d + 45) 202 [zA 113] M K := by
  have hW := hB.1
  have hpl := hW.1
  have hday := hW.2.2.1
  apply vX10_weighs
  refine m_looksE hB hV (fun ML l lk => m_day ?_)
  obtain ⟨l1, l2, l3, l4⟩ := l
  have e115 : ML 115 = M 115 := l3 115 (by decide) (by decide) (by decide)
  have e127 : ML 127 = M 127 := l3 127 (by decide) (by decide) (by decide)
  have e29 : ML 113 29 = M 113 29 := l1.1.f 29 rfl
  rw [e115]
  let Inv := fun (n : Nat) (p : Int) (M1 : ZM) => (∀ b, b ≠ 128 → M1 b = ML b) ∧ ∀ (n' : Nat) (q : Int), (n' : Int) ≤ M 115 179 → 0 ≤ q → q < M 115 182 → (n' < n ∨ n' = n ∧ q < p) → M1 128 (16 * (M 115 179 - n') + q) = VV (M 115) (EW M) (M 127) fr n' q
  have jv : ∀ M1, (∀ b, b ≠ 128 → M1 b = ML b) → frm M M1 ∧ JV M1 := by
    intro M1 r
    have f1 : frm M M1 := l1.tr (frm.of (fun b b1 b2 => r b (by omega)) (fun k hk => by rw [r 113 (by decide)]))
    refine ⟨f1, ?_⟩
    unfold JV
    rw [r 113 (by decide), l2, r 126 (by decide), f1.1.row 115 rfl, l1.1.f 1 rfl]
    refine ⟨by have := hV.1; omega, fun _ p s a b c d => ?_⟩
    rw [l4 p s a b c d, f1.1.ew]
  have inner : ∀ (n : Nat), (n : Int) ≤ M 115 179 → (∀ M1, Inv (n + 1) 0 M1 → wX10_weighs (d + 44) 9 [(0, zA 113), (1, zI (M 115 179 - n + (-1)))] M1 K) → ∀ (m p : Nat) (M1 : ZM), p + m = (M 115 182).toNat → Inv n p M1 → wX10_weighs (d + 44) 15 [(0, zA 113), (1, zI (M 115 179 - n)), (2, zI p)] M1 K := by
    intro n hn nxt m
    induction m with
    | zero =>
      intro p M1 hp hI
      obtain ⟨r, tb⟩ := hI
      apply vX10_weighs_15
      refine m_places ⟨fun _ => ⟨⟨by omega, by omega⟩, nxt M1 ⟨r, fun n' q a b c e => tb n' q a b c (by omega)⟩⟩, fun q => ?_⟩
      rw [r 115 (by decide), e115] at q
      omega
    | succ m ih =>
      intro p M1 hp hI
      obtain ⟨r, tb⟩ := hI
      have f115 : M1 115 = M 115 := by rw [r 115 (by decide), e115]
      have f127 : M1 127 = M 127 := by rw [r 127 (by decide), e127]
      apply vX10_weighs_15
      refine m_places ⟨fun q => ?_, fun _ => ⟨⟨by omega, by omega⟩, ⟨by omega, by omega⟩, ?_⟩⟩
      · rw [f115] at q; omega
      · refine m_weigh (E := EW M) (fr := fr) (n := n) (by rw [f115]; exact hW) (fun p s => tTell_rg _ _ _ _) (by rw [f127]; exact hH) (by omega) (by rw [f115]; omega) (by rw [f115]) (by omega) (fun k3 => ?_) (fun n' q hn' q0 q1 => ?_) (by rw [r 113 (by decide), e29]; exact hk) ⟨by omega, zset ⟨⟨by omega, by omega⟩, ih (p + 1) _ (by omega) ⟨fun b hb => by rw [zup_row hb, r b hb], fun n' q a b c e => ?_⟩⟩⟩
        · rw [r 126 (by decide)]
          rw [f115] at k3
          rw [l4 p _ (by omega) (by omega) (by omega) (by omega), if_pos k3]
        · subst hn'
          rw [f115, f127]
          rw [f115] at q1
          have := tb n' q (by omega) q0 q1 (by omega)
          rw [show M 115 179 - ((n' + 1 : Nat) : Int) + 1 = M 115 179 - (n' : Int) by omega]
          exact this
        · rw [zup_at, f115, f127]
          by_cases hq : 16 * (M 115 179 - (n' : Int)) + q = 16 * (M 115 179 - (n : Int)) + p
          · have : n' = n := by omega
            have : q = p := by omega
            subst n' q
            rw [if_pos rfl]
          · rw [if_neg hq]
            exact tb n' q a b c (by omega)
  have outer : ∀ (m n : Nat) (M1 : ZM) (x : Int), (n : Int) + m = M 115 179 + 1 → x = M 115 179 - n → Inv n 0 M1 → wX10_weighs (d + 44) 9 [(0, zA 113), (1, zI x)] M1 K := by
    intro m
    induction m with
    | zero =>
      intro n M1 x hm hx hI
      apply vX10_weighs_9
      refine ⟨fun _ => hK M1 ⟨(jv M1 hI.1).1, (jv M1 hI.1).2, fun b b1 b2 b3 b4 => by rw [hI.1 b b4, l3 b b1 b2 b3], fun n' q a b c => hI.2 n' q a b c (by omega)⟩ (fun k k1 k2 k3 k4 => by rw [hI.1 113 (by decide), lk k k1 k2 k3 k4]), fun q => by omega⟩
    | succ m ih =>
      intro n M1 x hm hx hI
      subst hx
      apply vX10_weighs_9
      exact ⟨fun q => by omega, fun _ => inner n (by omega) (fun M2 hI2 => ih (n + 1) M2 _ (by omega) (by omega) hI2) _ 0 M1 (Nat.zero_add _) hI⟩
  exact outer (M 115 179 + 1).toNat 0 ML _ (by omega) (by omega) ⟨fun _ _ => rfl, fun n' q a b c e => by omega⟩
theorem m_weighs {d : Nat} {M : ZM} {fr : Int → Bool} {K : ZM → Prop} (hB : BK (M 115) (bL M 44)) (hV : JV M) (hH : HD (M 127)) (hk : (M 113 29 = 0 ∧ ∀ l, fr l = false) ∨ (M 113 29 ≠ 0 ∧ ∀ l, fr l = true)) (hK : ∀ M', WG M M' fr → K M') : zcV (d + 45) 202 [zA 113] M K := m_weighsE hB.e hV hH hk (fun M' g _ => hK M' g)
/-- takesRule -/
def trR (M : ZM) (n : Nat) : Int → Int := fun j => if 0 ≤ j ∧ j < n then M 115 (160 + j) else M 127 j
theorem m_takesRule {d : Nat} {M : ZM} {K : ZM → Prop} (hK : K (zrow M 127 (trR M 18))) : zcV (d + 1) 200 [zA 113] M K := by
  have lp : ∀ n p : Nat, p + n = 18 → wX10_takesRule d 2 [(0, zA 113), (1, zI p)] (zrow M 127 (trR M p)) K := by
    intro n
    induction n with
    | zero =>
      intro p hn
      have e : p = 18 := by omega
      subst e
      apply vX10_takesRule_2
      exact ⟨fun _ => hK, fun q => by omega⟩
    | succ n ih =>
      intro p hn
      have nx := ih (p + 1) (by omega)
      apply vX10_takesRule_2
      refine ⟨fun q => by omega, fun _ => ⟨⟨by omega, by omega⟩, by omega, by omega, zset ⟨⟨by omega, by omega⟩, ?_⟩⟩⟩
      rw [zrow_ne (by decide), zup_zrow]
      have e : kup (trR M p) p (M 115 (160 + p)) = trR M (p + 1) := by
        funext j
        unfold kup trR
        by_cases hj : j = p
        · rw [if_pos hj, if_pos (by omega), hj]
        · rw [if_neg hj]
          by_cases h2 : 0 ≤ j ∧ j < p
          · rw [if_pos h2, if_pos (by omega)]
          · rw [if_neg h2, if_neg (by omega)]
      rw [e]
      exact nx
  have z : zrow M 127 (trR M 0) = M := by
    have : trR M 0 = M 127 := by
      funext j
      unfold trR
      rw [if_neg (by omega)]
    rw [this, zrow_self]
  have l0 := lp 18 0 (by omega)
  rw [z] at l0
  exact vX10_takesRule _ _ _ l0
theorem WF.hd {K : Int → Int} (h : WF K) : HD (fun j => K (160 + j)) := by
  intro l l0 l1
  have := h.2.2.2.2.2.1 l l0 l1
  show 0 ≤ K (160 + 3 * l) ∧ 0 ≤ K (160 + (3 * l + 1)) ∧ 0 ≤ K (160 + (3 * l + 2)) ∧ K (160 + 3 * l) + K (160 + (3 * l + 1)) + K (160 + (3 * l + 2)) = 10
  rw [show 160 + (3 * l + 1) = 161 + 3 * l by omega, show 160 + (3 * l + 2) = 162 + 3 * l by omega]
  exact this
/-- the RULE as told -/
abbrev rlH (K : Int → Int) : Int → Int := fun j => K (160 + j)
theorem HD.congr {h h' : Int → Int} (H : HD h) (e : ∀ j, 0 ≤ j → j < 18 → h' j = h j) : HD h' := by
  intro l l0 l1
  rw [e _ (by omega) (by omega), e _ (by omega) (by omega), e _ (by omega) (by omega)]
  exact H l l0 l1
/-- atStart -/
theorem m_atStart {d : Nat} {M M' : ZM} {fr : Int → Bool} {K : Int → ZM → Prop} (hW : WF (M 115)) (hH : HD (M 127)) (g : WG M M' fr) (hK : K (WS (M 115) (EW M) (M 127) fr) M') : zcL (d + 3) 204 [zA 113] M' K := by
  obtain ⟨g1, g2, g3, g4⟩ := g
  have e115 : M' 115 = M 115 := g3 115 (by decide) (by decide) (by decide) (by decide)
  have e127 : M' 127 = M 127 := g3 127 (by decide) (by decide) (by decide) (by decide)
  have hst := hW.2.1
  have hday := hW.2.2.1
  have bd := WS_bd (fr := fr) hW (EB_ew M) hH
  apply vX10_atStart
  rw [e115]
  refine ⟨by omega, m_next (E := EW M) (fr := fr) (n := (M 115 179).toNat) (by rw [e115]; exact hW) hst.1 hst.2 (by rw [e115]; omega) (by omega) (fun q => ?_) (m_day ?_)⟩
  · rw [e115] at q
    rw [e115, e127]
    have := g4 (M 115 179).toNat (M 115 178) (by omega) hst.1 q
    rw [show M 115 179 - ((M 115 179).toNat : Int) = 0 by omega] at this
    exact this
  · rw [e115, e127]
    refine ⟨⟨by omega, by omega⟩, m_ten (n := 10 - (M 115 179).toNat) (by omega) (by omega) ⟨?_, hK⟩⟩
    unfold WS at bd
    exact ⟨by omega, by omega⟩
