/-! visits, ends -/
theorem c_cv {d t : Nat} {M : ZM} {Q : ZM → Prop} (h : J t M) (hQ : ∀ MC, frc M MC → JF MC → MC 106 5 = TS (M 115) → MC 106 6 = LST (M 115) ((M 115 179).toNat + 1) → (∀ q, 0 ≤ q → q < 16 → MC 109 q = VS (M 115) ((M 115 179).toNat + 1) q) → (∀ j, 0 ≤ j → j < 16 → MC 90 j = M 46 j) → Q MC) : zcV (d + 6) 3 [zA 89, zI 0] M (fun M1 => zcV (d + 6) 21 [zA 106] M1 Q) := by
  refine c_lay h (Or.inl rfl) (fun ML rs l _ => ?_)
  obtain ⟨l1, l2, l3, l4, l5, l6, l7, l8, l9⟩ := id l
  have jf : JF ML := h.jf.fr (l1 106 (by decide))
  obtain ⟨a, b, hx⟩ := NX.of jf
  refine c_countVisits (d := d + 3) hx l2 l3 l8 (HD_lay h l) (fun MC r jf' e5 e6 e9 => hQ MC (frc.of (fun b hb => ?_)) jf' e5 e6 e9 (fun j j0 j1 => ?_))
  · rw [r b (by omega) (by omega) (by omega) (by omega) (by omega), l1 b (by omega)]
  · rw [r 90 (by decide) (by decide) (by decide) (by decide) (by decide), l9 j j0 j1]
theorem SPF.frm {K : Int → Int} {M M' : ZM} (g : SPF K M M') : frm M M' := frm.of (fun b b1 b2 => g.1 b (by omega) (by omega)) (fun k _ => by rw [g.1 113 (by decide) (by decide)])
theorem SPF.jn {t : Nat} {K : Int → Int} {M MC M' : ZM} (h : J t M) (fc : frc M MC) (jf : JF MC) (g : SPF K MC M') : J (t + 1) M' := by
  have h1 := h.frc fc jf
  exact h.frame (fc.1.tr g.frm.1) (jf.fr (g.1 106 (by decide) (by decide))) (h1.jv.fr g.frm.1 (g.1 126 (by decide) (by decide)) (by rw [g.1 113 (by decide) (by decide)]))
theorem s_visits {d t : Nat} {M : ZM} (h : J t M) {p : Int} : zcL (d + 47) 128 [zA 29, zI p] M (fun x M1 => zcL (d + 47) 236 [zA 113, zI p] M1 (fun y M2 => x = y ∧ J (t + 1) M2)) := by
  have hs := h.size
  have hpl := h.pl
  apply vX9_visits
  refine c_has (fun p0 p1 => ⟨fun _ => c_cv h (fun MC fc jf e5 e6 e9 _ => ⟨⟨by omega, by omega⟩, ?_⟩), fun z => by omega⟩) (fun q => ⟨fun z => by omega, fun _ => ?_⟩)
  · have h1 := h.frc fc jf
    have e115 : MC 115 = M 115 := fc.2 115 (by decide)
    apply vX10_visits
    refine m_isPlace (by rw [e115]; exact hpl) (fun _ _ => ⟨fun _ => m_spreads h1.wf (fun M2 g => m_visitsOf h1.wf g p0 (by rw [e115]; omega) ⟨?_, g.jn h fc jf⟩), fun z => by omega⟩) (fun z => ?_)
    · rw [e9 p p0 (by omega), e115]
    · rw [e115] at z; omega
  · apply vX10_visits
    exact m_isPlace hpl (fun _ _ => by omega) (fun _ => ⟨fun z => by omega, fun _ => ⟨rfl, h.idle⟩⟩)
theorem s_ends {d t : Nat} {M : ZM} (h : J t M) {p : Int} : zcL (d + 47) 129 [zA 29, zI p] M (fun x M1 => zcL (d + 47) 237 [zA 113, zI p] M1 (fun y M2 => x = y ∧ J (t + 1) M2)) := by
  have hs := h.size
  have hpl := h.pl
  have no : ¬ (M 115 182 ≠ 0 ∧ (p = 16 ∨ p = 17 ∨ (0 ≤ p ∧ p < M 115 182 ∧ M 115 (10 * p) = 3))) → zcL (d + 47) 237 [zA 113, zI p] M (fun y M2 => -1000000000000000000 = y ∧ J (t + 1) M2) := by
    intro hn
    apply vX10_ends
    exact m_places ⟨fun _ => ⟨rfl, h.idle⟩, fun a => m_lies (fun b c => ⟨fun z => by omega, fun _ => ⟨fun e => by omega, fun e => m_isPlace hpl (fun f g => ⟨fun z => by omega, fun _ => m_kind (by omega) ⟨fun k => by omega, fun _ => ⟨rfl, h.idle⟩⟩⟩) (fun _ => ⟨fun _ => ⟨rfl, h.idle⟩, fun z => by omega⟩)⟩⟩) (fun _ => ⟨fun _ => ⟨rfl, h.idle⟩, fun z => by omega⟩)⟩
  have yes : ∀ (MC : ZM) (x : Int), frc M MC → JF MC → M 115 182 ≠ 0 → (p = 16 ∧ x = TS (M 115) ∨ p = 17 ∧ x = LST (M 115) ((M 115 179).toNat + 1) ∨ (0 ≤ p ∧ p < M 115 182 ∧ M 115 (10 * p) = 3 ∧ x = VS (M 115) ((M 115 179).toNat + 1) p)) → zcL (d + 47) 237 [zA 113, zI p] MC (fun y M2 => x = y ∧ J (t + 1) M2) := by
    intro MC x fc jf hp hx
    have h1 := h.frc fc jf
    have e115 : MC 115 = M 115 := fc.2 115 (by decide)
    have wf := h1.wf
    apply vX10_ends
    refine m_places ?_
    rw [e115]
    refine ⟨fun z => absurd z hp, fun _ => m_lies (fun b c => ⟨fun z => by omega, fun _ => ⟨fun e => m_spreads wf (fun M2 g => ⟨by omega, ?_, g.jn h fc jf⟩), fun e => m_isPlace (by rw [e115]; exact hpl) (fun f g => ⟨fun z => by omega, fun _ => m_kind (by omega) ?_⟩) (fun z => ?_)⟩⟩) (fun z => by omega)⟩
    · rw [e115] at g
      obtain ⟨g1, g2, g3, g4, g5⟩ := g
      rcases hx with ⟨rfl, hx⟩ | ⟨rfl, hx⟩ | hx
      · rw [hx, g4]
      · rw [hx, g3]
      · omega
    · rw [e115]
      refine ⟨fun k3 => m_spreads wf (fun M2 g => ⟨by omega, ?_, g.jn h fc jf⟩), fun k3 => by omega⟩
      rw [e115] at g
      obtain ⟨g1, g2, g3, g4, g5⟩ := g
      rw [g5 p f (by omega) k3]
      omega
    · rw [e115] at z
      omega
  have w48 : ∀ i2 : Int, M 115 182 ≠ 0 → (i2 = 1 ∧ (p = 16 ∨ p = 17) ∨ i2 = 0 ∧ 0 ≤ p ∧ p < M 115 182 ∧ M 115 (10 * p) = 3) → wX9_ends (d + 46) 48 [(0, zA 29), (1, zI p), (2, zI i2)] M (fun x M1 => zcL (d + 47) 237 [zA 113, zI p] M1 (fun y M2 => x = y ∧ J (t + 1) M2)) := by
    intro i2 hp hc
    apply vX9_ends_48
    refine c_cv h (fun MC fc jf e5 e6 e9 _ => ⟨fun z => ⟨⟨by omega, by omega⟩, yes MC _ fc jf hp ?_⟩, fun z => ⟨fun y => yes MC _ fc jf hp (Or.inr (Or.inl ⟨by omega, e6⟩)), fun y => yes MC _ fc jf hp (Or.inl ⟨y, e5⟩)⟩⟩)
    exact Or.inr (Or.inr ⟨by omega, by omega, by omega, e9 p (by omega) (by omega)⟩)
  have w18 : ∀ i2 : Int, (i2 = 1 ∧ (p = 16 ∨ p = 17) ∨ i2 = 0 ∧ p ≠ 16 ∧ p ≠ 17) → wX9_ends (d + 46) 18 [(0, zA 29), (1, zI p), (2, zI i2)] M (fun x M1 => zcL (d + 47) 237 [zA 113, zI p] M1 (fun y M2 => x = y ∧ J (t + 1) M2)) := by
    intro i2 hc
    apply vX9_ends_18
    refine c_noPlaces (fun q => ⟨fun _ => no (by omega), fun z => by omega⟩) (fun q => ⟨fun z => by omega, fun _ => ⟨fun z => w48 i2 (by omega) (by omega), fun z => c_isKind (by omega) (fun p0 p1 pk => ⟨fun _ => w48 i2 (by omega) (Or.inr ⟨z, p0, by omega, ?_⟩), fun z => by omega⟩) (fun hn => ⟨fun z => by omega, fun _ => no (fun hy => hn ⟨?_, ?_, ?_⟩)⟩)⟩⟩)
    · rw [← h.kind p0 (by omega)]; exact pk
    · omega
    · omega
    · rw [h.kind (by omega) (by omega)]; omega
  apply vX9_ends
  exact ⟨fun z => w18 1 (by omega), fun z => ⟨fun y => w18 0 (by omega), fun y => w18 1 (by omega)⟩⟩
