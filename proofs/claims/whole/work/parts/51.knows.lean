/-! knows -/
def bsl (f : Int → Int) (a b : Int) : Int := if f a < f b then b else a
def bstR (f : Int → Int) (rc : Int) : Int := if rc ≤ 1 then 0 else if rc ≤ 2 then bsl f 0 1 else bsl f (bsl f 0 1) 2
theorem c_bestRoad {d : Nat} {M : ZM} {K : Int → Int} {p s U : Int} {f : Int → Int} {Q : Int → ZM → Prop} (p0 : 0 ≤ p) (p1 : p < 16) (s0 : 0 ≤ s) (s1 : s ≤ 9) (hU : 1 ≤ U) (e1 : M 48 p = K (10 * p + 2)) (e2 : ∀ k, 0 ≤ k → k < K (10 * p + 2) → M 49 (p * 3 + k) = K (10 * p + 3 + k)) (hr : 1 ≤ K (10 * p + 2) ∧ K (10 * p + 2) ≤ 3) (hd : ∀ k, 0 ≤ k → k < K (10 * p + 2) → 0 ≤ K (10 * p + 3 + k) ∧ K (10 * p + 3 + k) ≤ 15) (hf : ∀ k, 0 ≤ k → k < K (10 * p + 2) → M 92 ((s + 1) * 16 + K (10 * p + 3 + k)) = f k * U) (hQ : Q (bstR f (K (10 * p + 2))) M) : zcI (d + 1) 12 [zA 89, zI p, zI s] M Q := by
  have cmp : ∀ a b : Int, (a * U < b * U) ↔ a < b := by
    intro a b
    constructor
    · intro h
      by_cases hh : a < b
      · exact hh
      · have := Int.mul_le_mul_of_nonneg_right (show b ≤ a by omega) (show 0 ≤ U by omega)
        omega
    · intro h
      exact Int.mul_lt_mul_of_pos_right h (by omega)
  have st : ∀ {b k : Int} {Q : Int → ZM → Prop}, 0 ≤ b → b < k → k < K (10 * p + 2) → wX1_bestRoad d 13 [(0, zA 89), (1, zI p), (3, zI ((s + 1) * 16)), (4, zI (bsl f b k)), (5, zI (k + 1))] M Q → wX1_bestRoad d 13 [(0, zA 89), (1, zI p), (3, zI ((s + 1) * 16)), (4, zI b), (5, zI k)] M Q := by
    intro b k Q b0 b1 k1 nx
    have hb := hd b b0 (by omega)
    have hk := hd k (by omega) k1
    have c := cmp (f b) (f k)
    apply vX1_bestRoad_13
    rw [e1, e2 b b0 (by omega), e2 k (by omega) k1, hf b b0 (by omega), hf k (by omega) k1]
    unfold bsl at nx
    refine ⟨by omega, fun z => by omega, fun _ => ⟨⟨by omega, by omega⟩, ⟨by omega, by omega⟩, by omega, ⟨by omega, by omega⟩, by omega, ⟨by omega, by omega⟩, ⟨by omega, by omega⟩, by omega, ⟨by omega, by omega⟩, by omega, fun z => ⟨⟨by omega, by omega⟩, ?_⟩, fun z => ⟨⟨by omega, by omega⟩, ?_⟩⟩⟩
    · rw [if_neg (by omega)] at nx; exact nx
    · rw [if_pos (by omega)] at nx; exact nx
  have en : ∀ {b k : Int}, K (10 * p + 2) ≤ k → Q b M → wX1_bestRoad d 13 [(0, zA 89), (1, zI p), (3, zI ((s + 1) * 16)), (4, zI b), (5, zI k)] M Q := by
    intro b k hk hq
    apply vX1_bestRoad_13
    rw [e1]
    exact ⟨by omega, fun _ => hq, fun z => by omega⟩
  have bl : 0 ≤ bsl f 0 1 ∧ bsl f 0 1 ≤ 1 := by unfold bsl; split <;> omega
  unfold bstR at hQ
  apply vX1_bestRoad
  refine ⟨⟨by omega, by omega⟩, ⟨by omega, by omega⟩, ?_⟩
  rcases (by omega : K (10 * p + 2) = 1 ∨ K (10 * p + 2) = 2 ∨ K (10 * p + 2) = 3) with c | c | c
  · rw [if_pos (by omega)] at hQ
    exact en (by omega) hQ
  · rw [if_neg (by omega), if_pos (by omega)] at hQ
    exact st (by omega) (by omega) (by omega) (en (by omega) hQ)
  · rw [if_neg (by omega), if_neg (by omega)] at hQ
    exact st (by omega) (by omega) (by omega) (st (k := 2) bl.1 (by omega) (by omega) (en (by omega) hQ))
theorem m_bestLoop {d : Nat} {M : ZM} {p s : Int} {f : Int → Int} {Q : Int → ZM → Prop} (p0 : 0 ≤ p) (p1 : p < 16) (s0 : 0 ≤ s) (s1 : s ≤ 9) (hr : 1 ≤ M 115 (10 * p + 2) ∧ M 115 (10 * p + 2) ≤ 3) (hd : ∀ k, 0 ≤ k → k < M 115 (10 * p + 2) → 0 ≤ M 115 (10 * p + 3 + k) ∧ M 115 (10 * p + 3 + k) ≤ 15) (nxt : ∀ (k : Int) (Q : Int → ZM → Prop), 0 ≤ k → k < M 115 (10 * p + 2) → Q (f k) M → zcL (d + 2) 201 [zA 113, zI (M 115 (10 * p + 3 + k)), zI (s + 1)] M Q) (hQ : Q (bstR f (M 115 (10 * p + 2))) M) : wX10_knows (d + 2) 34 [(0, zA 113), (1, zI p), (2, zI s), (3, zI 0), (4, zI 1)] M Q := by
  have st : ∀ {b k : Int} {Q : Int → ZM → Prop}, 0 ≤ b → b < k → k < M 115 (10 * p + 2) → wX10_knows (d + 2) 34 [(0, zA 113), (1, zI p), (2, zI s), (3, zI (bsl f b k)), (4, zI (k + 1))] M Q → wX10_knows (d + 2) 34 [(0, zA 113), (1, zI p), (2, zI s), (3, zI b), (4, zI k)] M Q := by
    intro b k Q b0 b1 k1 nx
    unfold bsl at nx
    apply vX10_knows_34
    refine m_fld (by omega) (by omega) ⟨fun z => by omega, fun _ => ⟨⟨by omega, by omega⟩, m_fldk (by omega) (by omega) ⟨⟨by omega, by omega⟩, nxt k _ (by omega) k1 ⟨⟨by omega, by omega⟩, m_fldk (by omega) (by omega) ⟨⟨by omega, by omega⟩, nxt b _ b0 (by omega) ⟨fun z => ⟨⟨by omega, by omega⟩, ?_⟩, fun z => ⟨⟨by omega, by omega⟩, ?_⟩⟩⟩⟩⟩⟩⟩
    · rw [if_neg (by omega)] at nx; exact nx
    · rw [if_pos (by omega)] at nx; exact nx
  have en : ∀ {b k : Int}, M 115 (10 * p + 2) ≤ k → Q b M → wX10_knows (d + 2) 34 [(0, zA 113), (1, zI p), (2, zI s), (3, zI b), (4, zI k)] M Q := by
    intro b k hk hq
    apply vX10_knows_34
    exact m_fld (by omega) (by omega) ⟨fun _ => hq, fun z => by omega⟩
  have bl : 0 ≤ bsl f 0 1 ∧ bsl f 0 1 ≤ 1 := by unfold bsl; split <;> omega
  unfold bstR at hQ
  rcases (by omega : M 115 (10 * p + 2) = 1 ∨ M 115 (10 * p + 2) = 2 ∨ M 115 (10 * p + 2) = 3) with c | c | c
  · rw [if_pos (by omega)] at hQ
    exact en (by omega) hQ
  · rw [if_neg (by omega), if_pos (by omega)] at hQ
    exact st (by omega) (by omega) (by omega) (en (by omega) hQ)
  · rw [if_neg (by omega), if_neg (by omega)] at hQ
    exact st (by omega) (by omega) (by omega) (st (k := 2) bl.1 (by omega) (by omega) (en (by omega) hQ))
theorem s_knows {d t : Nat} {M : ZM} (h : J t M) {p s : Int} (hsr : r32 s) : zcI (d + 48) 124 [zA 29, zI p, zI s] M (fun x M1 => zcI (d + 48) 208 [zA 113, zI p, zI s] M1 (fun y M2 => x = y ∧ J (t + 1) M2)) := by
  have hs := h.size
  have hpl := h.pl
  have hday := h.wf.2.2.1
  have hd1 : M 55 1 = M 115 179 := h.term (i := 1) (by omega) (by omega)
  have no : ¬ (0 ≤ p ∧ p < M 115 182 ∧ M 115 (10 * p) = 0 ∧ 0 ≤ s ∧ s < M 115 179) → zcI (d + 48) 208 [zA 113, zI p, zI s] M (fun y M2 => -1 = y ∧ J (t + 1) M2) := by
    intro hn
    apply vX10_knows
    refine m_isFork hpl (fun a b c => ⟨fun z => by omega, fun _ => m_day ⟨⟨by omega, by omega⟩, m_lies (fun x y => by omega) (fun z => ⟨fun y => by omega, fun _ => ⟨rfl, h.idle⟩⟩)⟩⟩) (fun z => ⟨fun _ => ⟨rfl, h.idle⟩, fun y => by omega⟩)
  apply vX9_knows
  refine c_isKind (by omega) (fun p0 p1 pk => ⟨fun z => by omega, fun _ => ⟨fun z => no (by omega), fun s0 => ⟨by omega, ?_⟩⟩⟩) (fun q => ⟨fun _ => no ?_, fun z => by omega⟩)
  · have p1' : p < M 115 182 := by omega
    have hk : M 115 (10 * p) = 0 := by rw [← h.kind p0 p1']; exact pk
    obtain ⟨w1, w2, w3, w4, w5, w6⟩ := h.wp p0 p1'
    rw [hd1]
    refine ⟨fun s1 => c_knowing h (Or.inr rfl) (fun ML rs MC l al fc e106 rb fi => ?_), fun z => no (by omega)⟩
    have h1 := h.frc fc (h.jf.fr e106)
    have e115 : MC 115 = M 115 := fc.2 115 (by decide)
    have hU := pow10_pos (10 - (M 115 179 - (s + 1)).toNat)
    refine c_bestRoad (K := M 115) (U := 10 ^ (10 - (M 115 179 - (s + 1)).toNat)) (f := fun k => VV (M 115) (EW M) (rlH (M 115)) (fun _ => true) (M 115 179 - (s + 1)).toNat (M 115 (10 * p + 3 + k))) p0 (by omega) (by omega) (by omega) hU (by rw [rb 48 (by decide) (by decide)]; exact h.rc p0 p1') (fun k k0 k1 => by rw [rb 49 (by decide) (by decide)]; exact h.rd p0 p1' k0 k1) (w2 hk).2 w6 (fun k k0 k1 => ?_) ?_
    · have hd := w6 k k0 k1
      have := fi (s + 1) (M 115 (10 * p + 3 + k)) (by omega) (by omega) hd.1 hd.2 (al rfl _ _ (by omega) (by omega) hd.1 hd.2)
      rw [show (s + 1) * 16 + M 115 (10 * p + 3 + k) = 16 * (s + 1) + M 115 (10 * p + 3 + k) by omega]
      exact this
    · apply vX10_knows
      refine m_isFork (by rw [e115]; exact hpl) (fun _ _ _ => ⟨fun z => by omega, fun _ => m_day ?_⟩) (fun z => ?_)
      · rw [e115]
        refine ⟨⟨by omega, by omega⟩, m_lies (fun x y => ⟨fun _ => m_knowing h1 (by rw [e115]; omega) (fun M2 f2 v2 e2 tb e127 => ?_), fun z => by omega⟩) (fun z => by omega)⟩
        rw [e115] at e2 e127
        refine m_bestLoop (f := fun k => VV (M 115) (EW M) (rlH (M 115)) (fun _ => true) (M 115 179 - (s + 1)).toNat (M 115 (10 * p + 3 + k))) p0 (by omega) (by omega) (by omega) (by rw [e2]; exact (w2 hk).2) (by rw [e2]; exact w6) (fun k Q k0 k1 hq => ?_) ⟨?_, ?_⟩
        · rw [e2] at k1 ⊢
          have hd := w6 k k0 k1
          refine m_next (E := EW M) (fr := fun _ => true) (n := (M 115 179 - (s + 1)).toNat) (by rw [e2]; exact h.wf) hd.1 hd.2 (by rw [e2]; omega) (by omega) (fun q1 => ?_) ?_
          · rw [e2] at q1
            have := tb (M 115 179 - (s + 1)).toNat (M 115 (10 * p + 3 + k)) (by rw [e115]; omega) hd.1 (by rw [e115]; exact q1)
            rw [e115, EW_fun fc.1, show 16 * (M 115 179 - ((M 115 179 - (s + 1)).toNat : Int)) + M 115 (10 * p + 3 + k) = 16 * (s + 1) + M 115 (10 * p + 3 + k) by omega] at this
            rw [this, e2]
          · rw [e2, VV_cg h.wf e127 (fun _ _ _ => rfl) _ _ hd.1]
            exact hq
        · rw [e2]
        · exact h.frame (fc.1.tr f2.1) (h.jf.fr (by rw [f2.2 106 (by decide), e106])) v2
      · rw [e115] at z; omega
  · intro hq
    have := h.kind hq.1 hq.2.1
    omega
