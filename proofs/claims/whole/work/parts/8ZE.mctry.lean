/-! country: the class's read, the reference's call -/
theorem tok_end {T : Int → Int} {L : Int} (hB : BYT T L) : ∃ t : Nat, (t : Int) ≤ L ∧ (∀ i : Nat, i < t → tP T L i < L) ∧ tP T L t = L := by
  have gr : ∀ i : Nat, (∀ k : Nat, k < i → tP T L k < L) → (i : Int) ≤ tS T L i := by
    intro i
    induction i with
    | zero => intro _; exact Int.le_refl _
    | succ i ih =>
      intro h
      have a := ih (fun k hk => h k (by omega))
      have r := tS_rg T hB.1.1 i
      have b := (tE_rg T (L := L) (f := tP T L i)).2 (h i (by omega))
      have e : tS T L (i + 1) = tE T L (tP T L i) := rfl
      omega
  have s : ∀ n : Nat, (∃ t : Nat, (∀ i : Nat, i < t → tP T L i < L) ∧ ¬ tP T L t < L) ∨ ∀ i : Nat, i < n → tP T L i < L := by
    intro n
    induction n with
    | zero => exact Or.inr (fun i hi => by omega)
    | succ n ih =>
      rcases ih with ih | ih
      · exact Or.inl ih
      · by_cases z : tP T L n < L
        · refine Or.inr (fun i hi => ?_)
          by_cases e : i = n
          · rw [e]; exact z
          · exact ih i (by omega)
        · exact Or.inl ⟨n, ih, z⟩
  rcases s (L.toNat + 1) with ⟨t, h1, h2⟩ | h
  · have r := tS_rg T hB.1.1 t
    have := gr t h1
    exact ⟨t, by omega, h1, by omega⟩
  · have := gr (L.toNat + 1) h
    have r := tS_rg T hB.1.1 (L.toNat + 1)
    have := hB.1.1
    omega
theorem tok_uniq {T : Int → Int} {L : Int} {t t' : Nat} (h1 : ∀ i : Nat, i < t → tP T L i < L) (h2 : tP T L t = L) (g1 : ∀ i : Nat, i < t' → tP T L i < L) (g2 : tP T L t' = L) : t = t' := by
  by_cases a : t < t'
  · have := g1 t a; omega
  · by_cases b : t' < t
    · have := h1 t' b; omega
    · omega
theorem c_read {T : Int → Int} {L : Int} {c v : Int → Int} {n d : Nat} {t : Int} {M : ZM} (hT0 : M 30 = T) (hB : BYT T L) (hT : TKC c v t) (hC : CVT T L c v) (hn : 4820 ≤ n) (hF : ∀ j, 0 ≤ j → (tK T L (tP T L j.toNat) = 3 ↔ t ≤ j)) {K : Int → ZM → Prop} (hk : ocK T L c v n M (oC c v n t 16 0 0 0 (fun _ => 0)) K) : zcI (d + 47) 46 [zA 42, zI L] M K := by
  have b4 := hB.1
  have t4 := hT.1
  apply vX5_read
  refine zset (zset (zset (zset (zset ?_))))
  rw [show max (0 : Int) (min L 400) = L by omega]
  have ca : cA M (zup (zup (zup (zup (zup M 42 2 L) 31 0 0) 42 8 0) 42 9 0) 42 4 0) := ((((cA.up (by decide) (by decide)).tr (cA.up (by decide) (by decide))).tr (cA.up (by decide) (by decide))).tr (cA.up (by decide) (by decide))).tr (cA.up (by decide) (by decide))
  have z2 : (zup (zup (zup (zup (zup M 42 2 L) 31 0 0) 42 8 0) 42 9 0) 42 4 0) 42 2 = L := by rw [zup_at, if_neg (by decide), zup_at, if_neg (by decide), zup_at, if_neg (by decide), zup_row (by decide), zup_eq]
  have z8 : (zup (zup (zup (zup (zup M 42 2 L) 31 0 0) 42 8 0) 42 9 0) 42 4 0) 42 8 = 0 := by rw [zup_at, if_neg (by decide), zup_at, if_neg (by decide), zup_eq]
  have z9 : (zup (zup (zup (zup (zup M 42 2 L) 31 0 0) 42 8 0) 42 9 0) 42 4 0) 42 9 = 0 := by rw [zup_at, if_neg (by decide), zup_eq]
  have z4 : (zup (zup (zup (zup (zup M 42 2 L) 31 0 0) 42 8 0) 42 9 0) 42 4 0) 42 4 = 0 := zup_eq
  have z30 : (zup (zup (zup (zup (zup M 42 2 L) 31 0 0) 42 8 0) 42 9 0) 42 4 0) 30 = T := by rw [ca 30 (by decide)]; exact hT0
  generalize (zup (zup (zup (zup (zup M 42 2 L) 31 0 0) 42 8 0) 42 9 0) 42 4 0) = M5 at *
  refine c_advance z2 b4.2 z4 (by omega) b4.1 (fun M6 r6 k6 e3 e4 e5 e6 => zset ?_)
  rw [z30] at e3 e4 e5 e6
  refine cl_all hB hT hC hn hF 16 0 0 0 0 (fun _ => 0) _ (by decide) (by decide) ⟨⟨?_, ?_, ?_, ?_, ?_, ?_⟩, ?_, ?_⟩ zup_eq (by decide) t4.1 (by decide) (by decide) (by decide) (by decide) (fun p p0 p1 => by omega) (fun p p0 p1 => by omega) (hk.st ((ca.tr (fun x hx => r6 x (by omega))).tr (cA.up (by decide) (by decide))))
  · rw [zup_row (by decide), r6 30 (by decide)]; exact z30
  · rw [zup_at, if_neg (by decide), k6 2 (by decide) (by decide) (by decide) (by decide)]; exact z2
  · rw [zup_at, if_neg (by decide)]; exact e3
  · rw [zup_at, if_neg (by decide)]; exact e4
  · rw [zup_at, if_neg (by decide)]; exact e5
  · rw [zup_at, if_neg (by decide)]; exact e6
  · rw [zup_at, if_neg (by decide), k6 9 (by decide) (by decide) (by decide) (by decide)]; exact z9
  · rw [zup_at, if_neg (by decide), k6 8 (by decide) (by decide) (by decide) (by decide)]; exact z8
/-! the reference -/
def kR (K : Int → Int) (Q : Int) (R c v : Int → Int) (t k : Int) : Int → Int := fun y => if 0 ≤ y ∧ y < 10 * Q then R y else if y = 182 then Q else if y = 183 then t else if 184 ≤ y ∧ y < 184 + k then c (y - 184) else if 584 ≤ y ∧ y < 584 + k then v (y - 584) else K y
def mcF (M M' : ZM) : Prop := (∀ x, x ≠ 113 → x ≠ 115 → (x < 121 ∨ 124 < x) → M' x = M x) ∧ ∀ k, k < 9 ∨ 20 < k → M' 113 k = M 113 k
theorem m_keep {D : Nat} {M1 : ZM} {Q t : Int} {R c v : Int → Int} {K : Int → ZM → Prop} (q0 : 0 ≤ Q) (q1 : Q ≤ 16) (t0 : 0 ≤ t) (t1 : t ≤ 400) (e19 : M1 113 19 = Q) (e14 : M1 113 14 = t) (eR : ∀ k, 0 ≤ k → k < 10 * Q → M1 124 k = R k) (eC : ∀ i, 0 ≤ i → i < t → M1 121 i = c i ∧ M1 122 i = v i) (hk : ∀ M', (∀ x, x ≠ 115 → M' x = M1 x) → M' 115 = kR (M1 115) Q R c v t t → zcI D 146 [zA 113, zI Q] M' K) : wX10_country D 132 [(0, zA 113), (2, zI 0)] M1 K := by
  have l2 : ∀ (n : Nat) (k : Int) (M2 : ZM), k + n = t → 0 ≤ k → (∀ x, x ≠ 115 → M2 x = M1 x) → M2 115 = kR (M1 115) Q R c v t k → wX10_country D 189 [(0, zA 113), (2, zI k)] M2 K := by
    intro n
    induction n with
    | zero =>
      intro k M2 hn k0 h1 h2
      rw [show k = t by omega] at h2
      apply vX10_country_189
      rw [h1 113 (by decide), e14, e19]
      exact ⟨fun _ => hk M2 h1 h2, fun z => by omega⟩
    | succ n ih =>
      intro k M2 hn k0 h1 h2
      apply vX10_country_189
      rw [h1 113 (by decide), e14]
      refine ⟨fun z => by omega, fun _ => ⟨⟨by omega, by omega⟩, ⟨by omega, by omega⟩, ⟨by omega, by omega⟩, zset ?_⟩⟩
      refine ⟨⟨by omega, by omega⟩, ⟨by omega, by omega⟩, ⟨by omega, by omega⟩, zset ?_⟩
      refine ⟨⟨by omega, by omega⟩, ih (k + 1) _ (by omega) (by omega) (fun x hx => by rw [zup_row hx, zup_row hx, h1 x hx]) ?_⟩
      funext y
      rw [zup_at, zup_at, zup_row (by decide), h1 121 (by decide), h1 122 (by decide), (eC k k0 (by omega)).1, (eC k k0 (by omega)).2, h2]
      unfold kR
      by_cases a : y = 584 + k
      · rw [if_pos a, if_neg (by omega), if_neg (by omega), if_neg (by omega), if_neg (by omega), if_pos (by omega), show y - 584 = k by omega]
      · rw [if_neg a]
        by_cases b : y = 184 + k
        · rw [if_pos b, if_neg (by omega), if_neg (by omega), if_neg (by omega), if_pos (by omega), show y - 184 = k by omega]
        · rw [if_neg b]
          by_cases u1 : 0 ≤ y ∧ y < 10 * Q
          · rw [if_pos u1, if_pos u1]
          · rw [if_neg u1, if_neg u1]
            by_cases u2 : y = 182
            · rw [if_pos u2, if_pos u2]
            · rw [if_neg u2, if_neg u2]
              by_cases u3 : y = 183
              · rw [if_pos u3, if_pos u3]
              · rw [if_neg u3, if_neg u3]
                by_cases u4 : 184 ≤ y ∧ y < 184 + k
                · rw [if_pos u4, if_pos (by omega)]
                · rw [if_neg u4, if_neg (show ¬ (184 ≤ y ∧ y < 184 + (k + 1)) by omega)]
                  by_cases u5 : 584 ≤ y ∧ y < 584 + k
                  · rw [if_pos u5, if_pos (by omega)]
                  · rw [if_neg u5, if_neg (by omega)]
  have l1 : ∀ (n : Nat) (k : Int) (M2 : ZM), k + n = 10 * Q → 0 ≤ k → (∀ x, x ≠ 115 → M2 x = M1 x) → (∀ y, M2 115 y = if 0 ≤ y ∧ y < k then R y else M1 115 y) → wX10_country D 132 [(0, zA 113), (2, zI k)] M2 K := by
    intro n
    induction n with
    | zero =>
      intro k M2 hn k0 h1 h2
      rw [show k = 10 * Q by omega] at *
      apply vX10_country_132
      rw [h1 113 (by decide), e19]
      refine ⟨⟨by omega, by omega⟩, fun _ => ⟨⟨by omega, by omega⟩, zset ⟨⟨by omega, by omega⟩, zset ?_⟩⟩, fun z => by omega⟩
      rw [zup_row (show (113 : Nat) ≠ 115 by decide), h1 113 (by decide), e14]
      refine l2 t.toNat 0 _ (by omega) (by omega) (fun x hx => by rw [zup_row hx, zup_row hx, h1 x hx]) ?_
      funext y
      rw [zup_at, zup_at, h2]
      unfold kR
      by_cases u1 : 0 ≤ y ∧ y < 10 * Q
      · rw [if_neg (by omega), if_neg (by omega), if_pos u1, if_pos u1]
      · rw [if_neg u1, if_neg u1]
        by_cases u2 : y = 182
        · rw [if_neg (by omega), if_pos u2, if_pos u2]
        · rw [if_neg u2, if_neg u2]
          by_cases u3 : y = 183
          · rw [if_pos u3, if_pos u3]
          · rw [if_neg u3, if_neg u3, if_neg (by omega), if_neg (by omega)]
    | succ n ih =>
      intro k M2 hn k0 h1 h2
      apply vX10_country_132
      rw [h1 113 (by decide), e19]
      refine ⟨⟨by omega, by omega⟩, fun z => by omega, fun _ => ⟨⟨by omega, by omega⟩, ⟨by omega, by omega⟩, ⟨by omega, by omega⟩, zset ?_⟩⟩
      refine ⟨⟨by omega, by omega⟩, ih (k + 1) _ (by omega) (by omega) (fun x hx => by rw [zup_row hx, h1 x hx]) (fun y => ?_)⟩
      rw [zup_at, h1 124 (by decide), eR k k0 (by omega), h2]
      by_cases a : y = k
      · rw [if_pos (by omega), if_pos (by omega), a]
      · rw [if_neg (by omega)]
        by_cases b : 0 ≤ y ∧ y < k
        · rw [if_pos b, if_pos (by omega)]
        · rw [if_neg b, if_neg (by omega)]
  exact l1 (10 * Q).toNat 0 M1 (by omega) (by omega) (fun _ _ => rfl) (fun y => by rw [if_neg (by omega)])
theorem rdS_any (M : ZM) : ∃ t l b, M = rdS M t l b := by
  refine ⟨M 113 15, M 113 16, M 113 17, ?_⟩
  funext x k
  unfold rdS
  by_cases h1 : x = 113 ∧ k = 15
  · rw [if_pos h1, h1.1, h1.2]
  · rw [if_neg h1]
    by_cases h2 : x = 113 ∧ k = 16
    · rw [if_pos h2, h2.1, h2.2]
    · rw [if_neg h2]
      by_cases h3 : x = 113 ∧ k = 17
      · rw [if_pos h3, h3.1, h3.2]
      · rw [if_neg h3]
theorem rdS_10 {M0 : ZM} {t l b x : Int} : zup (rdS M0 t l b) 113 10 x = rdS (zup M0 113 10 x) t l b := by
  funext y k
  unfold zup rdS
  dsimp only
  by_cases h : y = 113 ∧ k = 10
  · rw [if_pos h, if_neg (by omega), if_neg (by omega), if_neg (by omega), if_pos h]
  · rw [if_neg h, if_neg h]
theorem m_country {D : Nat} {M : ZM} {L : Int} {t : Nat} (hX : JX M) (e9 : M 113 9 = L) (hB : BYT (M 119) L) (tL : (t : Int) ≤ L) (lt : ∀ i : Nat, i < t → tP (M 119) L i < L) (he : tP (M 119) L t = L) {K : Int → ZM → Prop} {o : OR} (ho : oC (cF (M 119) L t) (vF (M 119) L t) 5000 t 16 0 0 0 (fun _ => 0) = o) (hk0 : ∀ j, o = .inl j → ∀ M', mcF M M' → M' 115 = M 115 → M' 113 9 = 0 → M' 113 10 = tP (M 119) L j.toNat → zcI (D + 40) 145 [zA 113, zI (-6)] M' K) (hk1 : ∀ Q R, o = .inr (Q, R) → ∀ M', mcF M M' → M' 113 9 = 0 → M' 113 10 = -1 → M' 115 = kR (M 115) Q R (cF (M 119) L t) (vF (M 119) L t) t t → zcI (D + 40) 146 [zA 113, zI Q] M' K) : zcI (D + 41) 179 [zA 113] M K := by
  have b4 := hB.1
  have hT := cF_tkc hB tL
  apply vX10_country
  rw [e9]
  refine m_splits hX.2 b4.1 b4.2 hB.2 (fun M1 t' sp he' e123 e121 e122 => ?_)
  obtain ⟨s1, s2, s3, s4, s5, s6⟩ := sp
  have tt : t = t' := tok_uniq lt he s5 he'
  subst tt
  refine zset (zset (zset (zset (zset ?_))))
  have st : zup (zup (zup (zup (zup M1 113 9 0) 113 15 0) 113 16 0) 113 17 (-1)) 113 19 0 = rdS (zup (zup M1 113 9 0) 113 19 0) 0 0 (-1) := by
    obtain ⟨x, y, z, e⟩ := rdS_any (zup M1 113 9 0)
    have q : zup (zup (zup (zup (rdS (zup M1 113 9 0) x y z) 113 15 0) 113 16 0) 113 17 (-1)) 113 19 0 = rdS (zup (zup M1 113 9 0) 113 19 0) 0 0 (-1) := by rw [rdS_tok, rdS_lv, rdS_bad, rdS_19]
    rw [← e] at q
    exact q
  rw [st]
  have r0 : ∀ x, x ≠ 113 → zup (zup M1 113 9 0) 113 19 0 x = M1 x := fun x hx => by rw [zup_row hx, zup_row hx]
  have k0 : ∀ k, k ≠ 9 → k ≠ 14 → k ≠ 19 → zup (zup M1 113 9 0) 113 19 0 113 k = M 113 k := fun k h1 h2 h3 => by rw [zup_at, if_neg h3, zup_at, if_neg h1, s2 k h2]
  have k9 : zup (zup M1 113 9 0) 113 19 0 113 9 = 0 := by rw [zup_at, if_neg (by decide), zup_eq]
  have k14 : zup (zup M1 113 9 0) 113 19 0 113 14 = (t : Int) := by rw [zup_at, if_neg (by decide), zup_at, if_neg (by decide)]; exact s3
  have k19 : zup (zup M1 113 9 0) 113 19 0 113 19 = 0 := zup_eq
  generalize zup (zup M1 113 9 0) 113 19 0 = M2 at *
  have tN0 : TKN (cF (M 119) L t) (vF (M 119) L t) M2 t := by
    refine ⟨hT.1, hT.2.1, fun i i0 i1 => ?_⟩
    rw [r0 121 (by decide), r0 122 (by decide), r0 123 (by decide)]
    by_cases z : i < (t : Int)
    · have q := s6 i.toNat (by omega)
      rw [show ((i.toNat : Nat) : Int) = i by omega] at q
      have r := tS_rg (M 119) b4.1 i.toNat
      refine ⟨?_, ?_, by rw [q.1]; omega, hT.2.2 i i0 i1⟩
      · rw [q.2.1]; exact (if_pos ⟨i0, z⟩).symm
      · rw [q.2.2]; exact (if_pos ⟨i0, z⟩).symm
    · have e : i = (t : Int) := by omega
      rw [e, e121, e122, e123]
      exact ⟨(hT.2.1 t (Int.le_refl _)).symm, (if_neg (by omega)).symm, b4.1, hT.2.2 t (by omega) (Int.le_refl _)⟩
  have e123' : ∀ j : Int, 0 ≤ j → j ≤ t → M2 123 j = tP (M 119) L j.toNat := fun j j0 j1 => by
    rw [r0 123 (by decide)]
    by_cases z : j < (t : Int)
    · have q := s6 j.toNat (by omega)
      rw [show ((j.toNat : Nat) : Int) = j by omega] at q
      exact q.1
    · have e : j = (t : Int) := by omega
      rw [e, e123, show ((t : Int)).toNat = t by omega]
      exact he.symm
  have og := oC_rg (n := 5000) hT (by decide) 16 0 0 0 (fun _ => 0) (by decide) (by decide) (by decide) hT.1.1 (by decide) (by decide) (fun p p0 p1 => by omega)
  refine rl_all (D := D) (n := 5000) (by decide) 16 0 0 0 (fun _ => 0) M2 (by decide) (by decide) tN0 k14 k19 (by decide) hT.1.1 (by decide) (by decide) (fun k a b => by omega) ?_
  rw [ho] at og ⊢
  have fr : ∀ (M3 : ZM) (x y b z : Int), rA M2 M3 → mcF M (rdS (zup M3 113 10 z) x y b) ∧ rdS (zup M3 113 10 z) x y b 115 = M 115 ∧ rdS (zup M3 113 10 z) x y b 113 9 = 0 ∧ rdS (zup M3 113 10 z) x y b 113 10 = z ∧ rdS (zup M3 113 10 z) x y b 113 14 = t := by
    intro M3 x y b z a
    have h113 : ∀ k, k ≠ 10 → k ≠ 15 → k ≠ 16 → k ≠ 17 → k ≠ 19 → k ≠ 20 → rdS (zup M3 113 10 z) x y b 113 k = M2 113 k := fun k h1 h2 h3 h4 h5 h6 => by rw [rdS_113 h2 h3 h4, zup_at, if_neg h1, a.2 k h2 h3 h4 h5 h6]
    refine ⟨⟨fun w w1 w2 w3 => ?_, fun k hk => ?_⟩, ?_, ?_, ?_, ?_⟩
    · rw [rdS_row w1, zup_row w1, a.1 w (by omega) w1, r0 w w1, s1 w w1 (by omega) (by omega) (by omega)]
    · rw [h113 k (by omega) (by omega) (by omega) (by omega) (by omega) (by omega), k0 k (by omega) (by omega) (by omega)]
    · rw [rdS_row (by decide), zup_row (by decide), a.1 115 (by decide) (by decide), r0 115 (by decide), s1 115 (by decide) (by decide) (by decide) (by decide)]
    · rw [h113 9 (by decide) (by decide) (by decide) (by decide) (by decide) (by decide)]; exact k9
    · rw [rdS_113 (by decide) (by decide) (by decide), zup_eq]
    · rw [h113 14 (by decide) (by decide) (by decide) (by decide) (by decide) (by decide)]; exact k14
  cases o with
  | inl j =>
    intro M3 x y a3
    obtain ⟨j0, j1⟩ : 0 ≤ j ∧ j ≤ (t : Int) := og
    have ej := e123' j j0 j1
    have r := tS_rg (M 119) b4.1 j.toNat
    obtain ⟨f1, f2, f3, f4, -⟩ := fr M3 x y (M2 123 j) (M2 123 j) a3
    apply vX10_country_108
    refine zset ?_
    rw [rdS_17, rdS_10]
    refine r_nfine (by omega) ⟨fun z => absurd rfl z, fun _ => hk0 j rfl _ f1 f2 f3 (by rw [f4, ej])⟩
  | inr QR =>
    obtain ⟨Q, R⟩ := QR
    obtain ⟨⟨Q1, Q2⟩, hW⟩ : (1 ≤ Q ∧ Q ≤ 16) ∧ oW Q R := og
    intro M3 x y a3 e19 eR
    have e19 : M3 113 19 = Q := e19
    obtain ⟨f1, f2, f3, f4, f5⟩ := fr M3 x y (-1) (-1) a3
    apply vX10_country_108
    refine zset ?_
    rw [rdS_17, rdS_10]
    refine r_fine ⟨fun _ => ?_, fun z => by omega⟩
    refine m_keep (R := R) (c := cF (M 119) L t) (v := vF (M 119) L t) (by omega) Q2 hT.1.1 hT.1.2 ?_ f5 (fun k a b => ?_) (fun i i0 i1 => ?_) (fun M' h1 h2 => ?_)
    · rw [rdS_113 (by decide) (by decide) (by decide), zup_at, if_neg (by decide)]; exact e19
    · rw [rdS_row (by decide), zup_row (by decide)]; exact eR k a b
    · rw [rdS_row (by decide), zup_row (by decide), rdS_row (by decide), zup_row (by decide), a3.1 121 (by decide) (by decide), a3.1 122 (by decide) (by decide)]
      have := tN0.2.2 i i0 (by omega)
      exact ⟨this.1, this.2.1⟩
    · refine hk1 Q R rfl M' ⟨fun w w1 w2 w3 => by rw [h1 w w2, f1.1 w w1 w2 w3], fun k hk => by rw [h1 113 (by decide), f1.2 k hk]⟩ (by rw [h1 113 (by decide), f3]) (by rw [h1 113 (by decide), f4]) (by rw [h2, f2])
