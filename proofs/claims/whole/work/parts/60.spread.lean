/-! the reference's spreads -/
theorem ls_mul {K f : Int → Int} {c : Int} : sN (lsF K (fun q => f q * c)) 16 = sN (lsF K f) 16 * c := by
  have e : lsF K (fun q => f q * c) = fun q => lsF K f q * c := by
    funext q
    unfold lsF
    split
    · omega
    · rfl
  rw [e, sN_mul]
theorem ls_FP {K f : Int → Int} {n : Nat} : sN (lsF K (FP K f (n + 1))) 16 = sN (lsF K (FP K f n)) 16 + sN (lsF K (cn K n)) 16 * f n := by
  have e : lsF K (FP K f (n + 1)) = fun q => lsF K (FP K f n) q + (fun q => lsF K (cn K n) q * f n) q := by
    funext q
    unfold lsF
    dsimp only
    split
    · omega
    · rfl
  rw [e, sN_add, sN_mul]
theorem ls_le {K f : Int → Int} {n : Nat} (h : ∀ q : Int, 0 ≤ q → q < n → 0 ≤ f q) : 0 ≤ sN (lsF K f) n ∧ sN (lsF K f) n ≤ sN f n := by
  induction n with
  | zero => unfold sN; omega
  | succ n ih =>
    have := ih (fun q a b => h q a (by omega))
    have h2 := h n (by omega) (by omega)
    have : 0 ≤ lsF K f n ∧ lsF K f n ≤ f n := by unfold lsF; split <;> omega
    unfold sN
    omega
theorem sN_zero {f : Int → Int} (n : Nat) (h : ∀ q : Int, 0 ≤ q → q < n → f q = 0) : sN f n = 0 := by
  induction n with
  | zero => rfl
  | succ n ih => unfold sN; rw [ih (fun q a b => h q a (by omega)), h n (by omega) (by omega)]; omega
theorem ts_all {K f : Int → Int} {m : Nat} (hm : (m : Int) = K 182) : ∀ n : Nat, m ≤ n → sN (tsF K f) n = sN (tsF K f) m := by
  intro n
  induction n with
  | zero => intro h; obtain rfl : m = 0 := by omega
            rfl
  | succ n ih =>
    intro h
    by_cases e : m = n + 1
    · rw [e]
    · show sN (tsF K f) n + tsF K f n = _
      rw [ih (by omega)]
      unfold tsF
      rw [if_neg (by omega)]
      omega
def SP (K : Int → Int) (M M' : ZM) (s p : Nat) : Prop := (∀ x, x ≠ 135 → x ≠ 136 → M' x = M x) ∧ (∀ t : Nat, ∀ q, 0 ≤ q → q < K 182 → (t ≤ s → M' 135 (16 * t + q) = FW K t q) ∧ (t = s + 1 → (s : Int) < K 179 → M' 135 (16 * t + q) = FP K (FW K s) p q) ∧ (s + 1 < t → t ≤ 10 → M' 135 (16 * t + q) = 0)) ∧ M' 136 17 = LST K (s + 1) + (if (s : Int) < K 179 then sN (lsF K (FP K (FW K s) p)) 16 * 10 ^ (10 - (s + 1)) else 0) ∧ M' 136 16 = (if (s : Int) = K 179 then sN (tsF K (fS K s)) p else 0) ∧ ∀ q, 0 ≤ q → q < K 182 → K (10 * q) = 3 → M' 136 q = VS K s q + if q < p then fS K s q else 0
/-- what spreads leaves -/
def SPF (K : Int → Int) (M M' : ZM) : Prop := (∀ x, x ≠ 135 → x ≠ 136 → M' x = M x) ∧ (∀ t : Nat, ∀ q, 0 ≤ q → q < K 182 → (t : Int) ≤ K 179 → M' 135 (16 * t + q) = FW K t q) ∧ M' 136 17 = LST K ((K 179).toNat + 1) ∧ M' 136 16 = TS K ∧ ∀ q, 0 ≤ q → q < K 182 → K (10 * q) = 3 → M' 136 q = VS K ((K 179).toNat + 1) q
theorem FP_le {K : Int → Int} (hW : WF K) {s p : Nat} (hs : s ≤ 9) (hp : (p : Int) ≤ K 182) : (∀ q, 0 ≤ q → q < 16 → 0 ≤ FP K (FW K s) p q ∧ FP K (FW K s) p q ≤ 10 ^ (s + 1)) ∧ 0 ≤ sN (lsF K (FP K (FW K s) p)) 16 ∧ sN (lsF K (FP K (FW K s) p)) 16 ≤ 10 ^ (s + 1) := by
  have hpl := hW.1
  have hfb := FW_bd hW s
  have nn := FP_nn hW (f := FW K s) (fun q _ _ => hfb.1 q) p hp
  have sm := FP_sum hW (f := FW K s) (fun q _ _ => hfb.1 q) p hp
  have mo := sN_mono (f := FW K s) (m := p) (n := 16) (fun q _ _ => hfb.1 q) (by omega)
  have ll := ls_le (K := K) (f := FP K (FW K s) p) (n := 16) (fun q _ _ => nn q)
  rw [Int.pow_succ]
  refine ⟨fun q q0 q1 => ⟨nn q, ?_⟩, ll.1, by omega⟩
  have le := sN_le (f := FP K (FW K s) p) (n := 16) (fun q _ _ => nn q) q0 (by omega)
  omega
theorem m_spRow {d s : Nat} {M : ZM} {Q : ZM → Prop} (hW : WF (M 115)) (hs : (s : Int) ≤ M 115 179) (nx : ∀ M', SP (M 115) M M' s (M 115 182).toNat → wX10_spreads (d + 3) 59 [(0, zA 113), (1, zI ((s : Int) + 1))] M' Q) : ∀ m p : Nat, ∀ M1 : ZM, (p : Int) + m = M 115 182 → SP (M 115) M M1 s p → wX10_spreads (d + 3) 69 [(0, zA 113), (1, zI (s : Int)), (2, zI (p : Int))] M1 Q := by
  have hpl := hW.1
  have hday := hW.2.2.1
  generalize hK : M 115 = K at *
  intro m
  induction m with
  | zero =>
    intro p M1 hm i
    have e : M1 115 = K := by rw [i.1 115 (by decide) (by decide)]; exact hK
    obtain rfl : p = (K 182).toNat := by omega
    apply vX10_spreads_69
    refine m_places ?_
    rw [e]
    exact ⟨fun _ => ⟨⟨by omega, by omega⟩, nx M1 i⟩, fun z => by omega⟩
  | succ m ih =>
    intro p M1 hm i
    have e : M1 115 = K := by rw [i.1 115 (by decide) (by decide)]; exact hK
    obtain ⟨i1, i2, i3, i4, i5⟩ := id i
    have v := (i2 s p (by omega) (by omega)).1 (by omega)
    have fl := FW_le hW s (q := p) (by omega) (by omega)
    have fb := fS_bd hW (s := s) (by omega) (q := p) (by omega) (by omega)
    have hf : fS K s p = FW K s p * 10 ^ (10 - s) := rfl
    have fpS : ∀ q, FP K (FW K s) (p + 1) q = FP K (FW K s) p q + cn K p q * FW K s p := fun _ => rfl
    have lst := LST_bd hW (s + 1) (by omega)
    have vs := VS_bd hW s (by omega) p (by omega) (by omega)
    have tsb := sN_up (f := tsF K (fS K s)) (n := p) (fun q q0 q1 => by have := fS_bd hW (s := s) (by omega) q0 (show q < 16 by omega); unfold tsF; split <;> omega)
    have tsS : sN (tsF K (fS K s)) (p + 1) = sN (tsF K (fS K s)) p + tsF K (fS K s) p := rfl
    -- when the row's sums stay
    have stay : ∀ M2 : ZM, (∀ x, x ≠ 136 → M2 x = M1 x) → M2 136 17 = M1 136 17 → ((s : Int) < K 179 → ∀ q, cn K p q * FW K s p = 0) → M2 136 16 = (if (s : Int) = K 179 then sN (tsF K (fS K s)) (p + 1) else 0) → (∀ q, 0 ≤ q → q < K 182 → K (10 * q) = 3 → M2 136 q = VS K s q + if q < ((p + 1 : Nat) : Int) then fS K s q else 0) → SP K M M2 s (p + 1) := by
      intro M2 g1 g2 g3 g4 g5
      refine ⟨fun x a b => by rw [g1 x b, i1 x a b], fun t q q0 q1 => ?_, ?_, g4, g5⟩
      · rw [g1 135 (by decide)]
        obtain ⟨j1, j2, j3⟩ := i2 t q q0 q1
        exact ⟨j1, fun a b => by rw [j2 a b, fpS, g3 b q]; omega, j3⟩
      · rw [g2, i3]
        by_cases hd : (s : Int) < K 179
        · rw [if_pos hd, if_pos hd, ls_FP]
          have z : sN (lsF K (cn K p)) 16 * FW K s p = 0 := by
            rw [← ls_mul]
            exact sN_zero 16 (fun q _ _ => by unfold lsF; split; · rfl
                                              · exact g3 hd q)
          rw [z, Int.add_zero]
        · rw [if_neg hd, if_neg hd]
    have five : ∀ M2 : ZM, (∀ q : Int, q < 16 → q ≠ p → M2 136 q = M1 136 q) → (K (10 * p) = 3 → M2 136 p = M1 136 p + fS K s p) → (∀ q, 0 ≤ q → q < K 182 → K (10 * q) = 3 → M2 136 q = VS K s q + if q < ((p + 1 : Nat) : Int) then fS K s q else 0) := by
      intro M2 g1 g2 q q0 q1 k3
      by_cases hq : q = p
      · subst hq
        rw [g2 k3, i5 _ q0 q1 k3, if_neg (by omega), if_pos (by omega)]; omega
      · rw [g1 q (by omega) hq, i5 q q0 q1 k3]
        by_cases h2 : q < (p : Int)
        · rw [if_pos h2, if_pos (by omega)]
        · rw [if_neg h2, if_neg (by omega)]
    have go : ∀ M2, SP K M M2 s (p + 1) → r32 ((p : Int) + 1) ∧ wX10_spreads (d + 3) 69 [(0, zA 113), (1, zI (s : Int)), (2, zI ((p : Int) + 1))] M2 Q := fun M2 h2 => ⟨⟨by omega, by omega⟩, ih (p + 1) M2 (by omega) h2⟩
    apply vX10_spreads_69
    refine m_places ?_
    rw [e, v]
    refine ⟨fun z => by omega, fun _ => ⟨⟨by omega, by omega⟩, ⟨by omega, by omega⟩, ⟨by omega, by omega⟩, fun hz => ?_, fun hz => ?_⟩⟩
    · have vp : FW K s p ≠ 0 := by
        intro z
        rw [z] at hz
        exact hz rfl
      refine m_kind (by omega) ?_
      rw [e]
      refine ⟨fun k3 => m_day ?_, fun k3 => ⟨⟨by omega, by omega⟩, ⟨by omega, by omega⟩, m_ten (n := 10 - s) (by omega) (by omega) ?_⟩⟩
      · rw [e]
        refine ⟨fun hd => ?_, fun hd => ⟨⟨by omega, by omega⟩, ⟨by omega, by omega⟩, m_ten (n := 10 - s) (by omega) (by omega) ?_⟩⟩
        · -- he goes on
          have hd' : (s : Int) < K 179 := by omega
          have fp := FP_le hW (s := s) (p := p) (by omega) (by omega)
          have ps : (10 : Int) ^ (s + 1) * 10 ^ (10 - (s + 1)) = 10000000000 := by
            rw [← Int.pow_add, show s + 1 + (10 - (s + 1)) = 10 by omega]
            decide
          have u0 := pow10_pos (10 - (s + 1))
          have cb := Int.mul_le_mul_of_nonneg_right fp.2.2 (show 0 ≤ (10 : Int) ^ (10 - (s + 1)) by omega)
          have cb0 := Int.mul_nonneg fp.2.1 (show 0 ≤ (10 : Int) ^ (10 - (s + 1)) by omega)
          have pm : (10 : Int) ^ (s + 1) ≤ 10000000000 := by
            have := Int.mul_le_mul_of_nonneg_left u0 (show (0 : Int) ≤ 10 ^ (s + 1) by have := pow10_pos (s + 1); omega)
            omega
          rw [if_pos hd'] at i3
          have gg := m_goesOn (d := d) (s := s) (M := M1) (p := p) (v := FW K s p) (Q := fun M7 => r32 ((p : Int) + 1) ∧ wX10_spreads (d + 3) 69 [(0, zA 113), (1, zI (s : Int)), (2, zI ((p : Int) + 1))] M7 Q) (by rw [e]; exact hW) (by omega) (by omega) (by rw [e]; omega) (by rw [e]; exact k3) fl.1 fl.2 (fun q q0 q1 => by
            rw [e] at q1
            rw [(i2 (s + 1) q q0 q1).2.1 rfl hd']
            have := fp.1 q q0 (by omega)
            omega) (by rw [i3]; omega) (fun M2 a => by
            rw [e] at a
            obtain ⟨a1, a2, a3, a4, a5⟩ := a
            refine go M2 ⟨fun x y z => by rw [a1 x y z, i1 x y z], fun t q q0 q1 => ?_, ?_, ?_, ?_⟩
            · obtain ⟨j1, j2, j3⟩ := i2 t q q0 q1
              refine ⟨fun h => by rw [a4 _ (by omega)]; exact j1 h, fun h h' => ?_, fun h h' => by rw [a4 _ (by omega)]; exact j3 h h'⟩
              subst h
              rw [a3 q q0 q1, j2 rfl h', fpS]
            · rw [a5, i3, if_pos hd', ls_FP, Int.add_mul, Int.add_assoc]
            · rw [a2 16 (by omega), i4, if_neg hd, if_neg hd]
            · exact five M2 (fun q _ _ => a2 q (by omega)) (fun z => absurd z k3))
          rw [e] at gg
          exact gg
        · -- late
          rw [← hf, i4, if_pos hd]
          refine ⟨⟨by omega, by omega⟩, ⟨by omega, by omega⟩, by omega, zset (go _ (stay _ (fun x a => zup_row a) (by rw [zup_at, if_neg (by omega)]) (fun z => by omega) ?_ (five _ (fun q _ _ => by rw [zup_at, if_neg (by omega)]) (fun z => absurd z k3))))⟩
          rw [zup_at, if_pos rfl, if_pos hd, tsS]
          unfold tsF
          rw [if_pos ⟨by omega, k3⟩]
      · -- an END
        have i5p := i5 p (by omega) (by omega) k3
        rw [if_neg (by omega), Int.add_zero] at i5p
        rw [← hf]
        refine ⟨⟨by omega, by omega⟩, ⟨by omega, by omega⟩, by omega, zset (go _ (stay _ (fun x a => zup_row a) (by rw [zup_at, if_neg (by omega)]) (fun _ q => by unfold cn; rw [if_pos k3, Int.zero_mul]) ?_ (five _ (fun q _ hq => by rw [zup_at, if_neg hq]) (fun _ => by rw [zup_at, if_pos rfl]))))⟩
        rw [zup_at, if_neg (by omega), i4, tsS, show tsF K (fS K s) p = 0 by unfold tsF; rw [if_neg (by omega)], Int.add_zero]
    · have vz : FW K s p = 0 := by
        by_cases h0 : 0 < FW K s p
        · rw [if_pos h0] at hz; omega
        · omega
      have fz : fS K s p = 0 := by rw [hf, vz, Int.zero_mul]
      refine go M1 (stay M1 (fun _ _ => rfl) rfl (fun _ q => by rw [vz, Int.mul_zero]) ?_ (five M1 (fun _ _ _ => rfl) (fun _ => by rw [fz]; omega)))
      rw [i4, tsS, show tsF K (fS K s) p = 0 by unfold tsF; rw [fz]; split <;> rfl, Int.add_zero]
