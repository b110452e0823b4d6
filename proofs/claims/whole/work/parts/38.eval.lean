/-! the reference's ENDS: what its TOKENS mean -/
/-- where it goes on, and whether it is BROKEN -/
def stM (M : ZM) (i b : Int) : ZM := zup (zup M 113 21 i) 113 23 b
theorem stM_row {M : ZM} {i b : Int} {a : Nat} (h : a ≠ 113) : stM M i b a = M a := by
  unfold stM
  rw [zup_row h, zup_row h]
theorem stM_go (M : ZM) (i b j : Int) : zup (stM M i b) 113 21 j = stM M j b := by
  funext a k
  unfold stM
  simp only [zupE]
  by_cases h1 : a = 113 ∧ k = 21
  · rw [if_pos h1, if_neg (by omega), if_pos h1]
  · rw [if_neg h1]
    by_cases h2 : a = 113 ∧ k = 23
    · rw [if_pos h2, if_pos h2]
    · rw [if_neg h2, if_neg h1, if_neg h2, if_neg h1]
theorem stM_br (M : ZM) (i b c : Int) : zup (stM M i b) 113 23 c = stM M i c := by
  funext a k
  unfold stM
  simp only [zupE]
  by_cases h2 : a = 113 ∧ k = 23
  · rw [if_pos h2, if_pos h2]
  · rw [if_neg h2, if_neg h2, if_neg h2]
theorem stM_21 (M : ZM) (i b : Int) : stM M i b 113 21 = i := by
  unfold stM
  rw [zup_ne (by omega), zup_eq]
theorem stM_23 (M : ZM) (i b : Int) : stM M i b 113 23 = b := by
  unfold stM
  exact zup_eq
theorem stM_f {M : ZM} {i b k : Int} (h1 : k ≠ 21) (h2 : k ≠ 23) : stM M i b 113 k = M 113 k := by
  unfold stM
  rw [zup_ne (fun q => h2 q.2), zup_ne (fun q => h1 q.2)]
/-- a SUM's number, a TEST's answer -/
def ACs (e : Int → Int) (l b0 : Int) (f : ME) (x b : Int) : Prop := (l = 1 ∧ b0 = 0 → (match f e with
  | some a => x = a ∧ b = 0 ∧ -1000000000 ≤ a ∧ a ≤ 1000000000
  | none => b = 1 ∧ x = 0)) ∧ (¬ (l = 1 ∧ b0 = 0) → b = b0 ∧ x = 0)
def ACt (e : Int → Int) (l b0 : Int) (f : ME) (x b : Int) : Prop := (x = 0 ∨ x = 1) ∧ (l = 1 ∧ b0 = 0 → (match f e with
  | some a => x = a ∧ b = 0
  | none => b = 1)) ∧ (¬ (l = 1 ∧ b0 = 0) → b = b0)
theorem m_sign {d : Nat} {M : ZM} {x : Int} {K : Int → ZM → Prop} (h0 : 0 ≤ x) (h1 : x ≤ 1000) (hK : K (100 + x) M) : zcI (d + 1) 170 [zI x] M K := vX10_sign _ _ _ _ ⟨⟨by omega, by omega⟩, hK⟩
section Eval
variable {M0 : ZM} (hT : 0 ≤ M0 115 183 ∧ M0 115 183 ≤ 400) (hE : M0 113 22 = M0 115 183) {e : Int → Int} (he : ∀ i, 0 ≤ i → i < 3 → M0 125 i = e i ∧ 0 ≤ e i ∧ e i ≤ 20)
theorem m_codeAt {d : Nat} {i b : Int} {M0 : ZM} (hT : 0 ≤ M0 115 183 ∧ M0 115 183 ≤ 400) (hE : M0 113 22 = M0 115 183) {K : Int → ZM → Prop} (i0 : 0 ≤ i) (hK : K (cTok (M0 115) i) (stM M0 i b)) : zcI (d + 1) 181 [zA 113, zI i] (stM M0 i b) K := by
  apply vX10_codeAt
  rw [stM_f (by decide) (by decide), hE, stM_row (by decide)]
  unfold cTok at hK
  refine ⟨fun q => ?_, fun q => ⟨⟨by omega, by omega⟩, by omega, ?_⟩⟩
  · rw [if_neg (by omega)] at hK; exact hK
  · rw [if_pos (by omega)] at hK; exact hK
theorem cTok_pos {K : Int → Int} {i : Int} (h : cTok K i ≠ 0) : 0 ≤ i ∧ i < K 183 := by
  unfold cTok at h
  by_cases hi : 0 ≤ i ∧ i < K 183
  · exact hi
  · rw [if_neg hi] at h; exact absurd rfl h
theorem m_passes {d : Nat} {i b c : Int} {M0 : ZM} (hT : 0 ≤ M0 115 183 ∧ M0 115 183 ≤ 400) (hE : M0 113 22 = M0 115 183) {K : Int → ZM → Prop} (i0 : 0 ≤ i) (hc : c ≠ 0) (h1 : cTok (M0 115) i = c → K 1 (stM M0 (i + 1) b)) (h0 : cTok (M0 115) i ≠ c → K 0 (stM M0 i b)) : zcI (d + 2) 182 [zA 113, zI c] (stM M0 i b) K := by
  apply vX10_passes0
  rw [stM_21]
  refine m_codeAt hT hE i0 ⟨fun q => ⟨fun _ => ⟨by omega, h0 q⟩, fun z => by omega⟩, fun q => ⟨fun z => by omega, fun _ => ?_⟩⟩
  have := cTok_pos (K := M0 115) (i := i) (by omega)
  rw [stM_21]
  refine ⟨⟨by omega, by omega⟩, zset ?_⟩
  rw [stM_go]
  exact ⟨by omega, h1 q⟩
theorem m_bounded {d : Nat} {i b l x : Int} {K : Int → ZM → Prop} (hb : b = 0 ∨ b = 1) (hl : l = 0 ∨ l = 1) (h1 : l = 1 → (1000000000 < x ∨ x < -1000000000) → K 0 (stM M0 i 1)) (h2 : ¬ (l = 1 ∧ (1000000000 < x ∨ x < -1000000000)) → b = 0 → K x (stM M0 i 0)) (h3 : ¬ (l = 1 ∧ (1000000000 < x ∨ x < -1000000000)) → b = 1 → K 0 (stM M0 i 1)) : zcL (d + 1) 183 [zA 113, zJ x, zI l] (stM M0 i b) K := by
  have k1 : l = 1 → (1000000000 < x ∨ x < -1000000000) → wX10_bounded d 25 [(0, zA 113), (1, zJ x)] (stM M0 i 1) K := fun a c => by
    apply vX10_bounded_25
    rw [stM_23]
    exact ⟨fun z => by omega, fun _ => h1 a c⟩
  have k2 : ¬ (l = 1 ∧ (1000000000 < x ∨ x < -1000000000)) → wX10_bounded d 25 [(0, zA 113), (1, zJ x)] (stM M0 i b) K := fun a => by
    apply vX10_bounded_25
    rw [stM_23]
    refine ⟨fun z => ?_, fun z => ?_⟩
    · have := h2 a z; rw [z]; exact this
    · have := h3 a (by omega); rw [show b = 1 by omega]; exact this
  apply vX10_bounded
  refine ⟨fun q => k2 (by omega), fun q => ⟨fun z => ⟨by omega, zset ?_⟩, fun z => ⟨fun y => k2 (by omega), fun y => ⟨by omega, zset ?_⟩⟩⟩⟩
  · rw [stM_br]; exact k1 (by omega) (by omega)
  · rw [stM_br]; exact k1 (by omega) (by omega)
end Eval
