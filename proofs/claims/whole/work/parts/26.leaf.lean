theorem zset {M0 : ZM} {P : ZM → Prop} (h : P M0) : ∀ M', M' = M0 → P M' := by
  rintro _ rfl
  exact h
theorem zupE (M : ZM) (a : Nat) (j x : Int) (b : Nat) (i : Int) : zup M a j x b i = if b = a ∧ i = j then x else M b i := rfl
theorem zcpE (M : ZM) (a : Nat) (sp : Int) (b : Nat) (dp n : Int) (c : Nat) (i : Int) : zcp M a sp b dp n c i = if c = b ∧ dp ≤ i ∧ i < dp + n then M a (sp + (i - dp)) else M c i := rfl
/-! small methods of the reference -/
section Leaf
variable {d : Nat} {M : ZM}
theorem m_lies {v lo hi : Int} {K : Int → ZM → Prop} (h1 : lo ≤ v → v ≤ hi → K 1 M) (h0 : ¬ (lo ≤ v ∧ v ≤ hi) → K 0 M) : zcI (d + 1) 144 [zI v, zI lo, zI hi] M K := by
  refine vX10_lies d v lo hi M K ?_
  repeat' (first | omega | apply h0 | apply h1 | refine zset ?_ | (simp only [zupE, zcpE, reduceIte, false_and, and_false, true_and, and_true, true_or, or_true, not_true_eq_false, not_false_eq_true, true_implies, false_implies]) | refine And.intro ?_ ?_ | intro _)
theorem m_places {K : Int → ZM → Prop} (h : K (M 115 182) M) : zcI (d + 1) 153 [zA 113] M K := vX10_places d M K ⟨by omega, h⟩
theorem m_day {K : Int → ZM → Prop} (h : K (M 115 179) M) : zcI (d + 1) 154 [zA 113] M K := vX10_day d M K ⟨by omega, h⟩
theorem m_isPlace {p : Int} {K : Int → ZM → Prop} (hW : 0 ≤ M 115 182 ∧ M 115 182 ≤ 16) (h1 : 0 ≤ p → p < M 115 182 → K 1 M) (h0 : ¬ (0 ≤ p ∧ p < M 115 182) → K 0 M) : zcI (d + 2) 155 [zA 113, zI p] M K := by
  refine vX10_isPlace (d + 1) p M K (m_places ⟨⟨by omega, by omega⟩, m_lies ?_ ?_⟩)
  · intro a b
    exact ⟨by omega, h1 (by omega) (by omega)⟩
  · intro a
    exact ⟨by omega, h0 (by omega)⟩
theorem m_placeOf {p f q : Int} {K : Int → ZM → Prop} (hq : q = 10 * p + f) (hp : 0 ≤ p ∧ p ≤ 16) (hf : 0 ≤ f ∧ f < 10) (h : K (M 115 q) M) : zcI (d + 1) 156 [zA 113, zI p, zI f] M K := by
  subst hq
  refine vX10_placeOf d p f M K ?_
  rw [Int.zero_add]
  exact ⟨⟨by omega, by omega⟩, ⟨by omega, by omega⟩, ⟨by omega, by omega⟩, ⟨by omega, by omega⟩, h⟩
theorem m_kind {p : Int} {K : Int → ZM → Prop} (hp : 0 ≤ p ∧ p ≤ 16) (h : K (M 115 (10 * p)) M) : zcI (d + 1) 156 [zA 113, zI p, zI 0] M K := m_placeOf (by omega) hp (by omega) h
theorem m_fld {p f : Int} {K : Int → ZM → Prop} (hp : 0 ≤ p ∧ p ≤ 16) (hf : 0 ≤ f ∧ f < 10) (h : K (M 115 (10 * p + f)) M) : zcI (d + 1) 156 [zA 113, zI p, zI f] M K := m_placeOf rfl hp hf h
theorem m_fldk {p f k : Int} {K : Int → ZM → Prop} (hp : 0 ≤ p ∧ p ≤ 16) (hf : 0 ≤ f + k ∧ f + k < 10) (h : K (M 115 (10 * p + f + k)) M) : zcI (d + 1) 156 [zA 113, zI p, zI (f + k)] M K := m_placeOf (by omega) hp hf h
theorem m_isFork {p : Int} {K : Int → ZM → Prop} (hW : 0 ≤ M 115 182 ∧ M 115 182 ≤ 16) (h1 : 0 ≤ p → p < M 115 182 → M 115 (10 * p) = 0 → K 1 M) (h0 : ¬ (0 ≤ p ∧ p < M 115 182 ∧ M 115 (10 * p) = 0) → K 0 M) : zcI (d + 3) 157 [zA 113, zI p] M K := by
  refine vX10_isFork (d + 2) p M K (m_isPlace hW ?_ ?_)
  · intro a b
    refine ⟨fun q => by omega, fun _ => m_kind (by omega) ⟨fun q => ⟨by omega, h0 (by omega)⟩, fun q => ⟨by omega, h1 a b q⟩⟩⟩
  · intro a
    exact ⟨fun _ => ⟨by omega, h0 (by omega)⟩, fun q => by omega⟩
theorem m_isLook {l : Int} {K : Int → ZM → Prop} (h1 : 0 ≤ l → l ≤ 5 → K 1 M) (h0 : ¬ (0 ≤ l ∧ l ≤ 5) → K 0 M) : zcI (d + 2) 158 [zI l] M K :=
  vX10_isLook (d + 1) l M K (m_lies (fun a b => ⟨by omega, h1 a b⟩) (fun a => ⟨by omega, h0 a⟩))
theorem m_refuses {k : Int} {K : Int → ZM → Prop} (hk : -6 ≤ k ∧ k ≤ 0) (hr : 0 ≤ M 114 (-k) ∧ M 114 (-k) ≤ 1000) (h : K k (zup (zup M 113 0 k) 114 (-k) (M 114 (-k) + 1))) : zcI (d + 1) 145 [zA 113, zI k] M K := by
  refine vX10_refuses d k M K ?_
  rintro _ rfl
  rw [zup_row (M := M) (a := 113) (b := 114) (by decide)]
  refine ⟨⟨by omega, by omega⟩, by omega, ⟨by omega, by omega⟩, by omega, ?_⟩
  rintro _ rfl
  exact h
theorem m_good {k : Int} {K : Int → ZM → Prop} (hr : 0 ≤ M 113 1 ∧ M 113 1 ≤ 1000) (h : K k (zup (zup M 113 0 0) 113 1 (M 113 1 + 1))) : zcI (d + 1) 146 [zA 113, zI k] M K := by
  refine vX10_good d k M K ?_
  rintro _ rfl
  rw [zup_ne (M := M) (a := 113) (b := 113) (i := 1) (j := 0) (by omega)]
  refine ⟨⟨by omega, by omega⟩, ?_⟩
  rintro _ rfl
  exact h
/-! small methods of the class -/
theorem c_has {p : Int} {K : Int → ZM → Prop} (h1 : 0 ≤ p → p < M 44 0 → K 1 M) (h0 : ¬ (0 ≤ p ∧ p < M 44 0) → K 0 M) : zcI (d + 1) 31 [zA 44, zI p] M K := by
  refine vX3_has d p M K ?_
  repeat' (first | omega | apply h0 | apply h1 | refine zset ?_ | (simp only [zupE, zcpE, reduceIte, false_and, and_false, true_and, and_true, true_or, or_true, not_true_eq_false, not_false_eq_true, true_implies, false_implies]) | refine And.intro ?_ ?_ | intro _)
theorem c_isKind {p k : Int} {K : Int → ZM → Prop} (hW : M 44 0 ≤ 16) (h1 : 0 ≤ p → p < M 44 0 → M 45 p = k → K 1 M) (h0 : ¬ (0 ≤ p ∧ p < M 44 0 ∧ M 45 p = k) → K 0 M) : zcI (d + 2) 32 [zA 44, zI p, zI k] M K := by
  refine vX3_isKind (d + 1) p k M K (c_has ?_ ?_)
  · intro a b
    exact ⟨fun q => by omega, fun _ => ⟨by omega, fun q => ⟨by omega, h0 (by omega)⟩, fun q => ⟨by omega, h1 a b q⟩⟩⟩
  · intro a
    exact ⟨fun _ => ⟨by omega, h0 (by omega)⟩, fun q => by omega⟩
theorem c_isLook {l : Int} {K : Int → ZM → Prop} (h1 : 0 ≤ l → l ≤ 5 → K 1 M) (h0 : ¬ (0 ≤ l ∧ l ≤ 5) → K 0 M) : zcI (d + 1) 142 [zI l] M K := by
  refine vX9_isLook d l M K ?_
  repeat' (first | omega | apply h0 | apply h1 | refine zset ?_ | (simp only [zupE, zcpE, reduceIte, false_and, and_false, true_and, and_true, true_or, or_true, not_true_eq_false, not_false_eq_true, true_implies, false_implies]) | refine And.intro ?_ ?_ | intro _)
theorem c_isLooks {l : Int} {K : Int → ZM → Prop} (h1 : 0 ≤ l → l ≤ 63 → K 1 M) (h0 : ¬ (0 ≤ l ∧ l ≤ 63) → K 0 M) : zcI (d + 1) 143 [zI l] M K := by
  refine vX9_isLooks d l M K ?_
  repeat' (first | omega | apply h0 | apply h1 | refine zset ?_ | (simp only [zupE, zcpE, reduceIte, false_and, and_false, true_and, and_true, true_or, or_true, not_true_eq_false, not_false_eq_true, true_implies, false_implies]) | refine And.intro ?_ ?_ | intro _)
theorem c_noPlaces {K : Int → ZM → Prop} (h1 : M 44 0 = 0 → K 1 M) (h0 : ¬ M 44 0 = 0 → K 0 M) : zcI (d + 1) 141 [zA 29] M K := by
  refine vX9_noPlaces d M K ?_
  repeat' (first | omega | apply h0 | apply h1 | refine zset ?_ | (simp only [zupE, zcpE, reduceIte, false_and, and_false, true_and, and_true, true_or, or_true, not_true_eq_false, not_false_eq_true, true_implies, false_implies]) | refine And.intro ?_ ?_ | intro _)
theorem c_grant {k : Int} {K : Int → ZM → Prop} (h : K k (zup M 29 15 0)) : zcI (d + 1) 140 [zA 29, zI k] M K := by
  refine vX9_grant d k M K ?_
  rintro _ rfl
  exact h
def rfx (k : Int) : Int := if k = -6 then 3 else if k = -3 then 2 else if k = -2 then 1 else 0
theorem c_refuse {k : Int} {K : Int → ZM → Prop} (hr : ∀ i, 0 ≤ i → i < 4 → 0 ≤ M 112 i ∧ M 112 i ≤ 1000) (h : K k (zup (zup M 29 15 k) 112 (rfx k) (M 112 (rfx k) + 1))) : zcI (d + 1) 139 [zA 29, zI k] M K := by
  refine vX9_refuse d k M K ?_
  rintro _ rfl
  have r0 := hr 0 (by omega) (by omega)
  have r1 := hr 1 (by omega) (by omega)
  have r2 := hr 2 (by omega) (by omega)
  have r3 := hr 3 (by omega) (by omega)
  rw [zup_row (M := M) (a := 29) (b := 112) (by decide)]
  unfold rfx at h
  refine ⟨fun a => ⟨fun b => ⟨fun c => ?_, fun c => ?_⟩, fun b => ?_⟩, fun a => ?_⟩
  · rw [if_neg a, if_neg b, if_neg c] at h
    refine ⟨by omega, ⟨by omega, by omega⟩, by omega, ?_⟩
    rintro _ rfl
    exact h
  · rw [if_neg a, if_neg b, if_pos c] at h
    refine ⟨by omega, ⟨by omega, by omega⟩, by omega, ?_⟩
    rintro _ rfl
    exact h
  · rw [if_neg a, if_pos b] at h
    refine ⟨by omega, ⟨by omega, by omega⟩, by omega, ?_⟩
    rintro _ rfl
    exact h
  · rw [if_pos a] at h
    refine ⟨by omega, ⟨by omega, by omega⟩, by omega, ?_⟩
    rintro _ rfl
    exact h
end Leaf
