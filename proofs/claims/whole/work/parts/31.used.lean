/-! rows as wholes; LOOKS that are used, how many FORKS -/
def zrow (M : ZM) (a : Nat) (f : Int → Int) : ZM := fun b i => if b = a then f i else M b i
theorem zrow_at (M : ZM) (a : Nat) (f : Int → Int) : zrow M a f a = f := by
  funext i
  exact if_pos rfl
theorem zrow_ne {M : ZM} {a b : Nat} {f : Int → Int} (h : b ≠ a) : zrow M a f b = M b := by
  funext i
  exact if_neg h
theorem zup_zrow (M : ZM) (a : Nat) (f : Int → Int) (j x : Int) : zup (zrow M a f) a j x = zrow M a (kup f j x) := by
  funext b i
  unfold zup zrow kup
  by_cases hb : b = a
  · simp only [hb, true_and, if_true]
  · simp only [hb, false_and, if_false]
theorem zrow_self (M : ZM) (a : Nat) : zrow M a (M a) = M := by
  funext b i
  unfold zrow
  by_cases hb : b = a
  · rw [if_pos hb, hb]
  · rw [if_neg hb]
theorem zup_eq_row (M : ZM) (a : Nat) (j x : Int) : zup M a j x = zrow M a (kup (M a) j x) := by
  conv => lhs; rw [← zrow_self M a]
  exact zup_zrow M a _ j x
theorem zrowE (M : ZM) (a : Nat) (f : Int → Int) (b : Nat) (i : Int) : zrow M a f b i = if b = a then f i else M b i := rfl
theorem r32_zor (x y : Int) : r32 (zor x y) := r32_toInt _
theorem r32_zand (x y : Int) : r32 (zand x y) := r32_toInt _
theorem r32_zshl (x y : Int) : r32 (zshl x y) := r32_toInt _
theorem r32_zshr (x y : Int) : r32 (zshr x y) := r32_toInt _
theorem zor_zero {x : Int} (h : r32 x) : zor x 0 = x := by
  unfold zor
  rw [show zi 0 = 0 from (zi_lit 0).symm, Int32.or_zero, zi_toInt h.1 h.2]
/-- LOOKS that are USED by the first n PLACES, as bits -/
def uB (K : Int → Int) : Nat → Int
  | 0 => 0
  | n + 1 => if K (10 * n) = 0 then zor (uB K n) (zshl 1 (K (10 * n + 1))) else uB K n
theorem uB_r32 (K : Int → Int) (n : Nat) : r32 (uB K n) := by
  induction n with
  | zero => unfold uB r32; omega
  | succ n ih =>
    unfold uB
    split
    · exact r32_zor _ _
    · exact ih
abbrev uS (K : Int → Int) : Int := uB K (K 182).toNat
/-- the FORKS of the first n PLACES -/
def fB (K : Int → Int) : Nat → Int
  | 0 => 0
  | n + 1 => if K (10 * n) = 0 then fB K n + 1 else fB K n
theorem fB_rg (K : Int → Int) (n : Nat) : 0 ≤ fB K n ∧ fB K n ≤ n := by
  induction n with
  | zero => unfold fB; omega
  | succ n ih =>
    unfold fB
    split <;> omega
section Used
variable {d t : Nat} {M : ZM}
theorem c_used {K : Int → ZM → Prop} (h : J t M) (hK : K (uS (M 115)) M) : zcI (d + 1) 36 [zA 44] M K := by
  have hs := h.size
  have hp := h.pl
  have lp : ∀ n p : Nat, p + n = (M 115 182).toNat → wX3_usedLooks d 4 [(0, zA 44), (1, zI (uB (M 115) p)), (2, zI p)] M K := by
    intro n
    induction n with
    | zero =>
      intro p hn
      apply vX3_usedLooks_4
      refine ⟨fun _ => ?_, fun q => by omega⟩
      rw [show p = (M 115 182).toNat by omega]
      exact hK
    | succ n ih =>
      intro p hn
      have nx := ih (p + 1) (by omega)
      have ek := h.kind (p := p) (by omega) (by omega)
      apply vX3_usedLooks_4
      unfold uB at nx
      refine ⟨fun q => by omega, fun _ => ⟨by omega, fun q => ⟨⟨by omega, by omega⟩, ?_⟩, fun q => ⟨by omega, ⟨by omega, by omega⟩, ?_⟩⟩⟩
      · rw [if_neg (by omega)] at nx; exact nx
      · rw [if_pos (by omega)] at nx
        rw [h.look (p := p) (by omega) (by omega) (by omega)]; exact nx
  exact vX3_usedLooks d M K (lp _ 0 (Nat.zero_add _))
theorem m_used {K : Int → ZM → Prop} (hp : 0 ≤ M 115 182 ∧ M 115 182 ≤ 16) (hK : K (uS (M 115)) M) : zcI (d + 4) 197 [zA 113] M K := by
  have lp : ∀ n p : Nat, p + n = (M 115 182).toNat → wX10_used (d + 3) 4 [(0, zA 113), (1, zI (uB (M 115) p)), (2, zI p)] M K := by
    intro n
    induction n with
    | zero =>
      intro p hn
      apply vX10_used_4
      refine m_places ⟨fun _ => ?_, fun q => by omega⟩
      rw [show p = (M 115 182).toNat by omega]
      exact hK
    | succ n ih =>
      intro p hn
      have nx := ih (p + 1) (by omega)
      apply vX10_used_4
      unfold uB at nx
      refine m_places ⟨fun q => by omega, fun _ => m_isFork hp (fun a b q => ⟨fun e => by omega, fun _ => m_fld (by omega) (by omega) ⟨⟨by omega, by omega⟩, ?_⟩⟩) (fun q => ⟨fun _ => ⟨⟨by omega, by omega⟩, ?_⟩, fun e => by omega⟩)⟩
      · rw [if_pos q] at nx; exact nx
      · rw [if_neg (by omega)] at nx
        rw [zor_zero (uB_r32 _ _)]; exact nx
  exact vX10_used _ M K (lp _ 0 (Nat.zero_add _))
theorem s_used (h : J t M) : zcI (d + 4) 111 [zA 29] M (fun x M1 => zcI (d + 4) 197 [zA 113] M1 (fun y M2 => x = y ∧ J (t + 1) M2)) :=
  vX9_used _ M _ (c_used h (m_used h.pl ⟨rfl, h.idle⟩))
theorem c_forks {K : Int → ZM → Prop} (h : J t M) (hK : K (fB (M 115) (M 115 182).toNat) M) : zcI (d + 1) 34 [zA 44] M K := by
  have hs := h.size
  have hp := h.pl
  have lp : ∀ n p : Nat, p + n = (M 115 182).toNat → wX3_forks d 4 [(0, zA 44), (1, zI (fB (M 115) p)), (2, zI p)] M K := by
    intro n
    induction n with
    | zero =>
      intro p hn
      apply vX3_forks_4
      refine ⟨fun _ => ?_, fun q => by omega⟩
      rw [show p = (M 115 182).toNat by omega]
      exact hK
    | succ n ih =>
      intro p hn
      have nx := ih (p + 1) (by omega)
      have ek := h.kind (p := p) (by omega) (by omega)
      have rg := fB_rg (M 115) p
      apply vX3_forks_4
      unfold fB at nx
      refine ⟨fun q => by omega, fun _ => ⟨by omega, fun q => ⟨⟨by omega, by omega⟩, ?_⟩, fun q => ⟨⟨by omega, by omega⟩, ⟨by omega, by omega⟩, ?_⟩⟩⟩
      · rw [if_neg (by omega)] at nx; exact nx
      · rw [if_pos (by omega)] at nx; exact nx
  exact vX3_forks d M K (lp _ 0 (Nat.zero_add _))
end Used
