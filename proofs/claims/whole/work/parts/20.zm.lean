/-! THE MACHINE OF WHOLE NUMBERS: what is wanted of the numbers from one cut to the next, as one proposition -/
abbrev ZV : Type := Int ⊕ (Int ⊕ Nat)
abbrev ZM : Type := Nat → Int → Int
abbrev ZL : Type := List (Nat × ZV)
abbrev zI (x : Int) : ZV := .inl x
abbrev zJ (x : Int) : ZV := .inr (.inl x)
abbrev zA (a : Nat) : ZV := .inr (.inr a)
def zv : ZV → Value
  | .inl x => .int (zi x)
  | .inr (.inl x) => .long (zl x)
  | .inr (.inr a) => .ref a
def r32 (x : Int) : Prop := -2147483648 ≤ x ∧ x ≤ 2147483647
def r64 (x : Int) : Prop := -9223372036854775808 ≤ x ∧ x ≤ 9223372036854775807
def zr : ZV → Prop
  | .inl x => r32 x
  | .inr (.inl x) => r64 x
  | .inr (.inr _) => True
def zt_tab : List (Nat × Nat) := [(11, 2), (11, 2), (11, 2), (11, 2), (11, 2), (11, 2), (11, 2), (11, 2), (11, 2), (11, 2), (11, 2), (11, 2), (11, 2), (102, 4), (102, 2), (102, 4), (102, 2), (102, 3), (102, 3), (102, 4), (102, 5), (102, 3), (102, 2), (102, 3), (102, 3), (102, 2), (100, 4), (100, 4), (999, 0), (9, 16), (102, 400), (3, 11), (100, 16), (100, 16), (100, 16), (100, 16), (100, 48), (100, 48), (100, 16), (100, 16), (100, 16), (100, 400), (5, 10), (0, 3), (3, 11), (100, 16), (100, 16), (100, 16), (100, 16), (100, 48), (100, 48), (100, 16), (100, 16), (100, 16), (100, 400), (100, 4), (100, 18), (104, 2), (0, 3), (3, 11), (100, 16), (100, 16), (100, 16), (100, 16), (100, 48), (100, 48), (100, 16), (100, 16), (100, 16), (100, 400), (100, 4), (100, 18), (0, 3), (3, 11), (100, 16), (100, 16), (100, 16), (100, 16), (100, 48), (100, 48), (100, 16), (100, 16), (100, 16), (100, 400), (100, 4), (100, 18), (103, 2), (7, 4), (101, 32), (1, 11), (100, 16), (100, 18), (101, 176), (100, 176), (100, 48), (100, 11), (6, 10), (100, 6), (100, 18), (100, 16), (4, 7), (101, 352), (100, 12), (100, 6), (100, 2), (100, 2), (2, 7), (101, 384), (101, 384), (101, 16), (8, 5), (100, 11), (100, 4), (10, 49), (100, 7), (100, 984), (100, 1968), (103, 2), (102, 53), (102, 400), (100, 5), (100, 401), (100, 401), (100, 401), (100, 160), (100, 3), (100, 176), (100, 18), (101, 176), (100, 6), (100, 6), (100, 18), (101, 1936), (100, 12), (101, 352), (101, 176), (101, 18), (101, 2304), (101, 2304), (100, 11)]
def zt (a : Nat) : Nat × Nat := zt_tab.getD a (999, 0)
def zk (a : Nat) : Nat := (zt a).1
def zn (a : Nat) : Nat := (zt a).2
/-- 0 an int, 1 a long, 2 a cell by its number in the memory, t + 3 the cell t -/
def zob : List (Nat × List Nat) := [(29, [33, 0, 0, 34, 45, 46, 60, 89, 90, 92, 99, 103, 109, 113, 115, 0]),
  (31, [0, 35, 36, 37, 38, 39, 40, 41, 42, 43, 44]),
  (42, [33, 34, 0, 0, 0, 0, 0, 0, 0, 0]),
  (43, [47, 58, 59]),
  (44, [0, 48, 49, 50, 51, 52, 53, 54, 55, 56, 57]),
  (58, [62, 73, 74]),
  (59, [0, 63, 64, 65, 66, 67, 68, 69, 70, 71, 72]),
  (72, [76, 87, 88]),
  (73, [0, 77, 78, 79, 80, 81, 82, 83, 84, 85, 86]),
  (87, [91, 0, 0, 0]),
  (89, [46, 47, 90, 93, 94, 0, 95, 96, 0, 97, 98]),
  (96, [92, 100, 101, 102, 0, 0, 0, 0, 1, 1]),
  (100, [92, 104, 105, 106, 107, 108, 1]),
  (106, [92, 2, 2, 0, 112, 1, 1]),
  (110, [46, 90, 114, 0, 1]),
  (113, [0, 0, 117, 118, 119, 120, 121, 122, 123, 0, 0, 124, 125, 126, 0, 0, 0, 0, 127, 0, 0, 0, 0, 0, 128, 129, 0, 130, 131, 0, 132, 133, 1, 0, 0, 134, 135, 136, 137, 138, 139, 140, 141, 1, 1, 142, 0, 0, 0])]
def zg (a i : Nat) : Nat := bif Nat.ble 100 (zk a) then (bif Nat.beq (zk a) 101 then 1 else bif Nat.beq (zk a) 104 then (bif Nat.beq i 0 then 61 else 75) else 0) else bif Nat.beq (zk a) 11 then (bif Nat.beq i 0 then a + 16 else 0) else match am_look zob a with
  | some l => l.getD i 0
  | none => 0
def zval (t : Nat) (x : Int) : Value := match t with
  | 0 => .int (zi x)
  | 1 => .long (zl x)
  | 2 => .ref x.toNat
  | t + 3 => .ref t
def zrt (t : Nat) (x : Int) : Prop := match t with
  | 0 => r32 x
  | 1 => r64 x
  | 2 => x = 107 ∨ x = 108
  | _ + 3 => True
def zold : List (List Int) := [[0, 0], [0, 0], [0, 0], [0, 0], [0, 0], [0, 0], [0, 0], [0, 0], [0, 0], [0, 0], [0, 0], [0, 0], [0, 0], [102, 111, 114, 107], [116, 111], [116, 117, 114, 110], [98, 121], [105, 110, 110], [101, 110, 100], [115, 116, 101, 112], [112, 108, 97, 99, 101], [100, 97, 121], [105, 102], [110, 111, 116], [97, 110, 100], [111, 114], [0, 1, -999, -999], [15, 10, 999, 999]]
def zf (g : Nat → AC) (M : ZM) (a : Nat) : Nat → Value := fun i => if i < zn a then zval (zg a i) (M a i) else (g a).2.2 i
def hp (g : Nat → AC) (M : ZM) : AH := (140, 17062, fun a => if zk a = 999 then g a else (zk a, zn a, zf g M a))
def RG (M : ZM) : Prop := ∀ a i : Nat, zk a ≠ 999 → i < zn a → zrt (zg a i) (M a i) ∧ (a < 28 → M a i = (zold.getD a []).getD i 0)
def zup (M : ZM) (a : Nat) (j x : Int) : ZM := fun b i => if b = a ∧ i = j then x else M b i
def zcp (M : ZM) (a : Nat) (sp : Int) (b : Nat) (dp n : Int) : ZM := fun c i => if c = b ∧ dp ≤ i ∧ i < dp + n then M a (sp + (i - dp)) else M c i
theorem zup_ne {M : ZM} {a b : Nat} {j i x : Int} (h : ¬ (b = a ∧ i = j)) : zup M a j x b i = M b i := if_neg h
theorem zup_eq {M : ZM} {a : Nat} {j x : Int} : zup M a j x a j = x := if_pos ⟨rfl, rfl⟩
theorem zcp_ne {M : ZM} {a b c : Nat} {sp dp n i : Int} (h : ¬ (c = b ∧ dp ≤ i ∧ i < dp + n)) : zcp M a sp b dp n c i = M c i := if_neg h
theorem zcp_eq {M : ZM} {a b : Nat} {sp dp n i : Int} (h1 : dp ≤ i) (h2 : i < dp + n) : zcp M a sp b dp n b i = M a (sp + (i - dp)) := if_pos ⟨rfl, h1, h2⟩
theorem zt_out {a : Nat} (h : 140 ≤ a) : zt a = (999, 0) := by
  unfold zt
  rw [List.getD_eq_getElem?_getD, List.getElem?_eq_none (show zt_tab.length ≤ a from h)]
  rfl
theorem zin {a : Nat} (h : zk a ≠ 999) : a < 140 := by
  by_cases h1 : a < 140
  · exact h1
  · exact absurd (by unfold zk; rw [zt_out (by omega)]) h
set_option maxRecDepth 100000 in
theorem zn_big0 : ∀ a, a < 140 → zn a ≤ 5000 := by decide +kernel
theorem zn_big (a : Nat) : zn a ≤ 5000 := by
  by_cases h1 : a < 140
  · exact zn_big0 a h1
  · unfold zn; rw [zt_out (by omega)]; exact Nat.zero_le _
theorem hp_cell {g : Nat → AC} {M : ZM} {a : Nat} (h : zk a ≠ 999) : am_cell (hp g M) a = some (zk a, zn a, zf g M a) := by
  unfold am_cell hp
  rw [if_pos (zin h)]
  dsimp only
  rw [if_neg h]
theorem hp_f {g : Nat → AC} {M : ZM} {a ci k : Nat} (h : zk a = ci) (h9 : ci ≠ 999) (hk : k < zn a) : am_f (hp g M) a ci k = some (zval (zg a k) (M a k)) := by
  unfold am_f
  rw [hp_cell (by rw [h]; exact h9)]
  dsimp only
  rw [if_pos ⟨h, hk⟩]
  unfold zf
  rw [if_pos hk]
theorem zi_neg0 {j : Int} (h0 : 0 ≤ j) (h1 : j ≤ 2147483647) : ¬ zi j < 0 := by
  rw [show (0 : Int32) = zi 0 from zi_lit 0, zi_lt (by omega) (by omega) (by omega) (by omega)]
  omega
theorem hp_a {g : Nat → AC} {M : ZM} {a kd : Nat} {j : Int} (h : zk a = kd) (h9 : kd ≠ 999) (h0 : 0 ≤ j) (h1 : j < zn a) : am_a (hp g M) kd a (zi j) = some (zval (zg a j.toNat) (M a j)) := by
  have hb := zn_big a
  unfold am_a
  rw [hp_cell (by rw [h]; exact h9)]
  dsimp only
  rw [zi_nat h0 (by omega), if_pos ⟨h, fun q => q.elim (zi_neg0 h0 (by omega)) (fun q => by omega)⟩]
  unfold zf
  rw [if_pos (by omega), Int.toNat_of_nonneg h0]
theorem zg_100 {a : Nat} (h : zk a = 100) (i : Nat) : zg a i = 0 := by unfold zg; rw [h]; rfl
theorem zg_101 {a : Nat} (h : zk a = 101) (i : Nat) : zg a i = 1 := by unfold zg; rw [h]; rfl
theorem zg_102 {a : Nat} (h : zk a = 102) (i : Nat) : zg a i = 0 := by unfold zg; rw [h]; rfl
theorem zg_103 {a : Nat} (h : zk a = 103) (i : Nat) : zg a i = 0 := by unfold zg; rw [h]; rfl
theorem zg_104 {a : Nat} (h : zk a = 104) (i : Nat) : zg a i = bif Nat.beq i 0 then 61 else 75 := by unfold zg; rw [h]; rfl
theorem hp_set {g : Nat → AC} {M : ZM} {a n : Nat} {x : Int} {v : Value} (h9 : zk a ≠ 999) (hn : n < zn a) (hv : zval (zg a n) x = v) : am_set (hp g M) a (zk a, zn a, va_up (zf g M a) n v) = hp g (zup M a n x) := by
  unfold am_set hp
  refine Prod.ext rfl (Prod.ext rfl (funext fun b => ?_))
  show va_up _ a _ b = _
  unfold va_up
  by_cases hb : b = a
  · subst hb
    rw [if_pos rfl]
    dsimp only
    rw [if_neg h9]
    refine Prod.ext rfl (Prod.ext rfl (funext fun i => ?_))
    show (if i = n then v else zf g M b i) = zf g (zup M b n x) b i
    by_cases hi : i = n
    · subst hi
      rw [if_pos rfl]
      unfold zf zup
      rw [if_pos hn, if_pos ⟨rfl, rfl⟩, hv]
    · rw [if_neg hi]
      unfold zf
      rw [zup_ne (fun q => hi (by omega))]
  · rw [if_neg hb]
    dsimp only
    by_cases h : zk b = 999
    · rw [if_pos h, if_pos h]
    · rw [if_neg h, if_neg h]
      refine Prod.ext rfl (Prod.ext rfl (funext fun i => ?_))
      show zf g M b i = zf g (zup M a n x) b i
      unfold zf
      rw [zup_ne (fun q => hb q.1)]
theorem hp_st {g : Nat → AC} {M : ZM} {a kd : Nat} {j x : Int} {v : Value} (h : zk a = kd) (h9 : kd ≠ 999) (ho : 29 ≤ a) (h0 : 0 ≤ j) (h1 : j < zn a) (hv : zval (zg a j.toNat) x = v) : am_st (hp g M) kd a (zi j) v = some (hp g (zup M a j x)) := by
  have hb := zn_big a
  unfold am_st
  rw [hp_cell (by rw [h]; exact h9)]
  dsimp only
  rw [zi_nat h0 (by omega), if_pos ⟨h, fun q => q.elim (zi_neg0 h0 (by omega)) (fun q => by omega), ho⟩]
  rw [hp_set (by rw [h]; exact h9) (by omega) hv, Int.toNat_of_nonneg h0]
theorem hp_pf {g : Nat → AC} {M : ZM} {a ci k : Nat} {x : Int} {v : Value} (h : zk a = ci) (h9 : ci ≠ 999) (ho : 29 ≤ a) (hk : k < zn a) (hv : zval (zg a k) x = v) : am_pf (hp g M) a ci k v = some (hp g (zup M a k x)) := by
  unfold am_pf
  rw [hp_cell (by rw [h]; exact h9)]
  dsimp only
  rw [if_pos ⟨h, hk, ho⟩, hp_set (by rw [h]; exact h9) hk hv]
theorem RG.up {M : ZM} (R : RG M) {a : Nat} {j x : Int} (ho : 29 ≤ a) (hx : zrt (zg a j.toNat) x) (h0 : 0 ≤ j) : RG (zup M a j x) := by
  intro b i h9 hi
  unfold zup
  by_cases hb : b = a ∧ (i : Int) = j
  · rw [if_pos hb]
    obtain ⟨rfl, rfl⟩ := hb
    exact ⟨hx, fun q => by omega⟩
  · rw [if_neg hb]
    exact R b i h9 hi
theorem hp_cp {g : Nat → AC} {M : ZM} {a b : Nat} {sp dp n : Int} (ha : zk a = 100) (hb : zk b = 100) (ho : 29 ≤ b) (s0 : 0 ≤ sp) (d0 : 0 ≤ dp) (n0 : 0 ≤ n) (s1 : sp + n ≤ zn a) (d1 : dp + n ≤ zn b) : am_copy (hp g M) a (zi sp) b (zi dp) (zi n) = some (hp g (zcp M a sp b dp n)) := by
  have hba := zn_big a
  have hbb := zn_big b
  unfold am_copy
  rw [hp_cell (by rw [ha]; decide), hp_cell (by rw [hb]; decide)]
  dsimp only
  rw [zi_nat s0 (by omega), zi_nat d0 (by omega), zi_nat n0 (by omega)]
  rw [if_pos ⟨⟨ha, hb, ho⟩, ⟨zi_neg0 s0 (by omega), zi_neg0 d0 (by omega), zi_neg0 n0 (by omega)⟩, by omega, by omega, fun i hi => by
    unfold zf
    rw [if_pos (by omega), zg_100 ha]
    rfl⟩]
  refine congrArg some (Prod.ext rfl (Prod.ext rfl (funext fun c => ?_)))
  show va_up _ b _ c = _
  unfold va_up hp
  dsimp only
  by_cases hc : c = b
  · subst hc
    rw [if_pos rfl, if_neg (by rw [hb]; decide)]
    refine Prod.ext rfl (Prod.ext rfl (funext fun i => ?_))
    show va_cpy (zf g M a) (zf g M c) sp.toNat dp.toNat n.toNat i = zf g (zcp M a sp c dp n) c i
    unfold va_cpy zf
    by_cases hi : dp.toNat ≤ i ∧ i < dp.toNat + n.toNat
    · rw [if_pos hi, if_pos (by omega), if_pos (by omega), zcp_eq (by omega) (by omega), zg_100 ha, zg_100 hb]
      rw [show ((sp.toNat + (i - dp.toNat) : Nat) : Int) = sp + ((i : Int) - dp) by omega]
    · rw [if_neg hi, zcp_ne (fun q => hi ⟨by omega, by omega⟩)]
  · rw [if_neg hc]
    by_cases h : zk c = 999
    · rw [if_pos h, if_pos h]
    · rw [if_neg h, if_neg h]
      refine Prod.ext rfl (Prod.ext rfl (funext fun i => ?_))
      show zf g M c i = zf g (zcp M a sp b dp n) c i
      unfold zf
      rw [zcp_ne (fun q => hc q.1)]
theorem RG.cp {M : ZM} (R : RG M) {a b : Nat} {sp dp n : Int} (ha : zk a = 100) (hb : zk b = 100) (ho : 29 ≤ b) (s0 : 0 ≤ sp) (s1 : sp + n ≤ zn a) : RG (zcp M a sp b dp n) := by
  intro c i h9 hi
  unfold zcp
  by_cases hc : c = b ∧ dp ≤ (i : Int) ∧ (i : Int) < dp + n
  · rw [if_pos hc]
    obtain ⟨rfl, h1, h2⟩ := hc
    refine ⟨?_, fun q => by omega⟩
    have := (R a (sp + ((i : Int) - dp)).toNat (by rw [ha]; decide) (by omega)).1
    rw [zg_100 ha, Int.toNat_of_nonneg (by omega)] at this
    rw [zg_100 hb]
    exact this
  · rw [if_neg hc]
    exact R c i h9 hi
theorem RG.at {M : ZM} (R : RG M) {a : Nat} {j : Int} (h9 : zk a ≠ 999) (h0 : 0 ≤ j) (h1 : j < zn a) : zrt (zg a j.toNat) (M a j) := by
  have := (R a j.toNat h9 (by omega)).1
  rwa [Int.toNat_of_nonneg h0] at this
theorem hp_len {g : Nat → AC} {M : ZM} {a : Nat} (h : 100 ≤ zk a ∧ zk a < 105) : am_len (hp g M) a = some (zi (zn a : Int)) := by
  unfold am_len
  rw [hp_cell (by omega)]
  dsimp only
  rw [if_pos h]
  exact congrArg some (Int32.ofInt_eq_ofNat).symm
theorem hp_isK {g : Nat → AC} {M : ZM} {a ci : Nat} (h : Nat.beq (zk a) ci = true) (h9 : ci ≠ 999) : am_isK (hp g M) a ci = true := by
  have := Nat.eq_of_beq_eq_true h
  unfold am_isK
  rw [hp_cell (by rw [this]; exact h9)]
  exact h
/-! numbers -/
def zshl (x y : Int) : Int := (zi x <<< (zi y &&& 31)).toInt
def zshr (x y : Int) : Int := (zi x >>> (zi y &&& 31)).toInt
def zand (x y : Int) : Int := (zi x &&& zi y).toInt
def zor (x y : Int) : Int := (zi x ||| zi y).toInt
def zxor (x y : Int) : Int := (zi x ^^^ zi y).toInt
def zush (x y : Int) : Int := ((zi x).toUInt32 >>> ((zi y).toUInt32 &&& Int32.toUInt32 31)).toInt32.toInt
def zi2b (x : Int) : Int := ((zi x).toInt8.toInt32).toInt
def zi2c (x : Int) : Int := (((zi x).toUInt32 % 65536).toInt32).toInt
theorem r32_toInt (x : Int32) : r32 x.toInt := ⟨Int32.le_toInt x, by have := Int32.toInt_lt x; omega⟩
theorem r64_toInt (x : Int64) : r64 x.toInt := ⟨Int64.le_toInt x, by have := Int64.toInt_lt x; omega⟩
theorem zi_div {x y : Int} (hx : r32 x) (hy : r32 y) : zi x / zi y = zi (x.tdiv y) := by
  apply Int32.toInt_inj.mp
  rw [Int32.toInt_div, zi_toInt hx.1 hx.2, zi_toInt hy.1 hy.2]
  unfold zi
  rw [Int32.toInt_ofInt]
theorem zl_div {x y : Int} (hx : r64 x) (hy : r64 y) : zl x / zl y = zl (x.tdiv y) := by
  apply Int64.toInt_inj.mp
  rw [Int64.toInt_div, zl_toInt hx.1 hx.2, zl_toInt hy.1 hy.2]
  unfold zl
  rw [Int64.toInt_ofInt]
theorem tmod_abs (x y : Int) : (x.tmod y).natAbs ≤ x.natAbs := by
  rw [Int.natAbs_tmod]
  exact Nat.mod_le _ _
theorem zi_rem {x y : Int} (hx : r32 x) (hy : r32 y) : zi x - zi x / zi y * zi y = zi (x.tmod y) := by
  rw [zi_div hx hy, zi_mul, zi_sub, Int.tmod_def, Int.mul_comm]
theorem zl_rem {x y : Int} (hx : r64 x) (hy : r64 y) : zl x - zl x / zl y * zl y = zl (x.tmod y) := by
  rw [zl_div hx hy, zl_mul, zl_sub, Int.tmod_def, Int.mul_comm]
theorem r32_tmod {x y : Int} (hx : r32 x) : r32 (x.tmod y) := by
  have := tmod_abs x y
  have h1 := Int.tmod_nonneg (a := x) y
  have h2 := fun h => Int.tmod_nonneg (a := -x) y h
  unfold r32 at *
  rw [Int.neg_tmod] at h2
  omega
theorem r64_tmod {x y : Int} (hx : r64 x) : r64 (x.tmod y) := by
  have := tmod_abs x y
  have h1 := Int.tmod_nonneg (a := x) y
  have h2 := fun h => Int.tmod_nonneg (a := -x) y h
  unfold r64 at *
  rw [Int.neg_tmod] at h2
  omega
theorem zl_cmp {x y : Int} (hx : r64 x) (hy : r64 y) : lg_cmp (zl x) (zl y) = zi (if y < x then 1 else if x = y then 0 else -1) := by
  unfold lg_cmp
  have e1 : (zl x > zl y) = (y < x) := zl_lt hy.1 hy.2 hx.1 hx.2
  have e2 : (zl x = zl y) = (x = y) := zl_inj hx.1 hx.2 hy.1 hy.2
  by_cases h1 : y < x
  · rw [if_pos (by rw [e1]; exact h1), if_pos h1]; rfl
  · rw [if_neg (by rw [e1]; exact h1), if_neg h1]
    by_cases h2 : x = y
    · rw [if_pos (by rw [e2]; exact h2), if_pos h2]; rfl
    · rw [if_neg (by rw [e2]; exact h2), if_neg h2]; rfl
theorem zl_l2i {x : Int} (hx : r32 x) : (zl x).toInt32 = zi x := by
  unfold r32 at hx
  apply Int32.toInt_inj.mp
  rw [Int64.toInt_toInt32, zl_toInt (by omega) (by omega), zi_toInt hx.1 hx.2]
  rw [Int.bmod_eq_of_le (by omega) (by omega)]
