/-! NUMBERS: an int, a long by the whole number that it stands for -/
def zi (z : Int) : Int32 := Int32.ofInt z
def zl (z : Int) : Int64 := Int64.ofInt z
theorem zi_add (a b : Int) : zi a + zi b = zi (a + b) := (Int32.ofInt_add a b).symm
theorem zi_sub (a b : Int) : zi a - zi b = zi (a - b) := (Int32.ofInt_sub a b).symm
theorem zi_mul (a b : Int) : zi a * zi b = zi (a * b) := (Int32.ofInt_mul a b).symm
theorem zi_neg (a : Int) : -zi a = zi (-a) := (Int32.ofInt_neg a).symm
theorem zl_add (a b : Int) : zl a + zl b = zl (a + b) := (Int64.ofInt_add a b).symm
theorem zl_sub (a b : Int) : zl a - zl b = zl (a - b) := (Int64.ofInt_sub a b).symm
theorem zl_mul (a b : Int) : zl a * zl b = zl (a * b) := (Int64.ofInt_mul a b).symm
theorem zl_neg (a : Int) : -zl a = zl (-a) := (Int64.ofInt_neg a).symm
theorem zi_self (x : Int32) : zi x.toInt = x := Int32.ofInt_toInt x
theorem zl_self (x : Int64) : zl x.toInt = x := Int64.ofInt_toInt x
theorem zi_toInt {a : Int} (h1 : -2147483648 ≤ a) (h2 : a ≤ 2147483647) : (zi a).toInt = a := Int32.toInt_ofInt_of_le (by omega) (by omega)
theorem zl_toInt {a : Int} (h1 : -9223372036854775808 ≤ a) (h2 : a ≤ 9223372036854775807) : (zl a).toInt = a := Int64.toInt_ofInt_of_le (by omega) (by omega)
theorem zi_inj {a b : Int} (a1 : -2147483648 ≤ a) (a2 : a ≤ 2147483647) (b1 : -2147483648 ≤ b) (b2 : b ≤ 2147483647) : (zi a = zi b) = (a = b) := by
  apply propext
  constructor
  · intro h
    have := congrArg Int32.toInt h
    rwa [zi_toInt a1 a2, zi_toInt b1 b2] at this
  · rintro rfl; rfl
theorem zi_lt {a b : Int} (a1 : -2147483648 ≤ a) (a2 : a ≤ 2147483647) (b1 : -2147483648 ≤ b) (b2 : b ≤ 2147483647) : (zi a < zi b) = (a < b) := by
  rw [Int32.lt_iff_toInt_lt, zi_toInt a1 a2, zi_toInt b1 b2]
theorem zi_le {a b : Int} (a1 : -2147483648 ≤ a) (a2 : a ≤ 2147483647) (b1 : -2147483648 ≤ b) (b2 : b ≤ 2147483647) : (zi a ≤ zi b) = (a ≤ b) := by
  rw [Int32.le_iff_toInt_le, zi_toInt a1 a2, zi_toInt b1 b2]
theorem zl_inj {a b : Int} (a1 : -9223372036854775808 ≤ a) (a2 : a ≤ 9223372036854775807) (b1 : -9223372036854775808 ≤ b) (b2 : b ≤ 9223372036854775807) : (zl a = zl b) = (a = b) := by
  apply propext
  constructor
  · intro h
    have := congrArg Int64.toInt h
    rwa [zl_toInt a1 a2, zl_toInt b1 b2] at this
  · rintro rfl; rfl
theorem zl_lt {a b : Int} (a1 : -9223372036854775808 ≤ a) (a2 : a ≤ 9223372036854775807) (b1 : -9223372036854775808 ≤ b) (b2 : b ≤ 9223372036854775807) : (zl a < zl b) = (a < b) := by
  rw [Int64.lt_iff_toInt_lt, zl_toInt a1 a2, zl_toInt b1 b2]
theorem zl_le {a b : Int} (a1 : -9223372036854775808 ≤ a) (a2 : a ≤ 9223372036854775807) (b1 : -9223372036854775808 ≤ b) (b2 : b ≤ 9223372036854775807) : (zl a ≤ zl b) = (a ≤ b) := by
  rw [Int64.le_iff_toInt_le, zl_toInt a1 a2, zl_toInt b1 b2]
theorem zi_nat {a : Int} (h1 : 0 ≤ a) (h2 : a ≤ 2147483647) : (zi a).toNatClampNeg = a.toNat := by
  show (zi a).toInt.toNat = a.toNat
  rw [zi_toInt (by omega) h2]
theorem zi_ext (x : Int32) : ∃ a : Int, (-2147483648 ≤ a ∧ a ≤ 2147483647) ∧ x = zi a := ⟨x.toInt, ⟨Int32.le_toInt x, by have := Int32.toInt_lt x; omega⟩, (zi_self x).symm⟩
theorem zl_ext (x : Int64) : ∃ a : Int, (-9223372036854775808 ≤ a ∧ a ≤ 9223372036854775807) ∧ x = zl a := ⟨x.toInt, ⟨Int64.le_toInt x, by have := Int64.toInt_lt x; omega⟩, (zl_self x).symm⟩
theorem zi_i2l {a : Int} (h1 : -2147483648 ≤ a) (h2 : a ≤ 2147483647) : (zi a).toInt64 = zl a := by
  apply Int64.toInt_inj.mp
  rw [Int32.toInt_toInt64, zi_toInt h1 h2, zl_toInt (by omega) (by omega)]
theorem zi_lit (n : Nat) : (OfNat.ofNat n : Int32) = zi (OfNat.ofNat n) := by
  show Int32.ofNat n = Int32.ofInt (n : Int)
  exact (Int32.ofInt_eq_ofNat).symm
theorem zl_lit (n : Nat) : (OfNat.ofNat n : Int64) = zl (OfNat.ofNat n) := by
  show Int64.ofNat n = Int64.ofInt (n : Int)
  exact (Int64.ofInt_eq_ofNat).symm
/-! THE HEAP: 140 cells; what each is -/
def px_tab : List (Nat × Nat) := [(9, 16), (102, 400), (3, 11), (100, 16), (100, 16), (100, 16), (100, 16), (100, 48), (100, 48), (100, 16), (100, 16), (100, 16), (100, 400), (5, 10), (0, 3), (3, 11), (100, 16), (100, 16), (100, 16), (100, 16), (100, 48), (100, 48), (100, 16), (100, 16), (100, 16), (100, 400), (100, 4), (100, 18), (104, 2), (0, 3), (3, 11), (100, 16), (100, 16), (100, 16), (100, 16), (100, 48), (100, 48), (100, 16), (100, 16), (100, 16), (100, 400), (100, 4), (100, 18), (0, 3), (3, 11), (100, 16), (100, 16), (100, 16), (100, 16), (100, 48), (100, 48), (100, 16), (100, 16), (100, 16), (100, 400), (100, 4), (100, 18), (103, 2), (7, 4), (101, 32), (1, 11), (100, 16), (100, 18), (101, 176), (100, 176), (100, 48), (100, 11), (6, 10), (100, 6), (100, 18), (100, 16), (4, 7), (101, 352), (100, 12), (100, 6), (100, 2), (100, 2), (2, 7), (101, 384), (101, 384), (101, 16), (8, 5), (100, 11), (100, 4), (10, 49), (100, 7), (100, 984), (100, 1968), (103, 2), (102, 53), (102, 400), (100, 5), (100, 401), (100, 401), (100, 401), (100, 160), (100, 3), (100, 176), (100, 18), (101, 176), (100, 6), (100, 6), (100, 18), (101, 1936), (100, 12), (101, 352), (101, 176), (101, 18), (101, 2304), (101, 2304), (100, 11)]
def px_t (a : Nat) : Nat × Nat := px_tab.getD (a - 29) (0, 0)
/-- what a place of an object holds: 0 an int, 1 a long, t + 2 the cell t -/
def px_ob (w : Nat) : List (Nat × List Nat) := [(29, [32, 0, 0, 33, 44, 45, 59, 88, 89, 91, 98, 102, 108, 112, 114, 0]),
  (31, [0, 34, 35, 36, 37, 38, 39, 40, 41, 42, 43]),
  (42, [32, 33, 0, 0, 0, 0, 0, 0, 0, 0]),
  (43, [46, 57, 58]),
  (44, [0, 47, 48, 49, 50, 51, 52, 53, 54, 55, 56]),
  (58, [61, 72, 73]),
  (59, [0, 62, 63, 64, 65, 66, 67, 68, 69, 70, 71]),
  (72, [75, 86, 87]),
  (73, [0, 76, 77, 78, 79, 80, 81, 82, 83, 84, 85]),
  (87, [90, 0, 0, 0]),
  (89, [45, 46, 89, 92, 93, 0, 94, 95, 0, 96, 97]),
  (96, [91, 99, 100, 101, 0, 0, 0, 0, 1, 1]),
  (100, [91, 103, 104, 105, 106, 107, 1]),
  (106, [91, w + 2, 217 - w, 0, 111, 1, 1]),
  (110, [45, 89, 113, 0, 1]),
  (113, [0, 0, 116, 117, 118, 119, 120, 121, 122, 0, 0, 123, 124, 125, 0, 0, 0, 0, 126, 0, 0, 0, 0, 0, 127, 128, 0, 129, 130, 0, 131, 132, 1, 0, 0, 133, 134, 135, 136, 137, 138, 139, 140, 1, 1, 141, 0, 0, 0])]
def px_tg (w a i : Nat) : Nat := bif Nat.ble 100 (px_t a).1 then (bif Nat.beq (px_t a).1 101 then 1 else bif Nat.beq (px_t a).1 104 then (bif Nat.beq i 0 then 60 else 74) else 0) else match am_look (px_ob w) a with
  | some l => l.getD i 0
  | none => 0
def px_v (t : Nat) (v : Value) : Prop := match t with
  | 0 => ∃ x, v = .int x
  | 1 => ∃ x, v = .long x
  | t + 2 => v = .ref t
def px_ok (w : Nat) (h : AH) : Prop := (h.1 = 140 ∧ h.2.1 = 17062) ∧ (w = 107 ∨ w = 108) ∧ (∀ a, a < 28 → h.2.2 a = (am_h0 0 (fun _ => 0)).2.2 a) ∧ ∀ a, 29 ≤ a → a < 140 → (h.2.2 a).1 = (px_t a).1 ∧ (h.2.2 a).2.1 = (px_t a).2 ∧ ∀ i, i < (px_t a).2 → px_v (px_tg w a i) ((h.2.2 a).2.2 i)
/-- the number at place i of cell a -/
def px_n (h : AH) (a i : Nat) : Int := match (h.2.2 a).2.2 i with
  | .int x => x.toInt
  | .long x => x.toInt
  | _ => 0
def px_set (h : AH) (a i : Nat) (v : Value) : AH := am_set h a ((h.2.2 a).1, (h.2.2 a).2.1, va_up (h.2.2 a).2.2 i v)
def px_wi (h : AH) (a i : Nat) (x : Int) : AH := px_set h a i (.int (zi x))
def px_wl (h : AH) (a i : Nat) (x : Int) : AH := px_set h a i (.long (zl x))
section Px
variable {w : Nat} {h : AH}
theorem px_cell (H : px_ok w h) (a : Nat) (ha : a < 140) : am_cell h a = some (h.2.2 a) := by
  unfold am_cell
  rw [if_pos (by rw [H.1.1]; exact ha)]
theorem px_n_i (h : AH) {a i : Nat} {x : Int32} (e : (h.2.2 a).2.2 i = .int x) : zi (px_n h a i) = x := by
  unfold px_n
  rw [e]
  exact zi_self x
theorem px_n_l (h : AH) {a i : Nat} {x : Int64} (e : (h.2.2 a).2.2 i = .long x) : zl (px_n h a i) = x := by
  unfold px_n
  rw [e]
  exact zl_self x
theorem px_f (H : px_ok w h) (a ci k : Nat) {n : Nat} (ht : px_t a = (ci, n)) (ha : 29 ≤ a ∧ a < 140) (hk : k < n) : am_f h a ci k = some ((h.2.2 a).2.2 k) ∧ px_v (px_tg w a k) ((h.2.2 a).2.2 k) := by
  obtain ⟨h1, h2, h3⟩ := H.2.2.2 a ha.1 ha.2
  rw [ht] at h1 h2 h3
  constructor
  · unfold am_f
    rw [px_cell H a ha.2]
    generalize h.2.2 a = cc at h1 h2 ⊢
    obtain ⟨c, m, f⟩ := cc
    dsimp only at h1 h2 ⊢
    rw [if_pos ⟨h1, by rw [h2]; exact hk⟩]
  · exact h3 k hk
/-- what a program must decide of a field: its cell, its class, its place, its kind -/
def px_cf (a ci k t : Nat) : Bool := Nat.ble 29 a && (Nat.blt a 140 && (Nat.beq (px_t a).1 ci && (Nat.blt k (px_t a).2 && (Nat.beq (px_tg 107 a k) t && Nat.beq (px_tg 108 a k) t))))
theorem px_cf_spec {a ci k t : Nat} (hc : px_cf a ci k t = true) (H : px_ok w h) : am_f h a ci k = some ((h.2.2 a).2.2 k) ∧ px_v t ((h.2.2 a).2.2 k) := by
  simp only [px_cf, Bool.and_eq_true] at hc
  obtain ⟨c1, c2, c3, c4, c5, c6⟩ := hc
  have c1 := Nat.le_of_ble_eq_true c1
  have c2 : a < 140 := Nat.le_of_ble_eq_true c2
  have c3 := Nat.eq_of_beq_eq_true c3
  have c4 : k < (px_t a).2 := Nat.le_of_ble_eq_true c4
  have := px_f H a ci k (n := (px_t a).2) (by rw [← c3]) ⟨c1, c2⟩ c4
  have e : px_tg w a k = t := by
    rcases H.2.1 with rfl | rfl
    · exact Nat.eq_of_beq_eq_true c5
    · exact Nat.eq_of_beq_eq_true c6
  rw [e] at this
  exact this
theorem px_fI (H : px_ok w h) (a ci k : Nat) (hc : px_cf a ci k 0 = true) : am_fI h a ci k = some (zi (px_n h a k)) := by
  obtain ⟨h1, x, h2⟩ := px_cf_spec hc H
  unfold am_fI
  rw [h1, px_n_i h h2, h2]
theorem px_fL (H : px_ok w h) (a ci k : Nat) (hc : px_cf a ci k 1 = true) : am_fL h a ci k = some (zl (px_n h a k)) := by
  obtain ⟨h1, x, h2⟩ := px_cf_spec hc H
  unfold am_fL
  rw [h1, px_n_l h h2, h2]
theorem px_fR (H : px_ok w h) (a ci k t : Nat) (hc : px_cf a ci k (t + 2) = true) : am_fR h a ci k = some t := by
  obtain ⟨h1, h2⟩ := px_cf_spec hc H
  have h2 : (h.2.2 a).2.2 k = .ref t := h2
  unfold am_fR
  rw [h1, h2]
theorem px_isK (H : px_ok w h) (a ci : Nat) (hc : (Nat.ble 29 a && (Nat.blt a 140 && Nat.beq (px_t a).1 ci)) = true) : am_isK h a ci = true := by
  simp only [Bool.and_eq_true] at hc
  obtain ⟨c1, c2, c3⟩ := hc
  have c2 : a < 140 := Nat.le_of_ble_eq_true c2
  unfold am_isK
  rw [px_cell H a c2]
  have := (H.2.2.2 a (Nat.le_of_ble_eq_true c1) c2).1
  dsimp only
  rw [this]
  exact c3
/-- what a program must decide of a row of numbers: its cell, its kind, its length -/
def px_ca (a kd n : Nat) : Bool := Nat.ble 29 a && (Nat.blt a 140 && (Nat.beq (px_t a).1 kd && (Nat.beq (px_t a).2 n && (Nat.ble 100 kd && Nat.ble kd 103))))
theorem px_ca_spec {a kd n : Nat} (hc : px_ca a kd n = true) : 29 ≤ a ∧ a < 140 ∧ px_t a = (kd, n) ∧ 100 ≤ kd ∧ kd ≤ 103 := by
  simp only [px_ca, Bool.and_eq_true] at hc
  obtain ⟨c1, c2, c3, c4, c5, c6⟩ := hc
  exact ⟨Nat.le_of_ble_eq_true c1, Nat.le_of_ble_eq_true c2, Prod.ext (Nat.eq_of_beq_eq_true c3) (Nat.eq_of_beq_eq_true c4), Nat.le_of_ble_eq_true c5, Nat.le_of_ble_eq_true c6⟩
theorem px_a (H : px_ok w h) (a kd n : Nat) (hc : px_ca a kd n = true) {z : Int} (h0 : 0 ≤ z) (h1 : z < n) (hn : n ≤ 2147483647) : am_a h kd a (zi z) = some ((h.2.2 a).2.2 z.toNat) ∧ px_v (if kd = 101 then 1 else 0) ((h.2.2 a).2.2 z.toNat) := by
  obtain ⟨c1, c2, c3, c4, c5⟩ := px_ca_spec hc
  obtain ⟨g1, g2, g3⟩ := H.2.2.2 a c1 c2
  have e : (zi z).toNatClampNeg = z.toNat := zi_nat h0 (by omega)
  have hneg : ¬ zi z < 0 := by
    rw [show (0 : Int32) = zi 0 from zi_lit 0, zi_lt (by omega) (by omega) (by omega) (by omega)]
    omega
  constructor
  · unfold am_a
    rw [px_cell H a c2]
    rw [c3] at g1 g2
    generalize h.2.2 a = cc at g1 g2 ⊢
    obtain ⟨c, m, f⟩ := cc
    dsimp only at g1 g2 ⊢
    rw [e, if_pos ⟨g1, fun q => q.elim hneg (fun q => by omega)⟩]
  · have := g3 z.toNat (by rw [c3]; show z.toNat < n; omega)
    have e2 : px_tg w a z.toNat = if kd = 101 then 1 else 0 := by
      unfold px_tg
      rw [c3]
      have : Nat.ble 100 kd = true := Nat.ble_eq_true_of_le c4
      dsimp only
      rw [this]
      by_cases h101 : kd = 101
      · subst h101; rfl
      · rw [if_neg h101]
        have b1 : Nat.beq kd 101 = false := by
          cases hb : Nat.beq kd 101 with
          | false => rfl
          | true => exact absurd (Nat.eq_of_beq_eq_true hb) h101
        have b2 : Nat.beq kd 104 = false := by
          cases hb : Nat.beq kd 104 with
          | false => rfl
          | true => have := Nat.eq_of_beq_eq_true hb; omega
        rw [b1, b2]
        rfl
    rw [e2] at this
    exact this
theorem px_aI (H : px_ok w h) (a n : Nat) (hc : px_ca a 100 n = true) {z : Int} (h0 : 0 ≤ z) (h1 : z < n) (hn : n ≤ 2147483647) : am_aI h a (zi z) = some (zi (px_n h a z.toNat)) := by
  obtain ⟨g1, g2⟩ := px_a H a 100 n hc h0 h1 hn
  obtain ⟨x, g2⟩ : ∃ x, (h.2.2 a).2.2 z.toNat = .int x := g2
  unfold am_aI
  rw [g1, px_n_i h g2, g2]
theorem px_aL (H : px_ok w h) (a n : Nat) (hc : px_ca a 101 n = true) {z : Int} (h0 : 0 ≤ z) (h1 : z < n) (hn : n ≤ 2147483647) : am_aL h a (zi z) = some (zl (px_n h a z.toNat)) := by
  obtain ⟨g1, g2⟩ := px_a H a 101 n hc h0 h1 hn
  obtain ⟨x, g2⟩ : ∃ x, (h.2.2 a).2.2 z.toNat = .long x := g2
  unfold am_aL
  rw [g1, px_n_l h g2, g2]
theorem px_aB (H : px_ok w h) (a n : Nat) (hc : px_ca a 102 n = true) {z : Int} (h0 : 0 ≤ z) (h1 : z < n) (hn : n ≤ 2147483647) : am_aB h a (zi z) = some (zi (px_n h a z.toNat)) := by
  obtain ⟨g1, g2⟩ := px_a H a 102 n hc h0 h1 hn
  obtain ⟨x, g2⟩ : ∃ x, (h.2.2 a).2.2 z.toNat = .int x := g2
  unfold am_aB
  rw [g1, px_n_i h g2, g2]
theorem px_aZ (H : px_ok w h) (a n : Nat) (hc : px_ca a 103 n = true) {z : Int} (h0 : 0 ≤ z) (h1 : z < n) (hn : n ≤ 2147483647) : am_aB h a (zi z) = some (zi (px_n h a z.toNat)) := by
  obtain ⟨g1, g2⟩ := px_a H a 103 n hc h0 h1 hn
  obtain ⟨x, g2⟩ : ∃ x, (h.2.2 a).2.2 z.toNat = .int x := g2
  have g0 : am_a h 102 a (zi z) = none := by
    obtain ⟨c1, c2, c3, c4, c5⟩ := px_ca_spec hc
    have g1 := (H.2.2.2 a c1 c2).1
    rw [c3] at g1
    unfold am_a
    rw [px_cell H a c2]
    generalize h.2.2 a = cc at g1 ⊢
    obtain ⟨c, m, f⟩ := cc
    dsimp only at g1 ⊢
    rw [if_neg]
    rintro ⟨q, -⟩
    rw [g1] at q
    cases q
  unfold am_aB
  rw [g0, g1, px_n_i h g2, g2]
/-- a cell after a write -/
theorem px_set_at (h : AH) (a i : Nat) (v : Value) (b : Nat) : (px_set h a i v).2.2 b = if b = a then ((h.2.2 a).1, (h.2.2 a).2.1, va_up (h.2.2 a).2.2 i v) else h.2.2 b := rfl
theorem px_set_ok (H : px_ok w h) {a i : Nat} {v : Value} (ha : 29 ≤ a) (hv : a < 140 → i < (px_t a).2 → px_v (px_tg w a i) v) : px_ok w (px_set h a i v) := by
  obtain ⟨h1, h2, h3, h4⟩ := H
  refine ⟨h1, h2, fun b hb => ?_, fun b hb1 hb2 => ?_⟩
  · rw [px_set_at, if_neg (by omega)]
    exact h3 b hb
  · rw [px_set_at]
    by_cases hab : b = a
    · subst hab
      rw [if_pos rfl]
      obtain ⟨g1, g2, g3⟩ := h4 b hb1 hb2
      refine ⟨g1, g2, fun j hj => ?_⟩
      show px_v _ (va_up (h.2.2 b).2.2 i v j)
      unfold va_up
      by_cases hij : j = i
      · subst hij
        rw [if_pos rfl]
        exact hv hb2 hj
      · rw [if_neg hij]
        exact g3 j hj
    · rw [if_neg hab]
      exact h4 b hb1 hb2
theorem px_n_wi {a i b j : Nat} {x : Int} (h1 : -2147483648 ≤ x) (h2 : x ≤ 2147483647) : px_n (px_wi h a i x) b j = if b = a ∧ j = i then x else px_n h b j := by
  unfold px_n px_wi
  rw [px_set_at]
  by_cases hb : b = a
  · subst hb
    rw [if_pos rfl]
    dsimp only [va_up]
    by_cases hj : j = i
    · subst hj
      rw [if_pos rfl, if_pos ⟨rfl, rfl⟩]
      exact zi_toInt h1 h2
    · rw [if_neg hj, if_neg (fun q => hj q.2)]
  · rw [if_neg hb, if_neg (fun q => hb q.1)]
theorem px_n_wl {a i b j : Nat} {x : Int} (h1 : -9223372036854775808 ≤ x) (h2 : x ≤ 9223372036854775807) : px_n (px_wl h a i x) b j = if b = a ∧ j = i then x else px_n h b j := by
  unfold px_n px_wl
  rw [px_set_at]
  by_cases hb : b = a
  · subst hb
    rw [if_pos rfl]
    dsimp only [va_up]
    by_cases hj : j = i
    · subst hj
      rw [if_pos rfl, if_pos ⟨rfl, rfl⟩]
      exact zl_toInt h1 h2
    · rw [if_neg hj, if_neg (fun q => hj q.2)]
  · rw [if_neg hb, if_neg (fun q => hb q.1)]
theorem px_st (H : px_ok w h) (a kd n : Nat) (hc : px_ca a kd n = true) {z : Int} (h0 : 0 ≤ z) (h1 : z < n) (hn : n ≤ 2147483647) (v : Value) : am_st h kd a (zi z) v = some (px_set h a z.toNat v) := by
  obtain ⟨c1, c2, c3, c4, c5⟩ := px_ca_spec hc
  obtain ⟨g1, g2, g3⟩ := H.2.2.2 a c1 c2
  rw [c3] at g1 g2
  have e : (zi z).toNatClampNeg = z.toNat := zi_nat h0 (by omega)
  have hneg : ¬ zi z < 0 := by
    rw [show (0 : Int32) = zi 0 from zi_lit 0, zi_lt (by omega) (by omega) (by omega) (by omega)]
    omega
  unfold am_st px_set
  rw [px_cell H a c2]
  generalize h.2.2 a = cc at g1 g2 ⊢
  obtain ⟨c, m, f⟩ := cc
  dsimp only at g1 g2 ⊢
  rw [e, if_pos ⟨g1, fun q => q.elim hneg (fun q => by omega), c1⟩]
theorem px_tg_row {a kd n : Nat} (hc : px_ca a kd n = true) (i : Nat) : px_tg w a i = if kd = 101 then 1 else 0 := by
  obtain ⟨c1, c2, c3, c4, c5⟩ := px_ca_spec hc
  unfold px_tg
  rw [c3]
  have : Nat.ble 100 kd = true := Nat.ble_eq_true_of_le c4
  dsimp only
  rw [this]
  rcases (by omega : kd = 100 ∨ kd = 101 ∨ kd = 102 ∨ kd = 103) with rfl | rfl | rfl | rfl <;> rfl
theorem px_stI (H : px_ok w h) (a n : Nat) (hc : px_ca a 100 n = true) {z x : Int} (h0 : 0 ≤ z) (h1 : z < n) (hn : n ≤ 2147483647) : am_st h 100 a (zi z) (.int (zi x)) = some (px_wi h a z.toNat x) := px_st H a 100 n hc h0 h1 hn _
theorem px_stL (H : px_ok w h) (a n : Nat) (hc : px_ca a 101 n = true) {z x : Int} (h0 : 0 ≤ z) (h1 : z < n) (hn : n ≤ 2147483647) : am_st h 101 a (zi z) (.long (zl x)) = some (px_wl h a z.toNat x) := px_st H a 101 n hc h0 h1 hn _
theorem px_wi_row (H : px_ok w h) (a : Nat) {kd n : Nat} (hc : px_ca a kd n = true) (hk : kd ≠ 101) (i : Nat) (x : Int) : px_ok w (px_wi h a i x) := px_set_ok H (px_ca_spec hc).1 (fun _ _ => by rw [px_tg_row hc, if_neg hk]; exact ⟨_, rfl⟩)
theorem px_wl_row (H : px_ok w h) (a : Nat) {n : Nat} (hc : px_ca a 101 n = true) (i : Nat) (x : Int) : px_ok w (px_wl h a i x) := px_set_ok H (px_ca_spec hc).1 (fun _ _ => by rw [px_tg_row hc, if_pos rfl]; exact ⟨_, rfl⟩)
theorem px_pf (H : px_ok w h) {a ci k t : Nat} (hc : px_cf a ci k t = true) (v : Value) : am_pf h a ci k v = some (px_set h a k v) := by
  simp only [px_cf, Bool.and_eq_true] at hc
  obtain ⟨c1, c2, c3, c4, c5, c6⟩ := hc
  have c1 := Nat.le_of_ble_eq_true c1
  have c2 : a < 140 := Nat.le_of_ble_eq_true c2
  have c3 := Nat.eq_of_beq_eq_true c3
  have c4 : k < (px_t a).2 := Nat.le_of_ble_eq_true c4
  obtain ⟨g1, g2, g3⟩ := H.2.2.2 a c1 c2
  unfold am_pf px_set
  rw [px_cell H a c2]
  rw [c3] at g1
  rw [← g2] at c4
  generalize h.2.2 a = cc at g1 c4 ⊢
  obtain ⟨c, m, f⟩ := cc
  dsimp only at g1 c4 ⊢
  rw [if_pos ⟨g1, c4, c1⟩]
theorem px_cf_tg {a ci k t : Nat} (hc : px_cf a ci k t = true) (H : px_ok w h) : px_tg w a k = t ∧ 29 ≤ a := by
  simp only [px_cf, Bool.and_eq_true] at hc
  obtain ⟨c1, c2, c3, c4, c5, c6⟩ := hc
  refine ⟨?_, Nat.le_of_ble_eq_true c1⟩
  rcases H.2.1 with rfl | rfl
  · exact Nat.eq_of_beq_eq_true c5
  · exact Nat.eq_of_beq_eq_true c6
theorem px_pI (H : px_ok w h) (a ci k : Nat) (hc : px_cf a ci k 0 = true) (x : Int) : am_pf h a ci k (.int (zi x)) = some (px_wi h a k x) := px_pf H hc _
theorem px_pL (H : px_ok w h) (a ci k : Nat) (hc : px_cf a ci k 1 = true) (x : Int) : am_pf h a ci k (.long (zl x)) = some (px_wl h a k x) := px_pf H hc _
theorem px_pZ (H : px_ok w h) (a ci k : Nat) (hc : px_cf a ci k 0 = true) {x : Int} (hx : x = 0 ∨ x = 1) : am_pz h a ci k (zi x) = some (px_wi h a k x) := by
  unfold am_pz
  rw [if_pos (by rcases hx with rfl | rfl <;> decide)]
  exact px_pf H hc _
theorem px_wi_fld (H : px_ok w h) (a : Nat) {ci k : Nat} (hc : px_cf a ci k 0 = true) (x : Int) : px_ok w (px_wi h a k x) := px_set_ok H (px_cf_tg hc H).2 (fun _ _ => by rw [(px_cf_tg hc H).1]; exact ⟨_, rfl⟩)
theorem px_wl_fld (H : px_ok w h) (a : Nat) {ci k : Nat} (hc : px_cf a ci k 1 = true) (x : Int) : px_ok w (px_wl h a k x) := px_set_ok H (px_cf_tg hc H).2 (fun _ _ => by rw [(px_cf_tg hc H).1]; exact ⟨_, rfl⟩)
/-- every number of an int's place is an int's -/
theorem px_n_rg (H : px_ok w h) {a i : Nat} (ha : 29 ≤ a ∧ a < 140) (hi : i < (px_t a).2) (ht : px_tg w a i = 0) : -2147483648 ≤ px_n h a i ∧ px_n h a i ≤ 2147483647 := by
  obtain ⟨-, -, g3⟩ := H.2.2.2 a ha.1 ha.2
  have := g3 i hi
  rw [ht] at this
  obtain ⟨x, hx⟩ := this
  unfold px_n
  rw [hx]
  have h1 := Int32.le_toInt x
  have h2 := Int32.toInt_lt x
  dsimp only
  omega
end Px
