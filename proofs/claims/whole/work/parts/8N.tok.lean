/-! TEXTS: words, and the TOKENS of the class -/
/-- the words of the class, by their number -/
def wd (a : Nat) : List Int := zold.getD (13 + a) []
theorem wd_ok : ∀ a < 13, zk a = 11 ∧ zk (13 + a) = 102 ∧ zn (13 + a) = (wd a).length ∧ ∀ i < (wd a).length, zi2c (zand ((wd a).getD i 0) 255) = (wd a).getD i 0 ∧ 0 ≤ (wd a).getD i 0 ∧ (wd a).getD i 0 ≤ 65535 := by decide +kernel
theorem wd_at {M : ZM} (R : RG M) {a i : Nat} (ha : a < 13) (hi : i < (wd a).length) : M (13 + a) i = (wd a).getD i 0 := by
  have k := wd_ok a ha
  exact (R (13 + a) i (by rw [k.2.1]; decide) (by rw [k.2.2.1]; exact hi)).2 (by omega)
theorem c_len {d a : Nat} {M : ZM} {Q : Int → ZM → Prop} (ha : a < 13) (hQ : Q ((wd a).length : Int) M) : zcI (d + 2) 253 [zA a] M Q := by
  refine zcall_rg (fun R => ?_)
  rcases (by omega : a = 0 ∨ a = 1 ∨ a = 2 ∨ a = 3 ∨ a = 4 ∨ a = 5 ∨ a = 6 ∨ a = 7 ∨ a = 8 ∨ a = 9 ∨ a = 10 ∨ a = 11 ∨ a = 12) with rfl | rfl | rfl | rfl | rfl | rfl | rfl | rfl | rfl | rfl | rfl | rfl | rfl
  · have e : M 0 1 = 0 := (R 0 1 (by decide) (by decide)).2 (by decide)
    apply vJ0_length_8abf5_at0
    apply vJ0_coder_7d493_at0
    rw [e, show zshr 4 0 = 4 by decide]
    exact ⟨fun z => by omega, fun _ => ⟨⟨by omega, by omega⟩, hQ⟩⟩
  · have e : M 1 1 = 0 := (R 1 1 (by decide) (by decide)).2 (by decide)
    apply vJ0_length_8abf5_at1
    apply vJ0_coder_7d493_at1
    rw [e, show zshr 2 0 = 2 by decide]
    exact ⟨fun z => by omega, fun _ => ⟨⟨by omega, by omega⟩, hQ⟩⟩
  · have e : M 2 1 = 0 := (R 2 1 (by decide) (by decide)).2 (by decide)
    apply vJ0_length_8abf5_at2
    apply vJ0_coder_7d493_at2
    rw [e, show zshr 4 0 = 4 by decide]
    exact ⟨fun z => by omega, fun _ => ⟨⟨by omega, by omega⟩, hQ⟩⟩
  · have e : M 3 1 = 0 := (R 3 1 (by decide) (by decide)).2 (by decide)
    apply vJ0_length_8abf5_at3
    apply vJ0_coder_7d493_at3
    rw [e, show zshr 2 0 = 2 by decide]
    exact ⟨fun z => by omega, fun _ => ⟨⟨by omega, by omega⟩, hQ⟩⟩
  · have e : M 4 1 = 0 := (R 4 1 (by decide) (by decide)).2 (by decide)
    apply vJ0_length_8abf5_at4
    apply vJ0_coder_7d493_at4
    rw [e, show zshr 3 0 = 3 by decide]
    exact ⟨fun z => by omega, fun _ => ⟨⟨by omega, by omega⟩, hQ⟩⟩
  · have e : M 5 1 = 0 := (R 5 1 (by decide) (by decide)).2 (by decide)
    apply vJ0_length_8abf5_at5
    apply vJ0_coder_7d493_at5
    rw [e, show zshr 3 0 = 3 by decide]
    exact ⟨fun z => by omega, fun _ => ⟨⟨by omega, by omega⟩, hQ⟩⟩
  · have e : M 6 1 = 0 := (R 6 1 (by decide) (by decide)).2 (by decide)
    apply vJ0_length_8abf5_at6
    apply vJ0_coder_7d493_at6
    rw [e, show zshr 4 0 = 4 by decide]
    exact ⟨fun z => by omega, fun _ => ⟨⟨by omega, by omega⟩, hQ⟩⟩
  · have e : M 7 1 = 0 := (R 7 1 (by decide) (by decide)).2 (by decide)
    apply vJ0_length_8abf5_at7
    apply vJ0_coder_7d493_at7
    rw [e, show zshr 5 0 = 5 by decide]
    exact ⟨fun z => by omega, fun _ => ⟨⟨by omega, by omega⟩, hQ⟩⟩
  · have e : M 8 1 = 0 := (R 8 1 (by decide) (by decide)).2 (by decide)
    apply vJ0_length_8abf5_at8
    apply vJ0_coder_7d493_at8
    rw [e, show zshr 3 0 = 3 by decide]
    exact ⟨fun z => by omega, fun _ => ⟨⟨by omega, by omega⟩, hQ⟩⟩
  · have e : M 9 1 = 0 := (R 9 1 (by decide) (by decide)).2 (by decide)
    apply vJ0_length_8abf5_at9
    apply vJ0_coder_7d493_at9
    rw [e, show zshr 2 0 = 2 by decide]
    exact ⟨fun z => by omega, fun _ => ⟨⟨by omega, by omega⟩, hQ⟩⟩
  · have e : M 10 1 = 0 := (R 10 1 (by decide) (by decide)).2 (by decide)
    apply vJ0_length_8abf5_at10
    apply vJ0_coder_7d493_at10
    rw [e, show zshr 3 0 = 3 by decide]
    exact ⟨fun z => by omega, fun _ => ⟨⟨by omega, by omega⟩, hQ⟩⟩
  · have e : M 11 1 = 0 := (R 11 1 (by decide) (by decide)).2 (by decide)
    apply vJ0_length_8abf5_at11
    apply vJ0_coder_7d493_at11
    rw [e, show zshr 3 0 = 3 by decide]
    exact ⟨fun z => by omega, fun _ => ⟨⟨by omega, by omega⟩, hQ⟩⟩
  · have e : M 12 1 = 0 := (R 12 1 (by decide) (by decide)).2 (by decide)
    apply vJ0_length_8abf5_at12
    apply vJ0_coder_7d493_at12
    rw [e, show zshr 2 0 = 2 by decide]
    exact ⟨fun z => by omega, fun _ => ⟨⟨by omega, by omega⟩, hQ⟩⟩
theorem c_chr {d a i : Nat} {M : ZM} {Q : Int → ZM → Prop} (ha : a < 13) (hi : i < (wd a).length) (hQ : Q ((wd a).getD i 0) M) : zcI (d + 3) 254 [zA a, zI (i : Int)] M Q := by
  refine zcall_rg (fun R => ?_)
  have b := wd_at R ha hi
  have k := (wd_ok a ha).2.2.2 i hi
  rcases (by omega : a = 0 ∨ a = 1 ∨ a = 2 ∨ a = 3 ∨ a = 4 ∨ a = 5 ∨ a = 6 ∨ a = 7 ∨ a = 8 ∨ a = 9 ∨ a = 10 ∨ a = 11 ∨ a = 12) with rfl | rfl | rfl | rfl | rfl | rfl | rfl | rfl | rfl | rfl | rfl | rfl | rfl
  · have e : M 0 1 = 0 := (R 0 1 (by decide) (by decide)).2 (by decide)
    have hi' : i < 4 := hi
    have b : M 13 i = (wd 0).getD i 0 := b
    apply vJ0_charAt_5068e_at0
    apply vJ0_isLatin1_aae02_at0
    rw [e]
    refine ⟨fun z => by omega, fun _ => ⟨fun z => absurd rfl z, fun _ => ⟨Or.inr rfl, fun z => by omega, fun _ => ?_⟩⟩⟩
    apply vJ1_charAt_3b067_at13
    refine z_ci (by omega) (by omega) ?_
    rw [b, k.1]
    exact ⟨⟨by omega, by omega⟩, ⟨k.2.1, k.2.2⟩, k.2, hQ⟩
  · have e : M 1 1 = 0 := (R 1 1 (by decide) (by decide)).2 (by decide)
    have hi' : i < 2 := hi
    have b : M 14 i = (wd 1).getD i 0 := b
    apply vJ0_charAt_5068e_at1
    apply vJ0_isLatin1_aae02_at1
    rw [e]
    refine ⟨fun z => by omega, fun _ => ⟨fun z => absurd rfl z, fun _ => ⟨Or.inr rfl, fun z => by omega, fun _ => ?_⟩⟩⟩
    apply vJ1_charAt_3b067_at14
    refine z_ci (by omega) (by omega) ?_
    rw [b, k.1]
    exact ⟨⟨by omega, by omega⟩, ⟨k.2.1, k.2.2⟩, k.2, hQ⟩
  · have e : M 2 1 = 0 := (R 2 1 (by decide) (by decide)).2 (by decide)
    have hi' : i < 4 := hi
    have b : M 15 i = (wd 2).getD i 0 := b
    apply vJ0_charAt_5068e_at2
    apply vJ0_isLatin1_aae02_at2
    rw [e]
    refine ⟨fun z => by omega, fun _ => ⟨fun z => absurd rfl z, fun _ => ⟨Or.inr rfl, fun z => by omega, fun _ => ?_⟩⟩⟩
    apply vJ1_charAt_3b067_at15
    refine z_ci (by omega) (by omega) ?_
    rw [b, k.1]
    exact ⟨⟨by omega, by omega⟩, ⟨k.2.1, k.2.2⟩, k.2, hQ⟩
  · have e : M 3 1 = 0 := (R 3 1 (by decide) (by decide)).2 (by decide)
    have hi' : i < 2 := hi
    have b : M 16 i = (wd 3).getD i 0 := b
    apply vJ0_charAt_5068e_at3
    apply vJ0_isLatin1_aae02_at3
    rw [e]
    refine ⟨fun z => by omega, fun _ => ⟨fun z => absurd rfl z, fun _ => ⟨Or.inr rfl, fun z => by omega, fun _ => ?_⟩⟩⟩
    apply vJ1_charAt_3b067_at16
    refine z_ci (by omega) (by omega) ?_
    rw [b, k.1]
    exact ⟨⟨by omega, by omega⟩, ⟨k.2.1, k.2.2⟩, k.2, hQ⟩
  · have e : M 4 1 = 0 := (R 4 1 (by decide) (by decide)).2 (by decide)
    have hi' : i < 3 := hi
    have b : M 17 i = (wd 4).getD i 0 := b
    apply vJ0_charAt_5068e_at4
    apply vJ0_isLatin1_aae02_at4
    rw [e]
    refine ⟨fun z => by omega, fun _ => ⟨fun z => absurd rfl z, fun _ => ⟨Or.inr rfl, fun z => by omega, fun _ => ?_⟩⟩⟩
    apply vJ1_charAt_3b067_at17
    refine z_ci (by omega) (by omega) ?_
    rw [b, k.1]
    exact ⟨⟨by omega, by omega⟩, ⟨k.2.1, k.2.2⟩, k.2, hQ⟩
  · have e : M 5 1 = 0 := (R 5 1 (by decide) (by decide)).2 (by decide)
    have hi' : i < 3 := hi
    have b : M 18 i = (wd 5).getD i 0 := b
    apply vJ0_charAt_5068e_at5
    apply vJ0_isLatin1_aae02_at5
    rw [e]
    refine ⟨fun z => by omega, fun _ => ⟨fun z => absurd rfl z, fun _ => ⟨Or.inr rfl, fun z => by omega, fun _ => ?_⟩⟩⟩
    apply vJ1_charAt_3b067_at18
    refine z_ci (by omega) (by omega) ?_
    rw [b, k.1]
    exact ⟨⟨by omega, by omega⟩, ⟨k.2.1, k.2.2⟩, k.2, hQ⟩
  · have e : M 6 1 = 0 := (R 6 1 (by decide) (by decide)).2 (by decide)
    have hi' : i < 4 := hi
    have b : M 19 i = (wd 6).getD i 0 := b
    apply vJ0_charAt_5068e_at6
    apply vJ0_isLatin1_aae02_at6
    rw [e]
    refine ⟨fun z => by omega, fun _ => ⟨fun z => absurd rfl z, fun _ => ⟨Or.inr rfl, fun z => by omega, fun _ => ?_⟩⟩⟩
    apply vJ1_charAt_3b067_at19
    refine z_ci (by omega) (by omega) ?_
    rw [b, k.1]
    exact ⟨⟨by omega, by omega⟩, ⟨k.2.1, k.2.2⟩, k.2, hQ⟩
  · have e : M 7 1 = 0 := (R 7 1 (by decide) (by decide)).2 (by decide)
    have hi' : i < 5 := hi
    have b : M 20 i = (wd 7).getD i 0 := b
    apply vJ0_charAt_5068e_at7
    apply vJ0_isLatin1_aae02_at7
    rw [e]
    refine ⟨fun z => by omega, fun _ => ⟨fun z => absurd rfl z, fun _ => ⟨Or.inr rfl, fun z => by omega, fun _ => ?_⟩⟩⟩
    apply vJ1_charAt_3b067_at20
    refine z_ci (by omega) (by omega) ?_
    rw [b, k.1]
    exact ⟨⟨by omega, by omega⟩, ⟨k.2.1, k.2.2⟩, k.2, hQ⟩
  · have e : M 8 1 = 0 := (R 8 1 (by decide) (by decide)).2 (by decide)
    have hi' : i < 3 := hi
    have b : M 21 i = (wd 8).getD i 0 := b
    apply vJ0_charAt_5068e_at8
    apply vJ0_isLatin1_aae02_at8
    rw [e]
    refine ⟨fun z => by omega, fun _ => ⟨fun z => absurd rfl z, fun _ => ⟨Or.inr rfl, fun z => by omega, fun _ => ?_⟩⟩⟩
    apply vJ1_charAt_3b067_at21
    refine z_ci (by omega) (by omega) ?_
    rw [b, k.1]
    exact ⟨⟨by omega, by omega⟩, ⟨k.2.1, k.2.2⟩, k.2, hQ⟩
  · have e : M 9 1 = 0 := (R 9 1 (by decide) (by decide)).2 (by decide)
    have hi' : i < 2 := hi
    have b : M 22 i = (wd 9).getD i 0 := b
    apply vJ0_charAt_5068e_at9
    apply vJ0_isLatin1_aae02_at9
    rw [e]
    refine ⟨fun z => by omega, fun _ => ⟨fun z => absurd rfl z, fun _ => ⟨Or.inr rfl, fun z => by omega, fun _ => ?_⟩⟩⟩
    apply vJ1_charAt_3b067_at22
    refine z_ci (by omega) (by omega) ?_
    rw [b, k.1]
    exact ⟨⟨by omega, by omega⟩, ⟨k.2.1, k.2.2⟩, k.2, hQ⟩
  · have e : M 10 1 = 0 := (R 10 1 (by decide) (by decide)).2 (by decide)
    have hi' : i < 3 := hi
    have b : M 23 i = (wd 10).getD i 0 := b
    apply vJ0_charAt_5068e_at10
    apply vJ0_isLatin1_aae02_at10
    rw [e]
    refine ⟨fun z => by omega, fun _ => ⟨fun z => absurd rfl z, fun _ => ⟨Or.inr rfl, fun z => by omega, fun _ => ?_⟩⟩⟩
    apply vJ1_charAt_3b067_at23
    refine z_ci (by omega) (by omega) ?_
    rw [b, k.1]
    exact ⟨⟨by omega, by omega⟩, ⟨k.2.1, k.2.2⟩, k.2, hQ⟩
  · have e : M 11 1 = 0 := (R 11 1 (by decide) (by decide)).2 (by decide)
    have hi' : i < 3 := hi
    have b : M 24 i = (wd 11).getD i 0 := b
    apply vJ0_charAt_5068e_at11
    apply vJ0_isLatin1_aae02_at11
    rw [e]
    refine ⟨fun z => by omega, fun _ => ⟨fun z => absurd rfl z, fun _ => ⟨Or.inr rfl, fun z => by omega, fun _ => ?_⟩⟩⟩
    apply vJ1_charAt_3b067_at24
    refine z_ci (by omega) (by omega) ?_
    rw [b, k.1]
    exact ⟨⟨by omega, by omega⟩, ⟨k.2.1, k.2.2⟩, k.2, hQ⟩
  · have e : M 12 1 = 0 := (R 12 1 (by decide) (by decide)).2 (by decide)
    have hi' : i < 2 := hi
    have b : M 25 i = (wd 12).getD i 0 := b
    apply vJ0_charAt_5068e_at12
    apply vJ0_isLatin1_aae02_at12
    rw [e]
    refine ⟨fun z => by omega, fun _ => ⟨fun z => absurd rfl z, fun _ => ⟨Or.inr rfl, fun z => by omega, fun _ => ?_⟩⟩⟩
    apply vJ1_charAt_3b067_at25
    refine z_ci (by omega) (by omega) ?_
    rw [b, k.1]
    exact ⟨⟨by omega, by omega⟩, ⟨k.2.1, k.2.2⟩, k.2, hQ⟩
/-- the bytes from f to e are the word w -/
abbrev WM (T : Int → Int) (f e : Int) (w : List Int) : Prop := e - f = (w.length : Int) ∧ ∀ i : Nat, i < w.length → T (f + i) = w.getD i 0
theorem c_isWord {d a : Nat} {M : ZM} {Q : Int → ZM → Prop} (ha : a < 13) (hf : 0 ≤ M 42 3) (hfe : M 42 3 ≤ M 42 4) (he : M 42 4 ≤ 400) (h1 : M 42 5 = 0 → WM (M 30) (M 42 3) (M 42 4) (wd a) → Q 1 M) (h0 : ¬ (M 42 5 = 0 ∧ WM (M 30) (M 42 3) (M 42 4) (wd a)) → Q 0 M) : zcI (d + 4) 65 [zA 42, zA a] M Q := by
  have hk := (wd_ok a ha).1
  apply vX5_isWord
  rw [hk]
  refine ⟨fun z => ⟨Or.inl rfl, h0 (fun y => z y.1)⟩, fun k0 => ⟨⟨by omega, by omega⟩, c_len ha ⟨fun hl => ?_, fun z => ⟨Or.inl rfl, h0 (fun y => z y.2.1)⟩⟩⟩⟩
  have lp : ∀ m i : Nat, i + m = (wd a).length → (∀ k : Nat, k < i → M 30 (M 42 3 + k) = (wd a).getD k 0) → wX5_isWord (d + 3) 27 [(0, zA 42), (1, zA a), (2, zI (i : Int))] M Q := by
    intro m
    induction m with
    | zero =>
      intro i hi hm
      apply vX5_isWord_27
      rw [hk]
      refine c_len ha ⟨fun _ => ⟨Or.inr rfl, h1 k0 ⟨hl, fun k hk => hm k (by omega)⟩⟩, fun z => by omega⟩
    | succ m ih =>
      intro i hi hm
      apply vX5_isWord_27
      rw [hk]
      refine c_len ha ⟨fun z => by omega, fun _ => ⟨⟨by omega, by omega⟩, ⟨by omega, by omega⟩, c_chr ha (by omega) ⟨fun e => ⟨⟨by omega, by omega⟩, ?_⟩, fun e => ⟨Or.inl rfl, h0 (fun y => e (y.2.2 i (by omega)))⟩⟩⟩⟩
      have := ih (i + 1) (by omega) (fun k hk => by
        by_cases q : k = i
        · rw [q]; exact e
        · exact hm k (by omega))
      rw [show ((i + 1 : Nat) : Int) = (i : Int) + 1 by omega] at this
      exact this
  exact lp (wd a).length 0 (by omega) (fun k hk => by omega)
/-! TOKENS -/
def lB (x : Int) : Bool := decide (97 ≤ x ∧ x ≤ 122)
def dB (x : Int) : Bool := decide (48 ≤ x ∧ x ≤ 57)
def bB (x : Int) : Bool := decide (x = 32)
def rn (p : Int → Bool) (T : Int → Int) (L : Int) : Nat → Int → Int
  | 0, k => k
  | n + 1, k => if k < L ∧ p (T k) = true then rn p T L n (k + 1) else k
/-- behind all from k on that are so -/
def rnn (p : Int → Bool) (T : Int → Int) (L k : Int) : Int := rn p T L (L - k).toNat k
theorem rnn_eq (p : Int → Bool) (T : Int → Int) (L k : Int) : rnn p T L k = if k < L ∧ p (T k) = true then rnn p T L (k + 1) else k := by
  unfold rnn
  by_cases h : k < L
  · obtain ⟨m, hm⟩ : ∃ m, (L - k).toNat = m + 1 := ⟨(L - (k + 1)).toNat, by omega⟩
    rw [hm, show (L - (k + 1)).toNat = m by omega]
    rfl
  · rw [show (L - k).toNat = 0 by omega, if_neg (fun z => h z.1)]
    rfl
theorem rnn_rg (p : Int → Bool) (T : Int → Int) (L : Int) : ∀ (n : Nat) (k : Int), (L - k).toNat = n → k ≤ rnn p T L k ∧ (k ≤ L → rnn p T L k ≤ L) := by
  intro n
  induction n with
  | zero =>
    intro k hk
    rw [rnn_eq, if_neg (by omega)]
    omega
  | succ n ih =>
    intro k hk
    rw [rnn_eq]
    split
    · have := ih (k + 1) (by omega)
      omega
    · omega
/-- the number that n digits from f on say; past a million no more is taken in -/
def vN (T : Int → Int) (f : Int) : Nat → Int
  | 0 => 0
  | n + 1 => if 1000000 < vN T f n then vN T f n else 10 * vN T f n + T (f + n) - 48
theorem vN_s (T : Int → Int) (f : Int) (n : Nat) : vN T f (n + 1) = if 1000000 < vN T f n then vN T f n else 10 * vN T f n + T (f + n) - 48 := rfl
def tE (T : Int → Int) (L f : Int) : Int := if f < L then (if lB (T f) = true then rnn lB T L f else if dB (T f) = true then rnn dB T L f else f + 1) else f
def tK (T : Int → Int) (L f : Int) : Int := if f < L then (if lB (T f) = true then 0 else if dB (T f) = true then 1 else 2) else 3
def tV (T : Int → Int) (L f : Int) : Int := if f < L then (if lB (T f) = true then 0 else if dB (T f) = true then min 9999 (vN T f (tE T L f - f).toNat) else zand (T f) 255) else 0
/-- where TOKEN i is looked for, and where it is -/
def tS (T : Int → Int) (L : Int) : Nat → Int
  | 0 => 0
  | i + 1 => tE T L (rnn bB T L (tS T L i))
def tP (T : Int → Int) (L : Int) (i : Nat) : Int := rnn bB T L (tS T L i)
theorem tE_rg (T : Int → Int) {L f : Int} : f ≤ tE T L f ∧ (f < L → f < tE T L f ∧ tE T L f ≤ L) := by
  unfold tE
  by_cases h : f < L
  · rw [if_pos h]
    have st : ∀ p : Int → Bool, p (T f) = true → f < rnn p T L f ∧ rnn p T L f ≤ L := by
      intro p hp
      rw [rnn_eq, if_pos ⟨h, hp⟩]
      have := rnn_rg p T L _ (f + 1) rfl
      omega
    by_cases l : lB (T f) = true
    · rw [if_pos l]
      have := st lB l
      omega
    · rw [if_neg l]
      by_cases d : dB (T f) = true
      · rw [if_pos d]
        have := st dB d
        omega
      · rw [if_neg d]; omega
  · rw [if_neg h]; omega
theorem tS_rg (T : Int → Int) {L : Int} (L0 : 0 ≤ L) : ∀ i : Nat, 0 ≤ tS T L i ∧ tS T L i ≤ L ∧ tS T L i ≤ tP T L i ∧ tP T L i ≤ L := by
  intro i
  induction i with
  | zero =>
    have := rnn_rg bB T L _ (tS T L 0) rfl
    have e : tS T L 0 = 0 := rfl
    unfold tP
    omega
  | succ i ih =>
    have r := tE_rg T (L := L) (f := tP T L i)
    have e : tS T L (i + 1) = tE T L (tP T L i) := rfl
    have b : tE T L (tP T L i) ≤ L := by
      by_cases h : tP T L i < L
      · exact (r.2 h).2
      · unfold tE; rw [if_neg h]; exact ih.2.2.2
    have := rnn_rg bB T L _ (tS T L (i + 1)) rfl
    unfold tP
    omega
theorem vN_nn {T : Int → Int} {L f : Int} : ∀ n : Nat, (∀ k : Nat, k < n → 48 ≤ T (f + k) ∧ T (f + k) ≤ 57) → 0 ≤ vN T f n ∧ vN T f n ≤ 10000009 := by
  intro n
  induction n with
  | zero => intro _; unfold vN; omega
  | succ n ih =>
    intro h
    have i := ih (fun k hk => h k (by omega))
    have := h n (by omega)
    unfold vN
    split <;> omega
theorem c_isL {d : Nat} {M : ZM} {x : Int} {Q : Int → ZM → Prop} (h1 : lB x = true → Q 1 M) (h0 : lB x = false → Q 0 M) : zcI (d + 1) 69 [zI x] M Q := by
  unfold lB at h1 h0
  apply vX5_isLetter
  exact ⟨fun z => ⟨Or.inl rfl, h0 (decide_eq_false (by omega))⟩, fun z => ⟨fun y => ⟨Or.inl rfl, h0 (decide_eq_false (by omega))⟩, fun y => ⟨Or.inr rfl, h1 (decide_eq_true (by omega))⟩⟩⟩
theorem c_isD {d : Nat} {M : ZM} {x : Int} {Q : Int → ZM → Prop} (h1 : dB x = true → Q 1 M) (h0 : dB x = false → Q 0 M) : zcI (d + 1) 70 [zI x] M Q := by
  unfold dB at h1 h0
  apply vX5_isDigit
  exact ⟨fun z => ⟨Or.inl rfl, h0 (decide_eq_false (by omega))⟩, fun z => ⟨fun y => ⟨Or.inl rfl, h0 (decide_eq_false (by omega))⟩, fun y => ⟨Or.inr rfl, h1 (decide_eq_true (by omega))⟩⟩⟩
theorem m_isL {d : Nat} {M : ZM} {x : Int} {Q : Int → ZM → Prop} (h1 : lB x = true → Q 1 M) (h0 : lB x = false → Q 0 M) : zcI (d + 1) 161 [zI x] M Q := by
  unfold lB at h1 h0
  apply vX10_isSmall
  exact ⟨fun z => ⟨Or.inl rfl, h0 (decide_eq_false (by omega))⟩, fun z => ⟨fun y => ⟨Or.inl rfl, h0 (decide_eq_false (by omega))⟩, fun y => ⟨Or.inr rfl, h1 (decide_eq_true (by omega))⟩⟩⟩
theorem m_isD {d : Nat} {M : ZM} {x : Int} {Q : Int → ZM → Prop} (h1 : dB x = true → Q 1 M) (h0 : dB x = false → Q 0 M) : zcI (d + 1) 162 [zI x] M Q := by
  unfold dB at h1 h0
  apply vX10_isDigit
  exact ⟨fun z => ⟨Or.inl rfl, h0 (decide_eq_false (by omega))⟩, fun z => ⟨fun y => ⟨Or.inl rfl, h0 (decide_eq_false (by omega))⟩, fun y => ⟨Or.inr rfl, h1 (decide_eq_true (by omega))⟩⟩⟩
/-- the class goes on to the next TOKEN -/
theorem c_advance {d : Nat} {M : ZM} {L k : Int} {Q : ZM → Prop} (hL : M 42 2 = L) (L4 : L ≤ 400) (hk : M 42 4 = k) (k0 : 0 ≤ k) (k1 : k ≤ L) (hQ : ∀ M', (∀ x, x ≠ 42 → M' x = M x) → (∀ j, j ≠ 3 → j ≠ 4 → j ≠ 5 → j ≠ 6 → M' 42 j = M 42 j) → M' 42 3 = rnn bB (M 30) L k → M' 42 4 = tE (M 30) L (rnn bB (M 30) L k) → M' 42 5 = tK (M 30) L (rnn bB (M 30) L k) → M' 42 6 = tV (M 30) L (rnn bB (M 30) L k) → Q M') : zcV (d + 2) 68 [zA 42] M Q := by
  apply vX5_advance
  rw [hk]
  -- behind the blanks
  have aft : ∀ f, f = rnn bB (M 30) L k → 0 ≤ f → f ≤ L → wX5_advance (d + 1) 30 [(0, zA 42), (1, zI f)] M Q := by
    intro f hf f0 f1
    rw [← hf] at hQ
    have fin : ∀ (M1 : ZM) (e : Int), (∀ x, x ≠ 42 → M1 x = M x) → (∀ j, j ≠ 3 → j ≠ 5 → j ≠ 6 → M1 42 j = M 42 j) → M1 42 3 = f → M1 42 5 = tK (M 30) L f → M1 42 6 = tV (M 30) L f → e = tE (M 30) L f → wX5_advance (d + 1) 191 [(0, zA 42), (1, zI e)] M1 Q := by
      intro M1 e r1 s1 e3 e5 e6 he
      apply vX5_advance_191
      refine zset (hQ _ (fun x hx => by rw [zup_row hx, r1 x hx]) (fun j h3 h4 h5 h6 => by rw [zup_at, if_neg h4, s1 j h3 h5 h6]) ?_ ?_ ?_ ?_)
      · rw [zup_at, if_neg (by omega)]; exact e3
      · rw [zup_eq]; exact he
      · rw [zup_at, if_neg (by omega)]; exact e5
      · rw [zup_at, if_neg (by omega)]; exact e6
    apply vX5_advance_30
    refine zset (zset ?_)
    generalize hM2 : zup (zup M 42 3 f) 42 6 0 = M2
    have r2 : ∀ x, x ≠ 42 → M2 x = M x := fun x hx => by rw [← hM2, zup_row hx, zup_row hx]
    have s2 : ∀ j, M2 42 j = if j = 6 then 0 else if j = 3 then f else M 42 j := fun j => by rw [← hM2, zup_at, zup_at]
    have l2 : M2 42 2 = L := by rw [s2, if_neg (by omega), if_neg (by omega)]; exact hL
    have t2 : M2 30 = M 30 := r2 30 (by decide)
    rw [l2, t2]
    refine ⟨fun hlt => ⟨⟨by omega, by omega⟩, c_isL (fun il => ⟨fun z => by omega, fun _ => zset ?_⟩) (fun il => ⟨fun _ => ⟨⟨by omega, by omega⟩, ?_⟩, fun z => absurd rfl z⟩)⟩, fun hge => zset ?_⟩
    · -- a word
      generalize hM3 : zup M2 42 5 0 = M3
      have r3 : ∀ x, x ≠ 42 → M3 x = M x := fun x hx => by rw [← hM3, zup_row hx, r2 x hx]
      have s3 : ∀ j, M3 42 j = if j = 5 then 0 else if j = 6 then 0 else if j = 3 then f else M 42 j := fun j => by rw [← hM3, zup_at, s2]
      have t3 : M3 30 = M 30 := r3 30 (by decide)
      have l3 : M3 42 2 = L := by rw [s3, if_neg (by omega), if_neg (by omega), if_neg (by omega)]; exact hL
      have lp : ∀ (n : Nat) (y : Int), (L - y).toNat = n → f ≤ y → y ≤ L → rnn lB (M 30) L f = rnn lB (M 30) L y → wX5_advance (d + 1) 73 [(0, zA 42), (1, zI y)] M3 Q := by
        intro n
        induction n with
        | zero =>
          intro y hy y0 y1 e
          apply vX5_advance_73
          rw [l3]
          refine ⟨fun _ => fin M3 y r3 (fun j h3 h5 h6 => by rw [s3, if_neg h5, if_neg h6, if_neg h3]) (by rw [s3, if_neg (by omega), if_neg (by omega), if_pos rfl]) (by rw [s3, if_pos rfl]; unfold tK; rw [if_pos hlt, if_pos il]) (by rw [s3, if_neg (by omega), if_pos rfl]; unfold tV; rw [if_pos hlt, if_pos il]) ?_, fun z => by omega⟩
          unfold tE
          rw [if_pos hlt, if_pos il, e, rnn_eq, if_neg (by omega)]
        | succ n ih =>
          intro y hy y0 y1 e
          apply vX5_advance_73
          rw [l3, t3]
          refine ⟨fun z => by omega, fun _ => ⟨⟨by omega, by omega⟩, c_isL (fun iy => ⟨fun z => by omega, fun _ => ⟨⟨by omega, by omega⟩, ih (y + 1) (by omega) (by omega) (by omega) ?_⟩⟩) (fun iy => ⟨fun _ => ?_, fun z => absurd rfl z⟩)⟩⟩
          · rw [e, rnn_eq, if_pos ⟨by omega, iy⟩]
          · refine fin M3 y r3 (fun j h3 h5 h6 => by rw [s3, if_neg h5, if_neg h6, if_neg h3]) (by rw [s3, if_neg (by omega), if_neg (by omega), if_pos rfl]) (by rw [s3, if_pos rfl]; unfold tK; rw [if_pos hlt, if_pos il]) (by rw [s3, if_neg (by omega), if_pos rfl]; unfold tV; rw [if_pos hlt, if_pos il]) ?_
            unfold tE
            rw [if_pos hlt, if_pos il, e, rnn_eq, if_neg (fun z => by rw [iy] at z; cases z.2)]
      exact lp _ f rfl (by omega) f1 rfl
    · rw [t2]
      refine c_isD (fun id => ⟨fun z => by omega, fun _ => zset ?_⟩) (fun id => ⟨fun _ => zset ⟨⟨by omega, by omega⟩, zset ⟨⟨by omega, by omega⟩, ?_⟩⟩, fun z => absurd rfl z⟩)
      · -- a number
        have il' : ¬ lB (M 30 f) = true := by rw [il]; decide
        have lp : ∀ (n : Nat) (y : Int) (M3 : ZM), (L - y).toNat = n → f ≤ y → y ≤ L → rnn dB (M 30) L f = rnn dB (M 30) L y → (∀ x, x ≠ 42 → M3 x = M x) → (∀ j, M3 42 j = if j = 5 then 1 else if j = 6 then min 9999 (vN (M 30) f (y - f).toNat) else if j = 3 then f else M 42 j) → (∀ k : Nat, k < (y - f).toNat → 48 ≤ M 30 (f + k) ∧ M 30 (f + k) ≤ 57) → wX5_advance (d + 1) 116 [(0, zA 42), (1, zI y)] M3 Q := by
          intro n
          induction n with
          | zero =>
            intro y M3 hy y0 y1 e r3 s3 dg
            have l3 : M3 42 2 = L := by rw [s3, if_neg (by omega), if_neg (by omega), if_neg (by omega)]; exact hL
            have ey : y = tE (M 30) L f := by
              unfold tE
              rw [if_pos hlt, if_neg il', if_pos id, e, rnn_eq, if_neg (by omega)]
            apply vX5_advance_116
            rw [l3]
            exact ⟨fun _ => fin M3 y r3 (fun j h3 h5 h6 => by rw [s3, if_neg h5, if_neg h6, if_neg h3]) (by rw [s3, if_neg (by omega), if_neg (by omega), if_pos rfl]) (by rw [s3, if_pos rfl]; unfold tK; rw [if_pos hlt, if_neg il', if_pos id]) (by rw [s3, if_neg (by omega), if_pos rfl]; unfold tV; rw [if_pos hlt, if_neg il', if_pos id, ← ey]) ey, fun z => by omega⟩
          | succ n ih =>
            intro y M3 hy y0 y1 e r3 s3 dg
            have t3 : M3 30 = M 30 := r3 30 (by decide)
            have l3 : M3 42 2 = L := by rw [s3, if_neg (by omega), if_neg (by omega), if_neg (by omega)]; exact hL
            have v3 : M3 42 6 = min 9999 (vN (M 30) f (y - f).toNat) := by rw [s3, if_neg (by omega), if_pos rfl]
            have vn := vN_nn (L := L) (T := M 30) (f := f) (y - f).toNat dg
            apply vX5_advance_116
            rw [l3, t3]
            refine ⟨fun z => by omega, fun _ => ⟨⟨by omega, by omega⟩, c_isD (fun iy => ⟨fun z => by omega, fun _ => ?_⟩) (fun iy => ⟨fun _ => ?_, fun z => absurd rfl z⟩)⟩⟩
            · have dy : 48 ≤ M 30 y ∧ M 30 y ≤ 57 := by unfold dB at iy; exact of_decide_eq_true iy
              rw [v3, t3]
              refine ⟨⟨by omega, by omega⟩, ⟨by omega, by omega⟩, ⟨by omega, by omega⟩, ⟨by omega, by omega⟩, zset ⟨⟨by omega, by omega⟩, ih (y + 1) _ (by omega) (by omega) (by omega) ?_ (fun x hx => by rw [zup_row hx, r3 x hx]) (fun j => ?_) (fun k hk => ?_)⟩⟩
              · rw [e, rnn_eq, if_pos ⟨by omega, iy⟩]
              · rw [zup_at]
                by_cases j6 : j = 6
                · subst j6
                  rw [if_pos rfl, if_neg (by omega), if_pos rfl, show (y + 1 - f).toNat = (y - f).toNat + 1 by omega]
                  rw [vN_s, show f + ((y - f).toNat : Int) = y by omega]
                  split <;> omega
                · rw [if_neg j6, s3, if_neg j6]
                  by_cases j5 : j = 5
                  · rw [if_pos j5, if_pos j5]
                  · rw [if_neg j5, if_neg j5, if_neg j6]
              · by_cases q : k < (y - f).toNat
                · exact dg k q
                · rw [show f + (k : Int) = y by omega]; exact dy
            · have ey : y = tE (M 30) L f := by
                unfold tE
                rw [if_pos hlt, if_neg il', if_pos id, e, rnn_eq, if_neg (fun z => by rw [iy] at z; cases z.2)]
              exact fin M3 y r3 (fun j h3 h5 h6 => by rw [s3, if_neg h5, if_neg h6, if_neg h3]) (by rw [s3, if_neg (by omega), if_neg (by omega), if_pos rfl]) (by rw [s3, if_pos rfl]; unfold tK; rw [if_pos hlt, if_neg il', if_pos id]) (by rw [s3, if_neg (by omega), if_pos rfl]; unfold tV; rw [if_pos hlt, if_neg il', if_pos id, ← ey]) ey
        refine lp _ f _ rfl (by omega) f1 rfl (fun x hx => by rw [zup_row hx, r2 x hx]) (fun j => ?_) (fun k hk => by omega)
        rw [zup_at, s2, show (f - f).toNat = 0 by omega]
        rfl
      · -- a sign
        have il' : ¬ lB (M 30 f) = true := by rw [il]; decide
        have id' : ¬ dB (M 30 f) = true := by rw [id]; decide
        refine fin _ (f + 1) (fun x hx => by rw [zup_row hx, zup_row hx, r2 x hx]) (fun j h3 h5 h6 => by rw [zup_at, if_neg h6, zup_at, if_neg h5, s2, if_neg h6, if_neg h3]) ?_ ?_ ?_ ?_
        · rw [zup_at, if_neg (by omega), zup_at, if_neg (by omega), s2, if_neg (by omega), if_pos rfl]
        · rw [zup_at, if_neg (by omega), zup_eq]; unfold tK; rw [if_pos hlt, if_neg il', if_neg id']
        · rw [zup_eq, zup_row (by decide), t2]; unfold tV; rw [if_pos hlt, if_neg il', if_neg id']
        · unfold tE; rw [if_pos hlt, if_neg il', if_neg id']
    · -- no more
      refine fin _ f (fun x hx => by rw [zup_row hx, r2 x hx]) (fun j h3 h5 h6 => by rw [zup_at, if_neg h5, s2, if_neg h6, if_neg h3]) ?_ ?_ ?_ ?_
      · rw [zup_at, if_neg (by omega), s2, if_neg (by omega), if_pos rfl]
      · rw [zup_eq]; unfold tK; rw [if_neg hge]
      · rw [zup_at, if_neg (by omega), s2, if_pos rfl]; unfold tV; rw [if_neg hge]
      · unfold tE; rw [if_neg hge]
  have lp : ∀ (n : Nat) (y : Int), (L - y).toNat = n → 0 ≤ y → y ≤ L → rnn bB (M 30) L k = rnn bB (M 30) L y → wX5_advance (d + 1) 5 [(0, zA 42), (1, zI y)] M Q := by
    intro n
    induction n with
    | zero =>
      intro y hy y0 y1 e
      apply vX5_advance_5
      rw [hL]
      refine ⟨fun _ => aft y ?_ y0 y1, fun z => by omega⟩
      rw [e, rnn_eq, if_neg (by omega)]
    | succ n ih =>
      intro y hy y0 y1 e
      apply vX5_advance_5
      rw [hL]
      refine ⟨fun z => by omega, fun _ => ⟨⟨by omega, by omega⟩, fun nb => aft y ?_ y0 y1, fun ib => ⟨⟨by omega, by omega⟩, ih (y + 1) (by omega) (by omega) (by omega) ?_⟩⟩⟩
      · rw [e, rnn_eq, if_neg (fun z => nb (by have := z.2; unfold bB at this; exact of_decide_eq_true this))]
      · rw [e, rnn_eq, if_pos ⟨by omega, by unfold bB; exact decide_eq_true ib⟩]
  exact lp _ k rfl k0 k1 rfl
