/-! one instruction that neither jumps nor calls -/
abbrev ZK : Type := ZL → List ZV → ZM → Prop
def zu : Value → Option ZV
  | .int x => some (zI x.toInt)
  | .long x => some (zJ x.toInt)
  | .ref a => some (zA a)
  | _ => none
def z_const (v : Value) (l : ZL) (st : List ZV) (M : ZM) (k : ZK) : Prop := match zu v with
  | some w => k l (w :: st) M
  | none => False
def z_s1 (l : ZL) (i : Nat) (v : ZV) : ZL := (i, v) :: l.filter (fun q => !(q.1 == i) && !(q.1 + 1 == i && (zv q.2).category == 2))
def z_s2 (l : ZL) (i : Nat) (v : ZV) : ZL := (i, v) :: l.filter (fun q => !(q.1 == i) && (!(q.1 == i + 1) && !(q.1 + 1 == i && (zv q.2).category == 2)))
def z_ldI (l : ZL) (n : Nat) (st : List ZV) (M : ZM) (k : ZK) : Prop := match am_look l n with
  | some (.inl x) => k l (.inl x :: st) M
  | _ => False
def z_ldL (l : ZL) (n : Nat) (st : List ZV) (M : ZM) (k : ZK) : Prop := match am_look l n with
  | some (.inr (.inl x)) => k l (.inr (.inl x) :: st) M
  | _ => False
def z_ldR (l : ZL) (n : Nat) (st : List ZV) (M : ZM) (k : ZK) : Prop := match am_look l n with
  | some (.inr (.inr x)) => k l (.inr (.inr x) :: st) M
  | _ => False
def z_gty (ty : FieldType) (t a f : Nat) (l : ZL) (st : List ZV) (M : ZM) (k : ZK) : Prop := match ty, t with
  | .int, 0 => k l (zI (M a f) :: st) M
  | .boolean, 0 => k l (zI (M a f) :: st) M
  | .byte, 0 => k l (zI (M a f) :: st) M
  | .long, 1 => k l (zJ (M a f) :: st) M
  | .object _, 2 => k l (zA (M a f).toNat :: st) M
  | .object _, t + 3 => k l (zA t :: st) M
  | .array _, 2 => k l (zA (M a f).toNat :: st) M
  | .array _, t + 3 => k l (zA t :: st) M
  | _, _ => False
def z_getf (ty : FieldType) (a ci f : Nat) (l : ZL) (st : List ZV) (M : ZM) (k : ZK) : Prop := bif Nat.beq (zk a) ci && (Nat.blt f (zn a) && Nat.ble ci 900) then z_gty ty (zg a f) a f l st M k else False
def z_pty (ty : FieldType) (t a f : Nat) (v : ZV) (l : ZL) (st : List ZV) (M : ZM) (k : ZK) : Prop := match ty, t, v with
  | .int, 0, .inl x => ∀ M', M' = zup M a f x → k l st M'
  | .boolean, 0, .inl x => (x = 0 ∨ x = 1) ∧ ∀ M', M' = zup M a f x → k l st M'
  | .long, 1, .inr (.inl x) => ∀ M', M' = zup M a f x → k l st M'
  | .array _, 2, .inr (.inr b) => (b = 107 ∨ b = 108) ∧ ∀ M', M' = zup M a f b → k l st M'
  | _, _, _ => False
def z_putf (ty : FieldType) (a ci f : Nat) (v : ZV) (l : ZL) (st : List ZV) (M : ZM) (k : ZK) : Prop := bif Nat.beq (zk a) ci && (Nat.blt f (zn a) && (Nat.ble ci 900 && Nat.ble 29 a)) then z_pty ty (zg a f) a f v l st M k else False
def z_stp (i : Instr) (r1 r2 : Nat) (v : Value) (l : ZL) (st : List ZV) (M : ZM) (k : ZK) : Prop :=
  match i with
  | .iconst _ => z_const v l st M k
  | .bipush _ => z_const v l st M k
  | .sipush _ => z_const v l st M k
  | .lconst _ => z_const v l st M k
  | .ldc _ => z_const v l st M k
  | .ldc_w _ => z_const v l st M k
  | .ldc2_w _ => z_const v l st M k
  | .getstatic _ => z_const v l st M k
  | .iload n => z_ldI l n st M k
  | .iload_n n => z_ldI l n.val st M k
  | .lload n => z_ldL l n st M k
  | .lload_n n => z_ldL l n.val st M k
  | .aload n => z_ldR l n st M k
  | .aload_n n => z_ldR l n.val st M k
  | .istore n => match st with
    | .inl x :: st => k (z_s1 l n (.inl x)) st M
    | _ => False
  | .istore_n n => match st with
    | .inl x :: st => k (z_s1 l n.val (.inl x)) st M
    | _ => False
  | .lstore n => match st with
    | .inr (.inl x) :: st => k (z_s2 l n (.inr (.inl x))) st M
    | _ => False
  | .lstore_n n => match st with
    | .inr (.inl x) :: st => k (z_s2 l n.val (.inr (.inl x))) st M
    | _ => False
  | .astore n => match st with
    | .inr (.inr x) :: st => k (z_s1 l n (.inr (.inr x))) st M
    | _ => False
  | .astore_n n => match st with
    | .inr (.inr x) :: st => k (z_s1 l n.val (.inr (.inr x))) st M
    | _ => False
  | .iinc n _ => match am_look l n, v with
    | some (.inl x), .int y => r32 (x + y.toInt) ∧ k (z_s1 l n (zI (x + y.toInt))) st M
    | _, _ => False
  | .iadd => match st with
    | .inl y :: .inl x :: st => r32 (x + y) ∧ k l (zI (x + y) :: st) M
    | _ => False
  | .isub => match st with
    | .inl y :: .inl x :: st => r32 (x - y) ∧ k l (zI (x - y) :: st) M
    | _ => False
  | .imul => match st with
    | .inl y :: .inl x :: st => r32 (x * y) ∧ k l (zI (x * y) :: st) M
    | _ => False
  | .ladd => match st with
    | .inr (.inl y) :: .inr (.inl x) :: st => r64 (x + y) ∧ k l (zJ (x + y) :: st) M
    | _ => False
  | .lsub => match st with
    | .inr (.inl y) :: .inr (.inl x) :: st => r64 (x - y) ∧ k l (zJ (x - y) :: st) M
    | _ => False
  | .lmul => match st with
    | .inr (.inl y) :: .inr (.inl x) :: st => r64 (x * y) ∧ k l (zJ (x * y) :: st) M
    | _ => False
  | .iand => match st with
    | .inl y :: .inl x :: st => k l (zI (zand x y) :: st) M
    | _ => False
  | .ior => match st with
    | .inl y :: .inl x :: st => k l (zI (zor x y) :: st) M
    | _ => False
  | .ixor => match st with
    | .inl y :: .inl x :: st => k l (zI (zxor x y) :: st) M
    | _ => False
  | .ishl => match st with
    | .inl y :: .inl x :: st => k l (zI (zshl x y) :: st) M
    | _ => False
  | .ishr => match st with
    | .inl y :: .inl x :: st => k l (zI (zshr x y) :: st) M
    | _ => False
  | .iushr => match st with
    | .inl y :: .inl x :: st => k l (zI (zush x y) :: st) M
    | _ => False
  | .idiv => match st with
    | .inl y :: .inl x :: st => ¬ y = 0 ∧ r32 (x.tdiv y) ∧ k l (zI (x.tdiv y) :: st) M
    | _ => False
  | .irem => match st with
    | .inl y :: .inl x :: st => ¬ y = 0 ∧ k l (zI (x.tmod y) :: st) M
    | _ => False
  | .ldiv => match st with
    | .inr (.inl y) :: .inr (.inl x) :: st => ¬ y = 0 ∧ r64 (x.tdiv y) ∧ k l (zJ (x.tdiv y) :: st) M
    | _ => False
  | .lrem => match st with
    | .inr (.inl y) :: .inr (.inl x) :: st => ¬ y = 0 ∧ k l (zJ (x.tmod y) :: st) M
    | _ => False
  | .ineg => match st with
    | .inl x :: st => r32 (-x) ∧ k l (zI (-x) :: st) M
    | _ => False
  | .lneg => match st with
    | .inr (.inl x) :: st => r64 (-x) ∧ k l (zJ (-x) :: st) M
    | _ => False
  | .lcmp => match st with
    | .inr (.inl y) :: .inr (.inl x) :: st => k l (zI (if y < x then 1 else if x = y then 0 else -1) :: st) M
    | _ => False
  | .i2l => match st with
    | .inl x :: st => k l (zJ x :: st) M
    | _ => False
  | .l2i => match st with
    | .inr (.inl x) :: st => r32 x ∧ k l (zI x :: st) M
    | _ => False
  | .i2b => match st with
    | .inl x :: st => k l (zI (zi2b x) :: st) M
    | _ => False
  | .i2c => match st with
    | .inl x :: st => k l (zI (zi2c x) :: st) M
    | _ => False
  | .dup => match st with
    | .inl x :: st => k l (.inl x :: .inl x :: st) M
    | .inr (.inr x) :: st => k l (.inr (.inr x) :: .inr (.inr x) :: st) M
    | _ => False
  | .dup_x1 => match st with
    | .inl x :: .inr (.inr y) :: st => k l (.inl x :: .inr (.inr y) :: .inl x :: st) M
    | _ => False
  | .dup2 => match st with
    | .inl x :: .inr (.inr y) :: st => k l (.inl x :: .inr (.inr y) :: .inl x :: .inr (.inr y) :: st) M
    | .inr (.inl x) :: st => k l (.inr (.inl x) :: .inr (.inl x) :: st) M
    | _ => False
  | .pop => match st with
    | .inl _ :: st => k l st M
    | _ => False
  | .pop2 => match st with
    | .inr (.inl _) :: st => k l st M
    | _ => False
  | .arraylength => match st with
    | .inr (.inr a) :: st => bif Nat.ble 100 (zk a) && Nat.blt (zk a) 105 then k l (zI (zn a : Int) :: st) M else False
    | _ => False
  | .iaload => match st with
    | .inl j :: .inr (.inr a) :: st => bif Nat.beq (zk a) 100 then (0 ≤ j ∧ j < (zn a : Int)) ∧ k l (zI (M a j) :: st) M else False
    | _ => False
  | .laload => match st with
    | .inl j :: .inr (.inr a) :: st => bif Nat.beq (zk a) 101 then (0 ≤ j ∧ j < (zn a : Int)) ∧ k l (zJ (M a j) :: st) M else False
    | _ => False
  | .baload => match st with
    | .inl j :: .inr (.inr a) :: st => bif Nat.beq (zk a) 102 || Nat.beq (zk a) 103 then (0 ≤ j ∧ j < (zn a : Int)) ∧ k l (zI (M a j) :: st) M else False
    | _ => False
  | .aaload => match st with
    | .inl j :: .inr (.inr a) :: st => bif Nat.beq (zk a) 104 then (0 ≤ j ∧ j < (zn a : Int)) ∧ k l (zA (bif Nat.beq j.toNat 0 then 58 else 72) :: st) M else False
    | _ => False
  | .iastore => match st with
    | .inl x :: .inl j :: .inr (.inr a) :: st => bif Nat.beq (zk a) 100 && Nat.ble 29 a then (0 ≤ j ∧ j < (zn a : Int)) ∧ ∀ M', M' = zup M a j x → k l st M' else False
    | _ => False
  | .lastore => match st with
    | .inr (.inl x) :: .inl j :: .inr (.inr a) :: st => bif Nat.beq (zk a) 101 && Nat.ble 29 a then (0 ≤ j ∧ j < (zn a : Int)) ∧ ∀ M', M' = zup M a j x → k l st M' else False
    | _ => False
  | .bastore => match st with
    | .inl x :: .inl j :: .inr (.inr a) :: st => bif Nat.beq (zk a) 102 && Nat.ble 29 a then (0 ≤ j ∧ j < (zn a : Int)) ∧ (-128 ≤ x ∧ x ≤ 127) ∧ ∀ M', M' = zup M a j x → k l st M' else bif Nat.beq (zk a) 103 && Nat.ble 29 a then (0 ≤ j ∧ j < (zn a : Int)) ∧ (x = 0 ∨ x = 1) ∧ ∀ M', M' = zup M a j x → k l st M' else False
    | _ => False
  | .getfield _ => match st with
    | .inr (.inr a) :: st => z_getf (am_fty r1 r2) a r1 r2 l st M k
    | _ => False
  | .putfield _ => match st with
    | v :: .inr (.inr a) :: st => z_putf (am_fty r1 r2) a r1 r2 v l st M k
    | _ => False
  | _ => False
abbrev zml (l : ZL) : LV := l.map (fun q => (q.1, zv q.2))
abbrev zms (st : List ZV) : List Value := st.map zv
def okl (l : ZL) : Prop := ∀ q ∈ l, zr q.2
def oks (st : List ZV) : Prop := ∀ v ∈ st, zr v
theorem oks.cons {v : ZV} {st : List ZV} (h1 : zr v) (h2 : oks st) : oks (v :: st) := by
  intro w hw
  rcases List.mem_cons.mp hw with rfl | hw
  · exact h1
  · exact h2 w hw
theorem oks.hd {v : ZV} {st : List ZV} (h : oks (v :: st)) : zr v := h v List.mem_cons_self
theorem oks.tl {v : ZV} {st : List ZV} (h : oks (v :: st)) : oks st := fun w hw => h w (List.mem_cons_of_mem _ hw)
theorem z_look_map (n : Nat) : ∀ l : ZL, am_look (zml l) n = (am_look l n).map zv := by
  intro l
  induction l with
  | nil => rfl
  | cons q l ih =>
    show (bif Nat.beq q.1 n then some (zv q.2) else am_look (zml l) n) = Option.map zv (bif Nat.beq q.1 n then some q.2 else am_look l n)
    cases Nat.beq q.1 n with
    | true => rfl
    | false => exact ih
theorem z_look_ok {n : Nat} {v : ZV} : ∀ {l : ZL}, okl l → am_look l n = some v → zr v := by
  intro l
  induction l with
  | nil => intro _ h; cases h
  | cons q l ih =>
    intro hl h
    have h : (bif Nat.beq q.1 n then some q.2 else am_look l n) = some v := h
    cases hb : Nat.beq q.1 n with
    | true => rw [hb] at h; cases h; exact hl q List.mem_cons_self
    | false => rw [hb] at h; exact ih (fun w hw => hl w (List.mem_cons_of_mem _ hw)) h
theorem z_s1_map (l : ZL) (i : Nat) (v : ZV) : am_s1 (zml l) i (zv v) = zml (z_s1 l i v) := by
  unfold am_s1 z_s1
  show _ = (i, zv v) :: zml _
  rw [List.filter_map]
  rfl
theorem z_s2_map (l : ZL) (i : Nat) (v : ZV) : am_s2 (zml l) i (zv v) = zml (z_s2 l i v) := by
  unfold am_s2 z_s2
  show _ = (i, zv v) :: zml _
  rw [List.filter_map]
  rfl
theorem z_s1_ok {l : ZL} {i : Nat} {v : ZV} (hl : okl l) (hv : zr v) : okl (z_s1 l i v) := by
  intro q hq
  rcases List.mem_cons.mp hq with rfl | hq
  · exact hv
  · exact hl q (List.mem_filter.mp hq).1
theorem z_s2_ok {l : ZL} {i : Nat} {v : ZV} (hl : okl l) (hv : zr v) : okl (z_s2 l i v) := by
  intro q hq
  rcases List.mem_cons.mp hq with rfl | hq
  · exact hv
  · exact hl q (List.mem_filter.mp hq).1
theorem zbif {G : Bool} {P : Prop} (h : bif G then P else False) : G = true ∧ P := by
  cases G with
  | true => exact ⟨rfl, h⟩
  | false => exact h.elim
def zsel (g : Nat → AC) (F : KT → Option RS) (k : ZK) : Prop := ∃ l' st' M', (∀ K, F K = K (zml l') (zms st') (hp g M')) ∧ RG M' ∧ okl l' ∧ oks st' ∧ k l' st' M'
theorem zu_zv {v : Value} {w : ZV} (h : zu v = some w) : zv w = v ∧ zr w := by
  unfold zu at h
  split at h
  · cases h; exact ⟨congrArg Value.int (zi_self _), r32_toInt _⟩
  · cases h; exact ⟨congrArg Value.long (zl_self _), r64_toInt _⟩
  · cases h; exact ⟨rfl, trivial⟩
  · cases h
section Stp
variable {g : Nat → AC} {l : ZL} {st : List ZV} {M : ZM} {k : ZK} (R : RG M) (hl : okl l) (hs : oks st)
theorem zs_const {v : Value} (h : z_const v l st M k) (R : RG M) (hl : okl l) (hs : oks st) : zsel g (fun K => K (zml l) (v :: zms st) (hp g M)) k := by
  unfold z_const at h
  split at h
  · rename_i w hw
    obtain ⟨h1, h2⟩ := zu_zv hw
    exact ⟨l, w :: st, M, fun K => by rw [← h1]; rfl, R, hl, oks.cons h2 hs, h⟩
  · exact h.elim
theorem zs_ldI {n : Nat} (h : z_ldI l n st M k) (R : RG M) (hl : okl l) (hs : oks st) : zsel g (fun K => am_ldI (zml l) n (zms st) (hp g M) K) k := by
  unfold z_ldI at h
  split at h
  · rename_i x hx
    exact ⟨l, .inl x :: st, M, fun K => by unfold am_ldI; rw [z_look_map, hx]; rfl, R, hl, oks.cons (z_look_ok hl hx) hs, h⟩
  · exact h.elim
theorem zs_ldL {n : Nat} (h : z_ldL l n st M k) (R : RG M) (hl : okl l) (hs : oks st) : zsel g (fun K => am_ldL (zml l) n (zms st) (hp g M) K) k := by
  unfold z_ldL at h
  split at h
  · rename_i x hx
    exact ⟨l, .inr (.inl x) :: st, M, fun K => by unfold am_ldL; rw [z_look_map, hx]; rfl, R, hl, oks.cons (z_look_ok hl hx) hs, h⟩
  · exact h.elim
theorem zs_ldR {n : Nat} (h : z_ldR l n st M k) (R : RG M) (hl : okl l) (hs : oks st) : zsel g (fun K => am_ldR (zml l) n (zms st) (hp g M) K) k := by
  unfold z_ldR at h
  split at h
  · rename_i x hx
    exact ⟨l, .inr (.inr x) :: st, M, fun K => by unfold am_ldR; rw [z_look_map, hx]; rfl, R, hl, oks.cons (z_look_ok hl hx) hs, h⟩
  · exact h.elim
theorem zs_getf {ty : FieldType} {a ci f : Nat} (h : z_getf ty a ci f l st M k) (R : RG M) (hl : okl l) (hs : oks st) : zsel g (fun K => am_getf ty a ci f (zml l) (zms st) (hp g M) K) k := by
  have hb := zbif h
  clear h
  obtain ⟨hg, h⟩ := hb
  simp only [Bool.and_eq_true] at hg
  obtain ⟨g1, g2, g3⟩ := hg
  have g1 := Nat.eq_of_beq_eq_true g1
  have g2 : f < zn a := Nat.le_of_ble_eq_true g2
  have g3 := Nat.le_of_ble_eq_true g3
  have g9 : ci ≠ 999 := by omega
  have hf := hp_f (g := g) (M := M) g1 g9 g2
  have hr := (R a f (by rw [g1]; exact g9) g2).1
  generalize zg a f = t at h hf hr
  unfold z_gty at h
  split at h
  · exact ⟨l, zI (M a f) :: st, M, fun K => by unfold am_getf am_fI; rw [hf]; rfl, R, hl, oks.cons hr hs, h⟩
  · exact ⟨l, zI (M a f) :: st, M, fun K => by unfold am_getf am_fI; rw [hf]; rfl, R, hl, oks.cons hr hs, h⟩
  · exact ⟨l, zI (M a f) :: st, M, fun K => by unfold am_getf am_fI; rw [hf]; rfl, R, hl, oks.cons hr hs, h⟩
  · exact ⟨l, zJ (M a f) :: st, M, fun K => by unfold am_getf am_fL; rw [hf]; rfl, R, hl, oks.cons hr hs, h⟩
  · exact ⟨l, zA (M a f).toNat :: st, M, fun K => by unfold am_getf am_fR; rw [hf]; rfl, R, hl, oks.cons trivial hs, h⟩
  · rename_i t
    exact ⟨l, zA t :: st, M, fun K => by unfold am_getf am_fR; rw [hf]; rfl, R, hl, oks.cons trivial hs, h⟩
  · exact ⟨l, zA (M a f).toNat :: st, M, fun K => by unfold am_getf am_fR; rw [hf]; rfl, R, hl, oks.cons trivial hs, h⟩
  · rename_i t
    exact ⟨l, zA t :: st, M, fun K => by unfold am_getf am_fR; rw [hf]; rfl, R, hl, oks.cons trivial hs, h⟩
  · exact h.elim
theorem zs_putf {ty : FieldType} {a ci f : Nat} {v : ZV} (h : z_putf ty a ci f v l st M k) (R : RG M) (hl : okl l) (hv : zr v) (hs : oks st) : zsel g (fun K => am_putf ty a ci f (zv v) (zml l) (zms st) (hp g M) K) k := by
  have hb := zbif h
  clear h
  obtain ⟨hg, h⟩ := hb
  simp only [Bool.and_eq_true] at hg
  obtain ⟨g1, g2, g3, g4⟩ := hg
  have g1 := Nat.eq_of_beq_eq_true g1
  have g2 : f < zn a := Nat.le_of_ble_eq_true g2
  have g3 := Nat.le_of_ble_eq_true g3
  have g4 := Nat.le_of_ble_eq_true g4
  have g9 : ci ≠ 999 := by omega
  have hf : ∀ (x : Int) (v : Value), zval (zg a f) x = v → am_pf (hp g M) a ci f v = some (hp g (zup M a f x)) := fun x v hv => hp_pf g1 g9 g4 g2 hv
  have hr : ∀ x : Int, zrt (zg a f) x → RG (zup M a f x) := fun x hx => R.up g4 (by rw [Int.toNat_natCast]; exact hx) (by omega)
  generalize zg a f = t at h hf hr
  unfold z_pty at h
  split at h
  · rename_i x
    exact ⟨l, st, _, fun K => by unfold am_putf zv; dsimp only; rw [hf x (.int (zi x)) rfl]; rfl, hr x hv, hl, hs, h _ rfl⟩
  · rename_i x
    exact ⟨l, st, _, fun K => by
      unfold am_putf zv am_pz
      dsimp only
      rw [if_pos (by rcases h.1 with rfl | rfl <;> decide), hf x (.int (zi x)) rfl]
      rfl, hr x hv, hl, hs, h.2 _ rfl⟩
  · rename_i x
    exact ⟨l, st, _, fun K => by unfold am_putf zv; dsimp only; rw [hf x (.long (zl x)) rfl]; rfl, hr x hv, hl, hs, h _ rfl⟩
  · rename_i b
    exact ⟨l, st, _, fun K => by unfold am_putf zv; dsimp only; rw [hf (b : Int) (.ref b) rfl]; rfl, hr (b : Int) (by show (b : Int) = 107 ∨ (b : Int) = 108; omega), hl, hs, h.2 _ rfl⟩
  · exact h.elim
end Stp
theorem z_nb {x : Int} (h1 : -128 ≤ x) (h2 : x ≤ 127) : narrow .byte (.int (zi x)) = .int (zi x) := by
  show Value.int (zi x).toInt8.toInt32 = Value.int (zi x)
  congr 1
  apply Int32.toInt_inj.mp
  rw [Int8.toInt_toInt32, Int32.toInt_toInt8, zi_toInt (by omega) (by omega)]
  rw [Int.bmod_eq_of_le (by omega) (by omega)]
theorem zs_stp {g : Nat → AC} {i : Instr} {r1 r2 : Nat} {v : Value} {l : ZL} {st : List ZV} {M : ZM} {k : ZK} (h : z_stp i r1 r2 v l st M k) (R : RG M) (hl : okl l) (hs : oks st) : zsel g (am_stp i r1 r2 v (zml l) (zms st) (hp g M)) k := by
  cases i
  case iconst => exact zs_const h R hl hs
  case bipush => exact zs_const h R hl hs
  case sipush => exact zs_const h R hl hs
  case lconst => exact zs_const h R hl hs
  case ldc => exact zs_const h R hl hs
  case ldc_w => exact zs_const h R hl hs
  case ldc2_w => exact zs_const h R hl hs
  case getstatic => exact zs_const h R hl hs
  case iload => exact zs_ldI h R hl hs
  case iload_n => exact zs_ldI h R hl hs
  case lload => exact zs_ldL h R hl hs
  case lload_n => exact zs_ldL h R hl hs
  case aload => exact zs_ldR h R hl hs
  case aload_n => exact zs_ldR h R hl hs
  case istore n =>
    simp only [z_stp] at h
    split at h
    · rename_i x st
      exact ⟨_, st, M, fun K => congrArg (fun q => K q (zms st) (hp g M)) (z_s1_map l n (.inl x)), R, z_s1_ok hl hs.hd, hs.tl, h⟩
    · exact h.elim
  case istore_n n =>
    simp only [z_stp] at h
    split at h
    · rename_i x st
      exact ⟨_, st, M, fun K => congrArg (fun q => K q (zms st) (hp g M)) (z_s1_map l n.val (.inl x)), R, z_s1_ok hl hs.hd, hs.tl, h⟩
    · exact h.elim
  case lstore n =>
    simp only [z_stp] at h
    split at h
    · rename_i x st
      exact ⟨_, st, M, fun K => congrArg (fun q => K q (zms st) (hp g M)) (z_s2_map l n (.inr (.inl x))), R, z_s2_ok hl hs.hd, hs.tl, h⟩
    · exact h.elim
  case lstore_n n =>
    simp only [z_stp] at h
    split at h
    · rename_i x st
      exact ⟨_, st, M, fun K => congrArg (fun q => K q (zms st) (hp g M)) (z_s2_map l n.val (.inr (.inl x))), R, z_s2_ok hl hs.hd, hs.tl, h⟩
    · exact h.elim
  case astore n =>
    simp only [z_stp] at h
    split at h
    · rename_i x st
      exact ⟨_, st, M, fun K => congrArg (fun q => K q (zms st) (hp g M)) (z_s1_map l n (.inr (.inr x))), R, z_s1_ok hl hs.hd, hs.tl, h⟩
    · exact h.elim
  case astore_n n =>
    simp only [z_stp] at h
    split at h
    · rename_i x st
      exact ⟨_, st, M, fun K => congrArg (fun q => K q (zms st) (hp g M)) (z_s1_map l n.val (.inr (.inr x))), R, z_s1_ok hl hs.hd, hs.tl, h⟩
    · exact h.elim
  case iinc n c =>
    simp only [z_stp] at h
    split at h
    · rename_i x y hx
      exact ⟨z_s1 l n (zI (x + y.toInt)), st, M, fun K => by
        simp only [am_stp]
        rw [z_look_map, hx]
        show K (am_s1 (zml l) n (.int (zi x + y))) _ _ = _
        rw [← zi_self y, zi_add, zi_self]
        exact congrArg (fun q => K q (zms st) (hp g M)) (z_s1_map l n (zI (x + y.toInt))), R, z_s1_ok hl h.1, hs, h.2⟩
    · exact h.elim
  case iadd =>
    simp only [z_stp] at h
    split at h
    · rename_i y x st
      exact ⟨l, zI (x + y) :: st, M, fun K => by show K _ (.int (zi x + zi y) :: _) _ = K _ (.int (zi (x + y)) :: _) _; rw [zi_add], R, hl, oks.cons h.1 hs.tl.tl, h.2⟩
    · exact h.elim
  case isub =>
    simp only [z_stp] at h
    split at h
    · rename_i y x st
      exact ⟨l, zI (x - y) :: st, M, fun K => by show K _ (.int (zi x - zi y) :: _) _ = K _ (.int (zi (x - y)) :: _) _; rw [zi_sub], R, hl, oks.cons h.1 hs.tl.tl, h.2⟩
    · exact h.elim
  case imul =>
    simp only [z_stp] at h
    split at h
    · rename_i y x st
      exact ⟨l, zI (x * y) :: st, M, fun K => by show K _ (.int (zi x * zi y) :: _) _ = K _ (.int (zi (x * y)) :: _) _; rw [zi_mul], R, hl, oks.cons h.1 hs.tl.tl, h.2⟩
    · exact h.elim
  case ladd =>
    simp only [z_stp] at h
    split at h
    · rename_i y x st
      exact ⟨l, zJ (x + y) :: st, M, fun K => by show K _ (.long (zl x + zl y) :: _) _ = K _ (.long (zl (x + y)) :: _) _; rw [zl_add], R, hl, oks.cons h.1 hs.tl.tl, h.2⟩
    · exact h.elim
  case lsub =>
    simp only [z_stp] at h
    split at h
    · rename_i y x st
      exact ⟨l, zJ (x - y) :: st, M, fun K => by show K _ (.long (zl x - zl y) :: _) _ = K _ (.long (zl (x - y)) :: _) _; rw [zl_sub], R, hl, oks.cons h.1 hs.tl.tl, h.2⟩
    · exact h.elim
  case lmul =>
    simp only [z_stp] at h
    split at h
    · rename_i y x st
      exact ⟨l, zJ (x * y) :: st, M, fun K => by show K _ (.long (zl x * zl y) :: _) _ = K _ (.long (zl (x * y)) :: _) _; rw [zl_mul], R, hl, oks.cons h.1 hs.tl.tl, h.2⟩
    · exact h.elim
  case iand =>
    simp only [z_stp] at h
    split at h
    · rename_i y x st
      exact ⟨l, zI (zand x y) :: st, M, fun K => by
        show _ = K _ (.int (zi (zand x y)) :: _) _
        unfold zand
        rw [zi_self]
        rfl, R, hl, oks.cons (r32_toInt _) hs.tl.tl, h⟩
    · exact h.elim
  case ior =>
    simp only [z_stp] at h
    split at h
    · rename_i y x st
      exact ⟨l, zI (zor x y) :: st, M, fun K => by
        show _ = K _ (.int (zi (zor x y)) :: _) _
        unfold zor
        rw [zi_self]
        rfl, R, hl, oks.cons (r32_toInt _) hs.tl.tl, h⟩
    · exact h.elim
  case ixor =>
    simp only [z_stp] at h
    split at h
    · rename_i y x st
      exact ⟨l, zI (zxor x y) :: st, M, fun K => by
        show _ = K _ (.int (zi (zxor x y)) :: _) _
        unfold zxor
        rw [zi_self]
        rfl, R, hl, oks.cons (r32_toInt _) hs.tl.tl, h⟩
    · exact h.elim
  case ishl =>
    simp only [z_stp] at h
    split at h
    · rename_i y x st
      exact ⟨l, zI (zshl x y) :: st, M, fun K => by
        show _ = K _ (.int (zi (zshl x y)) :: _) _
        unfold zshl
        rw [zi_self]
        rfl, R, hl, oks.cons (r32_toInt _) hs.tl.tl, h⟩
    · exact h.elim
  case ishr =>
    simp only [z_stp] at h
    split at h
    · rename_i y x st
      exact ⟨l, zI (zshr x y) :: st, M, fun K => by
        show _ = K _ (.int (zi (zshr x y)) :: _) _
        unfold zshr
        rw [zi_self]
        rfl, R, hl, oks.cons (r32_toInt _) hs.tl.tl, h⟩
    · exact h.elim
  case iushr =>
    simp only [z_stp] at h
    split at h
    · rename_i y x st
      exact ⟨l, zI (zush x y) :: st, M, fun K => by
        show _ = K _ (.int (zi (zush x y)) :: _) _
        unfold zush
        rw [zi_self]
        rfl, R, hl, oks.cons (r32_toInt _) hs.tl.tl, h⟩
    · exact h.elim
  case idiv =>
    simp only [z_stp] at h
    split at h
    · rename_i y x st
      exact ⟨l, zI (x.tdiv y) :: st, M, fun K => by
        show (if zi y = 0 then none else K _ (.int (zi x / zi y) :: _) _) = K _ (.int (zi (x.tdiv y)) :: _) _
        have hy : r32 y := hs.hd
        rw [if_neg (by rw [show (0 : Int32) = zi 0 from zi_lit 0, zi_inj hy.1 hy.2 (by omega) (by omega)]; exact h.1), zi_div hs.tl.hd hs.hd], R, hl, oks.cons h.2.1 hs.tl.tl, h.2.2⟩
    · exact h.elim
  case irem =>
    simp only [z_stp] at h
    split at h
    · rename_i y x st
      exact ⟨l, zI (x.tmod y) :: st, M, fun K => by
        show (if zi y = 0 then none else K _ (.int (zi x - zi x / zi y * zi y) :: _) _) = K _ (.int (zi (x.tmod y)) :: _) _
        have hy : r32 y := hs.hd
        rw [if_neg (by rw [show (0 : Int32) = zi 0 from zi_lit 0, zi_inj hy.1 hy.2 (by omega) (by omega)]; exact h.1), zi_rem hs.tl.hd hs.hd], R, hl, oks.cons (r32_tmod hs.tl.hd) hs.tl.tl, h.2⟩
    · exact h.elim
  case ldiv =>
    simp only [z_stp] at h
    split at h
    · rename_i y x st
      exact ⟨l, zJ (x.tdiv y) :: st, M, fun K => by
        show (if zl y = 0 then none else K _ (.long (zl x / zl y) :: _) _) = K _ (.long (zl (x.tdiv y)) :: _) _
        have hy : r64 y := hs.hd
        rw [if_neg (by rw [show (0 : Int64) = zl 0 from zl_lit 0, zl_inj hy.1 hy.2 (by omega) (by omega)]; exact h.1), zl_div hs.tl.hd hs.hd], R, hl, oks.cons h.2.1 hs.tl.tl, h.2.2⟩
    · exact h.elim
  case lrem =>
    simp only [z_stp] at h
    split at h
    · rename_i y x st
      exact ⟨l, zJ (x.tmod y) :: st, M, fun K => by
        show (if zl y = 0 then none else K _ (.long (zl x - zl x / zl y * zl y) :: _) _) = K _ (.long (zl (x.tmod y)) :: _) _
        have hy : r64 y := hs.hd
        rw [if_neg (by rw [show (0 : Int64) = zl 0 from zl_lit 0, zl_inj hy.1 hy.2 (by omega) (by omega)]; exact h.1), zl_rem hs.tl.hd hs.hd], R, hl, oks.cons (r64_tmod hs.tl.hd) hs.tl.tl, h.2⟩
    · exact h.elim
  case ineg =>
    simp only [z_stp] at h
    split at h
    · rename_i x st
      exact ⟨l, zI (-x) :: st, M, fun K => by show K _ (.int (-zi x) :: _) _ = K _ (.int (zi (-x)) :: _) _; rw [zi_neg], R, hl, oks.cons h.1 hs.tl, h.2⟩
    · exact h.elim
  case lneg =>
    simp only [z_stp] at h
    split at h
    · rename_i x st
      exact ⟨l, zJ (-x) :: st, M, fun K => by show K _ (.long (-zl x) :: _) _ = K _ (.long (zl (-x)) :: _) _; rw [zl_neg], R, hl, oks.cons h.1 hs.tl, h.2⟩
    · exact h.elim
  case lcmp =>
    simp only [z_stp] at h
    split at h
    · rename_i y x st
      exact ⟨l, _ :: st, M, fun K => by
        show K _ (.int (lg_cmp (zl x) (zl y)) :: _) _ = _
        rw [zl_cmp hs.tl.hd hs.hd]
        rfl, R, hl, oks.cons (by show r32 _; unfold r32; omega) hs.tl.tl, h⟩
    · exact h.elim
  case i2l =>
    simp only [z_stp] at h
    split at h
    · rename_i x st
      have hx : r32 x := hs.hd
      exact ⟨l, zJ x :: st, M, fun K => by show K _ (.long (zi x).toInt64 :: _) _ = K _ (.long (zl x) :: _) _; rw [zi_i2l hx.1 hx.2], R, hl, oks.cons (by show r64 x; unfold r32 at hx; unfold r64; omega) hs.tl, h⟩
    · exact h.elim
  case l2i =>
    simp only [z_stp] at h
    split at h
    · rename_i x st
      exact ⟨l, zI x :: st, M, fun K => by show K _ (.int (zl x).toInt32 :: _) _ = K _ (.int (zi x) :: _) _; rw [zl_l2i h.1], R, hl, oks.cons h.1 hs.tl, h.2⟩
    · exact h.elim
  case i2b =>
    simp only [z_stp] at h
    split at h
    · rename_i x st
      exact ⟨l, zI (zi2b x) :: st, M, fun K => by
        show _ = K _ (.int (zi (zi2b x)) :: _) _
        unfold zi2b
        rw [zi_self]
        rfl, R, hl, oks.cons (r32_toInt _) hs.tl, h⟩
    · exact h.elim
  case i2c =>
    simp only [z_stp] at h
    split at h
    · rename_i x st
      exact ⟨l, zI (zi2c x) :: st, M, fun K => by
        show _ = K _ (.int (zi (zi2c x)) :: _) _
        unfold zi2c
        rw [zi_self]
        rfl, R, hl, oks.cons (r32_toInt _) hs.tl, h⟩
    · exact h.elim
  case dup =>
    simp only [z_stp] at h
    split at h
    · exact ⟨l, _, M, fun K => rfl, R, hl, oks.cons hs.hd hs, h⟩
    · exact ⟨l, _, M, fun K => rfl, R, hl, oks.cons hs.hd hs, h⟩
    · exact h.elim
  case dup_x1 =>
    simp only [z_stp] at h
    split at h
    · rename_i x y st
      exact ⟨l, .inl x :: .inr (.inr y) :: .inl x :: st, M, fun K => rfl, R, hl, oks.cons hs.hd (oks.cons hs.tl.hd (oks.cons hs.hd hs.tl.tl)), h⟩
    · exact h.elim
  case dup2 =>
    simp only [z_stp] at h
    split at h
    · rename_i x y st
      exact ⟨l, .inl x :: .inr (.inr y) :: .inl x :: .inr (.inr y) :: st, M, fun K => rfl, R, hl, oks.cons hs.hd (oks.cons hs.tl.hd hs), h⟩
    · exact ⟨l, _, M, fun K => rfl, R, hl, oks.cons hs.hd hs, h⟩
    · exact h.elim
  case pop =>
    simp only [z_stp] at h
    split at h
    · exact ⟨l, _, M, fun K => rfl, R, hl, hs.tl, h⟩
    · exact h.elim
  case pop2 =>
    simp only [z_stp] at h
    split at h
    · exact ⟨l, _, M, fun K => rfl, R, hl, hs.tl, h⟩
    · exact h.elim
  case arraylength =>
    simp only [z_stp] at h
    split at h
    · rename_i a st
      obtain ⟨hg, h⟩ := zbif h
      simp only [Bool.and_eq_true] at hg
      have hb := zn_big a
      exact ⟨l, zI (zn a : Int) :: st, M, fun K => by
        show (am_len (hp g M) a).bind _ = _
        rw [hp_len ⟨Nat.le_of_ble_eq_true hg.1, Nat.le_of_ble_eq_true hg.2⟩]
        rfl, R, hl, oks.cons (by show r32 _; unfold r32; omega) hs.tl, h⟩
    · exact h.elim
  case iaload =>
    simp only [z_stp] at h
    split at h
    · rename_i j a st
      obtain ⟨hg, h⟩ := zbif h
      have hg := Nat.eq_of_beq_eq_true hg
      have hr := R.at (by rw [hg]; decide) h.1.1 h.1.2
      rw [zg_100 hg] at hr
      exact ⟨l, zI (M a j) :: st, M, fun K => by
        show (am_aI (hp g M) a (zi j)).bind _ = _
        unfold am_aI
        rw [hp_a hg (by decide) h.1.1 h.1.2, zg_100 hg]
        rfl, R, hl, oks.cons hr hs.tl.tl, h.2⟩
    · exact h.elim
  case laload =>
    simp only [z_stp] at h
    split at h
    · rename_i j a st
      obtain ⟨hg, h⟩ := zbif h
      have hg := Nat.eq_of_beq_eq_true hg
      have hr := R.at (by rw [hg]; decide) h.1.1 h.1.2
      rw [zg_101 hg] at hr
      exact ⟨l, zJ (M a j) :: st, M, fun K => by
        show (am_aL (hp g M) a (zi j)).bind _ = _
        unfold am_aL
        rw [hp_a hg (by decide) h.1.1 h.1.2, zg_101 hg]
        rfl, R, hl, oks.cons hr hs.tl.tl, h.2⟩
    · exact h.elim
  case baload =>
    simp only [z_stp] at h
    split at h
    · rename_i j a st
      obtain ⟨hg, h⟩ := zbif h
      simp only [Bool.or_eq_true] at hg
      have hz : zg a j.toNat = 0 := by
        rcases hg with hg | hg
        · exact zg_102 (Nat.eq_of_beq_eq_true hg) _
        · exact zg_103 (Nat.eq_of_beq_eq_true hg) _
      have h9 : zk a ≠ 999 := by
        rcases hg with hg | hg
        · rw [Nat.eq_of_beq_eq_true hg]; decide
        · rw [Nat.eq_of_beq_eq_true hg]; decide
      have hr := R.at h9 h.1.1 h.1.2
      rw [hz] at hr
      refine ⟨l, zI (M a j) :: st, M, fun K => ?_, R, hl, oks.cons hr hs.tl.tl, h.2⟩
      show (am_aB (hp g M) a (zi j)).bind _ = _
      unfold am_aB
      rcases hg with hg | hg
      · have hg := Nat.eq_of_beq_eq_true hg
        rw [hp_a hg (by decide) h.1.1 h.1.2, hz]
        rfl
      · have hg := Nat.eq_of_beq_eq_true hg
        have e0 : am_a (hp g M) 102 a (zi j) = none := by
          unfold am_a
          rw [hp_cell h9]
          dsimp only
          rw [if_neg (fun q => by have := q.1; omega)]
        rw [e0, hp_a hg (by decide) h.1.1 h.1.2, hz]
        rfl
    · exact h.elim
  case aaload =>
    simp only [z_stp] at h
    split at h
    · rename_i j a st
      obtain ⟨hg, h⟩ := zbif h
      have hg := Nat.eq_of_beq_eq_true hg
      refine ⟨l, zA (bif Nat.beq j.toNat 0 then 58 else 72) :: st, M, fun K => ?_, R, hl, oks.cons trivial hs.tl.tl, h.2⟩
      show (am_aR (hp g M) a (zi j)).bind _ = _
      unfold am_aR
      rw [hp_a hg (by decide) h.1.1 h.1.2, zg_104 hg]
      cases Nat.beq j.toNat 0 <;> rfl
    · exact h.elim
  case iastore =>
    simp only [z_stp] at h
    split at h
    · rename_i x j a st
      obtain ⟨hg, h⟩ := zbif h
      simp only [Bool.and_eq_true] at hg
      have g1 := Nat.eq_of_beq_eq_true hg.1
      have g4 := Nat.le_of_ble_eq_true hg.2
      refine ⟨l, st, _, fun K => ?_, R.up g4 (x := x) (by rw [zg_100 g1]; exact hs.hd) h.1.1, hl, hs.tl.tl.tl, h.2 _ rfl⟩
      show (am_st (hp g M) 100 a (zi j) (.int (zi x))).bind _ = _
      rw [hp_st g1 (by decide) g4 h.1.1 h.1.2 (x := x) (v := .int (zi x)) (by rw [zg_100 g1]; rfl)]
      rfl
    · exact h.elim
  case lastore =>
    simp only [z_stp] at h
    split at h
    · rename_i x j a st
      obtain ⟨hg, h⟩ := zbif h
      simp only [Bool.and_eq_true] at hg
      have g1 := Nat.eq_of_beq_eq_true hg.1
      have g4 := Nat.le_of_ble_eq_true hg.2
      refine ⟨l, st, _, fun K => ?_, R.up g4 (x := x) (by rw [zg_101 g1]; exact hs.hd) h.1.1, hl, hs.tl.tl.tl, h.2 _ rfl⟩
      show (am_st (hp g M) 101 a (zi j) (.long (zl x))).bind _ = _
      rw [hp_st g1 (by decide) g4 h.1.1 h.1.2 (x := x) (v := .long (zl x)) (by rw [zg_101 g1]; rfl)]
      rfl
    · exact h.elim
  case bastore =>
    simp only [z_stp] at h
    split at h
    · rename_i x j a st
      cases hg : (Nat.beq (zk a) 102 && Nat.ble 29 a) with
      | true =>
        rw [hg] at h
        simp only [Bool.and_eq_true] at hg
        have g1 := Nat.eq_of_beq_eq_true hg.1
        have g4 := Nat.le_of_ble_eq_true hg.2
        have h : (0 ≤ j ∧ j < (zn a : Int)) ∧ (-128 ≤ x ∧ x ≤ 127) ∧ ∀ M', M' = zup M a j x → k l st M' := h
        refine ⟨l, st, _, fun K => ?_, R.up g4 (x := x) (by rw [zg_102 g1]; exact hs.hd) h.1.1, hl, hs.tl.tl.tl, h.2.2 _ rfl⟩
        show (am_stB (hp g M) a (zi j) (zi x)).bind _ = _
        unfold am_stB
        rw [hp_cell (by rw [g1]; decide)]
        dsimp only
        rw [if_pos g1, hp_st g1 (by decide) g4 h.1.1 h.1.2 (x := x) (by rw [zg_102 g1]; exact (z_nb h.2.1.1 h.2.1.2).symm)]
        rfl
      | false =>
        rw [hg] at h
        have h : (bif Nat.beq (zk a) 103 && Nat.ble 29 a then (0 ≤ j ∧ j < (zn a : Int)) ∧ (x = 0 ∨ x = 1) ∧ ∀ M', M' = zup M a j x → k l st M' else False) := h
        obtain ⟨hg, h⟩ := zbif h
        simp only [Bool.and_eq_true] at hg
        have g1 := Nat.eq_of_beq_eq_true hg.1
        have g4 := Nat.le_of_ble_eq_true hg.2
        refine ⟨l, st, _, fun K => ?_, R.up g4 (x := x) (by rw [zg_103 g1]; exact hs.hd) h.1.1, hl, hs.tl.tl.tl, h.2.2 _ rfl⟩
        show (am_stB (hp g M) a (zi j) (zi x)).bind _ = _
        unfold am_stB
        rw [hp_cell (by rw [g1]; decide)]
        dsimp only
        rw [if_neg (by omega), if_pos g1, hp_st g1 (by decide) g4 h.1.1 h.1.2 (x := x) (by rw [zg_103 g1]; rcases h.2.1 with rfl | rfl <;> rfl)]
        rfl
    · exact h.elim
  case getfield =>
    simp only [z_stp] at h
    split at h
    · exact zs_getf h R hl hs.tl
    · exact h.elim
  case putfield =>
    simp only [z_stp] at h
    split at h
    · exact zs_putf h R hl hs.hd hs.tl.tl
    · exact h.elim
  all_goals exact (h : False).elim
