/-! the class puts code -/
def CMS (co : Int → Int) (n0 n1 hg : Int) (f : ME) : Prop := ∀ co' : Int → Int, (∀ i, n0 ≤ i → i < n1 → co' i = co i) → CMP co' n0 n1 hg f
theorem CMS.cg {co co' : Int → Int} {n0 n1 hg : Int} {f : ME} (h : CMS co n0 n1 hg f) (e : ∀ i, n0 ≤ i → i < n1 → co' i = co i) : CMS co' n0 n1 hg f := fun c2 h2 => h c2 (fun i a b => by rw [h2 i a b, e i a b])
theorem CMS.rg {co : Int → Int} {n0 n1 hg : Int} {f : ME} (h : CMS co n0 n1 hg f) : 0 ≤ n0 ∧ n0 ≤ n1 := (h co (fun _ _ _ => rfl)).1
theorem CMS.up {co : Int → Int} {n0 n1 hg hg' : Int} {f : ME} (h : CMS co n0 n1 hg f) (hh : hg ≤ hg') : CMS co n0 n1 hg' f := fun c2 h2 => (h c2 h2).up hh
theorem CMS_leaf {co : Int → Int} {n0 w t v c : Int} (h0 : 0 ≤ n0) (w0 : 0 ≤ w) (w1 : w < 4) (t0 : 0 ≤ t) (hc : co n0 = w + 16 * t) (h5 : w = 0 → c = 50 ∧ v = t) (h1 : w ≠ 0 → c = w + 10) : CMS co n0 (n0 + 1) 1 (mLeaf c v) := fun c2 h2 => CMP_leaf h0 w0 w1 t0 (by rw [h2 n0 (by omega) (by omega)]; exact hc) h5 h1
theorem CMS_two {co : Int → Int} {n0 n1 n2 hg h2 w o : Int} {f g : ME} (hf : CMS co n0 n1 hg f) (hg' : CMS co n1 n2 h2 g) (bf : BDM f) (bg : BDM g) (hh : h2 + 1 ≤ hg) (h3 : 3 ≤ hg) (o0 : 0 ≤ o) (o6 : o ≤ 6) (hw : w = if o = 4 then 8 else if o = 5 then 9 else if o = 6 then 10 else o + 4) (hc : co n2 = w) : CMS co n0 (n2 + 1) hg (mTwo o f g) := by
  have r1 := hf.rg
  have r2 := hg'.rg
  exact fun c2 e2 => CMP_two (hf c2 (fun i a b => e2 i a (by omega))) (hg' c2 (fun i a b => e2 i (by omega) (by omega))) bf bg hh h3 o0 o6 hw (by rw [e2 n2 (by omega) (by omega)]; exact hc)
theorem CMS_not {co : Int → Int} {n0 n1 hg : Int} {f : ME} (hf : CMS co n0 n1 hg f) (h3 : 3 ≤ hg) (hc : co n1 = 11) : CMS co n0 (n1 + 1) hg (mNot f) := by
  have r1 := hf.rg
  exact fun c2 e2 => CMP_not (hf c2 (fun i a b => e2 i a (by omega))) h3 (by rw [e2 n1 (by omega) (by omega)]; exact hc)
theorem CMS_or {co : Int → Int} {n0 n1 n2 hg : Int} {f g : ME} (hf : CMS co n0 n1 hg f) (hg' : CMS co (n1 + 1) n2 hg g) (h3 : 3 ≤ hg) (hc : co n1 = 12 + 16 * n2) : CMS co n0 n2 hg (mOr f g) := by
  have r1 := hf.rg
  have r2 := hg'.rg
  exact fun c2 e2 => CMP_or (hf c2 (fun i a b => e2 i a (by omega))) (hg' c2 (fun i a b => e2 i (by omega) b)) h3 (by rw [e2 n1 (by omega) (by omega)]; exact hc)
theorem CMS_and {co : Int → Int} {n0 n1 n2 hg : Int} {f g : ME} (hf : CMS co n0 n1 hg f) (hg' : CMS co (n1 + 1) n2 hg g) (h3 : 3 ≤ hg) (hc : co n1 = 13 + 16 * n2) : CMS co n0 n2 hg (mAnd f g) := by
  have r1 := hf.rg
  have r2 := hg'.rg
  exact fun c2 e2 => CMP_and (hf c2 (fun i a b => e2 i a (by omega))) (hg' c2 (fun i a b => e2 i (by omega) b)) h3 (by rw [e2 n1 (by omega) (by omega)]; exact hc)
theorem zput {w t : Int} (w0 : 0 ≤ w) (w1 : w < 16) (t0 : 0 ≤ t) (t1 : t ≤ 10000) : zor w (zshl t 4) = w + 16 * t := by
  obtain ⟨w, rfl⟩ : ∃ m : Nat, w = m := ⟨w.toNat, by omega⟩
  obtain ⟨t, rfl⟩ : ∃ m : Nat, t = m := ⟨t.toNat, by omega⟩
  have a := zshl_nat (n := t) (k := 4) (by decide) (by omega)
  have a : zshl (t : Int) 4 = ((t * 2 ^ 4 : Nat) : Int) := a
  rw [a, zor_nat (by omega) (by omega), Nat.or_comm, ← Nat.shiftLeft_eq, ← Nat.shiftLeft_add_eq_or_of_lt (by omega), Nat.shiftLeft_eq]
  omega
theorem c_put {d : Nat} {M : ZM} {n w t : Int} {Q : ZM → Prop} (hn : M 42 8 = n) (n0 : 0 ≤ n) (n1 : n < 400) (w0 : 0 ≤ w) (w1 : w < 16) (t0 : 0 ≤ t) (t1 : t ≤ 10000) (hQ : Q (zup (zup M 41 n (w + 16 * t)) 42 8 (n + 1))) : zcV (d + 1) 61 [zA 42, zI w, zI t] M Q := by
  apply vX5_put
  rw [hn, zput w0 w1 t0 t1]
  refine ⟨fun z => by omega, fun _ => ⟨⟨by omega, by omega⟩, zset ?_⟩⟩
  rw [zup_row (by decide), hn]
  exact ⟨⟨by omega, by omega⟩, zset hQ⟩
theorem c_aim {d : Nat} {M : ZM} {n s w t : Int} {Q : ZM → Prop} (hn : M 42 8 = n) (n0 : 0 ≤ n) (n1 : n ≤ 400) (s0 : 0 ≤ s) (s1 : s < 400) (hs : M 41 s = w + 16 * t) (w0 : 0 ≤ w) (w1 : w < 16) (t0 : 0 ≤ t) (t1 : t ≤ 10000) (hQ : Q (zup M 41 s (w + 16 * n))) : zcV (d + 1) 62 [zA 42, zI s] M Q := by
  apply vX5_aim
  rw [hn, hs, zand15 ⟨by omega, by omega⟩, show (w + 16 * t) % 16 = w by omega, zput w0 w1 n0 (by omega)]
  exact ⟨fun z => by omega, fun _ => ⟨⟨by omega, by omega⟩, ⟨by omega, by omega⟩, zset hQ⟩⟩
