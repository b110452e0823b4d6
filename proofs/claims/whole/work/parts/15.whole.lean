theorem so_whole {dd : Nat} (hdd : dd + 1 ≤ 2048 ∧ 100 * (dd + 1) ≤ 84000) (HA : so_all) (HC : am_okC am_sg RL false 4 code qL_law = true) (hlaw : ∀ (n : Nat) (xs : Nat → Int32), n ≤ 3072 → ∃ hf : AH, am_rn qL_law uL_law 3 (am_sem dd) 0 [(0, .ref 28)] (am_h0 n xs) = some (some (.int 1), hf) ∧ hf.1 ≤ 600000 ∧ hf.2.1 ≤ 7302250)
    {p : Program} {e : Env} {s : State} {m : MethodId} {below : List Frame} {meth : Method} {c : Code} (l : Launch) {b n : Nat} {xs : Nat → Int32} (hL : n ≤ 3072) (C0 : lw_At p s m meth c b n xs) : W p l e room_1 s m #[Value.ref b] below meth c s.heap [] 0 0 (lw_Z below #[Value.ref b] s) (entryFrame m ([Value.ref b] : List Value).toArray 4) := by
  obtain ⟨hx, hb, hr, hml, hown, hts, hX, hbl, hlocks, hgv⟩ := id C0
  obtain ⟨D, r, hK, hP, rfl⟩ := so_begin (by omega) C0
  obtain ⟨hf, hrn, hf1, hf2⟩ := hlaw n xs hL
  obtain ⟨k, hrun⟩ := am_rn_some hrn
  have htG : ∀ w ∈ tblG, w.before #[Value.ref (r 28)] s = true := fun w hw => hts w (List.mem_filter.mp hw).1
  have X : so_Cx p s m #[Value.ref (r 28)] c meth RL false code 4 D r := ⟨hx, hb, hml, hown, htG, hK, fun z => (by cases z), hts _ so_over⟩
  have hl := lv_entry ([.ref (r 28)]) (n := 4) (Nat.le_of_ble_eq_true rfl)
  rw [lg_entry_eq]
  refine so_run (h0 := am_h0 n xs) (B := s.heap.size) (d := dd) X HC HA (so_sem HA dd) (R := room_1) hdd (res := (some (.int 1), hf)) ⟨?_, ?_⟩ ?_ k 0 [(0, .ref 28)] (am_h0 n xs) s.heap [] _ 0 0 hrun ⟨hP, va_S.rf, hl, Nat.zero_add _, Nat.zero_add _⟩
  · exact Nat.le_trans (show hf.1 ≤ room_1.cells from hf1) (Nat.le_add_left _ _)
  · exact Nat.le_trans (show hf.2.1 ≤ room_1.slots from hf2) (Nat.le_add_left _ _)
  · intro pc i l' H locs ls cells slots hd hret hat
    obtain ⟨hP', hS', -, c1, c2⟩ := hat
    have c1 : cells + 29 = hf.1 := c1
    have c2 : slots + 0 = hf.2.1 := c2
    refine va_forget (fun q hq => hS'.2.2 q hq) ?_
    refine W.widen (k := 600000) (n := 7302250) (by omega) (by omega) ?_
    rcases hret with ⟨rfl, v, hxv, hz⟩ | ⟨rfl, hz, v, hxv⟩ | ⟨rfl, hz, hxv⟩
    · exact lw_ret hx hb hr hlocks hd
    · cases hxv
    · cases hxv
