/-! THE JOINING: every call, the law, the claim -/
theorem jo_hI : ∀ t h, InvH t h → h.1 = 140 ∧ (h.2.2 29).1 = 9 ∧ (h.2.2 113).1 = 10 ∧ h.2.1 = 17062 := by
  rintro t h ⟨g, M, rfl, -, -⟩
  exact ⟨rfl, rfl, rfl, rfl⟩
theorem jo_nil : oks [] := fun v hv => absurd hv List.not_mem_nil
theorem jo_feed (x1 : Int32) (x2 : Int32) (x3 : Int32) (x4 : Int32) (x5 : Int32) : lx_stI InvH 60 102 159 [.int x1, .int x2, .int x3, .int x4, .int x5] := by
  have q := zst_I (d := 60) (a := 102) (b := 159) (as := [zI x1.toInt, zI x2.toInt, zI x3.toInt, zI x4.toInt, zI x5.toInt]) (oks.cons (r32_toInt x1) (oks.cons (r32_toInt x2) (oks.cons (r32_toInt x3) (oks.cons (r32_toInt x4) (oks.cons (r32_toInt x5) jo_nil))))) (fun t M ht R h => s_feed (d := 58) h)
  simp only [zms, List.map, zv, zi_self] at q
  exact q
theorem jo_end (x1 : Int32) : lx_stI InvH 60 104 160 [.int x1] := by
  have q := zst_I (d := 60) (a := 104) (b := 160) (as := [zI x1.toInt]) (oks.cons (r32_toInt x1) jo_nil) (fun t M ht R h => s_end (d := 58) h)
  simp only [zms, List.map, zv, zi_self] at q
  exact q
theorem jo_country : lx_stI InvH 60 105 179 [] := by
  have q := zst_I (d := 60) (a := 105) (b := 179) (as := []) jo_nil (fun t M ht R h => s_country (d := 12) ht h)
  exact q
theorem jo_fault : lx_stI InvH 60 106 180 [] := by
  have q := zst_I (d := 60) (a := 106) (b := 180) (as := []) jo_nil (fun t M ht R h => s_fault (d := 59) h)
  exact q
theorem jo_terms (x1 : Int32) (x2 : Int32) : lx_stI InvH 60 107 193 [.int x1, .int x2] := by
  have q := zst_I (d := 60) (a := 107) (b := 193) (as := [zI x1.toInt, zI x2.toInt]) (oks.cons (r32_toInt x1) (oks.cons (r32_toInt x2) jo_nil)) (fun t M ht R h => s_terms (d := 57) ht R h)
  simp only [zms, List.map, zv, zi_self] at q
  exact q
theorem jo_of (x1 : Int32) (x2 : Int32) : lx_stI InvH 60 108 194 [.int x1, .int x2] := by
  have q := zst_I (d := 60) (a := 108) (b := 194) (as := [zI x1.toInt, zI x2.toInt]) (oks.cons (r32_toInt x1) (oks.cons (r32_toInt x2) jo_nil)) (fun t M ht R h => s_of (d := 56) h (r32_toInt x2))
  simp only [zms, List.map, zv, zi_self] at q
  exact q
theorem jo_pays (x1 : Int32) (x2 : Int32) : lx_stL InvH 60 109 195 [.int x1, .int x2] := by
  have q := zst_L (d := 60) (a := 109) (b := 195) (as := [zI x1.toInt, zI x2.toInt]) (oks.cons (r32_toInt x1) (oks.cons (r32_toInt x2) jo_nil)) (fun t M ht R h => s_pays (d := 15) R h)
  simp only [zms, List.map, zv, zi_self] at q
  exact q
theorem jo_paint (x1 : Int32) (x2 : Int32) : lx_stI InvH 60 110 196 [.int x1, .int x2] := by
  have q := zst_I (d := 60) (a := 110) (b := 196) (as := [zI x1.toInt, zI x2.toInt]) (oks.cons (r32_toInt x1) (oks.cons (r32_toInt x2) jo_nil)) (fun t M ht R h => s_paint (d := 56) ht h)
  simp only [zms, List.map, zv, zi_self] at q
  exact q
theorem jo_used : lx_stI InvH 60 111 197 [] := by
  have q := zst_I (d := 60) (a := 111) (b := 197) (as := []) jo_nil (fun t M ht R h => s_used (d := 56) h)
  exact q
theorem jo_rule (x1 : Int32) (x2 : Int32) (x3 : Int32) : lx_stI InvH 60 112 198 [.int x1, .int x2, .int x3] := by
  have q := zst_I (d := 60) (a := 112) (b := 198) (as := [zI x1.toInt, zI x2.toInt, zI x3.toInt]) (oks.cons (r32_toInt x1) (oks.cons (r32_toInt x2) (oks.cons (r32_toInt x3) jo_nil))) (fun t M ht R h => s_rule (d := 57) ht h)
  simp only [zms, List.map, zv, zi_self] at q
  exact q
theorem jo_tenths (x1 : Int32) (x2 : Int32) : lx_stI InvH 60 113 199 [.int x1, .int x2] := by
  have q := zst_I (d := 60) (a := 113) (b := 199) (as := [zI x1.toInt, zI x2.toInt]) (oks.cons (r32_toInt x1) (oks.cons (r32_toInt x2) jo_nil)) (fun t M ht R h => s_tenths (d := 57) h)
  simp only [zms, List.map, zv, zi_self] at q
  exact q
theorem jo_worth : lx_stL InvH 60 114 205 [] := by
  have q := zst_L (d := 60) (a := 114) (b := 205) (as := []) jo_nil (fun t M ht R h => s_worth (d := 13) h)
  exact q
theorem jo_from (x1 : Int32) (x2 : Int32) : lx_stL InvH 60 115 206 [.int x1, .int x2] := by
  have q := zst_L (d := 60) (a := 115) (b := 206) (as := [zI x1.toInt, zI x2.toInt]) (oks.cons (r32_toInt x1) (oks.cons (r32_toInt x2) jo_nil)) (fun t M ht R h => s_from (d := 13) h)
  simp only [zms, List.map, zv, zi_self] at q
  exact q
theorem jo_plain (x1 : Int32) : lx_stL InvH 60 116 211 [.int x1] := by
  have q := zst_L (d := 60) (a := 116) (b := 211) (as := [zI x1.toInt]) (oks.cons (r32_toInt x1) jo_nil) (fun t M ht R h => s_plain (d := 12) h)
  simp only [zms, List.map, zv, zi_self] at q
  exact q
theorem jo_road (x1 : Int32) : lx_stI InvH 60 117 212 [.int x1] := by
  have q := zst_I (d := 60) (a := 117) (b := 212) (as := [zI x1.toInt]) (oks.cons (r32_toInt x1) jo_nil) (fun t M ht R h => s_road (d := 12) h)
  simp only [zms, List.map, zv, zi_self] at q
  exact q
theorem jo_follow : lx_stI InvH 60 118 213 [] := by
  have q := zst_I (d := 60) (a := 118) (b := 213) (as := []) jo_nil (fun t M ht R h => s_follow (d := 12) ht h)
  exact q
theorem jo_die (x1 : Int32) (x2 : Int32) : lx_stL InvH 60 119 217 [.int x1, .int x2] := by
  have q := zst_L (d := 60) (a := 119) (b := 217) (as := [zI x1.toInt, zI x2.toInt]) (oks.cons (r32_toInt x1) (oks.cons (r32_toInt x2) jo_nil)) (fun t M ht R h => s_die (d := 12) h)
  simp only [zms, List.map, zv, zi_self] at q
  exact q
theorem jo_cast (x1 : Int32) : lx_stI InvH 60 120 218 [.int x1] := by
  have q := zst_I (d := 60) (a := 120) (b := 218) (as := [zI x1.toInt]) (oks.cons (r32_toInt x1) jo_nil) (fun t M ht R h => s_cast (d := 12) ht h)
  simp only [zms, List.map, zv, zi_self] at q
  exact q
theorem jo_power (x1 : Int32) (x2 : Int32) : lx_stL InvH 60 121 221 [.int x1, .int x2] := by
  have q := zst_L (d := 60) (a := 121) (b := 221) (as := [zI x1.toInt, zI x2.toInt]) (oks.cons (r32_toInt x1) (oks.cons (r32_toInt x2) jo_nil)) (fun t M ht R h => s_power (d := 14) h)
  simp only [zms, List.map, zv, zi_self] at q
  exact q
theorem jo_pocket : lx_stL InvH 60 122 224 [] := by
  have q := zst_L (d := 60) (a := 122) (b := 224) (as := []) jo_nil (fun t M ht R h => s_pocket (d := 14) h)
  exact q
theorem jo_knowing : lx_stL InvH 60 123 207 [] := by
  have q := zst_L (d := 60) (a := 123) (b := 207) (as := []) jo_nil (fun t M ht R h => s_knowing (d := 13) h)
  exact q
theorem jo_knows (x1 : Int32) (x2 : Int32) : lx_stI InvH 60 124 208 [.int x1, .int x2] := by
  have q := zst_I (d := 60) (a := 124) (b := 208) (as := [zI x1.toInt, zI x2.toInt]) (oks.cons (r32_toInt x1) (oks.cons (r32_toInt x2) jo_nil)) (fun t M ht R h => s_knows (d := 12) h (r32_toInt x2))
  simp only [zms, List.map, zv, zi_self] at q
  exact q
theorem jo_signs (x1 : Int32) (x2 : Int64) (x3 : Int32) : lx_stI InvH 60 125 228 [.int x1, .long x2, .int x3] := by
  have q := zst_I (d := 60) (a := 125) (b := 228) (as := [zI x1.toInt, zJ x2.toInt, zI x3.toInt]) (oks.cons (r32_toInt x1) (oks.cons (r64_toInt x2) (oks.cons (r32_toInt x3) jo_nil))) (fun t M ht R h => s_signs (d := 12) h)
  simp only [zms, List.map, zv, zi_self, zl_self] at q
  exact q
theorem jo_signed (x1 : Int32) : lx_stL InvH 60 126 229 [.int x1] := by
  have q := zst_L (d := 60) (a := 126) (b := 229) (as := [zI x1.toInt]) (oks.cons (r32_toInt x1) jo_nil) (fun t M ht R h => s_signed (d := 12) h)
  simp only [zms, List.map, zv, zi_self] at q
  exact q
theorem jo_visits (x1 : Int32) : lx_stL InvH 60 128 236 [.int x1] := by
  have q := zst_L (d := 60) (a := 128) (b := 236) (as := [zI x1.toInt]) (oks.cons (r32_toInt x1) jo_nil) (fun t M ht R h => s_visits (d := 13) h)
  simp only [zms, List.map, zv, zi_self] at q
  exact q
theorem jo_ends (x1 : Int32) : lx_stL InvH 60 129 237 [.int x1] := by
  have q := zst_L (d := 60) (a := 129) (b := 237) (as := [zI x1.toInt]) (oks.cons (r32_toInt x1) jo_nil) (fun t M ht R h => s_ends (d := 13) h)
  simp only [zms, List.map, zv, zi_self] at q
  exact q
theorem jo_belief (x1 : Int32) (x2 : Int32) : lx_stI InvH 60 130 244 [.int x1, .int x2] := by
  have q := zst_I (d := 60) (a := 130) (b := 244) (as := [zI x1.toInt, zI x2.toInt]) (oks.cons (r32_toInt x1) (oks.cons (r32_toInt x2) jo_nil)) (fun t M ht R h => s_belief (d := 13) h)
  simp only [zms, List.map, zv, zi_self] at q
  exact q
theorem jo_bet (x1 : Int32) (x2 : Int32) : lx_stL InvH 60 131 245 [.int x1, .int x2] := by
  have q := zst_L (d := 60) (a := 131) (b := 245) (as := [zI x1.toInt, zI x2.toInt]) (oks.cons (r32_toInt x1) (oks.cons (r32_toInt x2) jo_nil)) (fun t M ht R h => s_bet (d := 13) h)
  simp only [zms, List.map, zv, zi_self] at q
  exact q
theorem jo_price (x1 : Int32) : lx_stI InvH 60 132 246 [.int x1] := by
  have q := zst_I (d := 60) (a := 132) (b := 246) (as := [zI x1.toInt]) (oks.cons (r32_toInt x1) jo_nil) (fun t M ht R h => s_price (d := 13) h)
  simp only [zms, List.map, zv, zi_self] at q
  exact q
theorem jo_ride (x1 : Int32) : lx_stI InvH 60 133 248 [.int x1] := by
  have q := zst_I (d := 60) (a := 133) (b := 248) (as := [zI x1.toInt]) (oks.cons (r32_toInt x1) jo_nil) (fun t M ht R h => s_ride (d := 14) ht h)
  simp only [zms, List.map, zv, zi_self] at q
  exact q
theorem jo_rode (x1 : Int32) : lx_stL InvH 60 134 249 [.int x1] := by
  have q := zst_L (d := 60) (a := 134) (b := 249) (as := [zI x1.toInt]) (oks.cons (r32_toInt x1) jo_nil) (fun t M ht R h => s_rode (d := 58) h)
  simp only [zms, List.map, zv, zi_self] at q
  exact q
theorem jo_image (x1 : Int32) : lx_stI InvH 60 135 151 [.int x1] := by
  have q := zst_I (d := 60) (a := 135) (b := 151) (as := [zI x1.toInt]) (oks.cons (r32_toInt x1) jo_nil) (fun t M ht R h => s_image (d := 56) ht h)
  simp only [zms, List.map, zv, zi_self] at q
  exact q
theorem jo_back (x1 : Int32) : lx_stI InvH 60 136 152 [.int x1] := by
  have q := zst_I (d := 60) (a := 136) (b := 152) (as := [zI x1.toInt]) (oks.cons (r32_toInt x1) jo_nil) (fun t M ht R h => s_back (d := 56) ht h)
  simp only [zms, List.map, zv, zi_self] at q
  exact q
theorem jo_count (x1 : Int32) : lx_stI InvH 60 137 250 [.int x1] := by
  have q := zst_I (d := 60) (a := 137) (b := 250) (as := [zI x1.toInt]) (oks.cons (r32_toInt x1) jo_nil) (fun t M ht R h => s_count (d := 55) h)
  simp only [zms, List.map, zv, zi_self] at q
  exact q
theorem jo_status : lx_stI InvH 60 138 251 [] := by
  have q := zst_I (d := 60) (a := 138) (b := 251) (as := []) jo_nil (fun t M ht R h => s_status (d := 59) h)
  exact q
theorem jo_law (n : Nat) (xs : Nat → Int32) (hn : n ≤ 3072) : ∃ hf : AH, am_rn qL_law uL_law 3 (am_sem 60) 0 [(0, .ref 28)] (am_h0 n xs) = some (some (.int 1), hf) ∧ hf.1 ≤ 600000 ∧ hf.2.1 ≤ 7302250 := lx_law InvH jo_hI (fun h => st_Inv) (d := 60) (by decide) (fun hy hk => am_sem_le hy hk) jo_feed jo_end jo_country jo_fault jo_terms jo_of jo_pays jo_paint jo_used jo_rule jo_tenths jo_worth jo_from jo_plain jo_road jo_follow jo_die jo_cast jo_power jo_pocket jo_knowing jo_knows jo_signs jo_signed jo_visits jo_ends jo_belief jo_bet jo_price jo_ride jo_rode jo_image jo_back jo_count jo_status n xs hn
