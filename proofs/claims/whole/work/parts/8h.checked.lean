/-! every table is what the machine has: by program -/
theorem am_cb_124_2 : am_okC am_sg yX10_pocket0.cls (Nat.beq 1 2) 11 cX10_pocket0 ((qX10_pocket0.drop 13).take 2) = true := by decide +kernel
theorem am_cb_124 : am_okC am_sg yX10_pocket0.cls (Nat.beq 1 2) 11 cX10_pocket0 qX10_pocket0 = true := (am_okC_step 0 7 am_cb_124_0 (am_okC_step 7 6 am_cb_124_1 (am_okC_step 13 2 am_cb_124_2 (by rfl))))
theorem am_cr_124 : am_okR yX10_pocket0 3 2 1 cX10_pocket0 11 (some .long) 1692 1691 132 104 = true := by decide +kernel
theorem am_ck_124 : ((am_sg.drop 223).zip am_md_124).all (am_okM am_sg) = true := by
  show (am_okM am_sg ((yX10_pocket0, 3, 2, 1), (qX10_pocket0, uX10_pocket0, cX10_pocket0, 11, (some .long), [1692, 1691, 132, 104])) && true) = true
  rw [am_okM_of am_cb_124 am_cr_124]
  rfl
theorem am_cb_125_0 : am_okC am_sg yX10_pocket.cls (Nat.beq 1 2) 10 cX10_pocket ((qX10_pocket.drop 0).take 5) = true := by decide +kernel
theorem am_cb_125_1 : am_okC am_sg yX10_pocket.cls (Nat.beq 1 2) 10 cX10_pocket ((qX10_pocket.drop 5).take 6) = true := by decide +kernel
theorem am_cb_125_2 : am_okC am_sg yX10_pocket.cls (Nat.beq 1 2) 10 cX10_pocket ((qX10_pocket.drop 11).take 6) = true := by decide +kernel
theorem am_cb_125_3 : am_okC am_sg yX10_pocket.cls (Nat.beq 1 2) 10 cX10_pocket ((qX10_pocket.drop 17).take 2) = true := by decide +kernel
theorem am_cb_125 : am_okC am_sg yX10_pocket.cls (Nat.beq 1 2) 10 cX10_pocket qX10_pocket = true := (am_okC_step 0 5 am_cb_125_0 (am_okC_step 5 6 am_cb_125_1 (am_okC_step 11 6 am_cb_125_2 (am_okC_step 17 2 am_cb_125_3 (by rfl)))))
theorem am_cr_125 : am_okR yX10_pocket 0 2 1 cX10_pocket 10 (some .long) 1688 1686 132 1687 = true := by decide +kernel
theorem am_ck_125 : ((am_sg.drop 224).zip am_md_125).all (am_okM am_sg) = true := by
  show (am_okM am_sg ((yX10_pocket, 0, 2, 1), (qX10_pocket, uX10_pocket, cX10_pocket, 10, (some .long), [1688, 1686, 132, 1687])) && true) = true
  rw [am_okM_of am_cb_125 am_cr_125]
  rfl
theorem am_ck_126 : ((am_sg.drop 225).zip am_md_126).all (am_okM am_sg) = true := by decide +kernel
theorem am_ck_127 : ((am_sg.drop 227).zip am_md_127).all (am_okM am_sg) = true := by decide +kernel
theorem am_ck_128 : ((am_sg.drop 228).zip am_md_128).all (am_okM am_sg) = true := by decide +kernel
theorem am_ck_129 : ((am_sg.drop 229).zip am_md_129).all (am_okM am_sg) = true := by decide +kernel
theorem am_cb_130_0 : am_okC am_sg yX10_spreads.cls (Nat.beq 1 2) 6 cX10_spreads ((qX10_spreads.drop 0).take 8) = true := by decide +kernel
theorem am_cb_130_1 : am_okC am_sg yX10_spreads.cls (Nat.beq 1 2) 6 cX10_spreads ((qX10_spreads.drop 8).take 4) = true := by decide +kernel
theorem am_cb_130 : am_okC am_sg yX10_spreads.cls (Nat.beq 1 2) 6 cX10_spreads qX10_spreads = true := (am_okC_step 0 8 am_cb_130_0 (am_okC_step 8 4 am_cb_130_1 (by rfl)))
theorem am_cr_130 : am_okR yX10_spreads 0 0 1 cX10_spreads 6 none 1725 1724 132 109 = true := by decide +kernel
theorem am_ck_130 : ((am_sg.drop 231).zip am_md_130).all (am_okM am_sg) = true := by
  show (am_okM am_sg ((yX10_spreads, 0, 0, 1), (qX10_spreads, uX10_spreads, cX10_spreads, 6, none, [1725, 1724, 132, 109])) && true) = true
  rw [am_okM_of am_cb_130 am_cr_130]
  rfl
theorem am_ck_131 : ((am_sg.drop 232).zip am_md_131).all (am_okM am_sg) = true := by decide +kernel
theorem am_ck_132 : ((am_sg.drop 235).zip am_md_132).all (am_okM am_sg) = true := by decide +kernel
theorem am_ck_133 : ((am_sg.drop 239).zip am_md_133).all (am_okM am_sg) = true := by decide +kernel
theorem am_ck_134 : ((am_sg.drop 241).zip am_md_134).all (am_okM am_sg) = true := by decide +kernel
theorem am_ck_135 : ((am_sg.drop 242).zip am_md_135).all (am_okM am_sg) = true := by decide +kernel
theorem am_cb_136_0 : am_okC am_sg yX10_second.cls (Nat.beq 1 2) 10 cX10_second ((qX10_second.drop 0).take 5) = true := by decide +kernel
theorem am_cb_136_1 : am_okC am_sg yX10_second.cls (Nat.beq 1 2) 10 cX10_second ((qX10_second.drop 5).take 5) = true := by decide +kernel
theorem am_cb_136_2 : am_okC am_sg yX10_second.cls (Nat.beq 1 2) 10 cX10_second ((qX10_second.drop 10).take 5) = true := by decide +kernel
theorem am_cb_136_3 : am_okC am_sg yX10_second.cls (Nat.beq 1 2) 10 cX10_second ((qX10_second.drop 15).take 5) = true := by decide +kernel
theorem am_cb_136 : am_okC am_sg yX10_second.cls (Nat.beq 1 2) 10 cX10_second qX10_second = true := (am_okC_step 0 5 am_cb_136_0 (am_okC_step 5 5 am_cb_136_1 (am_okC_step 10 5 am_cb_136_2 (am_okC_step 15 5 am_cb_136_3 (by rfl)))))
theorem am_cr_136 : am_okR yX10_second 1 1 1 cX10_second 10 (some .int) 1757 1756 132 115 = true := by decide +kernel
theorem am_ck_136 : ((am_sg.drop 243).zip am_md_136).all (am_okM am_sg) = true := by
  show (am_okM am_sg ((yX10_second, 1, 1, 1), (qX10_second, uX10_second, cX10_second, 10, (some .int), [1757, 1756, 132, 115])) && true) = true
  rw [am_okM_of am_cb_136 am_cr_136]
  rfl
theorem am_ck_137 : ((am_sg.drop 244).zip am_md_137).all (am_okM am_sg) = true := by decide +kernel
theorem am_cb_138_0 : am_okC am_sg yX10_ride.cls (Nat.beq 1 2) 8 cX10_ride ((qX10_ride.drop 0).take 7) = true := by decide +kernel
