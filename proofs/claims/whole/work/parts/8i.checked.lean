/-! every table is what the machine has: by program -/
theorem am_cb_138_1 : am_okC am_sg yX10_ride.cls (Nat.beq 1 2) 8 cX10_ride ((qX10_ride.drop 7).take 7) = true := by decide +kernel
theorem am_cb_138_2 : am_okC am_sg yX10_ride.cls (Nat.beq 1 2) 8 cX10_ride ((qX10_ride.drop 14).take 2) = true := by decide +kernel
theorem am_cb_138 : am_okC am_sg yX10_ride.cls (Nat.beq 1 2) 8 cX10_ride qX10_ride = true := (am_okC_step 0 7 am_cb_138_0 (am_okC_step 7 7 am_cb_138_1 (am_okC_step 14 2 am_cb_138_2 (by rfl))))
theorem am_cr_138 : am_okR yX10_ride 1 1 1 cX10_ride 8 (some .int) 1791 1789 132 1790 = true := by decide +kernel
theorem am_ck_138 : ((am_sg.drop 248).zip am_md_138).all (am_okM am_sg) = true := by
  show (am_okM am_sg ((yX10_ride, 1, 1, 1), (qX10_ride, uX10_ride, cX10_ride, 8, (some .int), [1791, 1789, 132, 1790])) && true) = true
  rw [am_okM_of am_cb_138 am_cr_138]
  rfl
theorem am_ck_139 : ((am_sg.drop 249).zip am_md_139).all (am_okM am_sg) = true := by decide +kernel
theorem am_ck_140 : ((am_sg.drop 250).zip am_md_140).all (am_okM am_sg) = true := by decide +kernel
theorem am_ck_141 : ((am_sg.drop 251).zip am_md_141).all (am_okM am_sg) = true := by decide +kernel
theorem am_ck_law_0 : am_okC am_sg RL false 4 code ((qL_law.drop 0).take 1) = true := by decide +kernel
theorem am_ck_law_1 : am_okC am_sg RL false 4 code ((qL_law.drop 1).take 1) = true := by decide +kernel
theorem am_ck_law_2 : am_okC am_sg RL false 4 code ((qL_law.drop 2).take 2) = true := by decide +kernel
theorem am_ck_law_3 : am_okC am_sg RL false 4 code ((qL_law.drop 4).take 1) = true := by decide +kernel
theorem am_ck_law_4 : am_okC am_sg RL false 4 code ((qL_law.drop 5).take 1) = true := by decide +kernel
theorem am_ck_law_5 : am_okC am_sg RL false 4 code ((qL_law.drop 6).take 1) = true := by decide +kernel
theorem am_ck_law_6 : am_okC am_sg RL false 4 code ((qL_law.drop 7).take 1) = true := by decide +kernel
theorem am_ck_law_7 : am_okC am_sg RL false 4 code ((qL_law.drop 8).take 1) = true := by decide +kernel
theorem am_ck_law_8 : am_okC am_sg RL false 4 code ((qL_law.drop 9).take 1) = true := by decide +kernel
theorem am_ck_law_9 : am_okC am_sg RL false 4 code ((qL_law.drop 10).take 1) = true := by decide +kernel
theorem am_ck_law_10 : am_okC am_sg RL false 4 code ((qL_law.drop 11).take 1) = true := by decide +kernel
theorem am_ck_law_11 : am_okC am_sg RL false 4 code ((qL_law.drop 12).take 1) = true := by decide +kernel
theorem am_ck_law_12 : am_okC am_sg RL false 4 code ((qL_law.drop 13).take 1) = true := by decide +kernel
