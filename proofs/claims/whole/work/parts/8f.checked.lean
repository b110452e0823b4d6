/-! every table is what the machine has: by program -/
theorem am_cb_95_6 : am_okC am_sg yX10_readPlace.cls (Nat.beq 1 2) 5 cX10_readPlace ((qX10_readPlace.drop 18).take 3) = true := by decide +kernel
theorem am_cb_95_7 : am_okC am_sg yX10_readPlace.cls (Nat.beq 1 2) 5 cX10_readPlace ((qX10_readPlace.drop 21).take 3) = true := by decide +kernel
theorem am_cb_95_8 : am_okC am_sg yX10_readPlace.cls (Nat.beq 1 2) 5 cX10_readPlace ((qX10_readPlace.drop 24).take 3) = true := by decide +kernel
theorem am_cb_95_9 : am_okC am_sg yX10_readPlace.cls (Nat.beq 1 2) 5 cX10_readPlace ((qX10_readPlace.drop 27).take 4) = true := by decide +kernel
theorem am_cb_95 : am_okC am_sg yX10_readPlace.cls (Nat.beq 1 2) 5 cX10_readPlace qX10_readPlace = true := (am_okC_step 0 3 am_cb_95_0 (am_okC_step 3 3 am_cb_95_1 (am_okC_step 6 3 am_cb_95_2 (am_okC_step 9 3 am_cb_95_3 (am_okC_step 12 3 am_cb_95_4 (am_okC_step 15 3 am_cb_95_5 (am_okC_step 18 3 am_cb_95_6 (am_okC_step 21 3 am_cb_95_7 (am_okC_step 24 3 am_cb_95_8 (am_okC_step 27 4 am_cb_95_9 (by rfl)))))))))))
theorem am_cr_95 : am_okR yX10_readPlace 0 0 1 cX10_readPlace 5 none 1433 1432 132 64 = true := by decide +kernel
theorem am_ck_95 : ((am_sg.drop 178).zip am_md_95).all (am_okM am_sg) = true := by
  show (am_okM am_sg ((yX10_readPlace, 0, 0, 1), (qX10_readPlace, uX10_readPlace, cX10_readPlace, 5, none, [1433, 1432, 132, 64])) && true) = true
  rw [am_okM_of am_cb_95 am_cr_95]
  rfl
theorem am_cb_96_0 : am_okC am_sg yX10_country.cls (Nat.beq 1 2) 3 cX10_country ((qX10_country.drop 0).take 7) = true := by decide +kernel
theorem am_cb_96_1 : am_okC am_sg yX10_country.cls (Nat.beq 1 2) 3 cX10_country ((qX10_country.drop 7).take 7) = true := by decide +kernel
theorem am_cb_96_2 : am_okC am_sg yX10_country.cls (Nat.beq 1 2) 3 cX10_country ((qX10_country.drop 14).take 2) = true := by decide +kernel
theorem am_cb_96 : am_okC am_sg yX10_country.cls (Nat.beq 1 2) 3 cX10_country qX10_country = true := (am_okC_step 0 7 am_cb_96_0 (am_okC_step 7 7 am_cb_96_1 (am_okC_step 14 2 am_cb_96_2 (by rfl))))
theorem am_cr_96 : am_okR yX10_country 0 1 1 cX10_country 3 (some .int) 1406 1404 132 1405 = true := by decide +kernel
theorem am_ck_96 : ((am_sg.drop 179).zip am_md_96).all (am_okM am_sg) = true := by
  show (am_okM am_sg ((yX10_country, 0, 1, 1), (qX10_country, uX10_country, cX10_country, 3, (some .int), [1406, 1404, 132, 1405])) && true) = true
  rw [am_okM_of am_cb_96 am_cr_96]
  rfl
theorem am_ck_97 : ((am_sg.drop 180).zip am_md_97).all (am_okM am_sg) = true := by decide +kernel
theorem am_ck_98 : ((am_sg.drop 184).zip am_md_98).all (am_okM am_sg) = true := by decide +kernel
theorem am_ck_99 : ((am_sg.drop 185).zip am_md_99).all (am_okM am_sg) = true := by decide +kernel
theorem am_ck_100 : ((am_sg.drop 186).zip am_md_100).all (am_okM am_sg) = true := by decide +kernel
theorem am_ck_101 : ((am_sg.drop 187).zip am_md_101).all (am_okM am_sg) = true := by decide +kernel
theorem am_ck_102 : ((am_sg.drop 190).zip am_md_102).all (am_okM am_sg) = true := by decide +kernel
theorem am_ck_103 : ((am_sg.drop 191).zip am_md_103).all (am_okM am_sg) = true := by decide +kernel
theorem am_ck_104 : ((am_sg.drop 192).zip am_md_104).all (am_okM am_sg) = true := by decide +kernel
theorem am_ck_105 : ((am_sg.drop 193).zip am_md_105).all (am_okM am_sg) = true := by decide +kernel
theorem am_ck_106 : ((am_sg.drop 194).zip am_md_106).all (am_okM am_sg) = true := by decide +kernel
theorem am_ck_107 : ((am_sg.drop 195).zip am_md_107).all (am_okM am_sg) = true := by decide +kernel
theorem am_ck_108 : ((am_sg.drop 198).zip am_md_108).all (am_okM am_sg) = true := by decide +kernel
theorem am_ck_109 : ((am_sg.drop 199).zip am_md_109).all (am_okM am_sg) = true := by decide +kernel
theorem am_cb_110_0 : am_okC am_sg yX10_weigh.cls (Nat.beq 1 2) 14 cX10_weigh ((qX10_weigh.drop 0).take 5) = true := by decide +kernel
theorem am_cb_110_1 : am_okC am_sg yX10_weigh.cls (Nat.beq 1 2) 14 cX10_weigh ((qX10_weigh.drop 5).take 5) = true := by decide +kernel
theorem am_cb_110_2 : am_okC am_sg yX10_weigh.cls (Nat.beq 1 2) 14 cX10_weigh ((qX10_weigh.drop 10).take 6) = true := by decide +kernel
