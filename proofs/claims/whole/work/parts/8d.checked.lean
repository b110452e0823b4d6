/-! every table is what the machine has: by program -/
theorem am_ck_76 : ((am_sg.drop 129).zip am_md_76).all (am_okM am_sg) = true := by decide +kernel
theorem am_ck_77 : ((am_sg.drop 130).zip am_md_77).all (am_okM am_sg) = true := by decide +kernel
theorem am_ck_78 : ((am_sg.drop 132).zip am_md_78).all (am_okM am_sg) = true := by decide +kernel
theorem am_ck_79 : ((am_sg.drop 135).zip am_md_79).all (am_okM am_sg) = true := by decide +kernel
theorem am_ck_80 : ((am_sg.drop 137).zip am_md_80).all (am_okM am_sg) = true := by decide +kernel
theorem am_ck_81 : ((am_sg.drop 138).zip am_md_81).all (am_okM am_sg) = true := by decide +kernel
theorem am_ck_82 : ((am_sg.drop 148).zip am_md_82).all (am_okM am_sg) = true := by decide +kernel
theorem am_cb_83_0 : am_okC am_sg yX10_init.cls (Nat.beq 2 2) 2 cX10_init ((qX10_init.drop 0).take 3) = true := by decide +kernel
theorem am_cb_83_1 : am_okC am_sg yX10_init.cls (Nat.beq 2 2) 2 cX10_init ((qX10_init.drop 3).take 2) = true := by decide +kernel
theorem am_cb_83_2 : am_okC am_sg yX10_init.cls (Nat.beq 2 2) 2 cX10_init ((qX10_init.drop 5).take 2) = true := by decide +kernel
theorem am_cb_83_3 : am_okC am_sg yX10_init.cls (Nat.beq 2 2) 2 cX10_init ((qX10_init.drop 7).take 2) = true := by decide +kernel
theorem am_cb_83_4 : am_okC am_sg yX10_init.cls (Nat.beq 2 2) 2 cX10_init ((qX10_init.drop 9).take 2) = true := by decide +kernel
theorem am_cb_83_5 : am_okC am_sg yX10_init.cls (Nat.beq 2 2) 2 cX10_init ((qX10_init.drop 11).take 2) = true := by decide +kernel
theorem am_cb_83_6 : am_okC am_sg yX10_init.cls (Nat.beq 2 2) 2 cX10_init ((qX10_init.drop 13).take 2) = true := by decide +kernel
theorem am_cb_83_7 : am_okC am_sg yX10_init.cls (Nat.beq 2 2) 2 cX10_init ((qX10_init.drop 15).take 2) = true := by decide +kernel
theorem am_cb_83_8 : am_okC am_sg yX10_init.cls (Nat.beq 2 2) 2 cX10_init ((qX10_init.drop 17).take 2) = true := by decide +kernel
theorem am_cb_83_9 : am_okC am_sg yX10_init.cls (Nat.beq 2 2) 2 cX10_init ((qX10_init.drop 19).take 2) = true := by decide +kernel
theorem am_cb_83_10 : am_okC am_sg yX10_init.cls (Nat.beq 2 2) 2 cX10_init ((qX10_init.drop 21).take 3) = true := by decide +kernel
theorem am_cb_83_11 : am_okC am_sg yX10_init.cls (Nat.beq 2 2) 2 cX10_init ((qX10_init.drop 24).take 3) = true := by decide +kernel
theorem am_cb_83_12 : am_okC am_sg yX10_init.cls (Nat.beq 2 2) 2 cX10_init ((qX10_init.drop 27).take 3) = true := by decide +kernel
theorem am_cb_83_13 : am_okC am_sg yX10_init.cls (Nat.beq 2 2) 2 cX10_init ((qX10_init.drop 30).take 3) = true := by decide +kernel
