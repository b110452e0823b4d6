/-! every table is what the machine has: by program -/
theorem am_cb_83_14 : am_okC am_sg yX10_init.cls (Nat.beq 2 2) 2 cX10_init ((qX10_init.drop 33).take 3) = true := by decide +kernel
theorem am_cb_83_15 : am_okC am_sg yX10_init.cls (Nat.beq 2 2) 2 cX10_init ((qX10_init.drop 36).take 1) = true := by decide +kernel
theorem am_cb_83 : am_okC am_sg yX10_init.cls (Nat.beq 2 2) 2 cX10_init qX10_init = true := (am_okC_step 0 3 am_cb_83_0 (am_okC_step 3 2 am_cb_83_1 (am_okC_step 5 2 am_cb_83_2 (am_okC_step 7 2 am_cb_83_3 (am_okC_step 9 2 am_cb_83_4 (am_okC_step 11 2 am_cb_83_5 (am_okC_step 13 2 am_cb_83_6 (am_okC_step 15 2 am_cb_83_7 (am_okC_step 17 2 am_cb_83_8 (am_okC_step 19 2 am_cb_83_9 (am_okC_step 21 3 am_cb_83_10 (am_okC_step 24 3 am_cb_83_11 (am_okC_step 27 3 am_cb_83_12 (am_okC_step 30 3 am_cb_83_13 (am_okC_step 33 3 am_cb_83_14 (am_okC_step 36 1 am_cb_83_15 (by rfl)))))))))))))))))
theorem am_cr_83 : am_okR yX10_init 0 0 2 cX10_init 2 none 1226 1225 132 0 = true := by decide +kernel
theorem am_ck_83 : ((am_sg.drop 150).zip am_md_83).all (am_okM am_sg) = true := by
  show (am_okM am_sg ((yX10_init, 0, 0, 2), (qX10_init, uX10_init, cX10_init, 2, none, [1226, 1225, 132, 0])) && true) = true
  rw [am_okM_of am_cb_83 am_cr_83]
  rfl
theorem am_ck_84 : ((am_sg.drop 151).zip am_md_84).all (am_okM am_sg) = true := by decide +kernel
theorem am_ck_85 : ((am_sg.drop 157).zip am_md_85).all (am_okM am_sg) = true := by decide +kernel
theorem am_ck_86 : ((am_sg.drop 159).zip am_md_86).all (am_okM am_sg) = true := by decide +kernel
theorem am_ck_87 : ((am_sg.drop 160).zip am_md_87).all (am_okM am_sg) = true := by decide +kernel
theorem am_ck_88 : ((am_sg.drop 163).zip am_md_88).all (am_okM am_sg) = true := by decide +kernel
theorem am_cb_89_0 : am_okC am_sg yX10_splits.cls (Nat.beq 1 2) 6 cX10_splits ((qX10_splits.drop 0).take 6) = true := by decide +kernel
theorem am_cb_89_1 : am_okC am_sg yX10_splits.cls (Nat.beq 1 2) 6 cX10_splits ((qX10_splits.drop 6).take 6) = true := by decide +kernel
theorem am_cb_89_2 : am_okC am_sg yX10_splits.cls (Nat.beq 1 2) 6 cX10_splits ((qX10_splits.drop 12).take 6) = true := by decide +kernel
theorem am_cb_89_3 : am_okC am_sg yX10_splits.cls (Nat.beq 1 2) 6 cX10_splits ((qX10_splits.drop 18).take 1) = true := by decide +kernel
theorem am_cb_89 : am_okC am_sg yX10_splits.cls (Nat.beq 1 2) 6 cX10_splits qX10_splits = true := (am_okC_step 0 6 am_cb_89_0 (am_okC_step 6 6 am_cb_89_1 (am_okC_step 12 6 am_cb_89_2 (am_okC_step 18 1 am_cb_89_3 (by rfl)))))
theorem am_cr_89 : am_okR yX10_splits 1 0 1 cX10_splits 6 none 1410 1409 132 60 = true := by decide +kernel
theorem am_ck_89 : ((am_sg.drop 164).zip am_md_89).all (am_okM am_sg) = true := by
  show (am_okM am_sg ((yX10_splits, 1, 0, 1), (qX10_splits, uX10_splits, cX10_splits, 6, none, [1410, 1409, 132, 60])) && true) = true
  rw [am_okM_of am_cb_89 am_cr_89]
  rfl
theorem am_ck_90 : ((am_sg.drop 165).zip am_md_90).all (am_okM am_sg) = true := by decide +kernel
theorem am_ck_91 : ((am_sg.drop 173).zip am_md_91).all (am_okM am_sg) = true := by decide +kernel
theorem am_ck_92 : ((am_sg.drop 174).zip am_md_92).all (am_okM am_sg) = true := by decide +kernel
theorem am_ck_93 : ((am_sg.drop 176).zip am_md_93).all (am_okM am_sg) = true := by decide +kernel
theorem am_ck_94 : ((am_sg.drop 177).zip am_md_94).all (am_okM am_sg) = true := by decide +kernel
theorem am_cb_95_0 : am_okC am_sg yX10_readPlace.cls (Nat.beq 1 2) 5 cX10_readPlace ((qX10_readPlace.drop 0).take 3) = true := by decide +kernel
theorem am_cb_95_1 : am_okC am_sg yX10_readPlace.cls (Nat.beq 1 2) 5 cX10_readPlace ((qX10_readPlace.drop 3).take 3) = true := by decide +kernel
theorem am_cb_95_2 : am_okC am_sg yX10_readPlace.cls (Nat.beq 1 2) 5 cX10_readPlace ((qX10_readPlace.drop 6).take 3) = true := by decide +kernel
theorem am_cb_95_3 : am_okC am_sg yX10_readPlace.cls (Nat.beq 1 2) 5 cX10_readPlace ((qX10_readPlace.drop 9).take 3) = true := by decide +kernel
theorem am_cb_95_4 : am_okC am_sg yX10_readPlace.cls (Nat.beq 1 2) 5 cX10_readPlace ((qX10_readPlace.drop 12).take 3) = true := by decide +kernel
theorem am_cb_95_5 : am_okC am_sg yX10_readPlace.cls (Nat.beq 1 2) 5 cX10_readPlace ((qX10_readPlace.drop 15).take 3) = true := by decide +kernel
