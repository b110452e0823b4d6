/-! every table is what the machine has: by program -/
theorem am_ck_54 : ((am_sg.drop 82).zip am_md_54).all (am_okM am_sg) = true := by decide +kernel
theorem am_ck_55 : ((am_sg.drop 83).zip am_md_55).all (am_okM am_sg) = true := by decide +kernel
theorem am_ck_56 : ((am_sg.drop 84).zip am_md_56).all (am_okM am_sg) = true := by decide +kernel
theorem am_ck_57 : ((am_sg.drop 87).zip am_md_57).all (am_okM am_sg) = true := by decide +kernel
theorem am_ck_58 : ((am_sg.drop 88).zip am_md_58).all (am_okM am_sg) = true := by decide +kernel
theorem am_ck_59 : ((am_sg.drop 89).zip am_md_59).all (am_okM am_sg) = true := by decide +kernel
theorem am_ck_60 : ((am_sg.drop 92).zip am_md_60).all (am_okM am_sg) = true := by decide +kernel
theorem am_cb_61_0 : am_okC am_sg yX7_run.cls (Nat.beq 1 2) 10 cX7_run ((qX7_run.drop 0).take 7) = true := by decide +kernel
theorem am_cb_61_1 : am_okC am_sg yX7_run.cls (Nat.beq 1 2) 10 cX7_run ((qX7_run.drop 7).take 7) = true := by decide +kernel
theorem am_cb_61_2 : am_okC am_sg yX7_run.cls (Nat.beq 1 2) 10 cX7_run ((qX7_run.drop 14).take 2) = true := by decide +kernel
theorem am_cb_61 : am_okC am_sg yX7_run.cls (Nat.beq 1 2) 10 cX7_run qX7_run = true := (am_okC_step 0 7 am_cb_61_0 (am_okC_step 7 7 am_cb_61_1 (am_okC_step 14 2 am_cb_61_2 (by rfl))))
theorem am_cr_61 : am_okR yX7_run 3 2 1 cX7_run 10 (some .long) 790 789 126 25 = true := by decide +kernel
theorem am_ck_61 : ((am_sg.drop 93).zip am_md_61).all (am_okM am_sg) = true := by
  show (am_okM am_sg ((yX7_run, 3, 2, 1), (qX7_run, uX7_run, cX7_run, 10, (some .long), [790, 789, 126, 25])) && true) = true
  rw [am_okM_of am_cb_61 am_cr_61]
  rfl
theorem am_ck_62 : ((am_sg.drop 94).zip am_md_62).all (am_okM am_sg) = true := by decide +kernel
theorem am_ck_63 : ((am_sg.drop 96).zip am_md_63).all (am_okM am_sg) = true := by decide +kernel
theorem am_ck_64 : ((am_sg.drop 97).zip am_md_64).all (am_okM am_sg) = true := by decide +kernel
theorem am_cb_65_0 : am_okC am_sg yX8_go.cls (Nat.beq 1 2) 7 cX8_go ((qX8_go.drop 0).take 7) = true := by decide +kernel
theorem am_cb_65_1 : am_okC am_sg yX8_go.cls (Nat.beq 1 2) 7 cX8_go ((qX8_go.drop 7).take 7) = true := by decide +kernel
theorem am_cb_65_2 : am_okC am_sg yX8_go.cls (Nat.beq 1 2) 7 cX8_go ((qX8_go.drop 14).take 1) = true := by decide +kernel
theorem am_cb_65 : am_okC am_sg yX8_go.cls (Nat.beq 1 2) 7 cX8_go qX8_go = true := (am_okC_step 0 7 am_cb_65_0 (am_okC_step 7 7 am_cb_65_1 (am_okC_step 14 1 am_cb_65_2 (by rfl))))
theorem am_cr_65 : am_okR yX8_go 1 0 1 cX8_go 7 none 1181 1179 131 1180 = true := by decide +kernel
theorem am_ck_65 : ((am_sg.drop 99).zip am_md_65).all (am_okM am_sg) = true := by
  show (am_okM am_sg ((yX8_go, 1, 0, 1), (qX8_go, uX8_go, cX8_go, 7, none, [1181, 1179, 131, 1180])) && true) = true
  rw [am_okM_of am_cb_65 am_cr_65]
  rfl
theorem am_ck_66 : ((am_sg.drop 100).zip am_md_66).all (am_okM am_sg) = true := by decide +kernel
theorem am_cb_67_0 : am_okC am_sg yX9_init.cls (Nat.beq 2 2) 1 cX9_init ((qX9_init.drop 0).take 9) = true := by decide +kernel
theorem am_cb_67_1 : am_okC am_sg yX9_init.cls (Nat.beq 2 2) 1 cX9_init ((qX9_init.drop 9).take 4) = true := by decide +kernel
theorem am_cb_67 : am_okC am_sg yX9_init.cls (Nat.beq 2 2) 1 cX9_init qX9_init = true := (am_okC_step 0 9 am_cb_67_0 (am_okC_step 9 4 am_cb_67_1 (by rfl)))
theorem am_cr_67 : am_okR yX9_init 0 0 2 cX9_init 1 none 145 144 122 0 = true := by decide +kernel
theorem am_ck_67 : ((am_sg.drop 101).zip am_md_67).all (am_okM am_sg) = true := by
  show (am_okM am_sg ((yX9_init, 0, 0, 2), (qX9_init, uX9_init, cX9_init, 1, none, [145, 144, 122, 0])) && true) = true
  rw [am_okM_of am_cb_67 am_cr_67]
  rfl
theorem am_ck_68 : ((am_sg.drop 102).zip am_md_68).all (am_okM am_sg) = true := by decide +kernel
theorem am_ck_69 : ((am_sg.drop 107).zip am_md_69).all (am_okM am_sg) = true := by decide +kernel
theorem am_ck_70 : ((am_sg.drop 110).zip am_md_70).all (am_okM am_sg) = true := by decide +kernel
theorem am_ck_71 : ((am_sg.drop 112).zip am_md_71).all (am_okM am_sg) = true := by decide +kernel
theorem am_ck_72 : ((am_sg.drop 115).zip am_md_72).all (am_okM am_sg) = true := by decide +kernel
theorem am_ck_73 : ((am_sg.drop 119).zip am_md_73).all (am_okM am_sg) = true := by decide +kernel
theorem am_ck_74 : ((am_sg.drop 123).zip am_md_74).all (am_okM am_sg) = true := by decide +kernel
theorem am_ck_75 : ((am_sg.drop 127).zip am_md_75).all (am_okM am_sg) = true := by decide +kernel
