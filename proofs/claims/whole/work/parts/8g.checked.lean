/-! every table is what the machine has: by program -/
theorem am_cb_110_3 : am_okC am_sg yX10_weigh.cls (Nat.beq 1 2) 14 cX10_weigh ((qX10_weigh.drop 16).take 1) = true := by decide +kernel
theorem am_cb_110 : am_okC am_sg yX10_weigh.cls (Nat.beq 1 2) 14 cX10_weigh qX10_weigh = true := (am_okC_step 0 5 am_cb_110_0 (am_okC_step 5 5 am_cb_110_1 (am_okC_step 10 6 am_cb_110_2 (am_okC_step 16 1 am_cb_110_3 (by rfl)))))
theorem am_cr_110 : am_okR yX10_weigh 2 2 1 cX10_weigh 14 (some .long) 1600 1599 132 94 = true := by decide +kernel
theorem am_ck_110 : ((am_sg.drop 203).zip am_md_110).all (am_okM am_sg) = true := by
  show (am_okM am_sg ((yX10_weigh, 2, 2, 1), (qX10_weigh, uX10_weigh, cX10_weigh, 14, (some .long), [1600, 1599, 132, 94])) && true) = true
  rw [am_okM_of am_cb_110 am_cr_110]
  rfl
theorem am_ck_111 : ((am_sg.drop 204).zip am_md_111).all (am_okM am_sg) = true := by decide +kernel
theorem am_ck_112 : ((am_sg.drop 208).zip am_md_112).all (am_okM am_sg) = true := by decide +kernel
theorem am_ck_113 : ((am_sg.drop 209).zip am_md_113).all (am_okM am_sg) = true := by decide +kernel
theorem am_cb_114_0 : am_okC am_sg yX10_plains.cls (Nat.beq 1 2) 7 cX10_plains ((qX10_plains.drop 0).take 7) = true := by decide +kernel
theorem am_cb_114_1 : am_okC am_sg yX10_plains.cls (Nat.beq 1 2) 7 cX10_plains ((qX10_plains.drop 7).take 8) = true := by decide +kernel
theorem am_cb_114 : am_okC am_sg yX10_plains.cls (Nat.beq 1 2) 7 cX10_plains qX10_plains = true := (am_okC_step 0 7 am_cb_114_0 (am_okC_step 7 8 am_cb_114_1 (by rfl)))
theorem am_cr_114 : am_okR yX10_plains 0 0 1 cX10_plains 7 none 1633 1632 132 97 = true := by decide +kernel
theorem am_ck_114 : ((am_sg.drop 210).zip am_md_114).all (am_okM am_sg) = true := by
  show (am_okM am_sg ((yX10_plains, 0, 0, 1), (qX10_plains, uX10_plains, cX10_plains, 7, none, [1633, 1632, 132, 97])) && true) = true
  rw [am_okM_of am_cb_114 am_cr_114]
  rfl
theorem am_ck_115 : ((am_sg.drop 211).zip am_md_115).all (am_okM am_sg) = true := by decide +kernel
theorem am_cb_116_0 : am_okC am_sg yX10_dices.cls (Nat.beq 1 2) 9 cX10_dices ((qX10_dices.drop 0).take 7) = true := by decide +kernel
theorem am_cb_116_1 : am_okC am_sg yX10_dices.cls (Nat.beq 1 2) 9 cX10_dices ((qX10_dices.drop 7).take 8) = true := by decide +kernel
theorem am_cb_116_2 : am_okC am_sg yX10_dices.cls (Nat.beq 1 2) 9 cX10_dices ((qX10_dices.drop 15).take 1) = true := by decide +kernel
theorem am_cb_116 : am_okC am_sg yX10_dices.cls (Nat.beq 1 2) 9 cX10_dices qX10_dices = true := (am_okC_step 0 7 am_cb_116_0 (am_okC_step 7 8 am_cb_116_1 (am_okC_step 15 1 am_cb_116_2 (by rfl))))
theorem am_cr_116 : am_okR yX10_dices 1 3 1 cX10_dices 9 (some .boolean) 1653 1652 132 99 = true := by decide +kernel
theorem am_ck_116 : ((am_sg.drop 214).zip am_md_116).all (am_okM am_sg) = true := by
  show (am_okM am_sg ((yX10_dices, 1, 3, 1), (qX10_dices, uX10_dices, cX10_dices, 9, (some .boolean), [1653, 1652, 132, 99])) && true) = true
  rw [am_okM_of am_cb_116 am_cr_116]
  rfl
theorem am_ck_117 : ((am_sg.drop 215).zip am_md_117).all (am_okM am_sg) = true := by decide +kernel
theorem am_ck_118 : ((am_sg.drop 216).zip am_md_118).all (am_okM am_sg) = true := by decide +kernel
theorem am_ck_119 : ((am_sg.drop 217).zip am_md_119).all (am_okM am_sg) = true := by decide +kernel
theorem am_ck_120 : ((am_sg.drop 219).zip am_md_120).all (am_okM am_sg) = true := by decide +kernel
theorem am_cb_121_0 : am_okC am_sg yX10_power0.cls (Nat.beq 1 2) 13 cX10_power0 ((qX10_power0.drop 0).take 5) = true := by decide +kernel
theorem am_cb_121_1 : am_okC am_sg yX10_power0.cls (Nat.beq 1 2) 13 cX10_power0 ((qX10_power0.drop 5).take 4) = true := by decide +kernel
theorem am_cb_121_2 : am_okC am_sg yX10_power0.cls (Nat.beq 1 2) 13 cX10_power0 ((qX10_power0.drop 9).take 4) = true := by decide +kernel
theorem am_cb_121_3 : am_okC am_sg yX10_power0.cls (Nat.beq 1 2) 13 cX10_power0 ((qX10_power0.drop 13).take 5) = true := by decide +kernel
theorem am_cb_121_4 : am_okC am_sg yX10_power0.cls (Nat.beq 1 2) 13 cX10_power0 ((qX10_power0.drop 18).take 2) = true := by decide +kernel
theorem am_cb_121 : am_okC am_sg yX10_power0.cls (Nat.beq 1 2) 13 cX10_power0 qX10_power0 = true := (am_okC_step 0 5 am_cb_121_0 (am_okC_step 5 4 am_cb_121_1 (am_okC_step 9 4 am_cb_121_2 (am_okC_step 13 5 am_cb_121_3 (am_okC_step 18 2 am_cb_121_4 (by rfl))))))
theorem am_cr_121 : am_okR yX10_power0 4 2 1 cX10_power0 13 (some .long) 1680 1679 132 102 = true := by decide +kernel
theorem am_ck_121 : ((am_sg.drop 220).zip am_md_121).all (am_okM am_sg) = true := by
  show (am_okM am_sg ((yX10_power0, 4, 2, 1), (qX10_power0, uX10_power0, cX10_power0, 13, (some .long), [1680, 1679, 132, 102])) && true) = true
  rw [am_okM_of am_cb_121 am_cr_121]
  rfl
theorem am_ck_122 : ((am_sg.drop 221).zip am_md_122).all (am_okM am_sg) = true := by decide +kernel
theorem am_ck_123 : ((am_sg.drop 222).zip am_md_123).all (am_okM am_sg) = true := by decide +kernel
theorem am_cb_124_0 : am_okC am_sg yX10_pocket0.cls (Nat.beq 1 2) 11 cX10_pocket0 ((qX10_pocket0.drop 0).take 7) = true := by decide +kernel
theorem am_cb_124_1 : am_okC am_sg yX10_pocket0.cls (Nat.beq 1 2) 11 cX10_pocket0 ((qX10_pocket0.drop 7).take 6) = true := by decide +kernel
