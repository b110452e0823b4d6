/-! every table is what the machine has: by program -/
theorem am_ck_law_13 : am_okC am_sg RL false 4 code ((qL_law.drop 14).take 1) = true := by decide +kernel
theorem am_ck_law_14 : am_okC am_sg RL false 4 code ((qL_law.drop 15).take 1) = true := by decide +kernel
theorem am_ck_law_15 : am_okC am_sg RL false 4 code ((qL_law.drop 16).take 1) = true := by decide +kernel
theorem am_ck_law_16 : am_okC am_sg RL false 4 code ((qL_law.drop 17).take 1) = true := by decide +kernel
theorem am_ck_law_17 : am_okC am_sg RL false 4 code ((qL_law.drop 18).take 1) = true := by decide +kernel
theorem am_ck_law_18 : am_okC am_sg RL false 4 code ((qL_law.drop 19).take 1) = true := by decide +kernel
theorem am_ck_law_19 : am_okC am_sg RL false 4 code ((qL_law.drop 20).take 1) = true := by decide +kernel
theorem am_ck_law_20 : am_okC am_sg RL false 4 code ((qL_law.drop 21).take 1) = true := by decide +kernel
theorem am_ck_law_21 : am_okC am_sg RL false 4 code ((qL_law.drop 22).take 1) = true := by decide +kernel
theorem am_ck_law_22 : am_okC am_sg RL false 4 code ((qL_law.drop 23).take 1) = true := by decide +kernel
theorem am_ck_law_23 : am_okC am_sg RL false 4 code ((qL_law.drop 24).take 1) = true := by decide +kernel
theorem am_ck_law_24 : am_okC am_sg RL false 4 code ((qL_law.drop 25).take 1) = true := by decide +kernel
theorem am_ck_law_25 : am_okC am_sg RL false 4 code ((qL_law.drop 26).take 1) = true := by decide +kernel
theorem am_ck_law_26 : am_okC am_sg RL false 4 code ((qL_law.drop 27).take 1) = true := by decide +kernel
theorem am_ck_law_27 : am_okC am_sg RL false 4 code ((qL_law.drop 28).take 1) = true := by decide +kernel
theorem am_ck_law_28 : am_okC am_sg RL false 4 code ((qL_law.drop 29).take 1) = true := by decide +kernel
theorem am_ck_law_29 : am_okC am_sg RL false 4 code ((qL_law.drop 30).take 1) = true := by decide +kernel
