/-! every table is what the machine has: by program -/
theorem am_ck_law_30 : am_okC am_sg RL false 4 code ((qL_law.drop 31).take 1) = true := by decide +kernel
theorem am_ck_law_31 : am_okC am_sg RL false 4 code ((qL_law.drop 32).take 1) = true := by decide +kernel
theorem am_ck_law_32 : am_okC am_sg RL false 4 code ((qL_law.drop 33).take 1) = true := by decide +kernel
theorem am_ck_law_33 : am_okC am_sg RL false 4 code ((qL_law.drop 34).take 1) = true := by decide +kernel
theorem am_ck_law_34 : am_okC am_sg RL false 4 code ((qL_law.drop 35).take 1) = true := by decide +kernel
theorem am_ck_law_35 : am_okC am_sg RL false 4 code ((qL_law.drop 36).take 1) = true := by decide +kernel
theorem am_ck_law_36 : am_okC am_sg RL false 4 code ((qL_law.drop 37).take 1) = true := by decide +kernel
theorem am_ck_law_37 : am_okC am_sg RL false 4 code ((qL_law.drop 38).take 1) = true := by decide +kernel
theorem am_ck_law_38 : am_okC am_sg RL false 4 code ((qL_law.drop 39).take 1) = true := by decide +kernel
theorem am_ck_law_39 : am_okC am_sg RL false 4 code ((qL_law.drop 40).take 1) = true := by decide +kernel
theorem am_ck_law_40 : am_okC am_sg RL false 4 code ((qL_law.drop 41).take 1) = true := by decide +kernel
theorem am_ck_law_41 : am_okC am_sg RL false 4 code ((qL_law.drop 42).take 1) = true := by decide +kernel
theorem am_ck_law_42 : am_okC am_sg RL false 4 code ((qL_law.drop 43).take 1) = true := by decide +kernel
theorem am_ck_law_43 : am_okC am_sg RL false 4 code ((qL_law.drop 44).take 1) = true := by decide +kernel
theorem am_ck_law_44 : am_okC am_sg RL false 4 code ((qL_law.drop 45).take 1) = true := by decide +kernel
theorem am_ck_law_45 : am_okC am_sg RL false 4 code ((qL_law.drop 46).take 1) = true := by decide +kernel
theorem am_ck_law_46 : am_okC am_sg RL false 4 code ((qL_law.drop 47).take 1) = true := by decide +kernel
