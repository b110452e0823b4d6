/-! every table is what the machine has: by program -/
theorem am_ck_28 : ((am_sg.drop 38).zip am_md_28).all (am_okM am_sg) = true := by decide +kernel
theorem am_ck_29 : ((am_sg.drop 39).zip am_md_29).all (am_okM am_sg) = true := by decide +kernel
theorem am_cb_30_0 : am_okC am_sg yX4_keyAhead.cls (Nat.beq 1 2) 6 cX4_keyAhead ((qX4_keyAhead.drop 0).take 6) = true := by decide +kernel
theorem am_cb_30_1 : am_okC am_sg yX4_keyAhead.cls (Nat.beq 1 2) 6 cX4_keyAhead ((qX4_keyAhead.drop 6).take 7) = true := by decide +kernel
theorem am_cb_30_2 : am_okC am_sg yX4_keyAhead.cls (Nat.beq 1 2) 6 cX4_keyAhead ((qX4_keyAhead.drop 13).take 2) = true := by decide +kernel
theorem am_cb_30 : am_okC am_sg yX4_keyAhead.cls (Nat.beq 1 2) 6 cX4_keyAhead qX4_keyAhead = true := (am_okC_step 0 6 am_cb_30_0 (am_okC_step 6 7 am_cb_30_1 (am_okC_step 13 2 am_cb_30_2 (by rfl))))
theorem am_cr_30 : am_okR yX4_keyAhead 0 1 1 cX4_keyAhead 6 (some .int) 1067 1066 129 50 = true := by decide +kernel
theorem am_ck_30 : ((am_sg.drop 40).zip am_md_30).all (am_okM am_sg) = true := by
  show (am_okM am_sg ((yX4_keyAhead, 0, 1, 1), (qX4_keyAhead, uX4_keyAhead, cX4_keyAhead, 6, (some .int), [1067, 1066, 129, 50])) && true) = true
  rw [am_okM_of am_cb_30 am_cr_30]
  rfl
theorem am_ck_31 : ((am_sg.drop 41).zip am_md_31).all (am_okM am_sg) = true := by decide +kernel
theorem am_ck_32 : ((am_sg.drop 42).zip am_md_32).all (am_okM am_sg) = true := by decide +kernel
theorem am_ck_33 : ((am_sg.drop 43).zip am_md_33).all (am_okM am_sg) = true := by decide +kernel
theorem am_ck_34 : ((am_sg.drop 44).zip am_md_34).all (am_okM am_sg) = true := by decide +kernel
theorem am_ck_35 : ((am_sg.drop 45).zip am_md_35).all (am_okM am_sg) = true := by decide +kernel
theorem am_ck_36 : ((am_sg.drop 46).zip am_md_36).all (am_okM am_sg) = true := by decide +kernel
theorem am_ck_37 : ((am_sg.drop 47).zip am_md_37).all (am_okM am_sg) = true := by decide +kernel
theorem am_ck_38 : ((am_sg.drop 48).zip am_md_38).all (am_okM am_sg) = true := by decide +kernel
theorem am_ck_39 : ((am_sg.drop 49).zip am_md_39).all (am_okM am_sg) = true := by decide +kernel
theorem am_ck_40 : ((am_sg.drop 50).zip am_md_40).all (am_okM am_sg) = true := by decide +kernel
theorem am_ck_41 : ((am_sg.drop 52).zip am_md_41).all (am_okM am_sg) = true := by decide +kernel
theorem am_ck_42 : ((am_sg.drop 54).zip am_md_42).all (am_okM am_sg) = true := by decide +kernel
theorem am_ck_43 : ((am_sg.drop 56).zip am_md_43).all (am_okM am_sg) = true := by decide +kernel
theorem am_ck_44 : ((am_sg.drop 58).zip am_md_44).all (am_okM am_sg) = true := by decide +kernel
theorem am_ck_45 : ((am_sg.drop 59).zip am_md_45).all (am_okM am_sg) = true := by decide +kernel
theorem am_ck_46 : ((am_sg.drop 60).zip am_md_46).all (am_okM am_sg) = true := by decide +kernel
theorem am_ck_47 : ((am_sg.drop 61).zip am_md_47).all (am_okM am_sg) = true := by decide +kernel
theorem am_ck_48 : ((am_sg.drop 67).zip am_md_48).all (am_okM am_sg) = true := by decide +kernel
theorem am_cb_49_0 : am_okC am_sg yX5_advance.cls (Nat.beq 1 2) 2 cX5_advance ((qX5_advance.drop 0).take 9) = true := by decide +kernel
theorem am_cb_49_1 : am_okC am_sg yX5_advance.cls (Nat.beq 1 2) 2 cX5_advance ((qX5_advance.drop 9).take 4) = true := by decide +kernel
theorem am_cb_49 : am_okC am_sg yX5_advance.cls (Nat.beq 1 2) 2 cX5_advance qX5_advance = true := (am_okC_step 0 9 am_cb_49_0 (am_okC_step 9 4 am_cb_49_1 (by rfl)))
theorem am_cr_49 : am_okR yX5_advance 0 0 1 cX5_advance 2 none 578 577 124 1 = true := by decide +kernel
theorem am_ck_49 : ((am_sg.drop 68).zip am_md_49).all (am_okM am_sg) = true := by
  show (am_okM am_sg ((yX5_advance, 0, 0, 1), (qX5_advance, uX5_advance, cX5_advance, 2, none, [578, 577, 124, 1])) && true) = true
  rw [am_okM_of am_cb_49 am_cr_49]
  rfl
theorem am_ck_50 : ((am_sg.drop 69).zip am_md_50).all (am_okM am_sg) = true := by decide +kernel
theorem am_ck_51 : ((am_sg.drop 74).zip am_md_51).all (am_okM am_sg) = true := by decide +kernel
theorem am_ck_52 : ((am_sg.drop 80).zip am_md_52).all (am_okM am_sg) = true := by decide +kernel
theorem am_ck_53 : ((am_sg.drop 81).zip am_md_53).all (am_okM am_sg) = true := by decide +kernel
