/-! every table is what the machine has: by program -/
def am_allP (l : List SG) (a : List MD) : Prop := ∀ (j : Nat) (g : SG) (M : MD), l[j]? = some g → a[j]? = some M → am_okM am_sg (g, M) = true
theorem am_allP_zip {l : List SG} {a : List MD} (h : (l.zip a).all (am_okM am_sg) = true) : am_allP l a := by
  intro j g M hg hM
  have : (l.zip a)[j]? = some (g, M) := List.getElem?_zip_eq_some.mpr ⟨hg, hM⟩
  exact List.all_eq_true.mp h _ (List.mem_of_getElem? this)
theorem am_allP_app {l : List SG} {a b : List MD} {n : Nat} (hn : a.length = n) (h1 : am_allP l a) (h2 : am_allP (l.drop n) b) : am_allP l (a ++ b) := by
  intro j g M hg hM
  by_cases hj : j < n
  · rw [List.getElem?_append_left (by omega)] at hM
    exact h1 j g M hg hM
  · rw [List.getElem?_append_right (by omega)] at hM
    refine h2 (j - n) g M ?_ (by rw [← hn]; exact hM)
    rw [List.getElem?_drop, show n + (j - n) = j by omega]
    exact hg
theorem am_ck_0 : ((am_sg.drop 0).zip am_md_0).all (am_okM am_sg) = true := by decide +kernel
theorem am_ck_1 : ((am_sg.drop 1).zip am_md_1).all (am_okM am_sg) = true := by decide +kernel
theorem am_ck_2 : ((am_sg.drop 3).zip am_md_2).all (am_okM am_sg) = true := by decide +kernel
theorem am_ck_3 : ((am_sg.drop 4).zip am_md_3).all (am_okM am_sg) = true := by decide +kernel
theorem am_ck_4 : ((am_sg.drop 5).zip am_md_4).all (am_okM am_sg) = true := by decide +kernel
theorem am_cb_5_0 : am_okC am_sg yX1_layStep.cls (Nat.beq 1 2) 5 cX1_layStep ((qX1_layStep.drop 0).take 9) = true := by decide +kernel
theorem am_cb_5_1 : am_okC am_sg yX1_layStep.cls (Nat.beq 1 2) 5 cX1_layStep ((qX1_layStep.drop 9).take 3) = true := by decide +kernel
theorem am_cb_5 : am_okC am_sg yX1_layStep.cls (Nat.beq 1 2) 5 cX1_layStep qX1_layStep = true := (am_okC_step 0 9 am_cb_5_0 (am_okC_step 9 3 am_cb_5_1 (by rfl)))
theorem am_cr_5 : am_okR yX1_layStep 1 0 1 cX1_layStep 5 none 867 866 127 29 = true := by decide +kernel
theorem am_ck_5 : ((am_sg.drop 6).zip am_md_5).all (am_okM am_sg) = true := by
  show (am_okM am_sg ((yX1_layStep, 1, 0, 1), (qX1_layStep, uX1_layStep, cX1_layStep, 5, none, [867, 866, 127, 29])) && true) = true
  rw [am_okM_of am_cb_5 am_cr_5]
  rfl
theorem am_ck_6 : ((am_sg.drop 7).zip am_md_6).all (am_okM am_sg) = true := by decide +kernel
theorem am_ck_7 : ((am_sg.drop 8).zip am_md_7).all (am_okM am_sg) = true := by decide +kernel
theorem am_ck_8 : ((am_sg.drop 9).zip am_md_8).all (am_okM am_sg) = true := by decide +kernel
theorem am_ck_9 : ((am_sg.drop 10).zip am_md_9).all (am_okM am_sg) = true := by decide +kernel
theorem am_ck_10 : ((am_sg.drop 11).zip am_md_10).all (am_okM am_sg) = true := by decide +kernel
theorem am_ck_11 : ((am_sg.drop 12).zip am_md_11).all (am_okM am_sg) = true := by decide +kernel
theorem am_ck_12 : ((am_sg.drop 13).zip am_md_12).all (am_okM am_sg) = true := by decide +kernel
theorem am_ck_13 : ((am_sg.drop 15).zip am_md_13).all (am_okM am_sg) = true := by decide +kernel
theorem am_ck_14 : ((am_sg.drop 18).zip am_md_14).all (am_okM am_sg) = true := by decide +kernel
theorem am_ck_15 : ((am_sg.drop 19).zip am_md_15).all (am_okM am_sg) = true := by decide +kernel
theorem am_ck_16 : ((am_sg.drop 20).zip am_md_16).all (am_okM am_sg) = true := by decide +kernel
theorem am_ck_17 : ((am_sg.drop 21).zip am_md_17).all (am_okM am_sg) = true := by decide +kernel
theorem am_ck_18 : ((am_sg.drop 22).zip am_md_18).all (am_okM am_sg) = true := by decide +kernel
theorem am_cb_19_0 : am_okC am_sg yX2_secondBelief.cls (Nat.beq 1 2) 10 cX2_secondBelief ((qX2_secondBelief.drop 0).take 10) = true := by decide +kernel
theorem am_cb_19_1 : am_okC am_sg yX2_secondBelief.cls (Nat.beq 1 2) 10 cX2_secondBelief ((qX2_secondBelief.drop 10).take 2) = true := by decide +kernel
theorem am_cb_19 : am_okC am_sg yX2_secondBelief.cls (Nat.beq 1 2) 10 cX2_secondBelief qX2_secondBelief = true := (am_okC_step 0 10 am_cb_19_0 (am_okC_step 10 2 am_cb_19_1 (by rfl)))
theorem am_cr_19 : am_okR yX2_secondBelief 1 1 1 cX2_secondBelief 10 (some .int) 1145 1143 130 1144 = true := by decide +kernel
theorem am_ck_19 : ((am_sg.drop 24).zip am_md_19).all (am_okM am_sg) = true := by
  show (am_okM am_sg ((yX2_secondBelief, 1, 1, 1), (qX2_secondBelief, uX2_secondBelief, cX2_secondBelief, 10, (some .int), [1145, 1143, 130, 1144])) && true) = true
  rw [am_okM_of am_cb_19 am_cr_19]
  rfl
theorem am_ck_20 : ((am_sg.drop 25).zip am_md_20).all (am_okM am_sg) = true := by decide +kernel
theorem am_ck_21 : ((am_sg.drop 26).zip am_md_21).all (am_okM am_sg) = true := by decide +kernel
theorem am_ck_22 : ((am_sg.drop 27).zip am_md_22).all (am_okM am_sg) = true := by decide +kernel
theorem am_ck_23 : ((am_sg.drop 28).zip am_md_23).all (am_okM am_sg) = true := by decide +kernel
theorem am_ck_24 : ((am_sg.drop 29).zip am_md_24).all (am_okM am_sg) = true := by decide +kernel
theorem am_ck_25 : ((am_sg.drop 30).zip am_md_25).all (am_okM am_sg) = true := by decide +kernel
theorem am_ck_26 : ((am_sg.drop 33).zip am_md_26).all (am_okM am_sg) = true := by decide +kernel
theorem am_ck_27 : ((am_sg.drop 34).zip am_md_27).all (am_okM am_sg) = true := by decide +kernel
