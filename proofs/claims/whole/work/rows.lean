section
-- ===== PART A: goes FIRST, ahead of the names: the tables' words, and 'selects' of the private methods out of them =====
/-- a private method of a class that the tables say can be made, by its rows of tables_1 -/
def lw_okq (q : MethodName × Nat) : Prop := (q.1.cls ≠ "java/lang/invoke/MethodHandle" ∧ q.1.cls ≠ "java/lang/invoke/VarHandle") ∧ Cond.instantiable q.1.cls q.2 ∈ tables_1 ∧ Cond.privateMethod q.1 ∈ tables_1 ∧ Cond.instanceMethod q.1 ∈ tables_1
theorem lw_p0 : lw_okq (⟨"ForgetfulRider", "putFour", "(I)V"⟩, 16) := ⟨⟨by decide +kernel, by decide +kernel⟩, List.mem_of_getElem? (i := 21) (by decide +kernel), List.mem_of_getElem? (i := 433) (by decide +kernel), List.mem_of_getElem? (i := 434) (by decide +kernel)⟩
theorem lw_p1 : lw_okq (⟨"ForgetfulRider$Reader", "advance", "()V"⟩, 10) := ⟨⟨by decide +kernel, by decide +kernel⟩, List.mem_of_getElem? (i := 114) (by decide +kernel), List.mem_of_getElem? (i := 455) (by decide +kernel), List.mem_of_getElem? (i := 456) (by decide +kernel)⟩
theorem lw_p2 : lw_okq (⟨"ForgetfulRider$Reader", "readPlace", "()Z"⟩, 10) := ⟨⟨by decide +kernel, by decide +kernel⟩, List.mem_of_getElem? (i := 114) (by decide +kernel), List.mem_of_getElem? (i := 465) (by decide +kernel), List.mem_of_getElem? (i := 466) (by decide +kernel)⟩
theorem lw_p3 : lw_okq (⟨"ForgetfulRider$Reader", "takeWord", "(Ljava/lang/String;)Z"⟩, 10) := ⟨⟨by decide +kernel, by decide +kernel⟩, List.mem_of_getElem? (i := 114) (by decide +kernel), List.mem_of_getElem? (i := 470) (by decide +kernel), List.mem_of_getElem? (i := 471) (by decide +kernel)⟩
theorem lw_p4 : lw_okq (⟨"ForgetfulRider$Reader", "isWord", "(Ljava/lang/String;)Z"⟩, 10) := ⟨⟨by decide +kernel, by decide +kernel⟩, List.mem_of_getElem? (i := 114) (by decide +kernel), List.mem_of_getElem? (i := 474) (by decide +kernel), List.mem_of_getElem? (i := 475) (by decide +kernel)⟩
theorem lw_p5 : lw_okq (⟨"ForgetfulRider$Reader", "readFork", "()Z"⟩, 10) := ⟨⟨by decide +kernel, by decide +kernel⟩, List.mem_of_getElem? (i := 114) (by decide +kernel), List.mem_of_getElem? (i := 526) (by decide +kernel), List.mem_of_getElem? (i := 527) (by decide +kernel)⟩
theorem lw_p6 : lw_okq (⟨"ForgetfulRider$Reader", "takeNumber", "(II)Z"⟩, 10) := ⟨⟨by decide +kernel, by decide +kernel⟩, List.mem_of_getElem? (i := 114) (by decide +kernel), List.mem_of_getElem? (i := 530) (by decide +kernel), List.mem_of_getElem? (i := 531) (by decide +kernel)⟩
theorem lw_p7 : lw_okq (⟨"ForgetfulRider$Reader", "readRoad", "(I)Z"⟩, 10) := ⟨⟨by decide +kernel, by decide +kernel⟩, List.mem_of_getElem? (i := 114) (by decide +kernel), List.mem_of_getElem? (i := 535) (by decide +kernel), List.mem_of_getElem? (i := 536) (by decide +kernel)⟩
theorem lw_p8 : lw_okq (⟨"ForgetfulRider$Reader", "takeSign", "(C)Z"⟩, 10) := ⟨⟨by decide +kernel, by decide +kernel⟩, List.mem_of_getElem? (i := 114) (by decide +kernel), List.mem_of_getElem? (i := 539) (by decide +kernel), List.mem_of_getElem? (i := 540) (by decide +kernel)⟩
theorem lw_p9 : lw_okq (⟨"ForgetfulRider$Reader", "isSign", "(C)Z"⟩, 10) := ⟨⟨by decide +kernel, by decide +kernel⟩, List.mem_of_getElem? (i := 114) (by decide +kernel), List.mem_of_getElem? (i := 543) (by decide +kernel), List.mem_of_getElem? (i := 544) (by decide +kernel)⟩
theorem lw_p10 : lw_okq (⟨"ForgetfulRider$Reader", "readTurn", "()Z"⟩, 10) := ⟨⟨by decide +kernel, by decide +kernel⟩, List.mem_of_getElem? (i := 114) (by decide +kernel), List.mem_of_getElem? (i := 548) (by decide +kernel), List.mem_of_getElem? (i := 549) (by decide +kernel)⟩
theorem lw_p11 : lw_okq (⟨"ForgetfulRider$Reader", "readInn", "()Z"⟩, 10) := ⟨⟨by decide +kernel, by decide +kernel⟩, List.mem_of_getElem? (i := 114) (by decide +kernel), List.mem_of_getElem? (i := 554) (by decide +kernel), List.mem_of_getElem? (i := 555) (by decide +kernel)⟩
theorem lw_p12 : lw_okq (⟨"ForgetfulRider$Reader", "readEnd", "()Z"⟩, 10) := ⟨⟨by decide +kernel, by decide +kernel⟩, List.mem_of_getElem? (i := 114) (by decide +kernel), List.mem_of_getElem? (i := 559) (by decide +kernel), List.mem_of_getElem? (i := 560) (by decide +kernel)⟩
theorem lw_p13 : lw_okq (⟨"ForgetfulRider$Reader", "readSum", "(I)Z"⟩, 10) := ⟨⟨by decide +kernel, by decide +kernel⟩, List.mem_of_getElem? (i := 114) (by decide +kernel), List.mem_of_getElem? (i := 563) (by decide +kernel), List.mem_of_getElem? (i := 564) (by decide +kernel)⟩
theorem lw_p14 : lw_okq (⟨"ForgetfulRider$Reader", "readTerm", "(I)Z"⟩, 10) := ⟨⟨by decide +kernel, by decide +kernel⟩, List.mem_of_getElem? (i := 114) (by decide +kernel), List.mem_of_getElem? (i := 567) (by decide +kernel), List.mem_of_getElem? (i := 568) (by decide +kernel)⟩
theorem lw_p15 : lw_okq (⟨"ForgetfulRider$Reader", "readPart", "(I)Z"⟩, 10) := ⟨⟨by decide +kernel, by decide +kernel⟩, List.mem_of_getElem? (i := 114) (by decide +kernel), List.mem_of_getElem? (i := 571) (by decide +kernel), List.mem_of_getElem? (i := 572) (by decide +kernel)⟩
def lw_privs_1 : List (MethodName × Nat) := [(⟨"ForgetfulRider", "putFour", "(I)V"⟩, 16), (⟨"ForgetfulRider$Reader", "advance", "()V"⟩, 10), (⟨"ForgetfulRider$Reader", "readPlace", "()Z"⟩, 10), (⟨"ForgetfulRider$Reader", "takeWord", "(Ljava/lang/String;)Z"⟩, 10), (⟨"ForgetfulRider$Reader", "isWord", "(Ljava/lang/String;)Z"⟩, 10), (⟨"ForgetfulRider$Reader", "readFork", "()Z"⟩, 10), (⟨"ForgetfulRider$Reader", "takeNumber", "(II)Z"⟩, 10), (⟨"ForgetfulRider$Reader", "readRoad", "(I)Z"⟩, 10), (⟨"ForgetfulRider$Reader", "takeSign", "(C)Z"⟩, 10), (⟨"ForgetfulRider$Reader", "isSign", "(C)Z"⟩, 10), (⟨"ForgetfulRider$Reader", "readTurn", "()Z"⟩, 10), (⟨"ForgetfulRider$Reader", "readInn", "()Z"⟩, 10), (⟨"ForgetfulRider$Reader", "readEnd", "()Z"⟩, 10), (⟨"ForgetfulRider$Reader", "readSum", "(I)Z"⟩, 10), (⟨"ForgetfulRider$Reader", "readTerm", "(I)Z"⟩, 10), (⟨"ForgetfulRider$Reader", "readPart", "(I)Z"⟩, 10)]
theorem lw_r1 : ∀ q ∈ lw_privs_1, lw_okq q := List.forall_mem_cons.mpr ⟨lw_p0, List.forall_mem_cons.mpr ⟨lw_p1, List.forall_mem_cons.mpr ⟨lw_p2, List.forall_mem_cons.mpr ⟨lw_p3, List.forall_mem_cons.mpr ⟨lw_p4, List.forall_mem_cons.mpr ⟨lw_p5, List.forall_mem_cons.mpr ⟨lw_p6, List.forall_mem_cons.mpr ⟨lw_p7, List.forall_mem_cons.mpr ⟨lw_p8, List.forall_mem_cons.mpr ⟨lw_p9, List.forall_mem_cons.mpr ⟨lw_p10, List.forall_mem_cons.mpr ⟨lw_p11, List.forall_mem_cons.mpr ⟨lw_p12, List.forall_mem_cons.mpr ⟨lw_p13, List.forall_mem_cons.mpr ⟨lw_p14, List.forall_mem_cons.mpr ⟨lw_p15, fun _ h => absurd h List.not_mem_nil⟩⟩⟩⟩⟩⟩⟩⟩⟩⟩⟩⟩⟩⟩⟩⟩
theorem lw_p16 : lw_okq (⟨"ForgetfulRider$Reader", "put", "(II)V"⟩, 10) := ⟨⟨by decide +kernel, by decide +kernel⟩, List.mem_of_getElem? (i := 114) (by decide +kernel), List.mem_of_getElem? (i := 578) (by decide +kernel), List.mem_of_getElem? (i := 579) (by decide +kernel)⟩
theorem lw_p17 : lw_okq (⟨"ForgetfulRider$Reader", "readTest", "(I)Z"⟩, 10) := ⟨⟨by decide +kernel, by decide +kernel⟩, List.mem_of_getElem? (i := 114) (by decide +kernel), List.mem_of_getElem? (i := 583) (by decide +kernel), List.mem_of_getElem? (i := 584) (by decide +kernel)⟩
theorem lw_p18 : lw_okq (⟨"ForgetfulRider$Reader", "readBoth", "(I)Z"⟩, 10) := ⟨⟨by decide +kernel, by decide +kernel⟩, List.mem_of_getElem? (i := 114) (by decide +kernel), List.mem_of_getElem? (i := 587) (by decide +kernel), List.mem_of_getElem? (i := 588) (by decide +kernel)⟩
theorem lw_p19 : lw_okq (⟨"ForgetfulRider$Reader", "readPlain", "(I)Z"⟩, 10) := ⟨⟨by decide +kernel, by decide +kernel⟩, List.mem_of_getElem? (i := 114) (by decide +kernel), List.mem_of_getElem? (i := 591) (by decide +kernel), List.mem_of_getElem? (i := 592) (by decide +kernel)⟩
theorem lw_p20 : lw_okq (⟨"ForgetfulRider$Reader", "readInBrackets", "(I)Z"⟩, 10) := ⟨⟨by decide +kernel, by decide +kernel⟩, List.mem_of_getElem? (i := 114) (by decide +kernel), List.mem_of_getElem? (i := 596) (by decide +kernel), List.mem_of_getElem? (i := 597) (by decide +kernel)⟩
theorem lw_p21 : lw_okq (⟨"ForgetfulRider$Reader", "readComparison", "(I)Z"⟩, 10) := ⟨⟨by decide +kernel, by decide +kernel⟩, List.mem_of_getElem? (i := 114) (by decide +kernel), List.mem_of_getElem? (i := 600) (by decide +kernel), List.mem_of_getElem? (i := 601) (by decide +kernel)⟩
theorem lw_p22 : lw_okq (⟨"ForgetfulRider$Reader", "aim", "(I)V"⟩, 10) := ⟨⟨by decide +kernel, by decide +kernel⟩, List.mem_of_getElem? (i := 114) (by decide +kernel), List.mem_of_getElem? (i := 605) (by decide +kernel), List.mem_of_getElem? (i := 606) (by decide +kernel)⟩
theorem lw_p23 : lw_okq (⟨"ForgetfulRider", "refuse", "(I)I"⟩, 16) := ⟨⟨by decide +kernel, by decide +kernel⟩, List.mem_of_getElem? (i := 21) (by decide +kernel), List.mem_of_getElem? (i := 610) (by decide +kernel), List.mem_of_getElem? (i := 611) (by decide +kernel)⟩
theorem lw_p24 : lw_okq (⟨"ForgetfulRider", "grant", "(I)I"⟩, 16) := ⟨⟨by decide +kernel, by decide +kernel⟩, List.mem_of_getElem? (i := 21) (by decide +kernel), List.mem_of_getElem? (i := 625) (by decide +kernel), List.mem_of_getElem? (i := 626) (by decide +kernel)⟩
theorem lw_p25 : lw_okq (⟨"ForgetfulRider$Teller", "run", "([III)J"⟩, 4) := ⟨⟨by decide +kernel, by decide +kernel⟩, List.mem_of_getElem? (i := 181) (by decide +kernel), List.mem_of_getElem? (i := 667) (by decide +kernel), List.mem_of_getElem? (i := 668) (by decide +kernel)⟩
theorem lw_p26 : lw_okq (⟨"ForgetfulRider$Teller", "said", "(II)J"⟩, 4) := ⟨⟨by decide +kernel, by decide +kernel⟩, List.mem_of_getElem? (i := 181) (by decide +kernel), List.mem_of_getElem? (i := 675) (by decide +kernel), List.mem_of_getElem? (i := 676) (by decide +kernel)⟩
theorem lw_p27 : lw_okq (⟨"ForgetfulRider", "noPlaces", "()Z"⟩, 16) := ⟨⟨by decide +kernel, by decide +kernel⟩, List.mem_of_getElem? (i := 21) (by decide +kernel), List.mem_of_getElem? (i := 723) (by decide +kernel), List.mem_of_getElem? (i := 724) (by decide +kernel)⟩
theorem lw_p28 : lw_okq (⟨"ForgetfulRider$Chart", "reach", "(Z)V"⟩, 11) := ⟨⟨by decide +kernel, by decide +kernel⟩, List.mem_of_getElem? (i := 202) (by decide +kernel), List.mem_of_getElem? (i := 732) (by decide +kernel), List.mem_of_getElem? (i := 733) (by decide +kernel)⟩
theorem lw_p29 : lw_okq (⟨"ForgetfulRider$Chart", "layStep", "(I)V"⟩, 11) := ⟨⟨by decide +kernel, by decide +kernel⟩, List.mem_of_getElem? (i := 202) (by decide +kernel), List.mem_of_getElem? (i := 744) (by decide +kernel), List.mem_of_getElem? (i := 745) (by decide +kernel)⟩
theorem lw_p30 : lw_okq (⟨"ForgetfulRider$Chart", "most", "(II)J"⟩, 11) := ⟨⟨by decide +kernel, by decide +kernel⟩, List.mem_of_getElem? (i := 202) (by decide +kernel), List.mem_of_getElem? (i := 758) (by decide +kernel), List.mem_of_getElem? (i := 759) (by decide +kernel)⟩
theorem lw_p31 : lw_okq (⟨"ForgetfulRider$Chart", "mean", "(II)J"⟩, 11) := ⟨⟨by decide +kernel, by decide +kernel⟩, List.mem_of_getElem? (i := 202) (by decide +kernel), List.mem_of_getElem? (i := 764) (by decide +kernel), List.mem_of_getElem? (i := 765) (by decide +kernel)⟩
def lw_privs_2 : List (MethodName × Nat) := [(⟨"ForgetfulRider$Reader", "put", "(II)V"⟩, 10), (⟨"ForgetfulRider$Reader", "readTest", "(I)Z"⟩, 10), (⟨"ForgetfulRider$Reader", "readBoth", "(I)Z"⟩, 10), (⟨"ForgetfulRider$Reader", "readPlain", "(I)Z"⟩, 10), (⟨"ForgetfulRider$Reader", "readInBrackets", "(I)Z"⟩, 10), (⟨"ForgetfulRider$Reader", "readComparison", "(I)Z"⟩, 10), (⟨"ForgetfulRider$Reader", "aim", "(I)V"⟩, 10), (⟨"ForgetfulRider", "refuse", "(I)I"⟩, 16), (⟨"ForgetfulRider", "grant", "(I)I"⟩, 16), (⟨"ForgetfulRider$Teller", "run", "([III)J"⟩, 4), (⟨"ForgetfulRider$Teller", "said", "(II)J"⟩, 4), (⟨"ForgetfulRider", "noPlaces", "()Z"⟩, 16), (⟨"ForgetfulRider$Chart", "reach", "(Z)V"⟩, 11), (⟨"ForgetfulRider$Chart", "layStep", "(I)V"⟩, 11), (⟨"ForgetfulRider$Chart", "most", "(II)J"⟩, 11), (⟨"ForgetfulRider$Chart", "mean", "(II)J"⟩, 11)]
theorem lw_r2 : ∀ q ∈ lw_privs_2, lw_okq q := List.forall_mem_cons.mpr ⟨lw_p16, List.forall_mem_cons.mpr ⟨lw_p17, List.forall_mem_cons.mpr ⟨lw_p18, List.forall_mem_cons.mpr ⟨lw_p19, List.forall_mem_cons.mpr ⟨lw_p20, List.forall_mem_cons.mpr ⟨lw_p21, List.forall_mem_cons.mpr ⟨lw_p22, List.forall_mem_cons.mpr ⟨lw_p23, List.forall_mem_cons.mpr ⟨lw_p24, List.forall_mem_cons.mpr ⟨lw_p25, List.forall_mem_cons.mpr ⟨lw_p26, List.forall_mem_cons.mpr ⟨lw_p27, List.forall_mem_cons.mpr ⟨lw_p28, List.forall_mem_cons.mpr ⟨lw_p29, List.forall_mem_cons.mpr ⟨lw_p30, List.forall_mem_cons.mpr ⟨lw_p31, fun _ h => absurd h List.not_mem_nil⟩⟩⟩⟩⟩⟩⟩⟩⟩⟩⟩⟩⟩⟩⟩⟩
theorem lw_p32 : lw_okq (⟨"ForgetfulRider$Seeker", "startPlain", "(Z)V"⟩, 10) := ⟨⟨by decide +kernel, by decide +kernel⟩, List.mem_of_getElem? (i := 259) (by decide +kernel), List.mem_of_getElem? (i := 782) (by decide +kernel), List.mem_of_getElem? (i := 783) (by decide +kernel)⟩
theorem lw_p33 : lw_okq (⟨"ForgetfulRider$Seeker", "choose", "(II)V"⟩, 10) := ⟨⟨by decide +kernel, by decide +kernel⟩, List.mem_of_getElem? (i := 259) (by decide +kernel), List.mem_of_getElem? (i := 791) (by decide +kernel), List.mem_of_getElem? (i := 792) (by decide +kernel)⟩
theorem lw_p34 : lw_okq (⟨"ForgetfulRider$Seeker", "usedLooks", "()I"⟩, 10) := ⟨⟨by decide +kernel, by decide +kernel⟩, List.mem_of_getElem? (i := 259) (by decide +kernel), List.mem_of_getElem? (i := 795) (by decide +kernel), List.mem_of_getElem? (i := 796) (by decide +kernel)⟩
theorem lw_p35 : lw_okq (⟨"ForgetfulRider$Seeker", "seek", "(IJ)V"⟩, 10) := ⟨⟨by decide +kernel, by decide +kernel⟩, List.mem_of_getElem? (i := 259) (by decide +kernel), List.mem_of_getElem? (i := 800) (by decide +kernel), List.mem_of_getElem? (i := 801) (by decide +kernel)⟩
theorem lw_p36 : lw_okq (⟨"ForgetfulRider$Seeker", "mayBeBest", "(J)Z"⟩, 10) := ⟨⟨by decide +kernel, by decide +kernel⟩, List.mem_of_getElem? (i := 259) (by decide +kernel), List.mem_of_getElem? (i := 809) (by decide +kernel), List.mem_of_getElem? (i := 810) (by decide +kernel)⟩
theorem lw_p37 : lw_okq (⟨"ForgetfulRider$Seeker", "tryLook", "(IJ)V"⟩, 10) := ⟨⟨by decide +kernel, by decide +kernel⟩, List.mem_of_getElem? (i := 259) (by decide +kernel), List.mem_of_getElem? (i := 813) (by decide +kernel), List.mem_of_getElem? (i := 814) (by decide +kernel)⟩
theorem lw_p38 : lw_okq (⟨"ForgetfulRider$Seeker", "takeRule", "(J)V"⟩, 10) := ⟨⟨by decide +kernel, by decide +kernel⟩, List.mem_of_getElem? (i := 259) (by decide +kernel), List.mem_of_getElem? (i := 817) (by decide +kernel), List.mem_of_getElem? (i := 818) (by decide +kernel)⟩
theorem lw_p39 : lw_okq (⟨"ForgetfulRider$Seeker", "choices", "(I)I"⟩, 10) := ⟨⟨by decide +kernel, by decide +kernel⟩, List.mem_of_getElem? (i := 259) (by decide +kernel), List.mem_of_getElem? (i := 822) (by decide +kernel), List.mem_of_getElem? (i := 823) (by decide +kernel)⟩
theorem lw_p40 : lw_okq (⟨"ForgetfulRider$Seeker", "rules", "(I)J"⟩, 10) := ⟨⟨by decide +kernel, by decide +kernel⟩, List.mem_of_getElem? (i := 259) (by decide +kernel), List.mem_of_getElem? (i := 826) (by decide +kernel), List.mem_of_getElem? (i := 827) (by decide +kernel)⟩
theorem lw_p41 : lw_okq (⟨"ForgetfulRider$Flow", "start", "(I)V"⟩, 7) := ⟨⟨by decide +kernel, by decide +kernel⟩, List.mem_of_getElem? (i := 324) (by decide +kernel), List.mem_of_getElem? (i := 882) (by decide +kernel), List.mem_of_getElem? (i := 883) (by decide +kernel)⟩
theorem lw_p42 : lw_okq (⟨"ForgetfulRider$Flow", "goOn", "(II)V"⟩, 7) := ⟨⟨by decide +kernel, by decide +kernel⟩, List.mem_of_getElem? (i := 324) (by decide +kernel), List.mem_of_getElem? (i := 895) (by decide +kernel), List.mem_of_getElem? (i := 896) (by decide +kernel)⟩
theorem lw_p43 : lw_okq (⟨"ForgetfulRider$Flow", "passOpen", "(I)V"⟩, 7) := ⟨⟨by decide +kernel, by decide +kernel⟩, List.mem_of_getElem? (i := 324) (by decide +kernel), List.mem_of_getElem? (i := 899) (by decide +kernel), List.mem_of_getElem? (i := 900) (by decide +kernel)⟩
theorem lw_p44 : lw_okq (⟨"ForgetfulRider$Flow", "passRow", "(I)V"⟩, 7) := ⟨⟨by decide +kernel, by decide +kernel⟩, List.mem_of_getElem? (i := 324) (by decide +kernel), List.mem_of_getElem? (i := 903) (by decide +kernel), List.mem_of_getElem? (i := 904) (by decide +kernel)⟩
theorem lw_p45 : lw_okq (⟨"ForgetfulRider$Pebble", "weigh", "()J"⟩, 7) := ⟨⟨by decide +kernel, by decide +kernel⟩, List.mem_of_getElem? (i := 296) (by decide +kernel), List.mem_of_getElem? (i := 920) (by decide +kernel), List.mem_of_getElem? (i := 921) (by decide +kernel)⟩
theorem lw_p46 : lw_okq (⟨"ForgetfulRider$Pebble", "atFork", "(III)J"⟩, 7) := ⟨⟨by decide +kernel, by decide +kernel⟩, List.mem_of_getElem? (i := 296) (by decide +kernel), List.mem_of_getElem? (i := 924) (by decide +kernel), List.mem_of_getElem? (i := 925) (by decide +kernel)⟩
theorem lw_p47 : lw_okq (⟨"ForgetfulRider$Pebble", "roadChosen", "(II)I"⟩, 7) := ⟨⟨by decide +kernel, by decide +kernel⟩, List.mem_of_getElem? (i := 296) (by decide +kernel), List.mem_of_getElem? (i := 928) (by decide +kernel), List.mem_of_getElem? (i := 929) (by decide +kernel)⟩
def lw_privs_3 : List (MethodName × Nat) := [(⟨"ForgetfulRider$Seeker", "startPlain", "(Z)V"⟩, 10), (⟨"ForgetfulRider$Seeker", "choose", "(II)V"⟩, 10), (⟨"ForgetfulRider$Seeker", "usedLooks", "()I"⟩, 10), (⟨"ForgetfulRider$Seeker", "seek", "(IJ)V"⟩, 10), (⟨"ForgetfulRider$Seeker", "mayBeBest", "(J)Z"⟩, 10), (⟨"ForgetfulRider$Seeker", "tryLook", "(IJ)V"⟩, 10), (⟨"ForgetfulRider$Seeker", "takeRule", "(J)V"⟩, 10), (⟨"ForgetfulRider$Seeker", "choices", "(I)I"⟩, 10), (⟨"ForgetfulRider$Seeker", "rules", "(I)J"⟩, 10), (⟨"ForgetfulRider$Flow", "start", "(I)V"⟩, 7), (⟨"ForgetfulRider$Flow", "goOn", "(II)V"⟩, 7), (⟨"ForgetfulRider$Flow", "passOpen", "(I)V"⟩, 7), (⟨"ForgetfulRider$Flow", "passRow", "(I)V"⟩, 7), (⟨"ForgetfulRider$Pebble", "weigh", "()J"⟩, 7), (⟨"ForgetfulRider$Pebble", "atFork", "(III)J"⟩, 7), (⟨"ForgetfulRider$Pebble", "roadChosen", "(II)I"⟩, 7)]
theorem lw_r3 : ∀ q ∈ lw_privs_3, lw_okq q := List.forall_mem_cons.mpr ⟨lw_p32, List.forall_mem_cons.mpr ⟨lw_p33, List.forall_mem_cons.mpr ⟨lw_p34, List.forall_mem_cons.mpr ⟨lw_p35, List.forall_mem_cons.mpr ⟨lw_p36, List.forall_mem_cons.mpr ⟨lw_p37, List.forall_mem_cons.mpr ⟨lw_p38, List.forall_mem_cons.mpr ⟨lw_p39, List.forall_mem_cons.mpr ⟨lw_p40, List.forall_mem_cons.mpr ⟨lw_p41, List.forall_mem_cons.mpr ⟨lw_p42, List.forall_mem_cons.mpr ⟨lw_p43, List.forall_mem_cons.mpr ⟨lw_p44, List.forall_mem_cons.mpr ⟨lw_p45, List.forall_mem_cons.mpr ⟨lw_p46, List.forall_mem_cons.mpr ⟨lw_p47, fun _ h => absurd h List.not_mem_nil⟩⟩⟩⟩⟩⟩⟩⟩⟩⟩⟩⟩⟩⟩⟩⟩
theorem lw_p48 : lw_okq (⟨"ForgetfulRider$Pebble", "mean", "(III)J"⟩, 7) := ⟨⟨by decide +kernel, by decide +kernel⟩, List.mem_of_getElem? (i := 296) (by decide +kernel), List.mem_of_getElem? (i := 934) (by decide +kernel), List.mem_of_getElem? (i := 935) (by decide +kernel)⟩
theorem lw_p49 : lw_okq (⟨"ForgetfulRider$Pebble", "tryKey", "(IJ)V"⟩, 7) := ⟨⟨by decide +kernel, by decide +kernel⟩, List.mem_of_getElem? (i := 296) (by decide +kernel), List.mem_of_getElem? (i := 940) (by decide +kernel), List.mem_of_getElem? (i := 941) (by decide +kernel)⟩
theorem lw_p50 : lw_okq (⟨"ForgetfulRider$Pebble", "keyAhead", "()I"⟩, 7) := ⟨⟨by decide +kernel, by decide +kernel⟩, List.mem_of_getElem? (i := 296) (by decide +kernel), List.mem_of_getElem? (i := 944) (by decide +kernel), List.mem_of_getElem? (i := 945) (by decide +kernel)⟩
theorem lw_p51 : lw_okq (⟨"ForgetfulRider", "canSign", "(I)Z"⟩, 16) := ⟨⟨by decide +kernel, by decide +kernel⟩, List.mem_of_getElem? (i := 21) (by decide +kernel), List.mem_of_getElem? (i := 969) (by decide +kernel), List.mem_of_getElem? (i := 970) (by decide +kernel)⟩
theorem lw_p52 : lw_okq (⟨"ForgetfulRider$Seeker", "startSigns", "(I)V"⟩, 10) := ⟨⟨by decide +kernel, by decide +kernel⟩, List.mem_of_getElem? (i := 259) (by decide +kernel), List.mem_of_getElem? (i := 985) (by decide +kernel), List.mem_of_getElem? (i := 986) (by decide +kernel)⟩
theorem lw_p53 : lw_okq (⟨"ForgetfulRider$Seeker", "bestWithSigns", "(IIJ)J"⟩, 10) := ⟨⟨by decide +kernel, by decide +kernel⟩, List.mem_of_getElem? (i := 259) (by decide +kernel), List.mem_of_getElem? (i := 990) (by decide +kernel), List.mem_of_getElem? (i := 991) (by decide +kernel)⟩
theorem lw_p54 : lw_okq (⟨"ForgetfulRider$Seeker", "placesOf", "(I)I"⟩, 10) := ⟨⟨by decide +kernel, by decide +kernel⟩, List.mem_of_getElem? (i := 259) (by decide +kernel), List.mem_of_getElem? (i := 994) (by decide +kernel), List.mem_of_getElem? (i := 995) (by decide +kernel)⟩
theorem lw_p55 : lw_okq (⟨"ForgetfulRider$Flow", "looksLike", "(II)Z"⟩, 7) := ⟨⟨by decide +kernel, by decide +kernel⟩, List.mem_of_getElem? (i := 324) (by decide +kernel), List.mem_of_getElem? (i := 1026) (by decide +kernel), List.mem_of_getElem? (i := 1027) (by decide +kernel)⟩
theorem lw_p56 : lw_okq (⟨"ForgetfulRider$Flow", "countOne", "(IZ)V"⟩, 7) := ⟨⟨by decide +kernel, by decide +kernel⟩, List.mem_of_getElem? (i := 324) (by decide +kernel), List.mem_of_getElem? (i := 1031) (by decide +kernel), List.mem_of_getElem? (i := 1032) (by decide +kernel)⟩
theorem lw_p57 : lw_okq (⟨"ForgetfulRider$Trip", "drawnRoad", "(II)I"⟩, 5) := ⟨⟨by decide +kernel, by decide +kernel⟩, List.mem_of_getElem? (i := 355) (by decide +kernel), List.mem_of_getElem? (i := 1066) (by decide +kernel), List.mem_of_getElem? (i := 1067) (by decide +kernel)⟩
theorem lw_p58 : lw_okq (⟨"ForgetfulRiderModel", "refuses", "(I)I"⟩, 49) := ⟨⟨by decide +kernel, by decide +kernel⟩, List.mem_of_getElem? (i := 1102) (by decide +kernel), List.mem_of_getElem? (i := 1263) (by decide +kernel), List.mem_of_getElem? (i := 1264) (by decide +kernel)⟩
theorem lw_p59 : lw_okq (⟨"ForgetfulRiderModel", "good", "(I)I"⟩, 49) := ⟨⟨by decide +kernel, by decide +kernel⟩, List.mem_of_getElem? (i := 1102) (by decide +kernel), List.mem_of_getElem? (i := 1267) (by decide +kernel), List.mem_of_getElem? (i := 1268) (by decide +kernel)⟩
theorem lw_p60 : lw_okq (⟨"ForgetfulRiderModel", "splits", "(I)V"⟩, 49) := ⟨⟨by decide +kernel, by decide +kernel⟩, List.mem_of_getElem? (i := 1102) (by decide +kernel), List.mem_of_getElem? (i := 1287) (by decide +kernel), List.mem_of_getElem? (i := 1288) (by decide +kernel)⟩
theorem lw_p61 : lw_okq (⟨"ForgetfulRiderModel", "wordOf", "(II)I"⟩, 49) := ⟨⟨by decide +kernel, by decide +kernel⟩, List.mem_of_getElem? (i := 1102) (by decide +kernel), List.mem_of_getElem? (i := 1297) (by decide +kernel), List.mem_of_getElem? (i := 1298) (by decide +kernel)⟩
theorem lw_p62 : lw_okq (⟨"ForgetfulRiderModel", "faults", "()V"⟩, 49) := ⟨⟨by decide +kernel, by decide +kernel⟩, List.mem_of_getElem? (i := 1102) (by decide +kernel), List.mem_of_getElem? (i := 1302) (by decide +kernel), List.mem_of_getElem? (i := 1303) (by decide +kernel)⟩
theorem lw_p63 : lw_okq (⟨"ForgetfulRiderModel", "fine", "()Z"⟩, 49) := ⟨⟨by decide +kernel, by decide +kernel⟩, List.mem_of_getElem? (i := 1102) (by decide +kernel), List.mem_of_getElem? (i := 1306) (by decide +kernel), List.mem_of_getElem? (i := 1307) (by decide +kernel)⟩
def lw_privs_4 : List (MethodName × Nat) := [(⟨"ForgetfulRider$Pebble", "mean", "(III)J"⟩, 7), (⟨"ForgetfulRider$Pebble", "tryKey", "(IJ)V"⟩, 7), (⟨"ForgetfulRider$Pebble", "keyAhead", "()I"⟩, 7), (⟨"ForgetfulRider", "canSign", "(I)Z"⟩, 16), (⟨"ForgetfulRider$Seeker", "startSigns", "(I)V"⟩, 10), (⟨"ForgetfulRider$Seeker", "bestWithSigns", "(IIJ)J"⟩, 10), (⟨"ForgetfulRider$Seeker", "placesOf", "(I)I"⟩, 10), (⟨"ForgetfulRider$Flow", "looksLike", "(II)Z"⟩, 7), (⟨"ForgetfulRider$Flow", "countOne", "(IZ)V"⟩, 7), (⟨"ForgetfulRider$Trip", "drawnRoad", "(II)I"⟩, 5), (⟨"ForgetfulRiderModel", "refuses", "(I)I"⟩, 49), (⟨"ForgetfulRiderModel", "good", "(I)I"⟩, 49), (⟨"ForgetfulRiderModel", "splits", "(I)V"⟩, 49), (⟨"ForgetfulRiderModel", "wordOf", "(II)I"⟩, 49), (⟨"ForgetfulRiderModel", "faults", "()V"⟩, 49), (⟨"ForgetfulRiderModel", "fine", "()Z"⟩, 49)]
theorem lw_r4 : ∀ q ∈ lw_privs_4, lw_okq q := List.forall_mem_cons.mpr ⟨lw_p48, List.forall_mem_cons.mpr ⟨lw_p49, List.forall_mem_cons.mpr ⟨lw_p50, List.forall_mem_cons.mpr ⟨lw_p51, List.forall_mem_cons.mpr ⟨lw_p52, List.forall_mem_cons.mpr ⟨lw_p53, List.forall_mem_cons.mpr ⟨lw_p54, List.forall_mem_cons.mpr ⟨lw_p55, List.forall_mem_cons.mpr ⟨lw_p56, List.forall_mem_cons.mpr ⟨lw_p57, List.forall_mem_cons.mpr ⟨lw_p58, List.forall_mem_cons.mpr ⟨lw_p59, List.forall_mem_cons.mpr ⟨lw_p60, List.forall_mem_cons.mpr ⟨lw_p61, List.forall_mem_cons.mpr ⟨lw_p62, List.forall_mem_cons.mpr ⟨lw_p63, fun _ h => absurd h List.not_mem_nil⟩⟩⟩⟩⟩⟩⟩⟩⟩⟩⟩⟩⟩⟩⟩⟩
theorem lw_p64 : lw_okq (⟨"ForgetfulRiderModel", "readPlace", "()V"⟩, 49) := ⟨⟨by decide +kernel, by decide +kernel⟩, List.mem_of_getElem? (i := 1102) (by decide +kernel), List.mem_of_getElem? (i := 1310) (by decide +kernel), List.mem_of_getElem? (i := 1311) (by decide +kernel)⟩
theorem lw_p65 : lw_okq (⟨"ForgetfulRiderModel", "takes0", "(I)Z"⟩, 49) := ⟨⟨by decide +kernel, by decide +kernel⟩, List.mem_of_getElem? (i := 1102) (by decide +kernel), List.mem_of_getElem? (i := 1314) (by decide +kernel), List.mem_of_getElem? (i := 1315) (by decide +kernel)⟩
theorem lw_p66 : lw_okq (⟨"ForgetfulRiderModel", "number", "(II)Z"⟩, 49) := ⟨⟨by decide +kernel, by decide +kernel⟩, List.mem_of_getElem? (i := 1102) (by decide +kernel), List.mem_of_getElem? (i := 1318) (by decide +kernel), List.mem_of_getElem? (i := 1319) (by decide +kernel)⟩
theorem lw_p67 : lw_okq (⟨"ForgetfulRiderModel", "must", "(I)V"⟩, 49) := ⟨⟨by decide +kernel, by decide +kernel⟩, List.mem_of_getElem? (i := 1102) (by decide +kernel), List.mem_of_getElem? (i := 1322) (by decide +kernel), List.mem_of_getElem? (i := 1323) (by decide +kernel)⟩
theorem lw_p68 : lw_okq (⟨"ForgetfulRiderModel", "readSum", "(I)V"⟩, 49) := ⟨⟨by decide +kernel, by decide +kernel⟩, List.mem_of_getElem? (i := 1102) (by decide +kernel), List.mem_of_getElem? (i := 1329) (by decide +kernel), List.mem_of_getElem? (i := 1330) (by decide +kernel)⟩
theorem lw_p69 : lw_okq (⟨"ForgetfulRiderModel", "readTerm", "(I)V"⟩, 49) := ⟨⟨by decide +kernel, by decide +kernel⟩, List.mem_of_getElem? (i := 1102) (by decide +kernel), List.mem_of_getElem? (i := 1333) (by decide +kernel), List.mem_of_getElem? (i := 1334) (by decide +kernel)⟩
theorem lw_p70 : lw_okq (⟨"ForgetfulRiderModel", "readPart", "(I)V"⟩, 49) := ⟨⟨by decide +kernel, by decide +kernel⟩, List.mem_of_getElem? (i := 1102) (by decide +kernel), List.mem_of_getElem? (i := 1337) (by decide +kernel), List.mem_of_getElem? (i := 1338) (by decide +kernel)⟩
theorem lw_p71 : lw_okq (⟨"ForgetfulRiderModel", "leaf", "()V"⟩, 49) := ⟨⟨by decide +kernel, by decide +kernel⟩, List.mem_of_getElem? (i := 1102) (by decide +kernel), List.mem_of_getElem? (i := 1341) (by decide +kernel), List.mem_of_getElem? (i := 1342) (by decide +kernel)⟩
theorem lw_p72 : lw_okq (⟨"ForgetfulRiderModel", "readTest", "(I)V"⟩, 49) := ⟨⟨by decide +kernel, by decide +kernel⟩, List.mem_of_getElem? (i := 1102) (by decide +kernel), List.mem_of_getElem? (i := 1345) (by decide +kernel), List.mem_of_getElem? (i := 1346) (by decide +kernel)⟩
theorem lw_p73 : lw_okq (⟨"ForgetfulRiderModel", "readBoth", "(I)V"⟩, 49) := ⟨⟨by decide +kernel, by decide +kernel⟩, List.mem_of_getElem? (i := 1102) (by decide +kernel), List.mem_of_getElem? (i := 1349) (by decide +kernel), List.mem_of_getElem? (i := 1350) (by decide +kernel)⟩
theorem lw_p74 : lw_okq (⟨"ForgetfulRiderModel", "readPlain", "(I)V"⟩, 49) := ⟨⟨by decide +kernel, by decide +kernel⟩, List.mem_of_getElem? (i := 1102) (by decide +kernel), List.mem_of_getElem? (i := 1353) (by decide +kernel), List.mem_of_getElem? (i := 1354) (by decide +kernel)⟩
theorem lw_p75 : lw_okq (⟨"ForgetfulRiderModel", "isPlace", "(I)Z"⟩, 49) := ⟨⟨by decide +kernel, by decide +kernel⟩, List.mem_of_getElem? (i := 1102) (by decide +kernel), List.mem_of_getElem? (i := 1369) (by decide +kernel), List.mem_of_getElem? (i := 1370) (by decide +kernel)⟩
theorem lw_p76 : lw_okq (⟨"ForgetfulRiderModel", "places", "()I"⟩, 49) := ⟨⟨by decide +kernel, by decide +kernel⟩, List.mem_of_getElem? (i := 1102) (by decide +kernel), List.mem_of_getElem? (i := 1373) (by decide +kernel), List.mem_of_getElem? (i := 1374) (by decide +kernel)⟩
theorem lw_p77 : lw_okq (⟨"ForgetfulRiderModel", "placeOf", "(II)I"⟩, 49) := ⟨⟨by decide +kernel, by decide +kernel⟩, List.mem_of_getElem? (i := 1102) (by decide +kernel), List.mem_of_getElem? (i := 1377) (by decide +kernel), List.mem_of_getElem? (i := 1378) (by decide +kernel)⟩
theorem lw_p78 : lw_okq (⟨"ForgetfulRiderModel", "looks", "()V"⟩, 49) := ⟨⟨by decide +kernel, by decide +kernel⟩, List.mem_of_getElem? (i := 1102) (by decide +kernel), List.mem_of_getElem? (i := 1386) (by decide +kernel), List.mem_of_getElem? (i := 1387) (by decide +kernel)⟩
theorem lw_p79 : lw_okq (⟨"ForgetfulRiderModel", "worthOf", "(II)I"⟩, 49) := ⟨⟨by decide +kernel, by decide +kernel⟩, List.mem_of_getElem? (i := 1102) (by decide +kernel), List.mem_of_getElem? (i := 1390) (by decide +kernel), List.mem_of_getElem? (i := 1391) (by decide +kernel)⟩
def lw_privs_5 : List (MethodName × Nat) := [(⟨"ForgetfulRiderModel", "readPlace", "()V"⟩, 49), (⟨"ForgetfulRiderModel", "takes0", "(I)Z"⟩, 49), (⟨"ForgetfulRiderModel", "number", "(II)Z"⟩, 49), (⟨"ForgetfulRiderModel", "must", "(I)V"⟩, 49), (⟨"ForgetfulRiderModel", "readSum", "(I)V"⟩, 49), (⟨"ForgetfulRiderModel", "readTerm", "(I)V"⟩, 49), (⟨"ForgetfulRiderModel", "readPart", "(I)V"⟩, 49), (⟨"ForgetfulRiderModel", "leaf", "()V"⟩, 49), (⟨"ForgetfulRiderModel", "readTest", "(I)V"⟩, 49), (⟨"ForgetfulRiderModel", "readBoth", "(I)V"⟩, 49), (⟨"ForgetfulRiderModel", "readPlain", "(I)V"⟩, 49), (⟨"ForgetfulRiderModel", "isPlace", "(I)Z"⟩, 49), (⟨"ForgetfulRiderModel", "places", "()I"⟩, 49), (⟨"ForgetfulRiderModel", "placeOf", "(II)I"⟩, 49), (⟨"ForgetfulRiderModel", "looks", "()V"⟩, 49), (⟨"ForgetfulRiderModel", "worthOf", "(II)I"⟩, 49)]
theorem lw_r5 : ∀ q ∈ lw_privs_5, lw_okq q := List.forall_mem_cons.mpr ⟨lw_p64, List.forall_mem_cons.mpr ⟨lw_p65, List.forall_mem_cons.mpr ⟨lw_p66, List.forall_mem_cons.mpr ⟨lw_p67, List.forall_mem_cons.mpr ⟨lw_p68, List.forall_mem_cons.mpr ⟨lw_p69, List.forall_mem_cons.mpr ⟨lw_p70, List.forall_mem_cons.mpr ⟨lw_p71, List.forall_mem_cons.mpr ⟨lw_p72, List.forall_mem_cons.mpr ⟨lw_p73, List.forall_mem_cons.mpr ⟨lw_p74, List.forall_mem_cons.mpr ⟨lw_p75, List.forall_mem_cons.mpr ⟨lw_p76, List.forall_mem_cons.mpr ⟨lw_p77, List.forall_mem_cons.mpr ⟨lw_p78, List.forall_mem_cons.mpr ⟨lw_p79, fun _ h => absurd h List.not_mem_nil⟩⟩⟩⟩⟩⟩⟩⟩⟩⟩⟩⟩⟩⟩⟩⟩
theorem lw_p80 : lw_okq (⟨"ForgetfulRiderModel", "day", "()I"⟩, 49) := ⟨⟨by decide +kernel, by decide +kernel⟩, List.mem_of_getElem? (i := 1102) (by decide +kernel), List.mem_of_getElem? (i := 1394) (by decide +kernel), List.mem_of_getElem? (i := 1395) (by decide +kernel)⟩
theorem lw_p81 : lw_okq (⟨"ForgetfulRiderModel", "sumOf", "(Z)J"⟩, 49) := ⟨⟨by decide +kernel, by decide +kernel⟩, List.mem_of_getElem? (i := 1102) (by decide +kernel), List.mem_of_getElem? (i := 1398) (by decide +kernel), List.mem_of_getElem? (i := 1399) (by decide +kernel)⟩
theorem lw_p82 : lw_okq (⟨"ForgetfulRiderModel", "termOf", "(Z)J"⟩, 49) := ⟨⟨by decide +kernel, by decide +kernel⟩, List.mem_of_getElem? (i := 1102) (by decide +kernel), List.mem_of_getElem? (i := 1402) (by decide +kernel), List.mem_of_getElem? (i := 1403) (by decide +kernel)⟩
theorem lw_p83 : lw_okq (⟨"ForgetfulRiderModel", "partOf", "(Z)J"⟩, 49) := ⟨⟨by decide +kernel, by decide +kernel⟩, List.mem_of_getElem? (i := 1102) (by decide +kernel), List.mem_of_getElem? (i := 1406) (by decide +kernel), List.mem_of_getElem? (i := 1407) (by decide +kernel)⟩
theorem lw_p84 : lw_okq (⟨"ForgetfulRiderModel", "passes0", "(I)Z"⟩, 49) := ⟨⟨by decide +kernel, by decide +kernel⟩, List.mem_of_getElem? (i := 1102) (by decide +kernel), List.mem_of_getElem? (i := 1410) (by decide +kernel), List.mem_of_getElem? (i := 1411) (by decide +kernel)⟩
theorem lw_p85 : lw_okq (⟨"ForgetfulRiderModel", "codeAt", "(I)I"⟩, 49) := ⟨⟨by decide +kernel, by decide +kernel⟩, List.mem_of_getElem? (i := 1102) (by decide +kernel), List.mem_of_getElem? (i := 1414) (by decide +kernel), List.mem_of_getElem? (i := 1415) (by decide +kernel)⟩
theorem lw_p86 : lw_okq (⟨"ForgetfulRiderModel", "bounded", "(JZ)J"⟩, 49) := ⟨⟨by decide +kernel, by decide +kernel⟩, List.mem_of_getElem? (i := 1102) (by decide +kernel), List.mem_of_getElem? (i := 1418) (by decide +kernel), List.mem_of_getElem? (i := 1419) (by decide +kernel)⟩
theorem lw_p87 : lw_okq (⟨"ForgetfulRiderModel", "testOf", "(Z)Z"⟩, 49) := ⟨⟨by decide +kernel, by decide +kernel⟩, List.mem_of_getElem? (i := 1102) (by decide +kernel), List.mem_of_getElem? (i := 1424) (by decide +kernel), List.mem_of_getElem? (i := 1425) (by decide +kernel)⟩
theorem lw_p88 : lw_okq (⟨"ForgetfulRiderModel", "bothOf", "(Z)Z"⟩, 49) := ⟨⟨by decide +kernel, by decide +kernel⟩, List.mem_of_getElem? (i := 1102) (by decide +kernel), List.mem_of_getElem? (i := 1428) (by decide +kernel), List.mem_of_getElem? (i := 1429) (by decide +kernel)⟩
theorem lw_p89 : lw_okq (⟨"ForgetfulRiderModel", "plainOf", "(Z)Z"⟩, 49) := ⟨⟨by decide +kernel, by decide +kernel⟩, List.mem_of_getElem? (i := 1102) (by decide +kernel), List.mem_of_getElem? (i := 1432) (by decide +kernel), List.mem_of_getElem? (i := 1433) (by decide +kernel)⟩
theorem lw_p90 : lw_okq (⟨"ForgetfulRiderModel", "positiveOf", "(Z)Z"⟩, 49) := ⟨⟨by decide +kernel, by decide +kernel⟩, List.mem_of_getElem? (i := 1102) (by decide +kernel), List.mem_of_getElem? (i := 1436) (by decide +kernel), List.mem_of_getElem? (i := 1437) (by decide +kernel)⟩
theorem lw_p91 : lw_okq (⟨"ForgetfulRiderModel", "isFork", "(I)Z"⟩, 49) := ⟨⟨by decide +kernel, by decide +kernel⟩, List.mem_of_getElem? (i := 1102) (by decide +kernel), List.mem_of_getElem? (i := 1449) (by decide +kernel), List.mem_of_getElem? (i := 1450) (by decide +kernel)⟩
theorem lw_p92 : lw_okq (⟨"ForgetfulRiderModel", "takesRule", "()V"⟩, 49) := ⟨⟨by decide +kernel, by decide +kernel⟩, List.mem_of_getElem? (i := 1102) (by decide +kernel), List.mem_of_getElem? (i := 1469) (by decide +kernel), List.mem_of_getElem? (i := 1470) (by decide +kernel)⟩
theorem lw_p93 : lw_okq (⟨"ForgetfulRiderModel", "weighs", "()V"⟩, 49) := ⟨⟨by decide +kernel, by decide +kernel⟩, List.mem_of_getElem? (i := 1102) (by decide +kernel), List.mem_of_getElem? (i := 1473) (by decide +kernel), List.mem_of_getElem? (i := 1474) (by decide +kernel)⟩
theorem lw_p94 : lw_okq (⟨"ForgetfulRiderModel", "weigh", "(II)J"⟩, 49) := ⟨⟨by decide +kernel, by decide +kernel⟩, List.mem_of_getElem? (i := 1102) (by decide +kernel), List.mem_of_getElem? (i := 1477) (by decide +kernel), List.mem_of_getElem? (i := 1478) (by decide +kernel)⟩
theorem lw_p95 : lw_okq (⟨"ForgetfulRiderModel", "next", "(II)J"⟩, 49) := ⟨⟨by decide +kernel, by decide +kernel⟩, List.mem_of_getElem? (i := 1102) (by decide +kernel), List.mem_of_getElem? (i := 1485) (by decide +kernel), List.mem_of_getElem? (i := 1486) (by decide +kernel)⟩
def lw_privs_6 : List (MethodName × Nat) := [(⟨"ForgetfulRiderModel", "day", "()I"⟩, 49), (⟨"ForgetfulRiderModel", "sumOf", "(Z)J"⟩, 49), (⟨"ForgetfulRiderModel", "termOf", "(Z)J"⟩, 49), (⟨"ForgetfulRiderModel", "partOf", "(Z)J"⟩, 49), (⟨"ForgetfulRiderModel", "passes0", "(I)Z"⟩, 49), (⟨"ForgetfulRiderModel", "codeAt", "(I)I"⟩, 49), (⟨"ForgetfulRiderModel", "bounded", "(JZ)J"⟩, 49), (⟨"ForgetfulRiderModel", "testOf", "(Z)Z"⟩, 49), (⟨"ForgetfulRiderModel", "bothOf", "(Z)Z"⟩, 49), (⟨"ForgetfulRiderModel", "plainOf", "(Z)Z"⟩, 49), (⟨"ForgetfulRiderModel", "positiveOf", "(Z)Z"⟩, 49), (⟨"ForgetfulRiderModel", "isFork", "(I)Z"⟩, 49), (⟨"ForgetfulRiderModel", "takesRule", "()V"⟩, 49), (⟨"ForgetfulRiderModel", "weighs", "()V"⟩, 49), (⟨"ForgetfulRiderModel", "weigh", "(II)J"⟩, 49), (⟨"ForgetfulRiderModel", "next", "(II)J"⟩, 49)]
theorem lw_r6 : ∀ q ∈ lw_privs_6, lw_okq q := List.forall_mem_cons.mpr ⟨lw_p80, List.forall_mem_cons.mpr ⟨lw_p81, List.forall_mem_cons.mpr ⟨lw_p82, List.forall_mem_cons.mpr ⟨lw_p83, List.forall_mem_cons.mpr ⟨lw_p84, List.forall_mem_cons.mpr ⟨lw_p85, List.forall_mem_cons.mpr ⟨lw_p86, List.forall_mem_cons.mpr ⟨lw_p87, List.forall_mem_cons.mpr ⟨lw_p88, List.forall_mem_cons.mpr ⟨lw_p89, List.forall_mem_cons.mpr ⟨lw_p90, List.forall_mem_cons.mpr ⟨lw_p91, List.forall_mem_cons.mpr ⟨lw_p92, List.forall_mem_cons.mpr ⟨lw_p93, List.forall_mem_cons.mpr ⟨lw_p94, List.forall_mem_cons.mpr ⟨lw_p95, fun _ h => absurd h List.not_mem_nil⟩⟩⟩⟩⟩⟩⟩⟩⟩⟩⟩⟩⟩⟩⟩⟩
theorem lw_p96 : lw_okq (⟨"ForgetfulRiderModel", "atStart", "()J"⟩, 49) := ⟨⟨by decide +kernel, by decide +kernel⟩, List.mem_of_getElem? (i := 1102) (by decide +kernel), List.mem_of_getElem? (i := 1489) (by decide +kernel), List.mem_of_getElem? (i := 1490) (by decide +kernel)⟩
theorem lw_p97 : lw_okq (⟨"ForgetfulRiderModel", "plains", "()V"⟩, 49) := ⟨⟨by decide +kernel, by decide +kernel⟩, List.mem_of_getElem? (i := 1102) (by decide +kernel), List.mem_of_getElem? (i := 1510) (by decide +kernel), List.mem_of_getElem? (i := 1511) (by decide +kernel)⟩
theorem lw_p98 : lw_okq (⟨"ForgetfulRiderModel", "most", "(I)I"⟩, 49) := ⟨⟨by decide +kernel, by decide +kernel⟩, List.mem_of_getElem? (i := 1102) (by decide +kernel), List.mem_of_getElem? (i := 1514) (by decide +kernel), List.mem_of_getElem? (i := 1515) (by decide +kernel)⟩
theorem lw_p99 : lw_okq (⟨"ForgetfulRiderModel", "dices", "(I)Z"⟩, 49) := ⟨⟨by decide +kernel, by decide +kernel⟩, List.mem_of_getElem? (i := 1102) (by decide +kernel), List.mem_of_getElem? (i := 1530) (by decide +kernel), List.mem_of_getElem? (i := 1531) (by decide +kernel)⟩
theorem lw_p100 : lw_okq (⟨"ForgetfulRiderModel", "shares", "(I)I"⟩, 49) := ⟨⟨by decide +kernel, by decide +kernel⟩, List.mem_of_getElem? (i := 1102) (by decide +kernel), List.mem_of_getElem? (i := 1541) (by decide +kernel), List.mem_of_getElem? (i := 1542) (by decide +kernel)⟩
theorem lw_p101 : lw_okq (⟨"ForgetfulRiderModel", "laysShare", "(II)V"⟩, 49) := ⟨⟨by decide +kernel, by decide +kernel⟩, List.mem_of_getElem? (i := 1102) (by decide +kernel), List.mem_of_getElem? (i := 1545) (by decide +kernel), List.mem_of_getElem? (i := 1546) (by decide +kernel)⟩
theorem lw_p102 : lw_okq (⟨"ForgetfulRiderModel", "power0", "(IIII)J"⟩, 49) := ⟨⟨by decide +kernel, by decide +kernel⟩, List.mem_of_getElem? (i := 1102) (by decide +kernel), List.mem_of_getElem? (i := 1557) (by decide +kernel), List.mem_of_getElem? (i := 1558) (by decide +kernel)⟩
theorem lw_p103 : lw_okq (⟨"ForgetfulRiderModel", "powerAt", "(III)J"⟩, 49) := ⟨⟨by decide +kernel, by decide +kernel⟩, List.mem_of_getElem? (i := 1102) (by decide +kernel), List.mem_of_getElem? (i := 1561) (by decide +kernel), List.mem_of_getElem? (i := 1562) (by decide +kernel)⟩
theorem lw_p104 : lw_okq (⟨"ForgetfulRiderModel", "pocket0", "(III)J"⟩, 49) := ⟨⟨by decide +kernel, by decide +kernel⟩, List.mem_of_getElem? (i := 1102) (by decide +kernel), List.mem_of_getElem? (i := 1569) (by decide +kernel), List.mem_of_getElem? (i := 1570) (by decide +kernel)⟩
theorem lw_p105 : lw_okq (⟨"ForgetfulRiderModel", "pocketAt", "(III)J"⟩, 49) := ⟨⟨by decide +kernel, by decide +kernel⟩, List.mem_of_getElem? (i := 1102) (by decide +kernel), List.mem_of_getElem? (i := 1573) (by decide +kernel), List.mem_of_getElem? (i := 1574) (by decide +kernel)⟩
theorem lw_p106 : lw_okq (⟨"ForgetfulRiderModel", "canSign", "(I)Z"⟩, 49) := ⟨⟨by decide +kernel, by decide +kernel⟩, List.mem_of_getElem? (i := 1102) (by decide +kernel), List.mem_of_getElem? (i := 1581) (by decide +kernel), List.mem_of_getElem? (i := 1582) (by decide +kernel)⟩
theorem lw_p107 : lw_okq (⟨"ForgetfulRiderModel", "forksOf", "(I)I"⟩, 49) := ⟨⟨by decide +kernel, by decide +kernel⟩, List.mem_of_getElem? (i := 1102) (by decide +kernel), List.mem_of_getElem? (i := 1585) (by decide +kernel), List.mem_of_getElem? (i := 1586) (by decide +kernel)⟩
theorem lw_p108 : lw_okq (⟨"ForgetfulRiderModel", "painted", "(I)J"⟩, 49) := ⟨⟨by decide +kernel, by decide +kernel⟩, List.mem_of_getElem? (i := 1102) (by decide +kernel), List.mem_of_getElem? (i := 1590) (by decide +kernel), List.mem_of_getElem? (i := 1591) (by decide +kernel)⟩
theorem lw_p109 : lw_okq (⟨"ForgetfulRiderModel", "spreads", "()V"⟩, 49) := ⟨⟨by decide +kernel, by decide +kernel⟩, List.mem_of_getElem? (i := 1102) (by decide +kernel), List.mem_of_getElem? (i := 1602) (by decide +kernel), List.mem_of_getElem? (i := 1603) (by decide +kernel)⟩
theorem lw_p110 : lw_okq (⟨"ForgetfulRiderModel", "comes", "(IIJ)V"⟩, 49) := ⟨⟨by decide +kernel, by decide +kernel⟩, List.mem_of_getElem? (i := 1102) (by decide +kernel), List.mem_of_getElem? (i := 1606) (by decide +kernel), List.mem_of_getElem? (i := 1607) (by decide +kernel)⟩
theorem lw_p111 : lw_okq (⟨"ForgetfulRiderModel", "goesOn", "(IIIJ)V"⟩, 49) := ⟨⟨by decide +kernel, by decide +kernel⟩, List.mem_of_getElem? (i := 1102) (by decide +kernel), List.mem_of_getElem? (i := 1610) (by decide +kernel), List.mem_of_getElem? (i := 1611) (by decide +kernel)⟩
def lw_privs_7 : List (MethodName × Nat) := [(⟨"ForgetfulRiderModel", "atStart", "()J"⟩, 49), (⟨"ForgetfulRiderModel", "plains", "()V"⟩, 49), (⟨"ForgetfulRiderModel", "most", "(I)I"⟩, 49), (⟨"ForgetfulRiderModel", "dices", "(I)Z"⟩, 49), (⟨"ForgetfulRiderModel", "shares", "(I)I"⟩, 49), (⟨"ForgetfulRiderModel", "laysShare", "(II)V"⟩, 49), (⟨"ForgetfulRiderModel", "power0", "(IIII)J"⟩, 49), (⟨"ForgetfulRiderModel", "powerAt", "(III)J"⟩, 49), (⟨"ForgetfulRiderModel", "pocket0", "(III)J"⟩, 49), (⟨"ForgetfulRiderModel", "pocketAt", "(III)J"⟩, 49), (⟨"ForgetfulRiderModel", "canSign", "(I)Z"⟩, 49), (⟨"ForgetfulRiderModel", "forksOf", "(I)I"⟩, 49), (⟨"ForgetfulRiderModel", "painted", "(I)J"⟩, 49), (⟨"ForgetfulRiderModel", "spreads", "()V"⟩, 49), (⟨"ForgetfulRiderModel", "comes", "(IIJ)V"⟩, 49), (⟨"ForgetfulRiderModel", "goesOn", "(IIIJ)V"⟩, 49)]
theorem lw_r7 : ∀ q ∈ lw_privs_7, lw_okq q := List.forall_mem_cons.mpr ⟨lw_p96, List.forall_mem_cons.mpr ⟨lw_p97, List.forall_mem_cons.mpr ⟨lw_p98, List.forall_mem_cons.mpr ⟨lw_p99, List.forall_mem_cons.mpr ⟨lw_p100, List.forall_mem_cons.mpr ⟨lw_p101, List.forall_mem_cons.mpr ⟨lw_p102, List.forall_mem_cons.mpr ⟨lw_p103, List.forall_mem_cons.mpr ⟨lw_p104, List.forall_mem_cons.mpr ⟨lw_p105, List.forall_mem_cons.mpr ⟨lw_p106, List.forall_mem_cons.mpr ⟨lw_p107, List.forall_mem_cons.mpr ⟨lw_p108, List.forall_mem_cons.mpr ⟨lw_p109, List.forall_mem_cons.mpr ⟨lw_p110, List.forall_mem_cons.mpr ⟨lw_p111, fun _ h => absurd h List.not_mem_nil⟩⟩⟩⟩⟩⟩⟩⟩⟩⟩⟩⟩⟩⟩⟩⟩
theorem lw_p112 : lw_okq (⟨"ForgetfulRiderModel", "tenthsOf", "(II)I"⟩, 49) := ⟨⟨by decide +kernel, by decide +kernel⟩, List.mem_of_getElem? (i := 1102) (by decide +kernel), List.mem_of_getElem? (i := 1614) (by decide +kernel), List.mem_of_getElem? (i := 1615) (by decide +kernel)⟩
theorem lw_p113 : lw_okq (⟨"ForgetfulRiderModel", "roadOf", "(II)I"⟩, 49) := ⟨⟨by decide +kernel, by decide +kernel⟩, List.mem_of_getElem? (i := 1102) (by decide +kernel), List.mem_of_getElem? (i := 1618) (by decide +kernel), List.mem_of_getElem? (i := 1619) (by decide +kernel)⟩
theorem lw_p114 : lw_okq (⟨"ForgetfulRiderModel", "visitsOf", "(I)J"⟩, 49) := ⟨⟨by decide +kernel, by decide +kernel⟩, List.mem_of_getElem? (i := 1102) (by decide +kernel), List.mem_of_getElem? (i := 1622) (by decide +kernel), List.mem_of_getElem? (i := 1623) (by decide +kernel)⟩
theorem lw_p115 : lw_okq (⟨"ForgetfulRiderModel", "second", "(I)I"⟩, 49) := ⟨⟨by decide +kernel, by decide +kernel⟩, List.mem_of_getElem? (i := 1102) (by decide +kernel), List.mem_of_getElem? (i := 1634) (by decide +kernel), List.mem_of_getElem? (i := 1635) (by decide +kernel)⟩
theorem lw_p116 : lw_okq (⟨"ForgetfulRiderModel", "comesSeeing", "(IIIIIJ)V"⟩, 49) := ⟨⟨by decide +kernel, by decide +kernel⟩, List.mem_of_getElem? (i := 1102) (by decide +kernel), List.mem_of_getElem? (i := 1638) (by decide +kernel), List.mem_of_getElem? (i := 1639) (by decide +kernel)⟩
theorem lw_p117 : lw_okq (⟨"ForgetfulRiderModel", "over", "(IIJ)V"⟩, 49) := ⟨⟨by decide +kernel, by decide +kernel⟩, List.mem_of_getElem? (i := 1102) (by decide +kernel), List.mem_of_getElem? (i := 1642) (by decide +kernel), List.mem_of_getElem? (i := 1643) (by decide +kernel)⟩
theorem lw_p118 : lw_okq (⟨"ForgetfulRiderModel", "at", "(III)I"⟩, 49) := ⟨⟨by decide +kernel, by decide +kernel⟩, List.mem_of_getElem? (i := 1102) (by decide +kernel), List.mem_of_getElem? (i := 1646) (by decide +kernel), List.mem_of_getElem? (i := 1647) (by decide +kernel)⟩
theorem lw_p119 : lw_okq (⟨"ForgetfulRiderModel", "visitsOfLook", "(I)J"⟩, 49) := ⟨⟨by decide +kernel, by decide +kernel⟩, List.mem_of_getElem? (i := 1102) (by decide +kernel), List.mem_of_getElem? (i := 1654) (by decide +kernel), List.mem_of_getElem? (i := 1655) (by decide +kernel)⟩
theorem lw_p120 : lw_okq (⟨"ForgetfulRiderModel", "draws", "()I"⟩, 49) := ⟨⟨by decide +kernel, by decide +kernel⟩, List.mem_of_getElem? (i := 1102) (by decide +kernel), List.mem_of_getElem? (i := 1672) (by decide +kernel), List.mem_of_getElem? (i := 1673) (by decide +kernel)⟩
def lw_privs_8 : List (MethodName × Nat) := [(⟨"ForgetfulRiderModel", "tenthsOf", "(II)I"⟩, 49), (⟨"ForgetfulRiderModel", "roadOf", "(II)I"⟩, 49), (⟨"ForgetfulRiderModel", "visitsOf", "(I)J"⟩, 49), (⟨"ForgetfulRiderModel", "second", "(I)I"⟩, 49), (⟨"ForgetfulRiderModel", "comesSeeing", "(IIIIIJ)V"⟩, 49), (⟨"ForgetfulRiderModel", "over", "(IIJ)V"⟩, 49), (⟨"ForgetfulRiderModel", "at", "(III)I"⟩, 49), (⟨"ForgetfulRiderModel", "visitsOfLook", "(I)J"⟩, 49), (⟨"ForgetfulRiderModel", "draws", "()I"⟩, 49)]
theorem lw_r8 : ∀ q ∈ lw_privs_8, lw_okq q := List.forall_mem_cons.mpr ⟨lw_p112, List.forall_mem_cons.mpr ⟨lw_p113, List.forall_mem_cons.mpr ⟨lw_p114, List.forall_mem_cons.mpr ⟨lw_p115, List.forall_mem_cons.mpr ⟨lw_p116, List.forall_mem_cons.mpr ⟨lw_p117, List.forall_mem_cons.mpr ⟨lw_p118, List.forall_mem_cons.mpr ⟨lw_p119, List.forall_mem_cons.mpr ⟨lw_p120, fun _ h => absurd h List.not_mem_nil⟩⟩⟩⟩⟩⟩⟩⟩⟩
def lw_privs : List (MethodName × Nat) := lw_privs_1 ++ (lw_privs_2 ++ (lw_privs_3 ++ (lw_privs_4 ++ (lw_privs_5 ++ (lw_privs_6 ++ (lw_privs_7 ++ (lw_privs_8)))))))
def lw_tbl : List Cond := k2_sels lw_privs ++ tables_1
theorem lw_privs_ok : ∀ q ∈ lw_privs, lw_okq q := by
  show ∀ q ∈ lw_privs_1 ++ (lw_privs_2 ++ (lw_privs_3 ++ (lw_privs_4 ++ (lw_privs_5 ++ (lw_privs_6 ++ (lw_privs_7 ++ (lw_privs_8))))))), lw_okq q
  exact List.forall_mem_append.mpr ⟨lw_r1, List.forall_mem_append.mpr ⟨lw_r2, List.forall_mem_append.mpr ⟨lw_r3, List.forall_mem_append.mpr ⟨lw_r4, List.forall_mem_append.mpr ⟨lw_r5, List.forall_mem_append.mpr ⟨lw_r6, List.forall_mem_append.mpr ⟨lw_r7, lw_r8⟩⟩⟩⟩⟩⟩⟩
end
section
/-! ===== BEGIN words of one list among another's, by their places ===== -/
theorem goodIn_r {big : List Cond} (ws : List Cond) (ps : List Nat) (hp : ws = ps.filterMap (fun i => big[i]?)) (h : ws.all goodWord = true) : GoodIn big ws := by
  intro w hw
  have h1 := List.all_eq_true.mp h w hw
  rw [hp] at hw
  obtain ⟨i, -, hi⟩ := List.mem_filterMap.mp hw
  have hm : w ∈ big := by first | exact List.mem_of_getElem? hi | exact List.getElem?_mem hi
  exact ⟨hm, good_of_word h1⟩
theorem goodIn_app {big a b : List Cond} (ha : GoodIn big a) (hb : GoodIn big b) : GoodIn big (a ++ b) := fun w h => (List.mem_append.mp h).elim (ha w) (hb w)
theorem goodIn_ca {big a b : List Cond} {c : Cond} (ha : GoodIn big (c :: a)) (hb : GoodIn big b) : GoodIn big (c :: (a ++ b)) := fun w h => (List.mem_cons.mp h).elim (fun e => ha w (List.mem_cons.mpr (Or.inl e))) (fun h => (List.mem_append.mp h).elim (fun h => ha w (List.mem_cons.mpr (Or.inr h))) (hb w))
theorem goodIn_sub {big ws : List Cond} (hm : ∀ w ∈ ws, w ∈ big) (h : ws.all goodWord = true) : GoodIn big ws := fun w hw => ⟨hm w hw, good_of_word (List.all_eq_true.mp h w hw)⟩
/-! ===== END ===== -/

/-! ===== BEGIN printed: names, fields, word lists, decode rows ===== -/
def RX0 : String := "ForgetfulRider$Book"
def TX0 : u_T := fun k => match k with
  | 0 => ("ForgetfulRider$Book", "land", "LForgetfulRider$Land;", true)
  | 1 => ("ForgetfulRider$Book", "term", "[I", true)
  | _ => ("ForgetfulRider$Book", "tenth", "[I", true)
def tyX0 : Nat → FieldType := fun k => match k with
  | 0 => .object "ForgetfulRider$Land"
  | 1 => .array .int
  | _ => .array .int
abbrev wsX00 : List Cond := u_ws RX0 TX0 3
theorem nmX0 : ∀ a, a < 3 → ∀ b, b < 3 → a ≠ b → (TX0 a).2.1 ≠ (TX0 b).2.1 := by decide +kernel
theorem tyX0_ok : ∀ k, k < 3 → parseFieldDescriptor (TX0 k).2.2.1 = some (tyX0 k) := by decide +kernel
abbrev cX0_init : ByteArray := prog_2_method_1_code
def yX0_init : MethodName := ⟨RX0, "<init>", "()V"⟩
abbrev cX0_copyOf : ByteArray := prog_2_method_2_code
def yX0_copyOf : MethodName := ⟨RX0, "copyOf", "(LForgetfulRider$Book;)V"⟩
def RX1 : String := "ForgetfulRider$Chart"
def TX1 : u_T := fun k => match k with
  | 0 => ("ForgetfulRider$Chart", "book", "LForgetfulRider$Book;", true)
  | 1 => ("ForgetfulRider$Chart", "land", "LForgetfulRider$Land;", true)
  | 2 => ("ForgetfulRider$Chart", "teller", "LForgetfulRider$Teller;", true)
  | 3 => ("ForgetfulRider$Chart", "look", "[I", true)
  | 4 => ("ForgetfulRider$Chart", "mix", "[I", true)
  | 5 => ("ForgetfulRider$Chart", "free", "I", false)
  | 6 => ("ForgetfulRider$Chart", "table", "[J", true)
  | 7 => ("ForgetfulRider$Chart", "order", "[I", true)
  | 8 => ("ForgetfulRider$Chart", "moves", "I", false)
  | 9 => ("ForgetfulRider$Chart", "tenth", "[I", true)
  | _ => ("ForgetfulRider$Chart", "reached", "[I", true)
def tyX1 : Nat → FieldType := fun k => match k with
  | 0 => .object "ForgetfulRider$Book"
  | 1 => .object "ForgetfulRider$Land"
  | 2 => .object "ForgetfulRider$Teller"
  | 3 => .array .int
  | 4 => .array .int
  | 5 => .int
  | 6 => .array .long
  | 7 => .array .int
  | 8 => .int
  | 9 => .array .int
  | _ => .array .int
abbrev wsX10 : List Cond := u_ws RX1 TX1 11
theorem nmX1 : ∀ a, a < 11 → ∀ b, b < 11 → a ≠ b → (TX1 a).2.1 ≠ (TX1 b).2.1 := by decide +kernel
theorem tyX1_ok : ∀ k, k < 11 → parseFieldDescriptor (TX1 k).2.2.1 = some (tyX1 k) := by decide +kernel
abbrev cX1_init : ByteArray := prog_3_method_1_code
def yX1_init : MethodName := ⟨RX1, "<init>", "(LForgetfulRider$Book;LForgetfulRider$Teller;)V"⟩
abbrev cX1_lay : ByteArray := prog_3_method_2_code
def yX1_lay : MethodName := ⟨RX1, "lay", "(Z)V"⟩
abbrev cX1_reach : ByteArray := prog_3_method_3_code
def yX1_reach : MethodName := ⟨RX1, "reach", "(Z)V"⟩
abbrev cX1_roadsFrom : ByteArray := prog_3_method_4_code
def yX1_roadsFrom : MethodName := ⟨RX1, "roadsFrom", "(I)I"⟩
abbrev cX1_layStep : ByteArray := prog_3_method_5_code
def yX1_layStep : MethodName := ⟨RX1, "layStep", "(I)V"⟩
abbrev cX1_freeAll : ByteArray := prog_3_method_6_code
def yX1_freeAll : MethodName := ⟨RX1, "freeAll", "()V"⟩
abbrev cX1_weigh : ByteArray := prog_3_method_7_code
def yX1_weigh : MethodName := ⟨RX1, "weigh", "()J"⟩
abbrev cX1_most : ByteArray := prog_3_method_8_code
def yX1_most : MethodName := ⟨RX1, "most", "(II)J"⟩
abbrev cX1_mean : ByteArray := prog_3_method_9_code
def yX1_mean : MethodName := ⟨RX1, "mean", "(II)J"⟩
abbrev cX1_shareAtForks : ByteArray := prog_3_method_10_code
def yX1_shareAtForks : MethodName := ⟨RX1, "shareAtForks", "()V"⟩
abbrev cX1_bestRoad : ByteArray := prog_3_method_11_code
def yX1_bestRoad : MethodName := ⟨RX1, "bestRoad", "(II)I"⟩
abbrev cX1_looksAhead : ByteArray := prog_3_method_12_code
def yX1_looksAhead : MethodName := ⟨RX1, "looksAhead", "()I"⟩
abbrev cX1_countRoads : ByteArray := prog_3_method_13_code
def yX1_countRoads : MethodName := ⟨RX1, "countRoads", "([I)V"⟩
abbrev cX1_goesOn : ByteArray := prog_3_method_14_code
def yX1_goesOn : MethodName := ⟨RX1, "goesOn", "(II)Z"⟩
def RX2 : String := "ForgetfulRider$Flow"
def TX2 : u_T := fun k => match k with
  | 0 => ("ForgetfulRider$Flow", "chart", "LForgetfulRider$Chart;", true)
  | 1 => ("ForgetfulRider$Flow", "now", "[J", false)
  | 2 => ("ForgetfulRider$Flow", "next", "[J", false)
  | 3 => ("ForgetfulRider$Flow", "width", "I", false)
  | 4 => ("ForgetfulRider$Flow", "seen", "[J", true)
  | 5 => ("ForgetfulRider$Flow", "late", "J", false)
  | _ => ("ForgetfulRider$Flow", "lost", "J", false)
def tyX2 : Nat → FieldType := fun k => match k with
  | 0 => .object "ForgetfulRider$Chart"
  | 1 => .array .long
  | 2 => .array .long
  | 3 => .int
  | 4 => .array .long
  | 5 => .long
  | _ => .long
abbrev wsX20 : List Cond := u_ws RX2 TX2 7
theorem nmX2 : ∀ a, a < 7 → ∀ b, b < 7 → a ≠ b → (TX2 a).2.1 ≠ (TX2 b).2.1 := by decide +kernel
theorem tyX2_ok : ∀ k, k < 7 → parseFieldDescriptor (TX2 k).2.2.1 = some (tyX2 k) := by decide +kernel
abbrev cX2_init : ByteArray := prog_4_method_1_code
def yX2_init : MethodName := ⟨RX2, "<init>", "(LForgetfulRider$Chart;)V"⟩
abbrev cX2_start : ByteArray := prog_4_method_2_code
def yX2_start : MethodName := ⟨RX2, "start", "(I)V"⟩
abbrev cX2_goOn : ByteArray := prog_4_method_3_code
def yX2_goOn : MethodName := ⟨RX2, "goOn", "(II)V"⟩
abbrev cX2_passRow : ByteArray := prog_4_method_4_code
def yX2_passRow : MethodName := ⟨RX2, "passRow", "(I)V"⟩
abbrev cX2_passOpen : ByteArray := prog_4_method_5_code
def yX2_passOpen : MethodName := ⟨RX2, "passOpen", "(I)V"⟩
abbrev cX2_countVisits : ByteArray := prog_4_method_6_code
def yX2_countVisits : MethodName := ⟨RX2, "countVisits", "()V"⟩
abbrev cX2_seenAlike : ByteArray := prog_4_method_7_code
def yX2_seenAlike : MethodName := ⟨RX2, "seenAlike", "(I)J"⟩
abbrev cX2_looksLike : ByteArray := prog_4_method_8_code
def yX2_looksLike : MethodName := ⟨RX2, "looksLike", "(II)Z"⟩
abbrev cX2_secondBelief : ByteArray := prog_4_method_9_code
def yX2_secondBelief : MethodName := ⟨RX2, "secondBelief", "(I)I"⟩
abbrev cX2_countOne : ByteArray := prog_4_method_10_code
def yX2_countOne : MethodName := ⟨RX2, "countOne", "(IZ)V"⟩
abbrev cX2_millionths : ByteArray := prog_4_method_11_code
def yX2_millionths : MethodName := ⟨RX2, "millionths", "(JJ)I"⟩
abbrev cX2_factor : ByteArray := prog_4_method_12_code
def yX2_factor : MethodName := ⟨RX2, "factor", "(II)J"⟩
def RX3 : String := "ForgetfulRider$Land"
def TX3 : u_T := fun k => match k with
  | 0 => ("ForgetfulRider$Land", "size", "I", false)
  | 1 => ("ForgetfulRider$Land", "kind", "[I", true)
  | 2 => ("ForgetfulRider$Land", "look", "[I", true)
  | 3 => ("ForgetfulRider$Land", "toll", "[I", true)
  | 4 => ("ForgetfulRider$Land", "roadCount", "[I", true)
  | 5 => ("ForgetfulRider$Land", "roadTo", "[I", true)
  | 6 => ("ForgetfulRider$Land", "turnTenth", "[I", true)
  | 7 => ("ForgetfulRider$Land", "sumFrom", "[I", true)
  | 8 => ("ForgetfulRider$Land", "sumTo", "[I", true)
  | 9 => ("ForgetfulRider$Land", "testTo", "[I", true)
  | _ => ("ForgetfulRider$Land", "code", "[I", true)
def tyX3 : Nat → FieldType := fun k => match k with
  | 0 => .int
  | 1 => .array .int
  | 2 => .array .int
  | 3 => .array .int
  | 4 => .array .int
  | 5 => .array .int
  | 6 => .array .int
  | 7 => .array .int
  | 8 => .array .int
  | 9 => .array .int
  | _ => .array .int
abbrev wsX30 : List Cond := u_ws RX3 TX3 11
theorem nmX3 : ∀ a, a < 11 → ∀ b, b < 11 → a ≠ b → (TX3 a).2.1 ≠ (TX3 b).2.1 := by decide +kernel
theorem tyX3_ok : ∀ k, k < 11 → parseFieldDescriptor (TX3 k).2.2.1 = some (tyX3 k) := by decide +kernel
abbrev cX3_init : ByteArray := prog_5_method_1_code
def yX3_init : MethodName := ⟨RX3, "<init>", "()V"⟩
abbrev cX3_copyOf : ByteArray := prog_5_method_2_code
def yX3_copyOf : MethodName := ⟨RX3, "copyOf", "(LForgetfulRider$Land;)V"⟩
abbrev cX3_copyRow : ByteArray := prog_5_method_3_code
def yX3_copyRow : MethodName := ⟨RX3, "copyRow", "([I[I)V"⟩
abbrev cX3_has : ByteArray := prog_5_method_4_code
def yX3_has : MethodName := ⟨RX3, "has", "(I)Z"⟩
abbrev cX3_isKind : ByteArray := prog_5_method_5_code
def yX3_isKind : MethodName := ⟨RX3, "isKind", "(II)Z"⟩
abbrev cX3_told : ByteArray := prog_5_method_6_code
def yX3_told : MethodName := ⟨RX3, "told", "(II)I"⟩
abbrev cX3_forks : ByteArray := prog_5_method_7_code
def yX3_forks : MethodName := ⟨RX3, "forks", "()I"⟩
abbrev cX3_forksOf : ByteArray := prog_5_method_8_code
def yX3_forksOf : MethodName := ⟨RX3, "forksOf", "(I)I"⟩
abbrev cX3_usedLooks : ByteArray := prog_5_method_9_code
def yX3_usedLooks : MethodName := ⟨RX3, "usedLooks", "()I"⟩
def RX4 : String := "ForgetfulRider$Pebble"
def TX4 : u_T := fun k => match k with
  | 0 => ("ForgetfulRider$Pebble", "chart", "LForgetfulRider$Chart;", true)
  | 1 => ("ForgetfulRider$Pebble", "table", "[J", true)
  | 2 => ("ForgetfulRider$Pebble", "choice", "[I", true)
  | 3 => ("ForgetfulRider$Pebble", "roads", "[I", true)
  | 4 => ("ForgetfulRider$Pebble", "here", "[I", true)
  | 5 => ("ForgetfulRider$Pebble", "then", "[I", true)
  | _ => ("ForgetfulRider$Pebble", "best", "J", false)
def tyX4 : Nat → FieldType := fun k => match k with
  | 0 => .object "ForgetfulRider$Chart"
  | 1 => .array .long
  | 2 => .array .int
  | 3 => .array .int
  | 4 => .array .int
  | 5 => .array .int
  | _ => .long
abbrev wsX40 : List Cond := u_ws RX4 TX4 7
theorem nmX4 : ∀ a, a < 7 → ∀ b, b < 7 → a ≠ b → (TX4 a).2.1 ≠ (TX4 b).2.1 := by decide +kernel
theorem tyX4_ok : ∀ k, k < 7 → parseFieldDescriptor (TX4 k).2.2.1 = some (tyX4 k) := by decide +kernel
abbrev cX4_init : ByteArray := prog_6_method_1_code
def yX4_init : MethodName := ⟨RX4, "<init>", "(LForgetfulRider$Chart;)V"⟩
abbrev cX4_seek : ByteArray := prog_6_method_2_code
def yX4_seek : MethodName := ⟨RX4, "seek", "()J"⟩
abbrev cX4_tryKey : ByteArray := prog_6_method_3_code
def yX4_tryKey : MethodName := ⟨RX4, "tryKey", "(IJ)V"⟩
abbrev cX4_keyAhead : ByteArray := prog_6_method_4_code
def yX4_keyAhead : MethodName := ⟨RX4, "keyAhead", "()I"⟩
abbrev cX4_roadChosen : ByteArray := prog_6_method_5_code
def yX4_roadChosen : MethodName := ⟨RX4, "roadChosen", "(II)I"⟩
abbrev cX4_weigh : ByteArray := prog_6_method_6_code
def yX4_weigh : MethodName := ⟨RX4, "weigh", "()J"⟩
abbrev cX4_atFork : ByteArray := prog_6_method_7_code
def yX4_atFork : MethodName := ⟨RX4, "atFork", "(III)J"⟩
abbrev cX4_mean : ByteArray := prog_6_method_8_code
def yX4_mean : MethodName := ⟨RX4, "mean", "(III)J"⟩
def RX5 : String := "ForgetfulRider$Reader"
def TX5 : u_T := fun k => match k with
  | 0 => ("ForgetfulRider$Reader", "text", "[B", true)
  | 1 => ("ForgetfulRider$Reader", "land", "LForgetfulRider$Land;", true)
  | 2 => ("ForgetfulRider$Reader", "length", "I", false)
  | 3 => ("ForgetfulRider$Reader", "tokenFrom", "I", false)
  | 4 => ("ForgetfulRider$Reader", "tokenTo", "I", false)
  | 5 => ("ForgetfulRider$Reader", "kind", "I", false)
  | 6 => ("ForgetfulRider$Reader", "value", "I", false)
  | 7 => ("ForgetfulRider$Reader", "place", "I", false)
  | 8 => ("ForgetfulRider$Reader", "codeSize", "I", false)
  | _ => ("ForgetfulRider$Reader", "parts", "I", false)
def tyX5 : Nat → FieldType := fun k => match k with
  | 0 => .array .byte
  | 1 => .object "ForgetfulRider$Land"
  | 2 => .int
  | 3 => .int
  | 4 => .int
  | 5 => .int
  | 6 => .int
  | 7 => .int
  | 8 => .int
  | _ => .int
abbrev wsX50 : List Cond := u_ws RX5 TX5 10
theorem nmX5 : ∀ a, a < 10 → ∀ b, b < 10 → a ≠ b → (TX5 a).2.1 ≠ (TX5 b).2.1 := by decide +kernel
theorem tyX5_ok : ∀ k, k < 10 → parseFieldDescriptor (TX5 k).2.2.1 = some (tyX5 k) := by decide +kernel
abbrev cX5_init : ByteArray := prog_7_method_1_code
def yX5_init : MethodName := ⟨RX5, "<init>", "([BLForgetfulRider$Land;)V"⟩
abbrev cX5_read : ByteArray := prog_7_method_2_code
def yX5_read : MethodName := ⟨RX5, "read", "(I)I"⟩
abbrev cX5_readPlace : ByteArray := prog_7_method_3_code
def yX5_readPlace : MethodName := ⟨RX5, "readPlace", "()Z"⟩
abbrev cX5_readFork : ByteArray := prog_7_method_4_code
def yX5_readFork : MethodName := ⟨RX5, "readFork", "()Z"⟩
abbrev cX5_readTurn : ByteArray := prog_7_method_5_code
def yX5_readTurn : MethodName := ⟨RX5, "readTurn", "()Z"⟩
abbrev cX5_readInn : ByteArray := prog_7_method_6_code
def yX5_readInn : MethodName := ⟨RX5, "readInn", "()Z"⟩
abbrev cX5_readRoad : ByteArray := prog_7_method_7_code
def yX5_readRoad : MethodName := ⟨RX5, "readRoad", "(I)Z"⟩
abbrev cX5_readEnd : ByteArray := prog_7_method_8_code
def yX5_readEnd : MethodName := ⟨RX5, "readEnd", "()Z"⟩
abbrev cX5_readTest : ByteArray := prog_7_method_9_code
def yX5_readTest : MethodName := ⟨RX5, "readTest", "(I)Z"⟩
abbrev cX5_readBoth : ByteArray := prog_7_method_10_code
def yX5_readBoth : MethodName := ⟨RX5, "readBoth", "(I)Z"⟩
abbrev cX5_readPlain : ByteArray := prog_7_method_11_code
def yX5_readPlain : MethodName := ⟨RX5, "readPlain", "(I)Z"⟩
abbrev cX5_readInBrackets : ByteArray := prog_7_method_12_code
def yX5_readInBrackets : MethodName := ⟨RX5, "readInBrackets", "(I)Z"⟩
abbrev cX5_readComparison : ByteArray := prog_7_method_13_code
def yX5_readComparison : MethodName := ⟨RX5, "readComparison", "(I)Z"⟩
abbrev cX5_readSum : ByteArray := prog_7_method_14_code
def yX5_readSum : MethodName := ⟨RX5, "readSum", "(I)Z"⟩
abbrev cX5_readTerm : ByteArray := prog_7_method_15_code
def yX5_readTerm : MethodName := ⟨RX5, "readTerm", "(I)Z"⟩
abbrev cX5_readPart : ByteArray := prog_7_method_16_code
def yX5_readPart : MethodName := ⟨RX5, "readPart", "(I)Z"⟩
abbrev cX5_put : ByteArray := prog_7_method_17_code
def yX5_put : MethodName := ⟨RX5, "put", "(II)V"⟩
abbrev cX5_aim : ByteArray := prog_7_method_18_code
def yX5_aim : MethodName := ⟨RX5, "aim", "(I)V"⟩
abbrev cX5_isSign : ByteArray := prog_7_method_19_code
def yX5_isSign : MethodName := ⟨RX5, "isSign", "(C)Z"⟩
abbrev cX5_takeSign : ByteArray := prog_7_method_20_code
def yX5_takeSign : MethodName := ⟨RX5, "takeSign", "(C)Z"⟩
abbrev cX5_isWord : ByteArray := prog_7_method_21_code
def yX5_isWord : MethodName := ⟨RX5, "isWord", "(Ljava/lang/String;)Z"⟩
abbrev cX5_takeWord : ByteArray := prog_7_method_22_code
def yX5_takeWord : MethodName := ⟨RX5, "takeWord", "(Ljava/lang/String;)Z"⟩
abbrev cX5_takeNumber : ByteArray := prog_7_method_23_code
def yX5_takeNumber : MethodName := ⟨RX5, "takeNumber", "(II)Z"⟩
abbrev cX5_advance : ByteArray := prog_7_method_24_code
def yX5_advance : MethodName := ⟨RX5, "advance", "()V"⟩
abbrev cX5_isLetter : ByteArray := prog_7_method_25_code
def yX5_isLetter : MethodName := ⟨RX5, "isLetter", "(B)Z"⟩
abbrev cX5_isDigit : ByteArray := prog_7_method_26_code
def yX5_isDigit : MethodName := ⟨RX5, "isDigit", "(B)Z"⟩
def RX6 : String := "ForgetfulRider$Seeker"
def TX6 : u_T := fun k => match k with
  | 0 => ("ForgetfulRider$Seeker", "chart", "LForgetfulRider$Chart;", true)
  | 1 => ("ForgetfulRider$Seeker", "roads", "[I", true)
  | 2 => ("ForgetfulRider$Seeker", "first", "[I", true)
  | 3 => ("ForgetfulRider$Seeker", "forks", "[I", true)
  | 4 => ("ForgetfulRider$Seeker", "forkCount", "I", false)
  | 5 => ("ForgetfulRider$Seeker", "keys", "I", false)
  | 6 => ("ForgetfulRider$Seeker", "dice", "Z", false)
  | 7 => ("ForgetfulRider$Seeker", "counting", "Z", false)
  | 8 => ("ForgetfulRider$Seeker", "best", "J", false)
  | _ => ("ForgetfulRider$Seeker", "having", "J", false)
def tyX6 : Nat → FieldType := fun k => match k with
  | 0 => .object "ForgetfulRider$Chart"
  | 1 => .array .int
  | 2 => .array .int
  | 3 => .array .int
  | 4 => .int
  | 5 => .int
  | 6 => .boolean
  | 7 => .boolean
  | 8 => .long
  | _ => .long
abbrev wsX60 : List Cond := u_ws RX6 TX6 10
theorem nmX6 : ∀ a, a < 10 → ∀ b, b < 10 → a ≠ b → (TX6 a).2.1 ≠ (TX6 b).2.1 := by decide +kernel
theorem tyX6_ok : ∀ k, k < 10 → parseFieldDescriptor (TX6 k).2.2.1 = some (tyX6 k) := by decide +kernel
abbrev cX6_init : ByteArray := prog_8_method_1_code
def yX6_init : MethodName := ⟨RX6, "<init>", "(LForgetfulRider$Chart;)V"⟩
abbrev cX6_seekPlain : ByteArray := prog_8_method_2_code
def yX6_seekPlain : MethodName := ⟨RX6, "seekPlain", "()J"⟩
abbrev cX6_startPlain : ByteArray := prog_8_method_3_code
def yX6_startPlain : MethodName := ⟨RX6, "startPlain", "(Z)V"⟩
abbrev cX6_seekDie : ByteArray := prog_8_method_4_code
def yX6_seekDie : MethodName := ⟨RX6, "seekDie", "(I)J"⟩
abbrev cX6_tellBest : ByteArray := prog_8_method_5_code
def yX6_tellBest : MethodName := ⟨RX6, "tellBest", "(JI)J"⟩
abbrev cX6_firstRoad : ByteArray := prog_8_method_6_code
def yX6_firstRoad : MethodName := ⟨RX6, "firstRoad", "(I)I"⟩
abbrev cX6_giveFirst : ByteArray := prog_8_method_7_code
def yX6_giveFirst : MethodName := ⟨RX6, "giveFirst", "([I)V"⟩
abbrev cX6_usedLooks : ByteArray := prog_8_method_8_code
def yX6_usedLooks : MethodName := ⟨RX6, "usedLooks", "()I"⟩
abbrev cX6_rules : ByteArray := prog_8_method_9_code
def yX6_rules : MethodName := ⟨RX6, "rules", "(I)J"⟩
abbrev cX6_choices : ByteArray := prog_8_method_10_code
def yX6_choices : MethodName := ⟨RX6, "choices", "(I)I"⟩
abbrev cX6_choose : ByteArray := prog_8_method_11_code
def yX6_choose : MethodName := ⟨RX6, "choose", "(II)V"⟩
abbrev cX6_seek : ByteArray := prog_8_method_12_code
def yX6_seek : MethodName := ⟨RX6, "seek", "(IJ)V"⟩
abbrev cX6_tryLook : ByteArray := prog_8_method_13_code
def yX6_tryLook : MethodName := ⟨RX6, "tryLook", "(IJ)V"⟩
abbrev cX6_mayBeBest : ByteArray := prog_8_method_14_code
def yX6_mayBeBest : MethodName := ⟨RX6, "mayBeBest", "(J)Z"⟩
abbrev cX6_takeRule : ByteArray := prog_8_method_15_code
def yX6_takeRule : MethodName := ⟨RX6, "takeRule", "(J)V"⟩
abbrev cX6_fewestSigns : ByteArray := prog_8_method_16_code
def yX6_fewestSigns : MethodName := ⟨RX6, "fewestSigns", "(IJ)I"⟩
abbrev cX6_bestSigned : ByteArray := prog_8_method_17_code
def yX6_bestSigned : MethodName := ⟨RX6, "bestSigned", "(I)J"⟩
abbrev cX6_startSigns : ByteArray := prog_8_method_18_code
def yX6_startSigns : MethodName := ⟨RX6, "startSigns", "(I)V"⟩
abbrev cX6_bestWithSigns : ByteArray := prog_8_method_19_code
def yX6_bestWithSigns : MethodName := ⟨RX6, "bestWithSigns", "(IIJ)J"⟩
abbrev cX6_placesOf : ByteArray := prog_8_method_20_code
def yX6_placesOf : MethodName := ⟨RX6, "placesOf", "(I)I"⟩
def RX7 : String := "ForgetfulRider$Teller"
def TX7 : u_T := fun k => match k with
  | 0 => ("ForgetfulRider$Teller", "stack", "[J", true)
  | 1 => ("ForgetfulRider$Teller", "place", "I", false)
  | 2 => ("ForgetfulRider$Teller", "step", "I", false)
  | _ => ("ForgetfulRider$Teller", "day", "I", false)
def tyX7 : Nat → FieldType := fun k => match k with
  | 0 => .array .long
  | 1 => .int
  | 2 => .int
  | _ => .int
abbrev wsX70 : List Cond := u_ws RX7 TX7 4
theorem nmX7 : ∀ a, a < 4 → ∀ b, b < 4 → a ≠ b → (TX7 a).2.1 ≠ (TX7 b).2.1 := by decide +kernel
theorem tyX7_ok : ∀ k, k < 4 → parseFieldDescriptor (TX7 k).2.2.1 = some (tyX7 k) := by decide +kernel
abbrev cX7_init : ByteArray := prog_9_method_1_code
def yX7_init : MethodName := ⟨RX7, "<init>", "()V"⟩
abbrev cX7_tell : ByteArray := prog_9_method_2_code
def yX7_tell : MethodName := ⟨RX7, "tell", "(LForgetfulRider$Land;III)I"⟩
abbrev cX7_run : ByteArray := prog_9_method_3_code
def yX7_run : MethodName := ⟨RX7, "run", "([III)J"⟩
abbrev cX7_needed : ByteArray := prog_9_method_4_code
def yX7_needed : MethodName := ⟨RX7, "needed", "(I)I"⟩
abbrev cX7_said : ByteArray := prog_9_method_5_code
def yX7_said : MethodName := ⟨RX7, "said", "(II)J"⟩
abbrev cX7_join : ByteArray := prog_9_method_6_code
def yX7_join : MethodName := ⟨RX7, "join", "(IJJ)J"⟩
abbrev cX7_checked : ByteArray := prog_9_method_7_code
def yX7_checked : MethodName := ⟨RX7, "checked", "(J)J"⟩
def RX8 : String := "ForgetfulRider$Trip"
def TX8 : u_T := fun k => match k with
  | 0 => ("ForgetfulRider$Trip", "book", "LForgetfulRider$Book;", true)
  | 1 => ("ForgetfulRider$Trip", "teller", "LForgetfulRider$Teller;", true)
  | 2 => ("ForgetfulRider$Trip", "was", "[I", true)
  | 3 => ("ForgetfulRider$Trip", "last", "I", false)
  | _ => ("ForgetfulRider$Trip", "gained", "J", false)
def tyX8 : Nat → FieldType := fun k => match k with
  | 0 => .object "ForgetfulRider$Book"
  | 1 => .object "ForgetfulRider$Teller"
  | 2 => .array .int
  | 3 => .int
  | _ => .long
abbrev wsX80 : List Cond := u_ws RX8 TX8 5
theorem nmX8 : ∀ a, a < 5 → ∀ b, b < 5 → a ≠ b → (TX8 a).2.1 ≠ (TX8 b).2.1 := by decide +kernel
theorem tyX8_ok : ∀ k, k < 5 → parseFieldDescriptor (TX8 k).2.2.1 = some (tyX8 k) := by decide +kernel
abbrev cX8_init : ByteArray := prog_10_method_1_code
def yX8_init : MethodName := ⟨RX8, "<init>", "(LForgetfulRider$Book;LForgetfulRider$Teller;)V"⟩
abbrev cX8_go : ByteArray := prog_10_method_2_code
def yX8_go : MethodName := ⟨RX8, "go", "(I)V"⟩
abbrev cX8_drawnRoad : ByteArray := prog_10_method_3_code
def yX8_drawnRoad : MethodName := ⟨RX8, "drawnRoad", "(II)I"⟩
def RX9 : String := "ForgetfulRider"
def TX9 : u_T := fun k => match k with
  | 0 => ("ForgetfulRider", "tape", "[B", true)
  | 1 => ("ForgetfulRider", "tapeLength", "I", false)
  | 2 => ("ForgetfulRider", "faultAt", "I", false)
  | 3 => ("ForgetfulRider", "draft", "LForgetfulRider$Land;", true)
  | 4 => ("ForgetfulRider", "reader", "LForgetfulRider$Reader;", true)
  | 5 => ("ForgetfulRider", "book", "LForgetfulRider$Book;", true)
  | 6 => ("ForgetfulRider", "kept", "[LForgetfulRider$Book;", true)
  | 7 => ("ForgetfulRider", "isKept", "[Z", true)
  | 8 => ("ForgetfulRider", "teller", "LForgetfulRider$Teller;", true)
  | 9 => ("ForgetfulRider", "chart", "LForgetfulRider$Chart;", true)
  | 10 => ("ForgetfulRider", "seeker", "LForgetfulRider$Seeker;", true)
  | 11 => ("ForgetfulRider", "pebble", "LForgetfulRider$Pebble;", true)
  | 12 => ("ForgetfulRider", "flow", "LForgetfulRider$Flow;", true)
  | 13 => ("ForgetfulRider", "trip", "LForgetfulRider$Trip;", true)
  | 14 => ("ForgetfulRider", "refusals", "[I", true)
  | _ => ("ForgetfulRider", "latest", "I", false)
def tyX9 : Nat → FieldType := fun k => match k with
  | 0 => .array .byte
  | 1 => .int
  | 2 => .int
  | 3 => .object "ForgetfulRider$Land"
  | 4 => .object "ForgetfulRider$Reader"
  | 5 => .object "ForgetfulRider$Book"
  | 6 => .array (.object "ForgetfulRider$Book")
  | 7 => .array .boolean
  | 8 => .object "ForgetfulRider$Teller"
  | 9 => .object "ForgetfulRider$Chart"
  | 10 => .object "ForgetfulRider$Seeker"
  | 11 => .object "ForgetfulRider$Pebble"
  | 12 => .object "ForgetfulRider$Flow"
  | 13 => .object "ForgetfulRider$Trip"
  | 14 => .array .int
  | _ => .int
abbrev wsX90 : List Cond := u_ws RX9 TX9 16
theorem nmX9 : ∀ a, a < 16 → ∀ b, b < 16 → a ≠ b → (TX9 a).2.1 ≠ (TX9 b).2.1 := by decide +kernel
theorem tyX9_ok : ∀ k, k < 16 → parseFieldDescriptor (TX9 k).2.2.1 = some (tyX9 k) := by decide +kernel
abbrev cX9_init : ByteArray := prog_1_method_1_code
def yX9_init : MethodName := ⟨RX9, "<init>", "()V"⟩
abbrev cX9_feed : ByteArray := prog_1_method_2_code
def yX9_feed : MethodName := ⟨RX9, "feed", "(IIIII)I"⟩
abbrev cX9_putFour : ByteArray := prog_1_method_3_code
def yX9_putFour : MethodName := ⟨RX9, "putFour", "(I)V"⟩
abbrev cX9_end : ByteArray := prog_1_method_4_code
def yX9_end : MethodName := ⟨RX9, "end", "(I)I"⟩
abbrev cX9_country : ByteArray := prog_1_method_5_code
def yX9_country : MethodName := ⟨RX9, "country", "()I"⟩
abbrev cX9_fault : ByteArray := prog_1_method_6_code
def yX9_fault : MethodName := ⟨RX9, "fault", "()I"⟩
abbrev cX9_terms : ByteArray := prog_1_method_7_code
def yX9_terms : MethodName := ⟨RX9, "terms", "(II)I"⟩
abbrev cX9_of : ByteArray := prog_1_method_8_code
def yX9_of : MethodName := ⟨RX9, "of", "(II)I"⟩
abbrev cX9_pays : ByteArray := prog_1_method_9_code
def yX9_pays : MethodName := ⟨RX9, "pays", "(II)J"⟩
abbrev cX9_paint : ByteArray := prog_1_method_10_code
def yX9_paint : MethodName := ⟨RX9, "paint", "(II)I"⟩
abbrev cX9_used : ByteArray := prog_1_method_11_code
def yX9_used : MethodName := ⟨RX9, "used", "()I"⟩
abbrev cX9_rule : ByteArray := prog_1_method_12_code
def yX9_rule : MethodName := ⟨RX9, "rule", "(III)I"⟩
abbrev cX9_tenths : ByteArray := prog_1_method_13_code
def yX9_tenths : MethodName := ⟨RX9, "tenths", "(II)I"⟩
abbrev cX9_worth : ByteArray := prog_1_method_14_code
def yX9_worth : MethodName := ⟨RX9, "worth", "()J"⟩
abbrev cX9_from : ByteArray := prog_1_method_15_code
def yX9_from : MethodName := ⟨RX9, "from", "(II)J"⟩
abbrev cX9_plain : ByteArray := prog_1_method_16_code
def yX9_plain : MethodName := ⟨RX9, "plain", "(I)J"⟩
abbrev cX9_road : ByteArray := prog_1_method_17_code
def yX9_road : MethodName := ⟨RX9, "road", "(I)I"⟩
abbrev cX9_follow : ByteArray := prog_1_method_18_code
def yX9_follow : MethodName := ⟨RX9, "follow", "()I"⟩
abbrev cX9_die : ByteArray := prog_1_method_19_code
def yX9_die : MethodName := ⟨RX9, "die", "(II)J"⟩
abbrev cX9_cast : ByteArray := prog_1_method_20_code
def yX9_cast : MethodName := ⟨RX9, "cast", "(I)I"⟩
abbrev cX9_power : ByteArray := prog_1_method_21_code
def yX9_power : MethodName := ⟨RX9, "power", "(II)J"⟩
abbrev cX9_pocket : ByteArray := prog_1_method_22_code
def yX9_pocket : MethodName := ⟨RX9, "pocket", "()J"⟩
abbrev cX9_knowing : ByteArray := prog_1_method_23_code
def yX9_knowing : MethodName := ⟨RX9, "knowing", "()J"⟩
abbrev cX9_knows : ByteArray := prog_1_method_24_code
def yX9_knows : MethodName := ⟨RX9, "knows", "(II)I"⟩
abbrev cX9_signs : ByteArray := prog_1_method_25_code
def yX9_signs : MethodName := ⟨RX9, "signs", "(IJI)I"⟩
abbrev cX9_signed : ByteArray := prog_1_method_26_code
def yX9_signed : MethodName := ⟨RX9, "signed", "(I)J"⟩
abbrev cX9_canSign : ByteArray := prog_1_method_27_code
def yX9_canSign : MethodName := ⟨RX9, "canSign", "(I)Z"⟩
abbrev cX9_visits : ByteArray := prog_1_method_28_code
def yX9_visits : MethodName := ⟨RX9, "visits", "(I)J"⟩
abbrev cX9_ends : ByteArray := prog_1_method_29_code
def yX9_ends : MethodName := ⟨RX9, "ends", "(I)J"⟩
abbrev cX9_belief : ByteArray := prog_1_method_30_code
def yX9_belief : MethodName := ⟨RX9, "belief", "(II)I"⟩
abbrev cX9_bet : ByteArray := prog_1_method_31_code
def yX9_bet : MethodName := ⟨RX9, "bet", "(II)J"⟩
abbrev cX9_price : ByteArray := prog_1_method_32_code
def yX9_price : MethodName := ⟨RX9, "price", "(I)I"⟩
abbrev cX9_ride : ByteArray := prog_1_method_33_code
def yX9_ride : MethodName := ⟨RX9, "ride", "(I)I"⟩
abbrev cX9_rode : ByteArray := prog_1_method_34_code
def yX9_rode : MethodName := ⟨RX9, "rode", "(I)J"⟩
abbrev cX9_image : ByteArray := prog_1_method_35_code
def yX9_image : MethodName := ⟨RX9, "image", "(I)I"⟩
abbrev cX9_back : ByteArray := prog_1_method_36_code
def yX9_back : MethodName := ⟨RX9, "back", "(I)I"⟩
abbrev cX9_count : ByteArray := prog_1_method_37_code
def yX9_count : MethodName := ⟨RX9, "count", "(I)I"⟩
abbrev cX9_status : ByteArray := prog_1_method_38_code
def yX9_status : MethodName := ⟨RX9, "status", "()I"⟩
abbrev cX9_refuse : ByteArray := prog_1_method_39_code
def yX9_refuse : MethodName := ⟨RX9, "refuse", "(I)I"⟩
abbrev cX9_grant : ByteArray := prog_1_method_40_code
def yX9_grant : MethodName := ⟨RX9, "grant", "(I)I"⟩
abbrev cX9_noPlaces : ByteArray := prog_1_method_41_code
def yX9_noPlaces : MethodName := ⟨RX9, "noPlaces", "()Z"⟩
abbrev cX9_isLook : ByteArray := prog_1_method_42_code
def yX9_isLook : MethodName := ⟨RX9, "isLook", "(I)Z"⟩
abbrev cX9_isLooks : ByteArray := prog_1_method_43_code
def yX9_isLooks : MethodName := ⟨RX9, "isLooks", "(I)Z"⟩
def RX10 : String := "ForgetfulRiderModel"
def TX10 : u_T := fun k => match k with
  | 0 => ("ForgetfulRiderModel", "status", "I", false)
  | 1 => ("ForgetfulRiderModel", "version", "I", false)
  | 2 => ("ForgetfulRiderModel", "refused", "[I", true)
  | 3 => ("ForgetfulRiderModel", "kept", "[I", true)
  | 4 => ("ForgetfulRiderModel", "images", "[I", true)
  | 5 => ("ForgetfulRiderModel", "hasImage", "[Z", true)
  | 6 => ("ForgetfulRiderModel", "words", "[B", true)
  | 7 => ("ForgetfulRiderModel", "tape", "[B", true)
  | 8 => ("ForgetfulRiderModel", "five", "[I", true)
  | 9 => ("ForgetfulRiderModel", "taped", "I", false)
  | 10 => ("ForgetfulRiderModel", "fault", "I", false)
  | 11 => ("ForgetfulRiderModel", "code", "[I", true)
  | 12 => ("ForgetfulRiderModel", "value", "[I", true)
  | 13 => ("ForgetfulRiderModel", "placed", "[I", true)
  | 14 => ("ForgetfulRiderModel", "tokens", "I", false)
  | 15 => ("ForgetfulRiderModel", "token", "I", false)
  | 16 => ("ForgetfulRiderModel", "leaves", "I", false)
  | 17 => ("ForgetfulRiderModel", "bad", "I", false)
  | 18 => ("ForgetfulRiderModel", "read", "[I", true)
  | 19 => ("ForgetfulRiderModel", "readMany", "I", false)
  | 20 => ("ForgetfulRiderModel", "got", "I", false)
  | 21 => ("ForgetfulRiderModel", "go", "I", false)
  | 22 => ("ForgetfulRiderModel", "goEnd", "I", false)
  | 23 => ("ForgetfulRiderModel", "broken", "Z", false)
  | 24 => ("ForgetfulRiderModel", "asked", "[I", true)
  | 25 => ("ForgetfulRiderModel", "worths", "[I", true)
  | 26 => ("ForgetfulRiderModel", "madeBy", "I", false)
  | 27 => ("ForgetfulRiderModel", "hand", "[I", true)
  | 28 => ("ForgetfulRiderModel", "value0", "[J", true)
  | 29 => ("ForgetfulRiderModel", "knowingAll", "Z", false)
  | 30 => ("ForgetfulRiderModel", "roads", "[I", true)
  | 31 => ("ForgetfulRiderModel", "bestRoads", "[I", true)
  | 32 => ("ForgetfulRiderModel", "bestWorth", "J", false)
  | 33 => ("ForgetfulRiderModel", "bestMany", "I", false)
  | 34 => ("ForgetfulRiderModel", "allMany", "I", false)
  | 35 => ("ForgetfulRiderModel", "bestHand", "[I", true)
  | 36 => ("ForgetfulRiderModel", "powers", "[J", true)
  | 37 => ("ForgetfulRiderModel", "pocketRule", "[I", true)
  | 38 => ("ForgetfulRiderModel", "pockets", "[J", true)
  | 39 => ("ForgetfulRiderModel", "there", "[J", true)
  | 40 => ("ForgetfulRiderModel", "ended", "[J", true)
  | 41 => ("ForgetfulRiderModel", "seen", "[J", true)
  | 42 => ("ForgetfulRiderModel", "seenNext", "[J", true)
  | 43 => ("ForgetfulRiderModel", "partSum", "J", false)
  | 44 => ("ForgetfulRiderModel", "anySum", "J", false)
  | 45 => ("ForgetfulRiderModel", "ridden", "[I", true)
  | 46 => ("ForgetfulRiderModel", "lastStep", "I", false)
  | 47 => ("ForgetfulRiderModel", "rideWorth", "I", false)
  | _ => ("ForgetfulRiderModel", "latest", "I", false)
def tyX10 : Nat → FieldType := fun k => match k with
  | 0 => .int
  | 1 => .int
  | 2 => .array .int
  | 3 => .array .int
  | 4 => .array .int
  | 5 => .array .boolean
  | 6 => .array .byte
  | 7 => .array .byte
  | 8 => .array .int
  | 9 => .int
  | 10 => .int
  | 11 => .array .int
  | 12 => .array .int
  | 13 => .array .int
  | 14 => .int
  | 15 => .int
  | 16 => .int
  | 17 => .int
  | 18 => .array .int
  | 19 => .int
  | 20 => .int
  | 21 => .int
  | 22 => .int
  | 23 => .boolean
  | 24 => .array .int
  | 25 => .array .int
  | 26 => .int
  | 27 => .array .int
  | 28 => .array .long
  | 29 => .boolean
  | 30 => .array .int
  | 31 => .array .int
  | 32 => .long
  | 33 => .int
  | 34 => .int
  | 35 => .array .int
  | 36 => .array .long
  | 37 => .array .int
  | 38 => .array .long
  | 39 => .array .long
  | 40 => .array .long
  | 41 => .array .long
  | 42 => .array .long
  | 43 => .long
  | 44 => .long
  | 45 => .array .int
  | 46 => .int
  | 47 => .int
  | _ => .int
abbrev wsX100 : List Cond := u_ws RX10 TX10 49
theorem nmX10 : ∀ a, a < 49 → ∀ b, b < 49 → a ≠ b → (TX10 a).2.1 ≠ (TX10 b).2.1 := by decide +kernel
theorem tyX10_ok : ∀ k, k < 49 → parseFieldDescriptor (TX10 k).2.2.1 = some (tyX10 k) := by decide +kernel
abbrev cX10_lies : ByteArray := prog_12_method_1_code
def yX10_lies : MethodName := ⟨RX10, "lies", "(III)Z"⟩
abbrev cX10_refuses : ByteArray := prog_12_method_2_code
def yX10_refuses : MethodName := ⟨RX10, "refuses", "(I)I"⟩
abbrev cX10_good : ByteArray := prog_12_method_3_code
def yX10_good : MethodName := ⟨RX10, "good", "(I)I"⟩
abbrev cX10_isIn : ByteArray := prog_12_method_4_code
def yX10_isIn : MethodName := ⟨RX10, "isIn", "(II)Z"⟩
abbrev cX10_ones : ByteArray := prog_12_method_5_code
def yX10_ones : MethodName := ⟨RX10, "ones", "(I)I"⟩
abbrev cX10_ten : ByteArray := prog_12_method_6_code
def yX10_ten : MethodName := ⟨RX10, "ten", "(I)J"⟩
abbrev cX10_init : ByteArray := prog_12_method_7_code
def yX10_init : MethodName := ⟨RX10, "<init>", "()V"⟩
abbrev cX10_image : ByteArray := prog_12_method_8_code
def yX10_image : MethodName := ⟨RX10, "image", "(I)I"⟩
abbrev cX10_back : ByteArray := prog_12_method_9_code
def yX10_back : MethodName := ⟨RX10, "back", "(I)I"⟩
abbrev cX10_places : ByteArray := prog_12_method_10_code
def yX10_places : MethodName := ⟨RX10, "places", "()I"⟩
abbrev cX10_day : ByteArray := prog_12_method_11_code
def yX10_day : MethodName := ⟨RX10, "day", "()I"⟩
abbrev cX10_isPlace : ByteArray := prog_12_method_12_code
def yX10_isPlace : MethodName := ⟨RX10, "isPlace", "(I)Z"⟩
abbrev cX10_placeOf : ByteArray := prog_12_method_13_code
def yX10_placeOf : MethodName := ⟨RX10, "placeOf", "(II)I"⟩
abbrev cX10_isFork : ByteArray := prog_12_method_14_code
def yX10_isFork : MethodName := ⟨RX10, "isFork", "(I)Z"⟩
abbrev cX10_isLook : ByteArray := prog_12_method_15_code
def yX10_isLook : MethodName := ⟨RX10, "isLook", "(I)Z"⟩
abbrev cX10_feed : ByteArray := prog_12_method_16_code
def yX10_feed : MethodName := ⟨RX10, "feed", "(IIIII)I"⟩
abbrev cX10_end : ByteArray := prog_12_method_17_code
def yX10_end : MethodName := ⟨RX10, "end", "(I)I"⟩
abbrev cX10_isSmall : ByteArray := prog_12_method_18_code
def yX10_isSmall : MethodName := ⟨RX10, "isSmall", "(I)Z"⟩
abbrev cX10_isDigit : ByteArray := prog_12_method_19_code
def yX10_isDigit : MethodName := ⟨RX10, "isDigit", "(I)Z"⟩
abbrev cX10_wordOf : ByteArray := prog_12_method_20_code
def yX10_wordOf : MethodName := ⟨RX10, "wordOf", "(II)I"⟩
abbrev cX10_splits : ByteArray := prog_12_method_21_code
def yX10_splits : MethodName := ⟨RX10, "splits", "(I)V"⟩
abbrev cX10_fine : ByteArray := prog_12_method_22_code
def yX10_fine : MethodName := ⟨RX10, "fine", "()Z"⟩
abbrev cX10_faults : ByteArray := prog_12_method_23_code
def yX10_faults : MethodName := ⟨RX10, "faults", "()V"⟩
abbrev cX10_takes0 : ByteArray := prog_12_method_24_code
def yX10_takes0 : MethodName := ⟨RX10, "takes0", "(I)Z"⟩
abbrev cX10_must : ByteArray := prog_12_method_25_code
def yX10_must : MethodName := ⟨RX10, "must", "(I)V"⟩
abbrev cX10_leaf : ByteArray := prog_12_method_26_code
def yX10_leaf : MethodName := ⟨RX10, "leaf", "()V"⟩
abbrev cX10_sign : ByteArray := prog_12_method_27_code
def yX10_sign : MethodName := ⟨RX10, "sign", "(C)I"⟩
abbrev cX10_readTest : ByteArray := prog_12_method_28_code
def yX10_readTest : MethodName := ⟨RX10, "readTest", "(I)V"⟩
abbrev cX10_readBoth : ByteArray := prog_12_method_29_code
def yX10_readBoth : MethodName := ⟨RX10, "readBoth", "(I)V"⟩
abbrev cX10_readPlain : ByteArray := prog_12_method_30_code
def yX10_readPlain : MethodName := ⟨RX10, "readPlain", "(I)V"⟩
abbrev cX10_readSum : ByteArray := prog_12_method_31_code
def yX10_readSum : MethodName := ⟨RX10, "readSum", "(I)V"⟩
abbrev cX10_readTerm : ByteArray := prog_12_method_32_code
def yX10_readTerm : MethodName := ⟨RX10, "readTerm", "(I)V"⟩
abbrev cX10_readPart : ByteArray := prog_12_method_33_code
def yX10_readPart : MethodName := ⟨RX10, "readPart", "(I)V"⟩
abbrev cX10_number : ByteArray := prog_12_method_34_code
def yX10_number : MethodName := ⟨RX10, "number", "(II)Z"⟩
abbrev cX10_readPlace : ByteArray := prog_12_method_35_code
def yX10_readPlace : MethodName := ⟨RX10, "readPlace", "()V"⟩
abbrev cX10_country : ByteArray := prog_12_method_36_code
def yX10_country : MethodName := ⟨RX10, "country", "()I"⟩
abbrev cX10_fault : ByteArray := prog_12_method_37_code
def yX10_fault : MethodName := ⟨RX10, "fault", "()I"⟩
abbrev cX10_codeAt : ByteArray := prog_12_method_38_code
def yX10_codeAt : MethodName := ⟨RX10, "codeAt", "(I)I"⟩
abbrev cX10_passes0 : ByteArray := prog_12_method_39_code
def yX10_passes0 : MethodName := ⟨RX10, "passes0", "(I)Z"⟩
abbrev cX10_bounded : ByteArray := prog_12_method_40_code
def yX10_bounded : MethodName := ⟨RX10, "bounded", "(JZ)J"⟩
abbrev cX10_sumOf : ByteArray := prog_12_method_41_code
def yX10_sumOf : MethodName := ⟨RX10, "sumOf", "(Z)J"⟩
abbrev cX10_termOf : ByteArray := prog_12_method_42_code
def yX10_termOf : MethodName := ⟨RX10, "termOf", "(Z)J"⟩
abbrev cX10_partOf : ByteArray := prog_12_method_43_code
def yX10_partOf : MethodName := ⟨RX10, "partOf", "(Z)J"⟩
abbrev cX10_testOf : ByteArray := prog_12_method_44_code
def yX10_testOf : MethodName := ⟨RX10, "testOf", "(Z)Z"⟩
abbrev cX10_bothOf : ByteArray := prog_12_method_45_code
def yX10_bothOf : MethodName := ⟨RX10, "bothOf", "(Z)Z"⟩
abbrev cX10_plainOf : ByteArray := prog_12_method_46_code
def yX10_plainOf : MethodName := ⟨RX10, "plainOf", "(Z)Z"⟩
abbrev cX10_positiveOf : ByteArray := prog_12_method_47_code
def yX10_positiveOf : MethodName := ⟨RX10, "positiveOf", "(Z)Z"⟩
abbrev cX10_worthOf : ByteArray := prog_12_method_48_code
def yX10_worthOf : MethodName := ⟨RX10, "worthOf", "(II)I"⟩
abbrev cX10_looks : ByteArray := prog_12_method_49_code
def yX10_looks : MethodName := ⟨RX10, "looks", "()V"⟩
abbrev cX10_terms : ByteArray := prog_12_method_50_code
def yX10_terms : MethodName := ⟨RX10, "terms", "(II)I"⟩
abbrev cX10_of : ByteArray := prog_12_method_51_code
def yX10_of : MethodName := ⟨RX10, "of", "(II)I"⟩
abbrev cX10_pays : ByteArray := prog_12_method_52_code
def yX10_pays : MethodName := ⟨RX10, "pays", "(II)J"⟩
abbrev cX10_paint : ByteArray := prog_12_method_53_code
def yX10_paint : MethodName := ⟨RX10, "paint", "(II)I"⟩
abbrev cX10_used : ByteArray := prog_12_method_54_code
def yX10_used : MethodName := ⟨RX10, "used", "()I"⟩
abbrev cX10_rule : ByteArray := prog_12_method_55_code
def yX10_rule : MethodName := ⟨RX10, "rule", "(III)I"⟩
abbrev cX10_tenths : ByteArray := prog_12_method_56_code
def yX10_tenths : MethodName := ⟨RX10, "tenths", "(II)I"⟩
abbrev cX10_takesRule : ByteArray := prog_12_method_57_code
def yX10_takesRule : MethodName := ⟨RX10, "takesRule", "()V"⟩
abbrev cX10_next : ByteArray := prog_12_method_58_code
def yX10_next : MethodName := ⟨RX10, "next", "(II)J"⟩
abbrev cX10_weighs : ByteArray := prog_12_method_59_code
def yX10_weighs : MethodName := ⟨RX10, "weighs", "()V"⟩
abbrev cX10_weigh : ByteArray := prog_12_method_60_code
def yX10_weigh : MethodName := ⟨RX10, "weigh", "(II)J"⟩
abbrev cX10_atStart : ByteArray := prog_12_method_61_code
def yX10_atStart : MethodName := ⟨RX10, "atStart", "()J"⟩
abbrev cX10_worth : ByteArray := prog_12_method_62_code
def yX10_worth : MethodName := ⟨RX10, "worth", "()J"⟩
abbrev cX10_from : ByteArray := prog_12_method_63_code
def yX10_from : MethodName := ⟨RX10, "from", "(II)J"⟩
abbrev cX10_knowing : ByteArray := prog_12_method_64_code
def yX10_knowing : MethodName := ⟨RX10, "knowing", "()J"⟩
abbrev cX10_knows : ByteArray := prog_12_method_65_code
def yX10_knows : MethodName := ⟨RX10, "knows", "(II)I"⟩
abbrev cX10_most : ByteArray := prog_12_method_66_code
def yX10_most : MethodName := ⟨RX10, "most", "(I)I"⟩
abbrev cX10_plains : ByteArray := prog_12_method_67_code
def yX10_plains : MethodName := ⟨RX10, "plains", "()V"⟩
abbrev cX10_plain : ByteArray := prog_12_method_68_code
def yX10_plain : MethodName := ⟨RX10, "plain", "(I)J"⟩
abbrev cX10_road : ByteArray := prog_12_method_69_code
def yX10_road : MethodName := ⟨RX10, "road", "(I)I"⟩
abbrev cX10_follow : ByteArray := prog_12_method_70_code
def yX10_follow : MethodName := ⟨RX10, "follow", "()I"⟩
abbrev cX10_dices : ByteArray := prog_12_method_71_code
def yX10_dices : MethodName := ⟨RX10, "dices", "(I)Z"⟩
abbrev cX10_shares : ByteArray := prog_12_method_72_code
def yX10_shares : MethodName := ⟨RX10, "shares", "(I)I"⟩
abbrev cX10_laysShare : ByteArray := prog_12_method_73_code
def yX10_laysShare : MethodName := ⟨RX10, "laysShare", "(II)V"⟩
abbrev cX10_die : ByteArray := prog_12_method_74_code
def yX10_die : MethodName := ⟨RX10, "die", "(II)J"⟩
abbrev cX10_cast : ByteArray := prog_12_method_75_code
def yX10_cast : MethodName := ⟨RX10, "cast", "(I)I"⟩
abbrev cX10_powerAt : ByteArray := prog_12_method_76_code
def yX10_powerAt : MethodName := ⟨RX10, "powerAt", "(III)J"⟩
abbrev cX10_power0 : ByteArray := prog_12_method_77_code
def yX10_power0 : MethodName := ⟨RX10, "power0", "(IIII)J"⟩
abbrev cX10_power : ByteArray := prog_12_method_78_code
def yX10_power : MethodName := ⟨RX10, "power", "(II)J"⟩
abbrev cX10_pocketAt : ByteArray := prog_12_method_79_code
def yX10_pocketAt : MethodName := ⟨RX10, "pocketAt", "(III)J"⟩
abbrev cX10_pocket0 : ByteArray := prog_12_method_80_code
def yX10_pocket0 : MethodName := ⟨RX10, "pocket0", "(III)J"⟩
abbrev cX10_pocket : ByteArray := prog_12_method_81_code
def yX10_pocket : MethodName := ⟨RX10, "pocket", "()J"⟩
abbrev cX10_forksOf : ByteArray := prog_12_method_82_code
def yX10_forksOf : MethodName := ⟨RX10, "forksOf", "(I)I"⟩
abbrev cX10_canSign : ByteArray := prog_12_method_83_code
def yX10_canSign : MethodName := ⟨RX10, "canSign", "(I)Z"⟩
abbrev cX10_painted : ByteArray := prog_12_method_84_code
def yX10_painted : MethodName := ⟨RX10, "painted", "(I)J"⟩
abbrev cX10_signs : ByteArray := prog_12_method_85_code
def yX10_signs : MethodName := ⟨RX10, "signs", "(IJI)I"⟩
abbrev cX10_signed : ByteArray := prog_12_method_86_code
def yX10_signed : MethodName := ⟨RX10, "signed", "(I)J"⟩
abbrev cX10_comes : ByteArray := prog_12_method_87_code
def yX10_comes : MethodName := ⟨RX10, "comes", "(IIJ)V"⟩
abbrev cX10_spreads : ByteArray := prog_12_method_88_code
def yX10_spreads : MethodName := ⟨RX10, "spreads", "()V"⟩
abbrev cX10_tenthsOf : ByteArray := prog_12_method_89_code
def yX10_tenthsOf : MethodName := ⟨RX10, "tenthsOf", "(II)I"⟩
abbrev cX10_roadOf : ByteArray := prog_12_method_90_code
def yX10_roadOf : MethodName := ⟨RX10, "roadOf", "(II)I"⟩
abbrev cX10_goesOn : ByteArray := prog_12_method_91_code
def yX10_goesOn : MethodName := ⟨RX10, "goesOn", "(IIIJ)V"⟩
abbrev cX10_visitsOf : ByteArray := prog_12_method_92_code
def yX10_visitsOf : MethodName := ⟨RX10, "visitsOf", "(I)J"⟩
abbrev cX10_visits : ByteArray := prog_12_method_93_code
def yX10_visits : MethodName := ⟨RX10, "visits", "(I)J"⟩
abbrev cX10_ends : ByteArray := prog_12_method_94_code
def yX10_ends : MethodName := ⟨RX10, "ends", "(I)J"⟩
abbrev cX10_visitsOfLook : ByteArray := prog_12_method_95_code
def yX10_visitsOfLook : MethodName := ⟨RX10, "visitsOfLook", "(I)J"⟩
abbrev cX10_millionths : ByteArray := prog_12_method_96_code
def yX10_millionths : MethodName := ⟨RX10, "millionths", "(JJ)I"⟩
abbrev cX10_at : ByteArray := prog_12_method_97_code
def yX10_at : MethodName := ⟨RX10, "at", "(III)I"⟩
abbrev cX10_over : ByteArray := prog_12_method_98_code
def yX10_over : MethodName := ⟨RX10, "over", "(IIJ)V"⟩
abbrev cX10_comesSeeing : ByteArray := prog_12_method_99_code
def yX10_comesSeeing : MethodName := ⟨RX10, "comesSeeing", "(IIIIIJ)V"⟩
abbrev cX10_second : ByteArray := prog_12_method_100_code
def yX10_second : MethodName := ⟨RX10, "second", "(I)I"⟩
abbrev cX10_belief : ByteArray := prog_12_method_101_code
def yX10_belief : MethodName := ⟨RX10, "belief", "(II)I"⟩
abbrev cX10_bet : ByteArray := prog_12_method_102_code
def yX10_bet : MethodName := ⟨RX10, "bet", "(II)J"⟩
abbrev cX10_price : ByteArray := prog_12_method_103_code
def yX10_price : MethodName := ⟨RX10, "price", "(I)I"⟩
abbrev cX10_draws : ByteArray := prog_12_method_104_code
def yX10_draws : MethodName := ⟨RX10, "draws", "()I"⟩
abbrev cX10_ride : ByteArray := prog_12_method_105_code
def yX10_ride : MethodName := ⟨RX10, "ride", "(I)I"⟩
abbrev cX10_rode : ByteArray := prog_12_method_106_code
def yX10_rode : MethodName := ⟨RX10, "rode", "(I)J"⟩
abbrev cX10_count : ByteArray := prog_12_method_107_code
def yX10_count : MethodName := ⟨RX10, "count", "(I)I"⟩
abbrev cX10_status : ByteArray := prog_12_method_108_code
def yX10_status : MethodName := ⟨RX10, "status", "()I"⟩
def RJx145de : String := "java/io/Serializable"
def TJx145de : u_T := fun k => match k with
  | _ => ("", "", "", false)
def tyJx145de : Nat → FieldType := fun k => match k with
  | _ => .int
abbrev wsJx145de0 : List Cond := u_ws RJx145de TJx145de 0
theorem nmJx145de : ∀ a, a < 0 → ∀ b, b < 0 → a ≠ b → (TJx145de a).2.1 ≠ (TJx145de b).2.1 := by decide +kernel
theorem tyJx145de_ok : ∀ k, k < 0 → parseFieldDescriptor (TJx145de k).2.2.1 = some (tyJx145de k) := by decide +kernel
def RJx9f9b0 : String := "java/lang/CharSequence"
def TJx9f9b0 : u_T := fun k => match k with
  | _ => ("", "", "", false)
def tyJx9f9b0 : Nat → FieldType := fun k => match k with
  | _ => .int
abbrev wsJx9f9b00 : List Cond := u_ws RJx9f9b0 TJx9f9b0 0
theorem nmJx9f9b0 : ∀ a, a < 0 → ∀ b, b < 0 → a ≠ b → (TJx9f9b0 a).2.1 ≠ (TJx9f9b0 b).2.1 := by decide +kernel
theorem tyJx9f9b0_ok : ∀ k, k < 0 → parseFieldDescriptor (TJx9f9b0 k).2.2.1 = some (tyJx9f9b0 k) := by decide +kernel
def RJxb160c : String := "java/lang/Comparable"
def TJxb160c : u_T := fun k => match k with
  | _ => ("", "", "", false)
def tyJxb160c : Nat → FieldType := fun k => match k with
  | _ => .int
abbrev wsJxb160c0 : List Cond := u_ws RJxb160c TJxb160c 0
theorem nmJxb160c : ∀ a, a < 0 → ∀ b, b < 0 → a ≠ b → (TJxb160c a).2.1 ≠ (TJxb160c b).2.1 := by decide +kernel
theorem tyJxb160c_ok : ∀ k, k < 0 → parseFieldDescriptor (TJxb160c k).2.2.1 = some (tyJxb160c k) := by decide +kernel
def RJ6 : String := "java/lang/Integer"
def TJ6 : u_T := fun k => match k with
  | _ => ("", "", "", false)
def tyJ6 : Nat → FieldType := fun k => match k with
  | _ => .int
abbrev wsJ60 : List Cond := u_ws RJ6 TJ6 0
theorem nmJ6 : ∀ a, a < 0 → ∀ b, b < 0 → a ≠ b → (TJ6 a).2.1 ≠ (TJ6 b).2.1 := by decide +kernel
theorem tyJ6_ok : ∀ k, k < 0 → parseFieldDescriptor (TJ6 k).2.2.1 = some (tyJ6 k) := by decide +kernel
abbrev cJ6_bitCount_0f7a4 : ByteArray := prog_13_method_49_code
def yJ6_bitCount_0f7a4 : MethodName := ⟨RJ6, "bitCount", "(I)I"⟩
def RJ9 : String := "java/lang/Math"
def TJ9 : u_T := fun k => match k with
  | _ => ("", "", "", false)
def tyJ9 : Nat → FieldType := fun k => match k with
  | _ => .int
abbrev wsJ90 : List Cond := u_ws RJ9 TJ9 0
theorem nmJ9 : ∀ a, a < 0 → ∀ b, b < 0 → a ≠ b → (TJ9 a).2.1 ≠ (TJ9 b).2.1 := by decide +kernel
theorem tyJ9_ok : ∀ k, k < 0 → parseFieldDescriptor (TJ9 k).2.2.1 = some (tyJ9 k) := by decide +kernel
abbrev cJ9_max_7cf53 : ByteArray := prog_14_method_65_code
def yJ9_max_7cf53 : MethodName := ⟨RJ9, "max", "(II)I"⟩
abbrev cJ9_max_f86c9 : ByteArray := prog_14_method_66_code
def yJ9_max_f86c9 : MethodName := ⟨RJ9, "max", "(JJ)J"⟩
abbrev cJ9_min_7cf53 : ByteArray := prog_14_method_69_code
def yJ9_min_7cf53 : MethodName := ⟨RJ9, "min", "(II)I"⟩
abbrev cJ9_min_f86c9 : ByteArray := prog_14_method_70_code
def yJ9_min_f86c9 : MethodName := ⟨RJ9, "min", "(JJ)J"⟩
def RJ0 : String := "java/lang/String"
def TJ0 : u_T := fun k => match k with
  | _ => ("", "", "", false)
def tyJ0 : Nat → FieldType := fun k => match k with
  | _ => .int
abbrev wsJ00 : List Cond := u_ws RJ0 TJ0 0
theorem nmJ0 : ∀ a, a < 0 → ∀ b, b < 0 → a ≠ b → (TJ0 a).2.1 ≠ (TJ0 b).2.1 := by decide +kernel
theorem tyJ0_ok : ∀ k, k < 0 → parseFieldDescriptor (TJ0 k).2.2.1 = some (tyJ0 k) := by decide +kernel
abbrev cJ0_length_8abf5 : ByteArray := prog_15_method_54_code
def yJ0_length_8abf5 : MethodName := ⟨RJ0, "length", "()I"⟩
abbrev cJ0_charAt_5068e : ByteArray := prog_15_method_56_code
def yJ0_charAt_5068e : MethodName := ⟨RJ0, "charAt", "(I)C"⟩
abbrev cJ0_coder_7d493 : ByteArray := prog_15_method_152_code
def yJ0_coder_7d493 : MethodName := ⟨RJ0, "coder", "()B"⟩
abbrev cJ0_isLatin1_aae02 : ByteArray := prog_15_method_154_code
def yJ0_isLatin1_aae02 : MethodName := ⟨RJ0, "isLatin1", "()Z"⟩
abbrev cJ0_checkIndex_df160 : ByteArray := prog_15_method_155_code
def yJ0_checkIndex_df160 : MethodName := ⟨RJ0, "checkIndex", "(II)V"⟩
def RJ1 : String := "java/lang/StringLatin1"
def TJ1 : u_T := fun k => match k with
  | _ => ("", "", "", false)
def tyJ1 : Nat → FieldType := fun k => match k with
  | _ => .int
abbrev wsJ10 : List Cond := u_ws RJ1 TJ1 0
theorem nmJ1 : ∀ a, a < 0 → ∀ b, b < 0 → a ≠ b → (TJ1 a).2.1 ≠ (TJ1 b).2.1 := by decide +kernel
theorem tyJ1_ok : ∀ k, k < 0 → parseFieldDescriptor (TJ1 k).2.2.1 = some (tyJ1 k) := by decide +kernel
abbrev cJ1_charAt_3b067 : ByteArray := prog_16_method_2_code
def yJ1_charAt_3b067 : MethodName := ⟨RJ1, "charAt", "([BI)C"⟩
def RJ2 : String := "java/lang/StringUTF16"
def TJ2 : u_T := fun k => match k with
  | _ => ("", "", "", false)
def tyJ2 : Nat → FieldType := fun k => match k with
  | _ => .int
abbrev wsJ20 : List Cond := u_ws RJ2 TJ2 0
theorem nmJ2 : ∀ a, a < 0 → ∀ b, b < 0 → a ≠ b → (TJ2 a).2.1 ≠ (TJ2 b).2.1 := by decide +kernel
theorem tyJ2_ok : ∀ k, k < 0 → parseFieldDescriptor (TJ2 k).2.2.1 = some (tyJ2 k) := by decide +kernel
abbrev cJ2_getChar_3b067 : ByteArray := prog_17_method_5_code
def yJ2_getChar_3b067 : MethodName := ⟨RJ2, "getChar", "([BI)C"⟩
abbrev cJ2_length_9d52b : ByteArray := prog_17_method_6_code
def yJ2_length_9d52b : MethodName := ⟨RJ2, "length", "([B)I"⟩
abbrev cJ2_charAt_3b067 : ByteArray := prog_17_method_83_code
def yJ2_charAt_3b067 : MethodName := ⟨RJ2, "charAt", "([BI)C"⟩
abbrev cJ2_checkIndex_2214a : ByteArray := prog_17_method_91_code
def yJ2_checkIndex_2214a : MethodName := ⟨RJ2, "checkIndex", "(I[B)V"⟩
def RJ10 : String := "java/lang/System"
def TJ10 : u_T := fun k => match k with
  | _ => ("", "", "", false)
def tyJ10 : Nat → FieldType := fun k => match k with
  | _ => .int
abbrev wsJ100 : List Cond := u_ws RJ10 TJ10 0
theorem nmJ10 : ∀ a, a < 0 → ∀ b, b < 0 → a ≠ b → (TJ10 a).2.1 ≠ (TJ10 b).2.1 := by decide +kernel
theorem tyJ10_ok : ∀ k, k < 0 → parseFieldDescriptor (TJ10 k).2.2.1 = some (tyJ10 k) := by decide +kernel
def RJxfd54e : String := "java/lang/constant/Constable"
def TJxfd54e : u_T := fun k => match k with
  | _ => ("", "", "", false)
def tyJxfd54e : Nat → FieldType := fun k => match k with
  | _ => .int
abbrev wsJxfd54e0 : List Cond := u_ws RJxfd54e TJxfd54e 0
theorem nmJxfd54e : ∀ a, a < 0 → ∀ b, b < 0 → a ≠ b → (TJxfd54e a).2.1 ≠ (TJxfd54e b).2.1 := by decide +kernel
theorem tyJxfd54e_ok : ∀ k, k < 0 → parseFieldDescriptor (TJxfd54e k).2.2.1 = some (tyJxfd54e k) := by decide +kernel
def RJx3cf43 : String := "java/lang/constant/ConstantDesc"
def TJx3cf43 : u_T := fun k => match k with
  | _ => ("", "", "", false)
def tyJx3cf43 : Nat → FieldType := fun k => match k with
  | _ => .int
abbrev wsJx3cf430 : List Cond := u_ws RJx3cf43 TJx3cf43 0
theorem nmJx3cf43 : ∀ a, a < 0 → ∀ b, b < 0 → a ≠ b → (TJx3cf43 a).2.1 ≠ (TJx3cf43 b).2.1 := by decide +kernel
theorem tyJx3cf43_ok : ∀ k, k < 0 → parseFieldDescriptor (TJx3cf43 k).2.2.1 = some (tyJx3cf43 k) := by decide +kernel
def RJ7 : String := "java/util/Arrays"
def TJ7 : u_T := fun k => match k with
  | _ => ("", "", "", false)
def tyJ7 : Nat → FieldType := fun k => match k with
  | _ => .int
abbrev wsJ70 : List Cond := u_ws RJ7 TJ7 0
theorem nmJ7 : ∀ a, a < 0 → ∀ b, b < 0 → a ≠ b → (TJ7 a).2.1 ≠ (TJ7 b).2.1 := by decide +kernel
theorem tyJ7_ok : ∀ k, k < 0 → parseFieldDescriptor (TJ7 k).2.2.1 = some (tyJ7 k) := by decide +kernel
abbrev cJ7_fill_d0a16 : ByteArray := prog_19_method_101_code
def yJ7_fill_d0a16 : MethodName := ⟨RJ7, "fill", "([JJ)V"⟩
abbrev cJ7_fill_53178 : ByteArray := prog_19_method_103_code
def yJ7_fill_53178 : MethodName := ⟨RJ7, "fill", "([II)V"⟩
def RJ3 : String := "jdk/internal/util/Preconditions"
def TJ3 : u_T := fun k => match k with
  | _ => ("", "", "", false)
def tyJ3 : Nat → FieldType := fun k => match k with
  | _ => .int
abbrev wsJ30 : List Cond := u_ws RJ3 TJ3 0
theorem nmJ3 : ∀ a, a < 0 → ∀ b, b < 0 → a ≠ b → (TJ3 a).2.1 ≠ (TJ3 b).2.1 := by decide +kernel
theorem tyJ3_ok : ∀ k, k < 0 → parseFieldDescriptor (TJ3 k).2.2.1 = some (tyJ3 k) := by decide +kernel
abbrev cJ3_checkIndex_8e157 : ByteArray := prog_20_method_11_code
def yJ3_checkIndex_8e157 : MethodName := ⟨RJ3, "checkIndex", "(IILjava/util/function/BiFunction;)I"⟩
def RL : String := "ForgetfulRiderLaw"
abbrev cL_law : ByteArray := code
def yL_law : MethodName := ⟨RL, "law", "([I)Z"⟩
def am_fty (ci k : Nat) : FieldType := match ci with
  | 0 => tyX0 k
  | 1 => tyX1 k
  | 2 => tyX2 k
  | 3 => tyX3 k
  | 4 => tyX4 k
  | 5 => tyX5 k
  | 6 => tyX6 k
  | 7 => tyX7 k
  | 8 => tyX8 k
  | 9 => tyX9 k
  | 10 => tyX10 k
  | _ => if k = 0 then .array .byte else .byte
abbrev vwCl : List vw_C := [(RX0, TX0, 3), (RX1, TX1, 11), (RX2, TX2, 7), (RX3, TX3, 11), (RX4, TX4, 7), (RX5, TX5, 10), (RX6, TX6, 10), (RX7, TX7, 4), (RX8, TX8, 5), (RX9, TX9, 16), (RX10, TX10, 49)]
end
section
/-! THE SMALL MACHINE: a machine over numbers that stands for the cells that the law makes. am_ev runs a method from one cut to the next. -/
abbrev AC : Type := Nat × Nat × (Nat → Value)
abbrev AH : Type := Nat × Nat × (Nat → AC)
abbrev LV : Type := List (Nat × Value)
abbrev RS : Type := Option Value × AH
/-- instruction, length, three numbers, a value -/
abbrev EN : Type := Instr × Nat × Nat × Nat × Nat × Value
abbrev CD : Type := List (Nat × List (Nat × EN))
/-- cells that stood before the law began -/
abbrev am_old : Nat := 29
def am_look {α : Type} : List (Nat × α) → Nat → Option α
  | [], _ => none
  | q :: l, i => bif Nat.beq q.1 i then some q.2 else am_look l i
def am_code (c : CD) (pc : Nat) : Option EN := match am_look c (pc / 16) with
  | none => none
  | some l => am_look l pc
def am_s1 (l : LV) (i : Nat) (v : Value) : LV := (i, v) :: l.filter (fun q => !(q.1 == i) && !(q.1 + 1 == i && q.2.category == 2))
def am_s2 (l : LV) (i : Nat) (v : Value) : LV := (i, v) :: l.filter (fun q => !(q.1 == i) && (!(q.1 == i + 1) && !(q.1 + 1 == i && q.2.category == 2)))
def am_pick : List Nat → LV → Option LV
  | [], _ => some []
  | i :: is, l => match am_look l i with
    | none => none
    | some v => match am_pick is l with
      | none => none
      | some r => some ((i, v) :: r)
def am_cell (h : AH) (a : Nat) : Option AC := if a < h.1 then some (h.2.2 a) else none
def am_set (h : AH) (a : Nat) (c : AC) : AH := (h.1, h.2.1, va_up h.2.2 a c)
def am_new (h : AH) (c : AC) : AH := (h.1 + 1, h.2.1 + c.2.1, va_up h.2.2 h.1 c)
def am_f (h : AH) (a ci k : Nat) : Option Value := match am_cell h a with
  | some (c, n, f) => if c = ci ∧ k < n then some (f k) else none
  | none => none
def am_fI (h : AH) (a ci k : Nat) : Option Int32 := match am_f h a ci k with
  | some (.int x) => some x
  | _ => none
def am_fL (h : AH) (a ci k : Nat) : Option Int64 := match am_f h a ci k with
  | some (.long x) => some x
  | _ => none
def am_fR (h : AH) (a ci k : Nat) : Option Nat := match am_f h a ci k with
  | some (.ref x) => some x
  | _ => none
def am_pf (h : AH) (a ci k : Nat) (v : Value) : Option AH := match am_cell h a with
  | some (c, n, f) => if c = ci ∧ k < n ∧ am_old ≤ a then some (am_set h a (c, n, va_up f k v)) else none
  | none => none
/-- 0 or 1 -/
def am_pz (h : AH) (a ci k : Nat) (x : Int32) : Option AH := if x = 0 ∨ x = 1 then am_pf h a ci k (.int x) else none
def am_a (h : AH) (kd a : Nat) (i : Int32) : Option Value := match am_cell h a with
  | some (c, n, f) => if c = kd ∧ ¬ (i < 0 ∨ n ≤ i.toNatClampNeg) then some (f i.toNatClampNeg) else none
  | none => none
def am_aI (h : AH) (a : Nat) (i : Int32) : Option Int32 := match am_a h 100 a i with
  | some (.int x) => some x
  | _ => none
def am_aL (h : AH) (a : Nat) (i : Int32) : Option Int64 := match am_a h 101 a i with
  | some (.long x) => some x
  | _ => none
def am_aB (h : AH) (a : Nat) (i : Int32) : Option Int32 := match am_a h 102 a i with
  | some (.int x) => some x
  | _ => match am_a h 103 a i with
    | some (.int x) => some x
    | _ => none
def am_aR (h : AH) (a : Nat) (i : Int32) : Option Nat := match am_a h 104 a i with
  | some (.ref x) => some x
  | _ => none
def am_st (h : AH) (kd a : Nat) (i : Int32) (v : Value) : Option AH := match am_cell h a with
  | some (c, n, f) => if c = kd ∧ ¬ (i < 0 ∨ n ≤ i.toNatClampNeg) ∧ am_old ≤ a then some (am_set h a (c, n, va_up f i.toNatClampNeg v)) else none
  | none => none
def am_stB (h : AH) (a : Nat) (i x : Int32) : Option AH := match am_cell h a with
  | some (c, _, _) => if c = 102 then am_st h 102 a i (narrow .byte (.int x)) else if c = 103 then am_st h 103 a i (narrow .boolean (.int x)) else none
  | none => none
/-- a book into the row of books -/
def am_stR (h : AH) (a : Nat) (i : Int32) (v : Nat) : Option AH := match am_cell h v with
  | some (c, _, _) => if c = 0 then am_st h 104 a i (.ref v) else none
  | none => none
def am_len (h : AH) (a : Nat) : Option Int32 := match am_cell h a with
  | some (c, n, _) => if 100 ≤ c ∧ c < 105 then some (Int32.ofNat n) else none
  | none => none
/-- System.arraycopy of ints -/
def am_copy (h : AH) (a : Nat) (sp : Int32) (b : Nat) (dp n : Int32) : Option AH := match am_cell h a, am_cell h b with
  | some (c, m, f), some (c', m', g) =>
    if (c = 100 ∧ c' = 100 ∧ am_old ≤ b) ∧ (¬ sp < 0 ∧ ¬ dp < 0 ∧ ¬ n < 0) ∧ sp.toNatClampNeg + n.toNatClampNeg ≤ m ∧ dp.toNatClampNeg + n.toNatClampNeg ≤ m' ∧ (∀ i, i < n.toNatClampNeg → fits .int (f (sp.toNatClampNeg + i)) = true)
    then some (am_set h b (c', m', va_cpy f g sp.toNatClampNeg dp.toNatClampNeg n.toNatClampNeg)) else none
  | _, _ => none
/-- the class and place of a cell's kind -/
def am_isK (h : AH) (a ci : Nat) : Bool := match am_cell h a with
  | some (c, _, _) => Nat.beq c ci
  | none => false
def am_aty : Nat → FieldType
  | 100 => .int
  | 101 => .long
  | 102 => .byte
  | 103 => .boolean
  | _ => .object "ForgetfulRider$Book"
def am_cI (r : Option RS) (k : Int32 → AH → Option RS) : Option RS := match r with
  | some (some (.int x), h) => k x h
  | _ => none
def am_cL (r : Option RS) (k : Int64 → AH → Option RS) : Option RS := match r with
  | some (some (.long x), h) => k x h
  | _ => none
def am_cV (r : Option RS) (k : AH → Option RS) : Option RS := match r with
  | some (none, h) => k h
  | _ => none
/-- how wide what lies on the stack is -/
def am_wid : List Value → Nat
  | [] => 0
  | v :: st => v.category + am_wid st
def am_few (st : List Value) : Bool := Nat.ble (am_wid st) 8
/-- n values off the stack, the deepest first -/
def am_pop : Nat → List Value → List Value → Option (List Value × List Value)
  | 0, st, acc => some (acc, st)
  | n + 1, v :: st, acc => am_pop n st (v :: acc)
  | _ + 1, [], _ => none
def am_sw (x : Int32) (d : Option RS) : Int → List (Option RS) → Option RS
  | _, [] => d
  | lo, r :: rs => if x = Int32.ofInt lo then r else am_sw x d (lo + 1) rs
abbrev GT : Type := Nat → List Value → AH → Option RS
abbrev KT : Type := LV → List Value → AH → Option RS
end
section
/-! one instruction that neither jumps nor calls, then what follows -/
def am_ldI (l : LV) (n : Nat) (st : List Value) (h : AH) (k : KT) : Option RS := match am_look l n with
  | some (.int x) => k l (.int x :: st) h
  | _ => none
def am_ldL (l : LV) (n : Nat) (st : List Value) (h : AH) (k : KT) : Option RS := match am_look l n with
  | some (.long x) => k l (.long x :: st) h
  | _ => none
def am_ldR (l : LV) (n : Nat) (st : List Value) (h : AH) (k : KT) : Option RS := match am_look l n with
  | some (.ref x) => k l (.ref x :: st) h
  | _ => none
def am_getf (ty : FieldType) (a ci f : Nat) (l : LV) (st : List Value) (h : AH) (k : KT) : Option RS := match ty with
  | .int => (am_fI h a ci f).bind fun x => k l (.int x :: st) h
  | .boolean => (am_fI h a ci f).bind fun x => k l (.int x :: st) h
  | .byte => (am_fI h a ci f).bind fun x => k l (.int x :: st) h
  | .long => (am_fL h a ci f).bind fun x => k l (.long x :: st) h
  | .object _ => (am_fR h a ci f).bind fun x => k l (.ref x :: st) h
  | .array _ => (am_fR h a ci f).bind fun x => k l (.ref x :: st) h
  | _ => none
def am_putf (ty : FieldType) (a ci f : Nat) (v : Value) (l : LV) (st : List Value) (h : AH) (k : KT) : Option RS := match ty, v with
  | .int, .int x => (am_pf h a ci f (.int x)).bind fun h => k l st h
  | .boolean, .int x => (am_pz h a ci f x).bind fun h => k l st h
  | .long, .long x => (am_pf h a ci f (.long x)).bind fun h => k l st h
  | .object _, .ref x => (am_pf h a ci f (.ref x)).bind fun h => k l st h
  | .array _, .ref x => (am_pf h a ci f (.ref x)).bind fun h => k l st h
  | _, _ => none
def am_dflt : FieldType → Value
  | .int => .int 0
  | .boolean => .int 0
  | .byte => .int 0
  | .long => .long 0
  | _ => .null
def am_akind : ArrayType → Option Nat
  | .int => some 100
  | .long => some 101
  | .byte => some 102
  | .boolean => some 103
  | _ => none
def am_mka (kd : Option Nat) (n : Int32) (d : Value) (l : LV) (st : List Value) (h : AH) (k : KT) : Option RS := match kd with
  | some c => if ¬ n < 0 ∧ n.toNatClampNeg ≤ 65536 then k l (.ref h.1 :: st) (am_new h (c, n.toNatClampNeg, fun _ => d)) else none
  | none => none
def am_stp (i : Instr) (r1 r2 : Nat) (v : Value) (l : LV) (st : List Value) (h : AH) (k : KT) : Option RS :=
  match i with
  | .iconst _ => k l (v :: st) h
  | .bipush _ => k l (v :: st) h
  | .sipush _ => k l (v :: st) h
  | .lconst _ => k l (v :: st) h
  | .ldc _ => k l (v :: st) h
  | .ldc_w _ => k l (v :: st) h
  | .ldc2_w _ => k l (v :: st) h
  | .getstatic _ => k l (v :: st) h
  | .iload n => am_ldI l n st h k
  | .iload_n n => am_ldI l n.val st h k
  | .lload n => am_ldL l n st h k
  | .lload_n n => am_ldL l n.val st h k
  | .aload n => am_ldR l n st h k
  | .aload_n n => am_ldR l n.val st h k
  | .istore n => match st with
    | .int x :: st => k (am_s1 l n (.int x)) st h
    | _ => none
  | .istore_n n => match st with
    | .int x :: st => k (am_s1 l n.val (.int x)) st h
    | _ => none
  | .lstore n => match st with
    | .long x :: st => k (am_s2 l n (.long x)) st h
    | _ => none
  | .lstore_n n => match st with
    | .long x :: st => k (am_s2 l n.val (.long x)) st h
    | _ => none
  | .astore n => match st with
    | .ref x :: st => k (am_s1 l n (.ref x)) st h
    | _ => none
  | .astore_n n => match st with
    | .ref x :: st => k (am_s1 l n.val (.ref x)) st h
    | _ => none
  | .iinc n _ => match am_look l n, v with
    | some (.int x), .int y => k (am_s1 l n (.int (x + y))) st h
    | _, _ => none
  | .iadd => match st with
    | .int y :: .int x :: st => k l (.int (x + y) :: st) h
    | _ => none
  | .isub => match st with
    | .int y :: .int x :: st => k l (.int (x - y) :: st) h
    | _ => none
  | .imul => match st with
    | .int y :: .int x :: st => k l (.int (x * y) :: st) h
    | _ => none
  | .idiv => match st with
    | .int y :: .int x :: st => if y = 0 then none else k l (.int (x / y) :: st) h
    | _ => none
  | .irem => match st with
    | .int y :: .int x :: st => if y = 0 then none else k l (.int (x - x / y * y) :: st) h
    | _ => none
  | .ineg => match st with
    | .int x :: st => k l (.int (-x) :: st) h
    | _ => none
  | .iand => match st with
    | .int y :: .int x :: st => k l (.int (x &&& y) :: st) h
    | _ => none
  | .ior => match st with
    | .int y :: .int x :: st => k l (.int (x ||| y) :: st) h
    | _ => none
  | .ixor => match st with
    | .int y :: .int x :: st => k l (.int (x ^^^ y) :: st) h
    | _ => none
  | .ishl => match st with
    | .int y :: .int x :: st => k l (.int (x <<< (y &&& 31)) :: st) h
    | _ => none
  | .ishr => match st with
    | .int y :: .int x :: st => k l (.int (x >>> (y &&& 31)) :: st) h
    | _ => none
  | .iushr => match st with
    | .int y :: .int x :: st => k l (.int (x.toUInt32 >>> (y.toUInt32 &&& Int32.toUInt32 31)).toInt32 :: st) h
    | _ => none
  | .ladd => match st with
    | .long y :: .long x :: st => k l (.long (x + y) :: st) h
    | _ => none
  | .lsub => match st with
    | .long y :: .long x :: st => k l (.long (x - y) :: st) h
    | _ => none
  | .lmul => match st with
    | .long y :: .long x :: st => k l (.long (x * y) :: st) h
    | _ => none
  | .ldiv => match st with
    | .long y :: .long x :: st => if y = 0 then none else k l (.long (x / y) :: st) h
    | _ => none
  | .lrem => match st with
    | .long y :: .long x :: st => if y = 0 then none else k l (.long (x - x / y * y) :: st) h
    | _ => none
  | .lneg => match st with
    | .long x :: st => k l (.long (-x) :: st) h
    | _ => none
  | .land => match st with
    | .long y :: .long x :: st => k l (.long (x &&& y) :: st) h
    | _ => none
  | .lor => match st with
    | .long y :: .long x :: st => k l (.long (x ||| y) :: st) h
    | _ => none
  | .lshl => match st with
    | .int y :: .long x :: st => k l (.long (x <<< (y.toInt64 &&& 63)) :: st) h
    | _ => none
  | .lcmp => match st with
    | .long y :: .long x :: st => k l (.int (lg_cmp x y) :: st) h
    | _ => none
  | .i2l => match st with
    | .int x :: st => k l (.long x.toInt64 :: st) h
    | _ => none
  | .l2i => match st with
    | .long x :: st => k l (.int x.toInt32 :: st) h
    | _ => none
  | .i2b => match st with
    | .int x :: st => k l (.int x.toInt8.toInt32 :: st) h
    | _ => none
  | .i2c => match st with
    | .int x :: st => k l (.int (x.toUInt32 % 65536).toInt32 :: st) h
    | _ => none
  | .dup => match st with
    | .int x :: st => k l (.int x :: .int x :: st) h
    | .ref x :: st => k l (.ref x :: .ref x :: st) h
    | _ => none
  | .dup_x1 => match st with
    | .int x :: .ref y :: st => k l (.int x :: .ref y :: .int x :: st) h
    | _ => none
  | .dup2 => match st with
    | .int x :: .ref y :: st => k l (.int x :: .ref y :: .int x :: .ref y :: st) h
    | .long x :: st => k l (.long x :: .long x :: st) h
    | _ => none
  | .pop => match st with
    | .int _ :: st => k l st h
    | _ => none
  | .pop2 => match st with
    | .long _ :: st => k l st h
    | _ => none
  | .arraylength => match st with
    | .ref a :: st => (am_len h a).bind fun x => k l (.int x :: st) h
    | _ => none
  | .iaload => match st with
    | .int j :: .ref a :: st => (am_aI h a j).bind fun x => k l (.int x :: st) h
    | _ => none
  | .laload => match st with
    | .int j :: .ref a :: st => (am_aL h a j).bind fun x => k l (.long x :: st) h
    | _ => none
  | .baload => match st with
    | .int j :: .ref a :: st => (am_aB h a j).bind fun x => k l (.int x :: st) h
    | _ => none
  | .aaload => match st with
    | .int j :: .ref a :: st => (am_aR h a j).bind fun x => k l (.ref x :: st) h
    | _ => none
  | .iastore => match st with
    | .int x :: .int j :: .ref a :: st => (am_st h 100 a j (.int x)).bind fun h => k l st h
    | _ => none
  | .lastore => match st with
    | .long x :: .int j :: .ref a :: st => (am_st h 101 a j (.long x)).bind fun h => k l st h
    | _ => none
  | .bastore => match st with
    | .int x :: .int j :: .ref a :: st => (am_stB h a j x).bind fun h => k l st h
    | _ => none
  | .aastore => match st with
    | .ref x :: .int j :: .ref a :: st => (am_stR h a j x).bind fun h => k l st h
    | _ => none
  | .getfield _ => match st with
    | .ref a :: st => am_getf (am_fty r1 r2) a r1 r2 l st h k
    | _ => none
  | .putfield _ => match st with
    | v :: .ref a :: st => am_putf (am_fty r1 r2) a r1 r2 v l st h k
    | _ => none
  | .new _ => k l (.ref h.1 :: st) (am_new h (r1, r2, fun j => am_dflt (am_fty r1 j)))
  | .newarray t => match st with
    | .int n :: st => am_mka (am_akind t) n (am_dflt (newarray.typeOf t)) l st h k
    | _ => none
  | .anewarray _ => match st with
    | .int n :: st => am_mka (some 104) n .null l st h k
    | _ => none
  | _ => none
/-! from one cut to the next -/
def am_nx (U : List (Nat × List Nat)) (L : Nat → LV → AH → Option RS) (e : Nat → LV → List Value → AH → Option RS) (pc : Nat) (l : LV) (st : List Value) (h : AH) : Option RS :=
  match am_look U pc with
  | none => e pc l st h
  | some live => match st with
    | [] => match am_pick live l with
      | some l' => L pc l' h
      | none => none
    | _ => none
def am_fork (p : Prop) [Decidable p] (a b : Option RS) : Option RS := if p then a else b
def am_ret (rt : Nat) (x : Int32) (h : AH) : Option RS := match rt with
  | 1 => some (some (.int x), h)
  | 3 => if x = 0 ∨ x = 1 then some (some (.int x), h) else none
  | 4 => if narrow .byte (.int x) = .int x then some (some (.int x), h) else none
  | 5 => if narrow .char (.int x) = .int x then some (some (.int x), h) else none
  | _ => none
def am_go (rt : Nat) (r : Option RS) (st : List Value) (k : List Value → AH → Option RS) : Option RS := match rt with
  | 0 => am_cV r (fun h => k st h)
  | 2 => am_cL r (fun x h => k (.long x :: st) h)
  | _ => am_cI r (fun x h => k (.int x :: st) h)
def am_ev (C : CD) (U : List (Nat × List Nat)) (rt : Nat) (G : GT) (L : Nat → LV → AH → Option RS) : Nat → Nat → LV → List Value → AH → Option RS
  | 0, _, _, _, _ => none
  | n + 1, pc, l, st, h =>
    match am_code C pc with
    | none => none
    | some (i, len, r1, r2, _, v) =>
      match i with
      | .goto _ => am_nx U L (am_ev C U rt G L n) r1 l st h
      | .ifCond c _ => match st with
        | .int x :: st => match c with
          | .eq => if x = 0 then am_nx U L (am_ev C U rt G L n) r1 l st h else am_nx U L (am_ev C U rt G L n) (pc + 3) l st h
          | .ne => if ¬ x = 0 then am_nx U L (am_ev C U rt G L n) r1 l st h else am_nx U L (am_ev C U rt G L n) (pc + 3) l st h
          | .lt => if x < 0 then am_nx U L (am_ev C U rt G L n) r1 l st h else am_nx U L (am_ev C U rt G L n) (pc + 3) l st h
          | .ge => if 0 ≤ x then am_nx U L (am_ev C U rt G L n) r1 l st h else am_nx U L (am_ev C U rt G L n) (pc + 3) l st h
          | .gt => if 0 < x then am_nx U L (am_ev C U rt G L n) r1 l st h else am_nx U L (am_ev C U rt G L n) (pc + 3) l st h
          | .le => if x ≤ 0 then am_nx U L (am_ev C U rt G L n) r1 l st h else am_nx U L (am_ev C U rt G L n) (pc + 3) l st h
        | _ => none
      | .if_icmp c _ => match st with
        | .int y :: .int x :: st => match c with
          | .eq => if x = y then am_nx U L (am_ev C U rt G L n) r1 l st h else am_nx U L (am_ev C U rt G L n) (pc + 3) l st h
          | .ne => if ¬ x = y then am_nx U L (am_ev C U rt G L n) r1 l st h else am_nx U L (am_ev C U rt G L n) (pc + 3) l st h
          | .lt => if x < y then am_nx U L (am_ev C U rt G L n) r1 l st h else am_nx U L (am_ev C U rt G L n) (pc + 3) l st h
          | .ge => if y ≤ x then am_nx U L (am_ev C U rt G L n) r1 l st h else am_nx U L (am_ev C U rt G L n) (pc + 3) l st h
          | .gt => if y < x then am_nx U L (am_ev C U rt G L n) r1 l st h else am_nx U L (am_ev C U rt G L n) (pc + 3) l st h
          | .le => if x ≤ y then am_nx U L (am_ev C U rt G L n) r1 l st h else am_nx U L (am_ev C U rt G L n) (pc + 3) l st h
        | _ => none
      | .tableswitch d lo _ offs => match st with
        | .int x :: st => am_sw x (am_nx U L (am_ev C U rt G L n) ((pc : Int) + d).toNat l st h) lo (offs.toList.map fun o => am_nx U L (am_ev C U rt G L n) ((pc : Int) + o).toNat l st h)
        | _ => none
      | .ireturn => match st with
        | [.int x] => am_ret rt x h
        | _ => none
      | .lreturn => match st with
        | [.long x] => match rt with
          | 2 => some (some (.long x), h)
          | _ => none
        | _ => none
      | .return_ => match st with
        | [] => match rt with
          | 0 => some (none, h)
          | _ => none
        | _ => none
      | .invokevirtual _ => match am_pop (r2 % 100) st [] with
        | some (as, .ref b :: st') => bif am_few st' && am_isK h b (r2 / 1000) then am_go (r2 / 100 % 10) (G r1 (.ref b :: as) h) st' (fun st h => am_nx U L (am_ev C U rt G L n) (pc + 3) l st h) else none
        | _ => none
      | .invokestatic _ => match r1 with
        | 9002 => match st with
          | .int k :: .int dp :: .ref b :: .int sp :: .ref a :: st' => bif Nat.ble st'.length 3 then (am_copy h a sp b dp k).bind fun h => am_nx U L (am_ev C U rt G L n) (pc + 3) l st' h else none
          | _ => none
        | 9003 => match st with
          | .int y :: .int x :: st' => bif am_few st' then am_nx U L (am_ev C U rt G L n) (pc + 3) l (.int (if x < y then y else x) :: st') h else none
          | _ => none
        | 9004 => match st with
          | .int y :: .int x :: st' => bif am_few st' then am_nx U L (am_ev C U rt G L n) (pc + 3) l (.int (if y < x then y else x) :: st') h else none
          | _ => none
        | 9005 => match st with
          | .long y :: .long x :: st' => bif am_few st' then am_nx U L (am_ev C U rt G L n) (pc + 3) l (.long (if y < x then x else y) :: st') h else none
          | _ => none
        | 9006 => match st with
          | .long y :: .long x :: st' => bif am_few st' then am_nx U L (am_ev C U rt G L n) (pc + 3) l (.long (if y < x then y else x) :: st') h else none
          | _ => none
        | j => match am_pop (r2 % 100) st [] with
          | some (as, st') => bif am_few st' then am_go (r2 / 100 % 10) (G j as h) st' (fun st h => am_nx U L (am_ev C U rt G L n) (pc + 3) l st h) else none
          | _ => none
      | .invokespecial _ => match r1 with
        | 9001 => match st with
          | .ref _ :: st' => bif am_few st' then am_nx U L (am_ev C U rt G L n) (pc + 3) l st' h else none
          | _ => none
        | j => match am_pop (r2 % 100) st [] with
          | some (as, .ref b :: st') => bif am_few st' then am_go 0 (G j (.ref b :: as) h) st' (fun st h => am_nx U L (am_ev C U rt G L n) (pc + 3) l st h) else none
          | _ => none
      | i => am_stp i r1 r2 v l st h (fun l st h => am_nx U L (am_ev C U rt G L n) (pc + len) l st h)
end
section
/-! the method tables: by program -/
def qX0_init : CD := [(0, [(0, .aload_n 0, 1, 0, 0, 0, .null), (1, .invokespecial 1, 3, 9001, 0, 276, .null), (4, .aload_n 0, 1, 0, 0, 0, .null), (5, .new 7, 3, 3, 11, 277, .null), (8, .dup, 1, 0, 0, 0, .null), (9, .invokespecial 9, 3, 28, 0, 278, .null), (12, .putfield 10, 3, 0, 0, 279, .null), (15, .aload_n 0, 1, 0, 0, 0, .null)]),
  (1, [(16, .iconst 4, 1, 0, 0, 0, .int 4), (17, .newarray .int, 2, 0, 0, 0, .null), (19, .dup, 1, 0, 0, 0, .null), (20, .iconst 0, 1, 0, 0, 0, .int 0), (21, .iconst 0, 1, 0, 0, 0, .int 0), (22, .iastore, 1, 0, 0, 0, .null), (23, .dup, 1, 0, 0, 0, .null), (24, .iconst 1, 1, 0, 0, 0, .int 1), (25, .bipush 10, 2, 0, 0, 0, .int 10), (27, .iastore, 1, 0, 0, 0, .null), (28, .dup, 1, 0, 0, 0, .null), (29, .iconst 2, 1, 0, 0, 0, .int 2), (30, .iconst 0, 1, 0, 0, 0, .int 0), (31, .iastore, 1, 0, 0, 0, .null)]),
  (2, [(32, .dup, 1, 0, 0, 0, .null), (33, .iconst 3, 1, 0, 0, 0, .int 3), (34, .iconst 0, 1, 0, 0, 0, .int 0), (35, .iastore, 1, 0, 0, 0, .null), (36, .putfield 16, 3, 0, 1, 283, .null), (39, .aload_n 0, 1, 0, 0, 0, .null), (40, .bipush 18, 2, 0, 0, 0, .int 18), (42, .newarray .int, 2, 0, 0, 0, .null), (44, .dup, 1, 0, 0, 0, .null), (45, .iconst 0, 1, 0, 0, 0, .int 0), (46, .bipush 10, 2, 0, 0, 0, .int 10)]),
  (3, [(48, .iastore, 1, 0, 0, 0, .null), (49, .dup, 1, 0, 0, 0, .null), (50, .iconst 1, 1, 0, 0, 0, .int 1), (51, .iconst 0, 1, 0, 0, 0, .int 0), (52, .iastore, 1, 0, 0, 0, .null), (53, .dup, 1, 0, 0, 0, .null), (54, .iconst 2, 1, 0, 0, 0, .int 2), (55, .iconst 0, 1, 0, 0, 0, .int 0), (56, .iastore, 1, 0, 0, 0, .null), (57, .dup, 1, 0, 0, 0, .null), (58, .iconst 3, 1, 0, 0, 0, .int 3), (59, .bipush 10, 2, 0, 0, 0, .int 10), (61, .iastore, 1, 0, 0, 0, .null), (62, .dup, 1, 0, 0, 0, .null), (63, .iconst 4, 1, 0, 0, 0, .int 4)]),
  (4, [(64, .iconst 0, 1, 0, 0, 0, .int 0), (65, .iastore, 1, 0, 0, 0, .null), (66, .dup, 1, 0, 0, 0, .null), (67, .iconst 5, 1, 0, 0, 0, .int 5), (68, .iconst 0, 1, 0, 0, 0, .int 0), (69, .iastore, 1, 0, 0, 0, .null), (70, .dup, 1, 0, 0, 0, .null), (71, .bipush 6, 2, 0, 0, 0, .int 6), (73, .bipush 10, 2, 0, 0, 0, .int 10), (75, .iastore, 1, 0, 0, 0, .null), (76, .dup, 1, 0, 0, 0, .null), (77, .bipush 7, 2, 0, 0, 0, .int 7), (79, .iconst 0, 1, 0, 0, 0, .int 0)]),
  (5, [(80, .iastore, 1, 0, 0, 0, .null), (81, .dup, 1, 0, 0, 0, .null), (82, .bipush 8, 2, 0, 0, 0, .int 8), (84, .iconst 0, 1, 0, 0, 0, .int 0), (85, .iastore, 1, 0, 0, 0, .null), (86, .dup, 1, 0, 0, 0, .null), (87, .bipush 9, 2, 0, 0, 0, .int 9), (89, .bipush 10, 2, 0, 0, 0, .int 10), (91, .iastore, 1, 0, 0, 0, .null), (92, .dup, 1, 0, 0, 0, .null), (93, .bipush 10, 2, 0, 0, 0, .int 10), (95, .iconst 0, 1, 0, 0, 0, .int 0)]),
  (6, [(96, .iastore, 1, 0, 0, 0, .null), (97, .dup, 1, 0, 0, 0, .null), (98, .bipush 11, 2, 0, 0, 0, .int 11), (100, .iconst 0, 1, 0, 0, 0, .int 0), (101, .iastore, 1, 0, 0, 0, .null), (102, .dup, 1, 0, 0, 0, .null), (103, .bipush 12, 2, 0, 0, 0, .int 12), (105, .bipush 10, 2, 0, 0, 0, .int 10), (107, .iastore, 1, 0, 0, 0, .null), (108, .dup, 1, 0, 0, 0, .null), (109, .bipush 13, 2, 0, 0, 0, .int 13), (111, .iconst 0, 1, 0, 0, 0, .int 0)]),
  (7, [(112, .iastore, 1, 0, 0, 0, .null), (113, .dup, 1, 0, 0, 0, .null), (114, .bipush 14, 2, 0, 0, 0, .int 14), (116, .iconst 0, 1, 0, 0, 0, .int 0), (117, .iastore, 1, 0, 0, 0, .null), (118, .dup, 1, 0, 0, 0, .null), (119, .bipush 15, 2, 0, 0, 0, .int 15), (121, .bipush 10, 2, 0, 0, 0, .int 10), (123, .iastore, 1, 0, 0, 0, .null), (124, .dup, 1, 0, 0, 0, .null), (125, .bipush 16, 2, 0, 0, 0, .int 16), (127, .iconst 0, 1, 0, 0, 0, .int 0)]),
  (8, [(128, .iastore, 1, 0, 0, 0, .null), (129, .dup, 1, 0, 0, 0, .null), (130, .bipush 17, 2, 0, 0, 0, .int 17), (132, .iconst 0, 1, 0, 0, 0, .int 0), (133, .iastore, 1, 0, 0, 0, .null), (134, .putfield 20, 3, 0, 2, 289, .null), (137, .return_, 1, 0, 0, 0, .null)])]
def uX0_init : List (Nat × List Nat) := []
def qX0_copyOf : CD := [(0, [(0, .aload_n 0, 1, 0, 0, 0, .null), (1, .getfield 10, 3, 0, 0, 279, .null), (4, .aload_n 1, 1, 0, 0, 0, .null), (5, .getfield 10, 3, 0, 0, 279, .null), (8, .invokevirtual 23, 3, 29, 3001, 1204, .null), (11, .aload_n 1, 1, 0, 0, 0, .null), (12, .getfield 16, 3, 0, 1, 283, .null), (15, .aload_n 0, 1, 0, 0, 0, .null)]),
  (1, [(16, .getfield 16, 3, 0, 1, 283, .null), (19, .invokestatic 27, 3, 30, 2, 1205, .null), (22, .aload_n 1, 1, 0, 0, 0, .null), (23, .getfield 20, 3, 0, 2, 289, .null), (26, .aload_n 0, 1, 0, 0, 0, .null), (27, .getfield 20, 3, 0, 2, 289, .null), (30, .invokestatic 27, 3, 30, 2, 1205, .null)]),
  (2, [(33, .return_, 1, 0, 0, 0, .null)])]
def uX0_copyOf : List (Nat × List Nat) := []
def qX1_init : CD := [(0, [(0, .aload_n 0, 1, 0, 0, 0, .null), (1, .invokespecial 3, 3, 9001, 0, 327, .null), (4, .aload_n 0, 1, 0, 0, 0, .null), (5, .bipush 16, 2, 0, 0, 0, .int 16), (7, .newarray .int, 2, 0, 0, 0, .null), (9, .putfield 9, 3, 1, 3, 336, .null), (12, .aload_n 0, 1, 0, 0, 0, .null), (13, .bipush 18, 2, 0, 0, 0, .int 18), (15, .newarray .int, 2, 0, 0, 0, .null)]),
  (1, [(17, .putfield 15, 3, 1, 4, 340, .null), (20, .aload_n 0, 1, 0, 0, 0, .null), (21, .iconst 0, 1, 0, 0, 0, .int 0), (22, .putfield 18, 3, 1, 5, 342, .null), (25, .aload_n 0, 1, 0, 0, 0, .null), (26, .sipush 176, 3, 0, 0, 0, .int 176), (29, .newarray .long, 2, 0, 0, 0, .null), (31, .putfield 22, 3, 1, 6, 344, .null)]),
  (2, [(34, .aload_n 0, 1, 0, 0, 0, .null), (35, .sipush 176, 3, 0, 0, 0, .int 176), (38, .newarray .int, 2, 0, 0, 0, .null), (40, .putfield 26, 3, 1, 7, 348, .null), (43, .aload_n 0, 1, 0, 0, 0, .null), (44, .iconst 0, 1, 0, 0, 0, .int 0), (45, .putfield 29, 3, 1, 8, 350, .null)]),
  (3, [(48, .aload_n 0, 1, 0, 0, 0, .null), (49, .bipush 48, 2, 0, 0, 0, .int 48), (51, .newarray .int, 2, 0, 0, 0, .null), (53, .putfield 32, 3, 1, 9, 352, .null), (56, .aload_n 0, 1, 0, 0, 0, .null), (57, .bipush 11, 2, 0, 0, 0, .int 11), (59, .newarray .int, 2, 0, 0, 0, .null), (61, .putfield 35, 3, 1, 10, 355, .null)]),
  (4, [(64, .aload_n 0, 1, 0, 0, 0, .null), (65, .aload_n 1, 1, 0, 0, 0, .null), (66, .putfield 38, 3, 1, 0, 328, .null), (69, .aload_n 0, 1, 0, 0, 0, .null), (70, .aload_n 1, 1, 0, 0, 0, .null), (71, .getfield 42, 3, 0, 0, 280, .null), (74, .putfield 48, 3, 1, 1, 331, .null), (77, .aload_n 0, 1, 0, 0, 0, .null), (78, .aload_n 2, 1, 0, 0, 0, .null), (79, .putfield 49, 3, 1, 2, 335, .null)]),
  (5, [(82, .return_, 1, 0, 0, 0, .null)])]
def uX1_init : List (Nat × List Nat) := []
def qX1_lay : CD := [(0, [(0, .aload_n 0, 1, 0, 0, 0, .null), (1, .getfield 48, 3, 1, 1, 331, .null), (4, .getfield 53, 3, 3, 2, 170, .null), (7, .aload_n 0, 1, 0, 0, 0, .null), (8, .getfield 9, 3, 1, 3, 336, .null), (11, .invokestatic 56, 3, 30, 2, 851, .null), (14, .aload_n 0, 1, 0, 0, 0, .null), (15, .getfield 38, 3, 1, 0, 328, .null)]),
  (1, [(18, .getfield 60, 3, 0, 2, 290, .null), (21, .aload_n 0, 1, 0, 0, 0, .null), (22, .getfield 15, 3, 1, 4, 340, .null), (25, .invokestatic 56, 3, 30, 2, 851, .null), (28, .aload_n 0, 1, 0, 0, 0, .null), (29, .iconst 0, 1, 0, 0, 0, .int 0), (30, .putfield 18, 3, 1, 5, 342, .null)]),
  (2, [(33, .aload_n 0, 1, 0, 0, 0, .null), (34, .iconst 0, 1, 0, 0, 0, .int 0), (35, .putfield 29, 3, 1, 8, 350, .null), (38, .iconst 0, 1, 0, 0, 0, .int 0), (39, .istore_n 2, 1, 0, 0, 0, .null), (40, .iload_n 2, 1, 0, 0, 0, .null), (41, .aload_n 0, 1, 0, 0, 0, .null), (42, .getfield 32, 3, 1, 9, 352, .null), (45, .arraylength, 1, 0, 0, 0, .null), (46, .if_icmp .ge 44, 3, 90, 0, 0, .null)]),
  (3, [(49, .aload_n 0, 1, 0, 0, 0, .null), (50, .getfield 32, 3, 1, 9, 352, .null), (53, .iload_n 2, 1, 0, 0, 0, .null), (54, .aload_n 0, 1, 0, 0, 0, .null), (55, .getfield 48, 3, 1, 1, 331, .null), (58, .getfield 61, 3, 3, 1, 163, .null), (61, .iload_n 2, 1, 0, 0, 0, .null), (62, .iconst 3, 1, 0, 0, 0, .int 3), (63, .idiv, 1, 0, 0, 0, .null)]),
  (4, [(64, .iaload, 1, 0, 0, 0, .null), (65, .iconst 1, 1, 0, 0, 0, .int 1), (66, .if_icmp .ne 15, 3, 81, 0, 0, .null), (69, .aload_n 0, 1, 0, 0, 0, .null), (70, .getfield 48, 3, 1, 1, 331, .null), (73, .getfield 64, 3, 3, 6, 194, .null), (76, .iload_n 2, 1, 0, 0, 0, .null), (77, .iaload, 1, 0, 0, 0, .null), (78, .goto 5, 3, 83, 0, 0, .null)]),
  (5, [(81, .bipush 10, 2, 0, 0, 0, .int 10), (83, .iastore, 1, 0, 0, 0, .null), (84, .iinc 2 1, 3, 0, 0, 0, .int 1), (87, .goto (-47), 3, 40, 0, 0, .null), (90, .aload_n 0, 1, 0, 0, 0, .null), (91, .iload_n 1, 1, 0, 0, 0, .null), (92, .invokevirtual 67, 3, 4, 1001, 852, .null), (95, .aload_n 0, 1, 0, 0, 0, .null)]),
  (6, [(96, .getfield 38, 3, 1, 0, 328, .null), (99, .getfield 71, 3, 0, 1, 286, .null), (102, .iconst 1, 1, 0, 0, 0, .int 1), (103, .iaload, 1, 0, 0, 0, .null), (104, .istore_n 2, 1, 0, 0, 0, .null), (105, .iload_n 2, 1, 0, 0, 0, .null), (106, .ifCond .lt 14, 3, 120, 0, 0, .null), (109, .aload_n 0, 1, 0, 0, 0, .null), (110, .iload_n 2, 1, 0, 0, 0, .null), (111, .invokevirtual 74, 3, 6, 1001, 864, .null)]),
  (7, [(114, .iinc 2 (-1), 3, 0, 0, 0, .int (-1)), (117, .goto (-12), 3, 105, 0, 0, .null), (120, .return_, 1, 0, 0, 0, .null)])]
def uX1_lay : List (Nat × List Nat) := [(40, [0, 1, 2]), (105, [0, 2])]
def qX1_reach : CD := [(0, [(0, .ldc 78, 2, 0, 0, 856, .int 65535), (2, .istore_n 2, 1, 0, 0, 0, .null), (3, .aload_n 0, 1, 0, 0, 0, .null), (4, .getfield 35, 3, 1, 10, 355, .null), (7, .iload_n 1, 1, 0, 0, 0, .null), (8, .ifCond .eq 7, 3, 15, 0, 0, .null), (11, .iload_n 2, 1, 0, 0, 0, .null), (12, .goto 4, 3, 16, 0, 0, .null), (15, .iconst 0, 1, 0, 0, 0, .int 0)]),
  (1, [(16, .invokestatic 79, 3, 259, 2, 857, .null), (19, .aload_n 0, 1, 0, 0, 0, .null), (20, .getfield 35, 3, 1, 10, 355, .null), (23, .iconst 0, 1, 0, 0, 0, .int 0), (24, .dup2, 1, 0, 0, 0, .null), (25, .iaload, 1, 0, 0, 0, .null), (26, .iconst 1, 1, 0, 0, 0, .int 1), (27, .aload_n 0, 1, 0, 0, 0, .null), (28, .getfield 38, 3, 1, 0, 328, .null), (31, .getfield 71, 3, 0, 1, 286, .null)]),
  (2, [(34, .iconst 0, 1, 0, 0, 0, .int 0), (35, .iaload, 1, 0, 0, 0, .null), (36, .ishl, 1, 0, 0, 0, .null), (37, .ior, 1, 0, 0, 0, .null), (38, .iastore, 1, 0, 0, 0, .null), (39, .iconst 0, 1, 0, 0, 0, .int 0), (40, .istore_n 3, 1, 0, 0, 0, .null), (41, .iload_n 3, 1, 0, 0, 0, .null), (42, .aload_n 0, 1, 0, 0, 0, .null), (43, .getfield 38, 3, 1, 0, 328, .null), (46, .getfield 71, 3, 0, 1, 286, .null)]),
  (3, [(49, .iconst 1, 1, 0, 0, 0, .int 1), (50, .iaload, 1, 0, 0, 0, .null), (51, .if_icmp .ge 66, 3, 117, 0, 0, .null), (54, .iload_n 1, 1, 0, 0, 0, .null), (55, .ifCond .ne 62, 3, 117, 0, 0, .null), (58, .iconst 0, 1, 0, 0, 0, .int 0), (59, .istore 4, 2, 0, 0, 0, .null), (61, .iload 4, 2, 0, 0, 0, .null), (63, .aload_n 0, 1, 0, 0, 0, .null)]),
  (4, [(64, .getfield 48, 3, 1, 1, 331, .null), (67, .getfield 85, 3, 3, 0, 157, .null), (70, .if_icmp .ge 41, 3, 111, 0, 0, .null), (73, .aload_n 0, 1, 0, 0, 0, .null), (74, .getfield 35, 3, 1, 10, 355, .null), (77, .iload_n 3, 1, 0, 0, 0, .null), (78, .iaload, 1, 0, 0, 0, .null), (79, .iload 4, 2, 0, 0, 0, .null)]),
  (5, [(81, .ishr, 1, 0, 0, 0, .null), (82, .iconst 1, 1, 0, 0, 0, .int 1), (83, .iand, 1, 0, 0, 0, .null), (84, .iconst 1, 1, 0, 0, 0, .int 1), (85, .if_icmp .ne 20, 3, 105, 0, 0, .null), (88, .aload_n 0, 1, 0, 0, 0, .null), (89, .getfield 35, 3, 1, 10, 355, .null), (92, .iload_n 3, 1, 0, 0, 0, .null), (93, .iconst 1, 1, 0, 0, 0, .int 1), (94, .iadd, 1, 0, 0, 0, .null), (95, .dup2, 1, 0, 0, 0, .null)]),
  (6, [(96, .iaload, 1, 0, 0, 0, .null), (97, .aload_n 0, 1, 0, 0, 0, .null), (98, .iload 4, 2, 0, 0, 0, .null), (100, .invokevirtual 88, 3, 5, 1101, 860, .null), (103, .ior, 1, 0, 0, 0, .null), (104, .iastore, 1, 0, 0, 0, .null), (105, .iinc 4 1, 3, 0, 0, 0, .int 1), (108, .goto (-47), 3, 61, 0, 0, .null), (111, .iinc 3 1, 3, 0, 0, 0, .int 1)]),
  (7, [(114, .goto (-73), 3, 41, 0, 0, .null), (117, .return_, 1, 0, 0, 0, .null)])]
def uX1_reach : List (Nat × List Nat) := [(19, [0, 1]), (41, [0, 1, 3]), (61, [0, 1, 3, 4])]
def qX1_roadsFrom : CD := [(0, [(0, .iconst 0, 1, 0, 0, 0, .int 0), (1, .istore_n 2, 1, 0, 0, 0, .null), (2, .iconst 0, 1, 0, 0, 0, .int 0), (3, .istore_n 3, 1, 0, 0, 0, .null), (4, .iload_n 3, 1, 0, 0, 0, .null), (5, .aload_n 0, 1, 0, 0, 0, .null), (6, .getfield 48, 3, 1, 1, 331, .null), (9, .getfield 92, 3, 3, 4, 185, .null), (12, .iload_n 1, 1, 0, 0, 0, .null), (13, .iaload, 1, 0, 0, 0, .null), (14, .if_icmp .ge 27, 3, 41, 0, 0, .null)]),
  (1, [(17, .iload_n 2, 1, 0, 0, 0, .null), (18, .iconst 1, 1, 0, 0, 0, .int 1), (19, .aload_n 0, 1, 0, 0, 0, .null), (20, .getfield 48, 3, 1, 1, 331, .null), (23, .getfield 95, 3, 3, 5, 189, .null), (26, .iload_n 1, 1, 0, 0, 0, .null), (27, .iconst 3, 1, 0, 0, 0, .int 3), (28, .imul, 1, 0, 0, 0, .null), (29, .iload_n 3, 1, 0, 0, 0, .null), (30, .iadd, 1, 0, 0, 0, .null), (31, .iaload, 1, 0, 0, 0, .null)]),
  (2, [(32, .ishl, 1, 0, 0, 0, .null), (33, .ior, 1, 0, 0, 0, .null), (34, .istore_n 2, 1, 0, 0, 0, .null), (35, .iinc 3 1, 3, 0, 0, 0, .int 1), (38, .goto (-34), 3, 4, 0, 0, .null), (41, .iload_n 2, 1, 0, 0, 0, .null), (42, .ireturn, 1, 0, 0, 0, .null)])]
def uX1_roadsFrom : List (Nat × List Nat) := [(4, [0, 1, 2, 3])]
def qX1_layStep : CD := [(0, [(0, .aload_n 0, 1, 0, 0, 0, .null), (1, .getfield 38, 3, 1, 0, 328, .null), (4, .getfield 71, 3, 0, 1, 286, .null), (7, .iconst 1, 1, 0, 0, 0, .int 1), (8, .iaload, 1, 0, 0, 0, .null), (9, .istore_n 2, 1, 0, 0, 0, .null), (10, .iconst 0, 1, 0, 0, 0, .int 0), (11, .istore_n 3, 1, 0, 0, 0, .null), (12, .iload_n 3, 1, 0, 0, 0, .null), (13, .bipush 16, 2, 0, 0, 0, .int 16), (15, .if_icmp .ge 168, 3, 183, 0, 0, .null)]),
  (1, [(18, .iload_n 1, 1, 0, 0, 0, .null), (19, .bipush 16, 2, 0, 0, 0, .int 16), (21, .imul, 1, 0, 0, 0, .null), (22, .iload_n 3, 1, 0, 0, 0, .null), (23, .iadd, 1, 0, 0, 0, .null), (24, .istore 4, 2, 0, 0, 0, .null), (26, .aload_n 0, 1, 0, 0, 0, .null), (27, .getfield 35, 3, 1, 10, 355, .null), (30, .iload_n 1, 1, 0, 0, 0, .null), (31, .iaload, 1, 0, 0, 0, .null)]),
  (2, [(32, .iload_n 3, 1, 0, 0, 0, .null), (33, .ishr, 1, 0, 0, 0, .null), (34, .iconst 1, 1, 0, 0, 0, .int 1), (35, .iand, 1, 0, 0, 0, .null), (36, .ifCond .ne 14, 3, 50, 0, 0, .null), (39, .aload_n 0, 1, 0, 0, 0, .null), (40, .getfield 22, 3, 1, 6, 344, .null), (43, .iload 4, 2, 0, 0, 0, .null), (45, .lconst 0, 1, 0, 0, 0, .long 0), (46, .lastore, 1, 0, 0, 0, .null), (47, .goto 130, 3, 177, 0, 0, .null)]),
  (3, [(50, .iload_n 3, 1, 0, 0, 0, .null), (51, .aload_n 0, 1, 0, 0, 0, .null), (52, .getfield 48, 3, 1, 1, 331, .null), (55, .getfield 85, 3, 3, 0, 157, .null), (58, .if_icmp .lt 27, 3, 85, 0, 0, .null), (61, .aload_n 0, 1, 0, 0, 0, .null), (62, .getfield 22, 3, 1, 6, 344, .null)]),
  (4, [(65, .iload 4, 2, 0, 0, 0, .null), (67, .aload_n 0, 1, 0, 0, 0, .null), (68, .getfield 38, 3, 1, 0, 328, .null), (71, .getfield 71, 3, 0, 1, 286, .null), (74, .iconst 3, 1, 0, 0, 0, .int 3), (75, .iaload, 1, 0, 0, 0, .null), (76, .i2l, 1, 0, 0, 0, .null), (77, .ldc2_w 98, 3, 0, 0, 868, .long 10000000000)]),
  (5, [(80, .lmul, 1, 0, 0, 0, .null), (81, .lastore, 1, 0, 0, 0, .null), (82, .goto 95, 3, 177, 0, 0, .null), (85, .aload_n 0, 1, 0, 0, 0, .null), (86, .getfield 48, 3, 1, 1, 331, .null), (89, .getfield 61, 3, 3, 1, 163, .null), (92, .iload_n 3, 1, 0, 0, 0, .null), (93, .iaload, 1, 0, 0, 0, .null), (94, .iconst 3, 1, 0, 0, 0, .int 3), (95, .if_icmp .ne 32, 3, 127, 0, 0, .null)]),
  (6, [(98, .aload_n 0, 1, 0, 0, 0, .null), (99, .getfield 22, 3, 1, 6, 344, .null), (102, .iload 4, 2, 0, 0, 0, .null), (104, .aload_n 0, 1, 0, 0, 0, .null), (105, .getfield 49, 3, 1, 2, 335, .null), (108, .aload_n 0, 1, 0, 0, 0, .null), (109, .getfield 48, 3, 1, 1, 331, .null)]),
  (7, [(112, .iload_n 3, 1, 0, 0, 0, .null), (113, .iload_n 1, 1, 0, 0, 0, .null), (114, .iload_n 2, 1, 0, 0, 0, .null), (115, .invokevirtual 100, 3, 92, 7104, 869, .null), (118, .i2l, 1, 0, 0, 0, .null), (119, .ldc2_w 98, 3, 0, 0, 868, .long 10000000000), (122, .lmul, 1, 0, 0, 0, .null), (123, .lastore, 1, 0, 0, 0, .null), (124, .goto 53, 3, 177, 0, 0, .null), (127, .iload_n 1, 1, 0, 0, 0, .null)]),
  (8, [(128, .iload_n 2, 1, 0, 0, 0, .null), (129, .if_icmp .ne 27, 3, 156, 0, 0, .null), (132, .aload_n 0, 1, 0, 0, 0, .null), (133, .getfield 22, 3, 1, 6, 344, .null), (136, .iload 4, 2, 0, 0, 0, .null), (138, .aload_n 0, 1, 0, 0, 0, .null), (139, .getfield 38, 3, 1, 0, 328, .null), (142, .getfield 71, 3, 0, 1, 286, .null)]),
  (9, [(145, .iconst 2, 1, 0, 0, 0, .int 2), (146, .iaload, 1, 0, 0, 0, .null), (147, .i2l, 1, 0, 0, 0, .null), (148, .ldc2_w 98, 3, 0, 0, 868, .long 10000000000), (151, .lmul, 1, 0, 0, 0, .null), (152, .lastore, 1, 0, 0, 0, .null), (153, .goto 24, 3, 177, 0, 0, .null), (156, .aload_n 0, 1, 0, 0, 0, .null), (157, .getfield 26, 3, 1, 7, 348, .null)]),
  (10, [(160, .aload_n 0, 1, 0, 0, 0, .null), (161, .getfield 29, 3, 1, 8, 350, .null), (164, .iload 4, 2, 0, 0, 0, .null), (166, .iastore, 1, 0, 0, 0, .null), (167, .aload_n 0, 1, 0, 0, 0, .null), (168, .dup, 1, 0, 0, 0, .null), (169, .getfield 29, 3, 1, 8, 350, .null), (172, .iconst 1, 1, 0, 0, 0, .int 1), (173, .iadd, 1, 0, 0, 0, .null), (174, .putfield 29, 3, 1, 8, 350, .null)]),
  (11, [(177, .iinc 3 1, 3, 0, 0, 0, .int 1), (180, .goto (-168), 3, 12, 0, 0, .null), (183, .return_, 1, 0, 0, 0, .null)])]
def uX1_layStep : List (Nat × List Nat) := [(12, [0, 1, 2, 3])]
def qX1_freeAll : CD := [(0, [(0, .aload_n 0, 1, 0, 0, 0, .null), (1, .bipush 63, 2, 0, 0, 0, .int 63), (3, .putfield 18, 3, 1, 5, 342, .null), (6, .return_, 1, 0, 0, 0, .null)])]
def uX1_freeAll : List (Nat × List Nat) := []
def qX1_weigh : CD := [(0, [(0, .aload_n 0, 1, 0, 0, 0, .null), (1, .invokevirtual 106, 3, 11, 1000, 874, .null), (4, .iconst 0, 1, 0, 0, 0, .int 0), (5, .istore_n 1, 1, 0, 0, 0, .null), (6, .iload_n 1, 1, 0, 0, 0, .null), (7, .aload_n 0, 1, 0, 0, 0, .null), (8, .getfield 29, 3, 1, 8, 350, .null), (11, .if_icmp .ge 87, 3, 98, 0, 0, .null), (14, .aload_n 0, 1, 0, 0, 0, .null), (15, .getfield 26, 3, 1, 7, 348, .null)]),
  (1, [(18, .iload_n 1, 1, 0, 0, 0, .null), (19, .iaload, 1, 0, 0, 0, .null), (20, .istore_n 2, 1, 0, 0, 0, .null), (21, .iload_n 2, 1, 0, 0, 0, .null), (22, .bipush 16, 2, 0, 0, 0, .int 16), (24, .irem, 1, 0, 0, 0, .null), (25, .istore_n 3, 1, 0, 0, 0, .null), (26, .iload_n 2, 1, 0, 0, 0, .null), (27, .iload_n 3, 1, 0, 0, 0, .null), (28, .isub, 1, 0, 0, 0, .null), (29, .bipush 16, 2, 0, 0, 0, .int 16), (31, .iadd, 1, 0, 0, 0, .null)]),
  (2, [(32, .istore 4, 2, 0, 0, 0, .null), (34, .aload_n 0, 1, 0, 0, 0, .null), (35, .getfield 48, 3, 1, 1, 331, .null), (38, .getfield 61, 3, 3, 1, 163, .null), (41, .iload_n 3, 1, 0, 0, 0, .null), (42, .iaload, 1, 0, 0, 0, .null), (43, .ifCond .ne 36, 3, 79, 0, 0, .null), (46, .aload_n 0, 1, 0, 0, 0, .null), (47, .getfield 18, 3, 1, 5, 342, .null)]),
  (3, [(50, .aload_n 0, 1, 0, 0, 0, .null), (51, .getfield 9, 3, 1, 3, 336, .null), (54, .iload_n 3, 1, 0, 0, 0, .null), (55, .iaload, 1, 0, 0, 0, .null), (56, .ishr, 1, 0, 0, 0, .null), (57, .iconst 1, 1, 0, 0, 0, .int 1), (58, .iand, 1, 0, 0, 0, .null), (59, .iconst 1, 1, 0, 0, 0, .int 1), (60, .if_icmp .ne 19, 3, 79, 0, 0, .null), (63, .aload_n 0, 1, 0, 0, 0, .null)]),
  (4, [(64, .getfield 22, 3, 1, 6, 344, .null), (67, .iload_n 2, 1, 0, 0, 0, .null), (68, .aload_n 0, 1, 0, 0, 0, .null), (69, .iload_n 3, 1, 0, 0, 0, .null), (70, .iload 4, 2, 0, 0, 0, .null), (72, .invokevirtual 109, 3, 9, 1202, 878, .null), (75, .lastore, 1, 0, 0, 0, .null), (76, .goto 16, 3, 92, 0, 0, .null), (79, .aload_n 0, 1, 0, 0, 0, .null)]),
  (5, [(80, .getfield 22, 3, 1, 6, 344, .null), (83, .iload_n 2, 1, 0, 0, 0, .null), (84, .aload_n 0, 1, 0, 0, 0, .null), (85, .iload_n 3, 1, 0, 0, 0, .null), (86, .iload 4, 2, 0, 0, 0, .null), (88, .invokevirtual 113, 3, 10, 1202, 884, .null), (91, .lastore, 1, 0, 0, 0, .null), (92, .iinc 1 1, 3, 0, 0, 0, .int 1), (95, .goto (-89), 3, 6, 0, 0, .null)]),
  (6, [(98, .aload_n 0, 1, 0, 0, 0, .null), (99, .getfield 22, 3, 1, 6, 344, .null), (102, .aload_n 0, 1, 0, 0, 0, .null), (103, .getfield 38, 3, 1, 0, 328, .null), (106, .getfield 71, 3, 0, 1, 286, .null), (109, .iconst 0, 1, 0, 0, 0, .int 0), (110, .iaload, 1, 0, 0, 0, .null), (111, .laload, 1, 0, 0, 0, .null)]),
  (7, [(112, .lreturn, 1, 0, 0, 0, .null)])]
def uX1_weigh : List (Nat × List Nat) := [(6, [0, 1])]
def qX1_most : CD := [(0, [(0, .ldc2_w 116, 3, 0, 0, 882, .long (-1000000000000000000)), (3, .lstore_n 3, 1, 0, 0, 0, .null), (4, .iconst 0, 1, 0, 0, 0, .int 0), (5, .istore 5, 2, 0, 0, 0, .null), (7, .iload 5, 2, 0, 0, 0, .null), (9, .aload_n 0, 1, 0, 0, 0, .null), (10, .getfield 48, 3, 1, 1, 331, .null), (13, .getfield 92, 3, 3, 4, 185, .null)]),
  (1, [(16, .iload_n 1, 1, 0, 0, 0, .null), (17, .iaload, 1, 0, 0, 0, .null), (18, .if_icmp .ge 35, 3, 53, 0, 0, .null), (21, .lload_n 3, 1, 0, 0, 0, .null), (22, .aload_n 0, 1, 0, 0, 0, .null), (23, .getfield 22, 3, 1, 6, 344, .null), (26, .iload_n 2, 1, 0, 0, 0, .null), (27, .aload_n 0, 1, 0, 0, 0, .null), (28, .getfield 48, 3, 1, 1, 331, .null), (31, .getfield 95, 3, 3, 5, 189, .null)]),
  (2, [(34, .iload_n 1, 1, 0, 0, 0, .null), (35, .iconst 3, 1, 0, 0, 0, .int 3), (36, .imul, 1, 0, 0, 0, .null), (37, .iload 5, 2, 0, 0, 0, .null), (39, .iadd, 1, 0, 0, 0, .null), (40, .iaload, 1, 0, 0, 0, .null), (41, .iadd, 1, 0, 0, 0, .null), (42, .laload, 1, 0, 0, 0, .null), (43, .invokestatic 118, 3, 9005, 202, 883, .null), (46, .lstore_n 3, 1, 0, 0, 0, .null), (47, .iinc 5 1, 3, 0, 0, 0, .int 1)]),
  (3, [(50, .goto (-43), 3, 7, 0, 0, .null), (53, .lload_n 3, 1, 0, 0, 0, .null), (54, .lreturn, 1, 0, 0, 0, .null)])]
def uX1_most : List (Nat × List Nat) := [(7, [0, 1, 2, 3, 5])]
def qX1_mean : CD := [(0, [(0, .lconst 0, 1, 0, 0, 0, .long 0), (1, .lstore_n 3, 1, 0, 0, 0, .null), (2, .iload_n 1, 1, 0, 0, 0, .null), (3, .iconst 3, 1, 0, 0, 0, .int 3), (4, .imul, 1, 0, 0, 0, .null), (5, .aload_n 0, 1, 0, 0, 0, .null), (6, .getfield 48, 3, 1, 1, 331, .null), (9, .getfield 92, 3, 3, 4, 185, .null), (12, .iload_n 1, 1, 0, 0, 0, .null), (13, .iaload, 1, 0, 0, 0, .null), (14, .iadd, 1, 0, 0, 0, .null), (15, .istore 5, 2, 0, 0, 0, .null)]),
  (1, [(17, .iload_n 1, 1, 0, 0, 0, .null), (18, .iconst 3, 1, 0, 0, 0, .int 3), (19, .imul, 1, 0, 0, 0, .null), (20, .istore 6, 2, 0, 0, 0, .null), (22, .iload 6, 2, 0, 0, 0, .null), (24, .iload 5, 2, 0, 0, 0, .null), (26, .if_icmp .ge 48, 3, 74, 0, 0, .null), (29, .aload_n 0, 1, 0, 0, 0, .null), (30, .getfield 32, 3, 1, 9, 352, .null)]),
  (2, [(33, .iload 6, 2, 0, 0, 0, .null), (35, .iaload, 1, 0, 0, 0, .null), (36, .ifCond .le 32, 3, 68, 0, 0, .null), (39, .lload_n 3, 1, 0, 0, 0, .null), (40, .aload_n 0, 1, 0, 0, 0, .null), (41, .getfield 32, 3, 1, 9, 352, .null), (44, .iload 6, 2, 0, 0, 0, .null), (46, .iaload, 1, 0, 0, 0, .null), (47, .i2l, 1, 0, 0, 0, .null)]),
  (3, [(48, .aload_n 0, 1, 0, 0, 0, .null), (49, .getfield 22, 3, 1, 6, 344, .null), (52, .iload_n 2, 1, 0, 0, 0, .null), (53, .aload_n 0, 1, 0, 0, 0, .null), (54, .getfield 48, 3, 1, 1, 331, .null), (57, .getfield 95, 3, 3, 5, 189, .null), (60, .iload 6, 2, 0, 0, 0, .null), (62, .iaload, 1, 0, 0, 0, .null), (63, .iadd, 1, 0, 0, 0, .null)]),
  (4, [(64, .laload, 1, 0, 0, 0, .null), (65, .lmul, 1, 0, 0, 0, .null), (66, .ladd, 1, 0, 0, 0, .null), (67, .lstore_n 3, 1, 0, 0, 0, .null), (68, .iinc 6 1, 3, 0, 0, 0, .int 1), (71, .goto (-49), 3, 22, 0, 0, .null), (74, .lload_n 3, 1, 0, 0, 0, .null), (75, .ldc2_w 124, 3, 0, 0, 888, .long 10), (78, .ldiv, 1, 0, 0, 0, .null), (79, .aload_n 0, 1, 0, 0, 0, .null)]),
  (5, [(80, .getfield 48, 3, 1, 1, 331, .null), (83, .getfield 126, 3, 3, 3, 179, .null), (86, .iload_n 1, 1, 0, 0, 0, .null), (87, .iaload, 1, 0, 0, 0, .null), (88, .i2l, 1, 0, 0, 0, .null), (89, .ldc2_w 98, 3, 0, 0, 868, .long 10000000000), (92, .lmul, 1, 0, 0, 0, .null), (93, .lsub, 1, 0, 0, 0, .null), (94, .lreturn, 1, 0, 0, 0, .null)])]
def uX1_mean : List (Nat × List Nat) := [(22, [0, 1, 2, 3, 5, 6])]
def qX1_shareAtForks : CD := [(0, [(0, .iconst 0, 1, 0, 0, 0, .int 0), (1, .istore_n 1, 1, 0, 0, 0, .null), (2, .iload_n 1, 1, 0, 0, 0, .null), (3, .aload_n 0, 1, 0, 0, 0, .null), (4, .getfield 48, 3, 1, 1, 331, .null), (7, .getfield 85, 3, 3, 0, 157, .null), (10, .if_icmp .ge 103, 3, 113, 0, 0, .null), (13, .aload_n 0, 1, 0, 0, 0, .null), (14, .getfield 48, 3, 1, 1, 331, .null)]),
  (1, [(17, .getfield 61, 3, 3, 1, 163, .null), (20, .iload_n 1, 1, 0, 0, 0, .null), (21, .iaload, 1, 0, 0, 0, .null), (22, .ifCond .ne 85, 3, 107, 0, 0, .null), (25, .aload_n 0, 1, 0, 0, 0, .null), (26, .getfield 48, 3, 1, 1, 331, .null), (29, .getfield 92, 3, 3, 4, 185, .null)]),
  (2, [(32, .iload_n 1, 1, 0, 0, 0, .null), (33, .iaload, 1, 0, 0, 0, .null), (34, .iconst 1, 1, 0, 0, 0, .int 1), (35, .isub, 1, 0, 0, 0, .null), (36, .istore_n 2, 1, 0, 0, 0, .null), (37, .bipush 10, 2, 0, 0, 0, .int 10), (39, .istore_n 3, 1, 0, 0, 0, .null), (40, .iconst 0, 1, 0, 0, 0, .int 0), (41, .istore 4, 2, 0, 0, 0, .null), (43, .iload 4, 2, 0, 0, 0, .null), (45, .iload_n 2, 1, 0, 0, 0, .null), (46, .if_icmp .ge 50, 3, 96, 0, 0, .null)]),
  (3, [(49, .aload_n 0, 1, 0, 0, 0, .null), (50, .getfield 32, 3, 1, 9, 352, .null), (53, .iload_n 1, 1, 0, 0, 0, .null), (54, .iconst 3, 1, 0, 0, 0, .int 3), (55, .imul, 1, 0, 0, 0, .null), (56, .iload 4, 2, 0, 0, 0, .null), (58, .iadd, 1, 0, 0, 0, .null), (59, .aload_n 0, 1, 0, 0, 0, .null), (60, .getfield 15, 3, 1, 4, 340, .null), (63, .aload_n 0, 1, 0, 0, 0, .null)]),
  (4, [(64, .getfield 9, 3, 1, 3, 336, .null), (67, .iload_n 1, 1, 0, 0, 0, .null), (68, .iaload, 1, 0, 0, 0, .null), (69, .iconst 3, 1, 0, 0, 0, .int 3), (70, .imul, 1, 0, 0, 0, .null), (71, .iload 4, 2, 0, 0, 0, .null), (73, .iadd, 1, 0, 0, 0, .null), (74, .iaload, 1, 0, 0, 0, .null), (75, .iastore, 1, 0, 0, 0, .null), (76, .iload_n 3, 1, 0, 0, 0, .null), (77, .aload_n 0, 1, 0, 0, 0, .null), (78, .getfield 32, 3, 1, 9, 352, .null)]),
  (5, [(81, .iload_n 1, 1, 0, 0, 0, .null), (82, .iconst 3, 1, 0, 0, 0, .int 3), (83, .imul, 1, 0, 0, 0, .null), (84, .iload 4, 2, 0, 0, 0, .null), (86, .iadd, 1, 0, 0, 0, .null), (87, .iaload, 1, 0, 0, 0, .null), (88, .isub, 1, 0, 0, 0, .null), (89, .istore_n 3, 1, 0, 0, 0, .null), (90, .iinc 4 1, 3, 0, 0, 0, .int 1), (93, .goto (-50), 3, 43, 0, 0, .null)]),
  (6, [(96, .aload_n 0, 1, 0, 0, 0, .null), (97, .getfield 32, 3, 1, 9, 352, .null), (100, .iload_n 1, 1, 0, 0, 0, .null), (101, .iconst 3, 1, 0, 0, 0, .int 3), (102, .imul, 1, 0, 0, 0, .null), (103, .iload_n 2, 1, 0, 0, 0, .null), (104, .iadd, 1, 0, 0, 0, .null), (105, .iload_n 3, 1, 0, 0, 0, .null), (106, .iastore, 1, 0, 0, 0, .null), (107, .iinc 1 1, 3, 0, 0, 0, .int 1), (110, .goto (-108), 3, 2, 0, 0, .null)]),
  (7, [(113, .return_, 1, 0, 0, 0, .null)])]
def uX1_shareAtForks : List (Nat × List Nat) := [(2, [0, 1]), (43, [0, 1, 2, 3, 4])]
def qX1_bestRoad : CD := [(0, [(0, .iload_n 2, 1, 0, 0, 0, .null), (1, .iconst 1, 1, 0, 0, 0, .int 1), (2, .iadd, 1, 0, 0, 0, .null), (3, .bipush 16, 2, 0, 0, 0, .int 16), (5, .imul, 1, 0, 0, 0, .null), (6, .istore_n 3, 1, 0, 0, 0, .null), (7, .iconst 0, 1, 0, 0, 0, .int 0), (8, .istore 4, 2, 0, 0, 0, .null), (10, .iconst 1, 1, 0, 0, 0, .int 1), (11, .istore 5, 2, 0, 0, 0, .null), (13, .iload 5, 2, 0, 0, 0, .null), (15, .aload_n 0, 1, 0, 0, 0, .null)]),
  (1, [(16, .getfield 48, 3, 1, 1, 331, .null), (19, .getfield 92, 3, 3, 4, 185, .null), (22, .iload_n 1, 1, 0, 0, 0, .null), (23, .iaload, 1, 0, 0, 0, .null), (24, .if_icmp .ge 59, 3, 83, 0, 0, .null), (27, .aload_n 0, 1, 0, 0, 0, .null), (28, .getfield 22, 3, 1, 6, 344, .null), (31, .iload_n 3, 1, 0, 0, 0, .null)]),
  (2, [(32, .aload_n 0, 1, 0, 0, 0, .null), (33, .getfield 48, 3, 1, 1, 331, .null), (36, .getfield 95, 3, 3, 5, 189, .null), (39, .iload_n 1, 1, 0, 0, 0, .null), (40, .iconst 3, 1, 0, 0, 0, .int 3), (41, .imul, 1, 0, 0, 0, .null), (42, .iload 5, 2, 0, 0, 0, .null), (44, .iadd, 1, 0, 0, 0, .null), (45, .iaload, 1, 0, 0, 0, .null), (46, .iadd, 1, 0, 0, 0, .null), (47, .laload, 1, 0, 0, 0, .null)]),
  (3, [(48, .aload_n 0, 1, 0, 0, 0, .null), (49, .getfield 22, 3, 1, 6, 344, .null), (52, .iload_n 3, 1, 0, 0, 0, .null), (53, .aload_n 0, 1, 0, 0, 0, .null), (54, .getfield 48, 3, 1, 1, 331, .null), (57, .getfield 95, 3, 3, 5, 189, .null), (60, .iload_n 1, 1, 0, 0, 0, .null), (61, .iconst 3, 1, 0, 0, 0, .int 3), (62, .imul, 1, 0, 0, 0, .null), (63, .iload 4, 2, 0, 0, 0, .null)]),
  (4, [(65, .iadd, 1, 0, 0, 0, .null), (66, .iaload, 1, 0, 0, 0, .null), (67, .iadd, 1, 0, 0, 0, .null), (68, .laload, 1, 0, 0, 0, .null), (69, .lcmp, 1, 0, 0, 0, .null), (70, .ifCond .le 7, 3, 77, 0, 0, .null), (73, .iload 5, 2, 0, 0, 0, .null), (75, .istore 4, 2, 0, 0, 0, .null), (77, .iinc 5 1, 3, 0, 0, 0, .int 1)]),
  (5, [(80, .goto (-67), 3, 13, 0, 0, .null), (83, .iload 4, 2, 0, 0, 0, .null), (85, .ireturn, 1, 0, 0, 0, .null)])]
def uX1_bestRoad : List (Nat × List Nat) := [(13, [0, 1, 3, 4, 5])]
def qX1_looksAhead : CD := [(0, [(0, .iconst 0, 1, 0, 0, 0, .int 0), (1, .istore_n 1, 1, 0, 0, 0, .null), (2, .iconst 0, 1, 0, 0, 0, .int 0), (3, .istore_n 2, 1, 0, 0, 0, .null), (4, .iload_n 2, 1, 0, 0, 0, .null), (5, .aload_n 0, 1, 0, 0, 0, .null), (6, .getfield 29, 3, 1, 8, 350, .null), (9, .if_icmp .ge 42, 3, 51, 0, 0, .null), (12, .aload_n 0, 1, 0, 0, 0, .null), (13, .getfield 26, 3, 1, 7, 348, .null)]),
  (1, [(16, .iload_n 2, 1, 0, 0, 0, .null), (17, .iaload, 1, 0, 0, 0, .null), (18, .bipush 16, 2, 0, 0, 0, .int 16), (20, .irem, 1, 0, 0, 0, .null), (21, .istore_n 3, 1, 0, 0, 0, .null), (22, .aload_n 0, 1, 0, 0, 0, .null), (23, .getfield 48, 3, 1, 1, 331, .null), (26, .getfield 61, 3, 3, 1, 163, .null), (29, .iload_n 3, 1, 0, 0, 0, .null), (30, .iaload, 1, 0, 0, 0, .null), (31, .ifCond .ne 14, 3, 45, 0, 0, .null)]),
  (2, [(34, .iload_n 1, 1, 0, 0, 0, .null), (35, .iconst 1, 1, 0, 0, 0, .int 1), (36, .aload_n 0, 1, 0, 0, 0, .null), (37, .getfield 9, 3, 1, 3, 336, .null), (40, .iload_n 3, 1, 0, 0, 0, .null), (41, .iaload, 1, 0, 0, 0, .null), (42, .ishl, 1, 0, 0, 0, .null), (43, .ior, 1, 0, 0, 0, .null), (44, .istore_n 1, 1, 0, 0, 0, .null), (45, .iinc 2 1, 3, 0, 0, 0, .int 1)]),
  (3, [(48, .goto (-44), 3, 4, 0, 0, .null), (51, .iload_n 1, 1, 0, 0, 0, .null), (52, .ireturn, 1, 0, 0, 0, .null)])]
def uX1_looksAhead : List (Nat × List Nat) := [(4, [0, 1, 2])]
def qX1_countRoads : CD := [(0, [(0, .aload_n 1, 1, 0, 0, 0, .null), (1, .iconst 0, 1, 0, 0, 0, .int 0), (2, .invokestatic 79, 3, 259, 2, 857, .null), (5, .iconst 0, 1, 0, 0, 0, .int 0), (6, .istore_n 2, 1, 0, 0, 0, .null), (7, .iload_n 2, 1, 0, 0, 0, .null), (8, .aload_n 0, 1, 0, 0, 0, .null), (9, .getfield 48, 3, 1, 1, 331, .null), (12, .getfield 85, 3, 3, 0, 157, .null), (15, .if_icmp .ge 60, 3, 75, 0, 0, .null)]),
  (1, [(18, .aload_n 0, 1, 0, 0, 0, .null), (19, .getfield 48, 3, 1, 1, 331, .null), (22, .getfield 61, 3, 3, 1, 163, .null), (25, .iload_n 2, 1, 0, 0, 0, .null), (26, .iaload, 1, 0, 0, 0, .null), (27, .ifCond .ne 42, 3, 69, 0, 0, .null), (30, .aload_n 0, 1, 0, 0, 0, .null), (31, .getfield 9, 3, 1, 3, 336, .null)]),
  (2, [(34, .iload_n 2, 1, 0, 0, 0, .null), (35, .iaload, 1, 0, 0, 0, .null), (36, .aload_n 1, 1, 0, 0, 0, .null), (37, .arraylength, 1, 0, 0, 0, .null), (38, .if_icmp .ge 31, 3, 69, 0, 0, .null), (41, .aload_n 1, 1, 0, 0, 0, .null), (42, .aload_n 0, 1, 0, 0, 0, .null), (43, .getfield 9, 3, 1, 3, 336, .null), (46, .iload_n 2, 1, 0, 0, 0, .null), (47, .iaload, 1, 0, 0, 0, .null)]),
  (3, [(48, .aload_n 1, 1, 0, 0, 0, .null), (49, .aload_n 0, 1, 0, 0, 0, .null), (50, .getfield 9, 3, 1, 3, 336, .null), (53, .iload_n 2, 1, 0, 0, 0, .null), (54, .iaload, 1, 0, 0, 0, .null), (55, .iaload, 1, 0, 0, 0, .null), (56, .aload_n 0, 1, 0, 0, 0, .null), (57, .getfield 48, 3, 1, 1, 331, .null), (60, .getfield 92, 3, 3, 4, 185, .null), (63, .iload_n 2, 1, 0, 0, 0, .null)]),
  (4, [(64, .iaload, 1, 0, 0, 0, .null), (65, .invokestatic 129, 3, 9003, 102, 910, .null), (68, .iastore, 1, 0, 0, 0, .null), (69, .iinc 2 1, 3, 0, 0, 0, .int 1), (72, .goto (-65), 3, 7, 0, 0, .null), (75, .return_, 1, 0, 0, 0, .null)])]
def uX1_countRoads : List (Nat × List Nat) := [(7, [0, 1, 2])]
def qX1_goesOn : CD := [(0, [(0, .iload_n 1, 1, 0, 0, 0, .null), (1, .aload_n 0, 1, 0, 0, 0, .null), (2, .getfield 48, 3, 1, 1, 331, .null), (5, .getfield 85, 3, 3, 0, 157, .null), (8, .if_icmp .ge 33, 3, 41, 0, 0, .null), (11, .aload_n 0, 1, 0, 0, 0, .null), (12, .getfield 48, 3, 1, 1, 331, .null), (15, .getfield 61, 3, 3, 1, 163, .null)]),
  (1, [(18, .iload_n 1, 1, 0, 0, 0, .null), (19, .iaload, 1, 0, 0, 0, .null), (20, .iconst 3, 1, 0, 0, 0, .int 3), (21, .if_icmp .eq 20, 3, 41, 0, 0, .null), (24, .iload_n 2, 1, 0, 0, 0, .null), (25, .aload_n 0, 1, 0, 0, 0, .null), (26, .getfield 38, 3, 1, 0, 328, .null), (29, .getfield 71, 3, 0, 1, 286, .null)]),
  (2, [(32, .iconst 1, 1, 0, 0, 0, .int 1), (33, .iaload, 1, 0, 0, 0, .null), (34, .if_icmp .ge 7, 3, 41, 0, 0, .null), (37, .iconst 1, 1, 0, 0, 0, .int 1), (38, .goto 4, 3, 42, 0, 0, .null), (41, .iconst 0, 1, 0, 0, 0, .int 0), (42, .ireturn, 1, 0, 0, 0, .null)])]
def uX1_goesOn : List (Nat × List Nat) := []
def qX2_init : CD := [(0, [(0, .aload_n 0, 1, 0, 0, 0, .null), (1, .invokespecial 3, 3, 9001, 0, 449, .null), (4, .aload_n 0, 1, 0, 0, 0, .null), (5, .sipush 384, 3, 0, 0, 0, .int 384), (8, .newarray .long, 2, 0, 0, 0, .null), (10, .putfield 11, 3, 2, 1, 451, .null), (13, .aload_n 0, 1, 0, 0, 0, .null), (14, .sipush 384, 3, 0, 0, 0, .int 384)]),
  (1, [(17, .newarray .long, 2, 0, 0, 0, .null), (19, .putfield 15, 3, 2, 2, 452, .null), (22, .aload_n 0, 1, 0, 0, 0, .null), (23, .iconst 1, 1, 0, 0, 0, .int 1), (24, .putfield 18, 3, 2, 3, 453, .null), (27, .aload_n 0, 1, 0, 0, 0, .null), (28, .bipush 16, 2, 0, 0, 0, .int 16), (30, .newarray .long, 2, 0, 0, 0, .null)]),
  (2, [(32, .putfield 22, 3, 2, 4, 454, .null), (35, .aload_n 0, 1, 0, 0, 0, .null), (36, .lconst 0, 1, 0, 0, 0, .long 0), (37, .putfield 25, 3, 2, 5, 456, .null), (40, .aload_n 0, 1, 0, 0, 0, .null), (41, .lconst 0, 1, 0, 0, 0, .long 0), (42, .putfield 29, 3, 2, 6, 458, .null), (45, .aload_n 0, 1, 0, 0, 0, .null), (46, .aload_n 1, 1, 0, 0, 0, .null), (47, .putfield 32, 3, 2, 0, 450, .null)]),
  (3, [(50, .return_, 1, 0, 0, 0, .null)])]
def uX2_init : List (Nat × List Nat) := []
def qX2_start : CD := [(0, [(0, .aload_n 0, 1, 0, 0, 0, .null), (1, .iload_n 1, 1, 0, 0, 0, .null), (2, .putfield 18, 3, 2, 3, 453, .null), (5, .aload_n 0, 1, 0, 0, 0, .null), (6, .getfield 32, 3, 2, 0, 450, .null), (9, .invokevirtual 36, 3, 11, 1000, 1006, .null), (12, .aload_n 0, 1, 0, 0, 0, .null), (13, .getfield 11, 3, 2, 1, 451, .null)]),
  (1, [(16, .lconst 0, 1, 0, 0, 0, .long 0), (17, .invokestatic 41, 3, 258, 2, 1007, .null), (20, .aload_n 0, 1, 0, 0, 0, .null), (21, .getfield 11, 3, 2, 1, 451, .null), (24, .aload_n 0, 1, 0, 0, 0, .null), (25, .getfield 32, 3, 2, 0, 450, .null), (28, .getfield 47, 3, 1, 0, 329, .null), (31, .getfield 51, 3, 0, 1, 285, .null)]),
  (2, [(34, .iconst 0, 1, 0, 0, 0, .int 0), (35, .iaload, 1, 0, 0, 0, .null), (36, .aload_n 0, 1, 0, 0, 0, .null), (37, .getfield 18, 3, 2, 3, 453, .null), (40, .imul, 1, 0, 0, 0, .null), (41, .ldc2_w 57, 3, 0, 0, 1010, .long 10000000000), (44, .lastore, 1, 0, 0, 0, .null), (45, .return_, 1, 0, 0, 0, .null)])]
def uX2_start : List (Nat × List Nat) := []
def qX2_goOn : CD := [(0, [(0, .aload_n 0, 1, 0, 0, 0, .null), (1, .getfield 15, 3, 2, 2, 452, .null), (4, .lconst 0, 1, 0, 0, 0, .long 0), (5, .invokestatic 41, 3, 258, 2, 1007, .null), (8, .iconst 0, 1, 0, 0, 0, .int 0), (9, .istore_n 3, 1, 0, 0, 0, .null), (10, .iload_n 3, 1, 0, 0, 0, .null), (11, .bipush 16, 2, 0, 0, 0, .int 16), (13, .if_icmp .ge 93, 3, 106, 0, 0, .null)]),
  (1, [(16, .aload_n 0, 1, 0, 0, 0, .null), (17, .getfield 32, 3, 2, 0, 450, .null), (20, .iload_n 3, 1, 0, 0, 0, .null), (21, .iload_n 1, 1, 0, 0, 0, .null), (22, .invokevirtual 59, 3, 15, 1302, 1011, .null), (25, .ifCond .ne 6, 3, 31, 0, 0, .null), (28, .goto 72, 3, 100, 0, 0, .null), (31, .aload_n 0, 1, 0, 0, 0, .null)]),
  (2, [(32, .getfield 32, 3, 2, 0, 450, .null), (35, .getfield 63, 3, 1, 1, 332, .null), (38, .getfield 67, 3, 3, 1, 165, .null), (41, .iload_n 3, 1, 0, 0, 0, .null), (42, .iaload, 1, 0, 0, 0, .null), (43, .ifCond .ne 36, 3, 79, 0, 0, .null), (46, .aload_n 0, 1, 0, 0, 0, .null), (47, .getfield 32, 3, 2, 0, 450, .null)]),
  (3, [(50, .getfield 72, 3, 1, 3, 337, .null), (53, .iload_n 3, 1, 0, 0, 0, .null), (54, .iaload, 1, 0, 0, 0, .null), (55, .iload_n 2, 1, 0, 0, 0, .null), (56, .if_icmp .ne 23, 3, 79, 0, 0, .null), (59, .aload_n 0, 1, 0, 0, 0, .null), (60, .getfield 32, 3, 2, 0, 450, .null), (63, .getfield 63, 3, 1, 1, 332, .null)]),
  (4, [(66, .getfield 75, 3, 3, 4, 183, .null), (69, .iload_n 3, 1, 0, 0, 0, .null), (70, .iaload, 1, 0, 0, 0, .null), (71, .iconst 1, 1, 0, 0, 0, .int 1), (72, .if_icmp .le 7, 3, 79, 0, 0, .null), (75, .iconst 1, 1, 0, 0, 0, .int 1), (76, .goto 4, 3, 80, 0, 0, .null), (79, .iconst 0, 1, 0, 0, 0, .int 0)]),
  (5, [(80, .istore 4, 2, 0, 0, 0, .null), (82, .iload 4, 2, 0, 0, 0, .null), (84, .ifCond .eq 11, 3, 95, 0, 0, .null), (87, .aload_n 0, 1, 0, 0, 0, .null), (88, .iload_n 3, 1, 0, 0, 0, .null), (89, .invokevirtual 78, 3, 20, 2001, 1019, .null), (92, .goto 8, 3, 100, 0, 0, .null), (95, .aload_n 0, 1, 0, 0, 0, .null)]),
  (6, [(96, .iload_n 3, 1, 0, 0, 0, .null), (97, .invokevirtual 82, 3, 19, 2001, 1023, .null), (100, .iinc 3 1, 3, 0, 0, 0, .int 1), (103, .goto (-93), 3, 10, 0, 0, .null), (106, .aload_n 0, 1, 0, 0, 0, .null), (107, .getfield 11, 3, 2, 1, 451, .null), (110, .astore_n 3, 1, 0, 0, 0, .null), (111, .aload_n 0, 1, 0, 0, 0, .null)]),
  (7, [(112, .aload_n 0, 1, 0, 0, 0, .null), (113, .getfield 15, 3, 2, 2, 452, .null), (116, .putfield 11, 3, 2, 1, 451, .null), (119, .aload_n 0, 1, 0, 0, 0, .null), (120, .aload_n 3, 1, 0, 0, 0, .null), (121, .putfield 15, 3, 2, 2, 452, .null), (124, .return_, 1, 0, 0, 0, .null)])]
def uX2_goOn : List (Nat × List Nat) := [(10, [0, 1, 2, 3]), (82, [0, 1, 2, 3, 4])]
def qX2_passRow : CD := [(0, [(0, .iconst 0, 1, 0, 0, 0, .int 0), (1, .istore_n 2, 1, 0, 0, 0, .null), (2, .iload_n 2, 1, 0, 0, 0, .null), (3, .aload_n 0, 1, 0, 0, 0, .null), (4, .getfield 32, 3, 2, 0, 450, .null), (7, .getfield 63, 3, 1, 1, 332, .null), (10, .getfield 75, 3, 3, 4, 183, .null), (13, .iload_n 1, 1, 0, 0, 0, .null), (14, .iaload, 1, 0, 0, 0, .null), (15, .if_icmp .ge 98, 3, 113, 0, 0, .null)]),
  (1, [(18, .aload_n 0, 1, 0, 0, 0, .null), (19, .getfield 32, 3, 2, 0, 450, .null), (22, .getfield 85, 3, 1, 9, 353, .null), (25, .iload_n 1, 1, 0, 0, 0, .null), (26, .iconst 3, 1, 0, 0, 0, .int 3), (27, .imul, 1, 0, 0, 0, .null), (28, .iload_n 2, 1, 0, 0, 0, .null), (29, .iadd, 1, 0, 0, 0, .null), (30, .iaload, 1, 0, 0, 0, .null), (31, .istore_n 3, 1, 0, 0, 0, .null)]),
  (2, [(32, .aload_n 0, 1, 0, 0, 0, .null), (33, .getfield 32, 3, 2, 0, 450, .null), (36, .getfield 63, 3, 1, 1, 332, .null), (39, .getfield 88, 3, 3, 5, 190, .null), (42, .iload_n 1, 1, 0, 0, 0, .null), (43, .iconst 3, 1, 0, 0, 0, .int 3), (44, .imul, 1, 0, 0, 0, .null), (45, .iload_n 2, 1, 0, 0, 0, .null), (46, .iadd, 1, 0, 0, 0, .null), (47, .iaload, 1, 0, 0, 0, .null)]),
  (3, [(48, .aload_n 0, 1, 0, 0, 0, .null), (49, .getfield 18, 3, 2, 3, 453, .null), (52, .imul, 1, 0, 0, 0, .null), (53, .istore 4, 2, 0, 0, 0, .null), (55, .iconst 0, 1, 0, 0, 0, .int 0), (56, .istore 5, 2, 0, 0, 0, .null), (58, .iload 5, 2, 0, 0, 0, .null), (60, .aload_n 0, 1, 0, 0, 0, .null), (61, .getfield 18, 3, 2, 3, 453, .null)]),
  (4, [(64, .if_icmp .ge 43, 3, 107, 0, 0, .null), (67, .aload_n 0, 1, 0, 0, 0, .null), (68, .getfield 15, 3, 2, 2, 452, .null), (71, .iload 4, 2, 0, 0, 0, .null), (73, .iload 5, 2, 0, 0, 0, .null), (75, .iadd, 1, 0, 0, 0, .null), (76, .dup2, 1, 0, 0, 0, .null), (77, .laload, 1, 0, 0, 0, .null), (78, .aload_n 0, 1, 0, 0, 0, .null), (79, .getfield 11, 3, 2, 1, 451, .null)]),
  (5, [(82, .iload_n 1, 1, 0, 0, 0, .null), (83, .aload_n 0, 1, 0, 0, 0, .null), (84, .getfield 18, 3, 2, 3, 453, .null), (87, .imul, 1, 0, 0, 0, .null), (88, .iload 5, 2, 0, 0, 0, .null), (90, .iadd, 1, 0, 0, 0, .null), (91, .laload, 1, 0, 0, 0, .null), (92, .ldc2_w 91, 3, 0, 0, 1027, .long 10), (95, .ldiv, 1, 0, 0, 0, .null)]),
  (6, [(96, .iload_n 3, 1, 0, 0, 0, .null), (97, .i2l, 1, 0, 0, 0, .null), (98, .lmul, 1, 0, 0, 0, .null), (99, .ladd, 1, 0, 0, 0, .null), (100, .lastore, 1, 0, 0, 0, .null), (101, .iinc 5 1, 3, 0, 0, 0, .int 1), (104, .goto (-46), 3, 58, 0, 0, .null), (107, .iinc 2 1, 3, 0, 0, 0, .int 1), (110, .goto (-108), 3, 2, 0, 0, .null)]),
  (7, [(113, .return_, 1, 0, 0, 0, .null)])]
def uX2_passRow : List (Nat × List Nat) := [(2, [0, 1, 2]), (58, [0, 1, 2, 3, 4, 5])]
def qX2_passOpen : CD := [(0, [(0, .aload_n 0, 1, 0, 0, 0, .null), (1, .getfield 32, 3, 2, 0, 450, .null), (4, .getfield 63, 3, 1, 1, 332, .null), (7, .getfield 88, 3, 3, 5, 190, .null), (10, .iload_n 1, 1, 0, 0, 0, .null), (11, .iconst 3, 1, 0, 0, 0, .int 3), (12, .imul, 1, 0, 0, 0, .null), (13, .iaload, 1, 0, 0, 0, .null), (14, .aload_n 0, 1, 0, 0, 0, .null), (15, .getfield 18, 3, 2, 3, 453, .null)]),
  (1, [(18, .imul, 1, 0, 0, 0, .null), (19, .istore_n 2, 1, 0, 0, 0, .null), (20, .aload_n 0, 1, 0, 0, 0, .null), (21, .getfield 32, 3, 2, 0, 450, .null), (24, .getfield 63, 3, 1, 1, 332, .null), (27, .getfield 88, 3, 3, 5, 190, .null), (30, .iload_n 1, 1, 0, 0, 0, .null), (31, .iconst 3, 1, 0, 0, 0, .int 3)]),
  (2, [(32, .imul, 1, 0, 0, 0, .null), (33, .iconst 1, 1, 0, 0, 0, .int 1), (34, .iadd, 1, 0, 0, 0, .null), (35, .iaload, 1, 0, 0, 0, .null), (36, .aload_n 0, 1, 0, 0, 0, .null), (37, .getfield 18, 3, 2, 3, 453, .null), (40, .imul, 1, 0, 0, 0, .null), (41, .istore_n 3, 1, 0, 0, 0, .null), (42, .iconst 0, 1, 0, 0, 0, .int 0), (43, .istore 4, 2, 0, 0, 0, .null), (45, .iload 4, 2, 0, 0, 0, .null), (47, .aload_n 0, 1, 0, 0, 0, .null)]),
  (3, [(48, .getfield 18, 3, 2, 3, 453, .null), (51, .iconst 1, 1, 0, 0, 0, .int 1), (52, .isub, 1, 0, 0, 0, .null), (53, .if_icmp .ge 71, 3, 124, 0, 0, .null), (56, .aload_n 0, 1, 0, 0, 0, .null), (57, .getfield 11, 3, 2, 1, 451, .null), (60, .iload_n 1, 1, 0, 0, 0, .null), (61, .aload_n 0, 1, 0, 0, 0, .null), (62, .getfield 18, 3, 2, 3, 453, .null)]),
  (4, [(65, .imul, 1, 0, 0, 0, .null), (66, .iload 4, 2, 0, 0, 0, .null), (68, .iadd, 1, 0, 0, 0, .null), (69, .laload, 1, 0, 0, 0, .null), (70, .lstore 5, 2, 0, 0, 0, .null), (72, .aload_n 0, 1, 0, 0, 0, .null), (73, .getfield 15, 3, 2, 2, 452, .null), (76, .iload_n 2, 1, 0, 0, 0, .null), (77, .iload 4, 2, 0, 0, 0, .null), (79, .iadd, 1, 0, 0, 0, .null)]),
  (5, [(80, .iconst 1, 1, 0, 0, 0, .int 1), (81, .iadd, 1, 0, 0, 0, .null), (82, .dup2, 1, 0, 0, 0, .null), (83, .laload, 1, 0, 0, 0, .null), (84, .lload 5, 2, 0, 0, 0, .null), (86, .ladd, 1, 0, 0, 0, .null), (87, .lastore, 1, 0, 0, 0, .null), (88, .aload_n 0, 1, 0, 0, 0, .null), (89, .getfield 15, 3, 2, 2, 452, .null), (92, .iload_n 3, 1, 0, 0, 0, .null), (93, .iload 4, 2, 0, 0, 0, .null), (95, .iadd, 1, 0, 0, 0, .null)]),
  (6, [(96, .dup2, 1, 0, 0, 0, .null), (97, .laload, 1, 0, 0, 0, .null), (98, .lload 5, 2, 0, 0, 0, .null), (100, .ladd, 1, 0, 0, 0, .null), (101, .lastore, 1, 0, 0, 0, .null), (102, .aload_n 0, 1, 0, 0, 0, .null), (103, .getfield 15, 3, 2, 2, 452, .null), (106, .iload_n 3, 1, 0, 0, 0, .null), (107, .iload 4, 2, 0, 0, 0, .null), (109, .iadd, 1, 0, 0, 0, .null), (110, .iconst 1, 1, 0, 0, 0, .int 1), (111, .iadd, 1, 0, 0, 0, .null)]),
  (7, [(112, .dup2, 1, 0, 0, 0, .null), (113, .laload, 1, 0, 0, 0, .null), (114, .lload 5, 2, 0, 0, 0, .null), (116, .lsub, 1, 0, 0, 0, .null), (117, .lastore, 1, 0, 0, 0, .null), (118, .iinc 4 1, 3, 0, 0, 0, .int 1), (121, .goto (-76), 3, 45, 0, 0, .null), (124, .return_, 1, 0, 0, 0, .null)])]
def uX2_passOpen : List (Nat × List Nat) := [(45, [0, 1, 2, 3, 4])]
def qX2_countVisits : CD := [(0, [(0, .aload_n 0, 1, 0, 0, 0, .null), (1, .getfield 22, 3, 2, 4, 454, .null), (4, .lconst 0, 1, 0, 0, 0, .long 0), (5, .invokestatic 41, 3, 258, 2, 1007, .null), (8, .aload_n 0, 1, 0, 0, 0, .null), (9, .lconst 0, 1, 0, 0, 0, .long 0), (10, .putfield 25, 3, 2, 5, 456, .null), (13, .aload_n 0, 1, 0, 0, 0, .null), (14, .lconst 0, 1, 0, 0, 0, .long 0), (15, .putfield 29, 3, 2, 6, 458, .null)]),
  (1, [(18, .aload_n 0, 1, 0, 0, 0, .null), (19, .iconst 1, 1, 0, 0, 0, .int 1), (20, .invokevirtual 93, 3, 17, 2001, 1002, .null), (23, .aload_n 0, 1, 0, 0, 0, .null), (24, .getfield 32, 3, 2, 0, 450, .null), (27, .getfield 47, 3, 1, 0, 329, .null), (30, .getfield 51, 3, 0, 1, 285, .null)]),
  (2, [(33, .iconst 1, 1, 0, 0, 0, .int 1), (34, .iaload, 1, 0, 0, 0, .null), (35, .istore_n 1, 1, 0, 0, 0, .null), (36, .iconst 0, 1, 0, 0, 0, .int 0), (37, .istore_n 2, 1, 0, 0, 0, .null), (38, .iload_n 2, 1, 0, 0, 0, .null), (39, .iload_n 1, 1, 0, 0, 0, .null), (40, .if_icmp .gt 112, 3, 152, 0, 0, .null), (43, .iconst 0, 1, 0, 0, 0, .int 0), (44, .istore_n 3, 1, 0, 0, 0, .null), (45, .iload_n 3, 1, 0, 0, 0, .null), (46, .bipush 16, 2, 0, 0, 0, .int 16)]),
  (3, [(48, .if_icmp .ge 92, 3, 140, 0, 0, .null), (51, .aload_n 0, 1, 0, 0, 0, .null), (52, .getfield 22, 3, 2, 4, 454, .null), (55, .iload_n 3, 1, 0, 0, 0, .null), (56, .dup2, 1, 0, 0, 0, .null), (57, .laload, 1, 0, 0, 0, .null), (58, .aload_n 0, 1, 0, 0, 0, .null), (59, .getfield 11, 3, 2, 1, 451, .null), (62, .iload_n 3, 1, 0, 0, 0, .null), (63, .laload, 1, 0, 0, 0, .null)]),
  (4, [(64, .ladd, 1, 0, 0, 0, .null), (65, .lastore, 1, 0, 0, 0, .null), (66, .iload_n 3, 1, 0, 0, 0, .null), (67, .aload_n 0, 1, 0, 0, 0, .null), (68, .getfield 32, 3, 2, 0, 450, .null), (71, .getfield 63, 3, 1, 1, 332, .null), (74, .getfield 96, 3, 3, 0, 160, .null), (77, .if_icmp .lt 21, 3, 98, 0, 0, .null)]),
  (5, [(80, .aload_n 0, 1, 0, 0, 0, .null), (81, .dup, 1, 0, 0, 0, .null), (82, .getfield 29, 3, 2, 6, 458, .null), (85, .aload_n 0, 1, 0, 0, 0, .null), (86, .getfield 11, 3, 2, 1, 451, .null), (89, .iload_n 3, 1, 0, 0, 0, .null), (90, .laload, 1, 0, 0, 0, .null), (91, .ladd, 1, 0, 0, 0, .null), (92, .putfield 29, 3, 2, 6, 458, .null), (95, .goto 39, 3, 134, 0, 0, .null)]),
  (6, [(98, .iload_n 2, 1, 0, 0, 0, .null), (99, .iload_n 1, 1, 0, 0, 0, .null), (100, .if_icmp .ne 34, 3, 134, 0, 0, .null), (103, .aload_n 0, 1, 0, 0, 0, .null), (104, .getfield 32, 3, 2, 0, 450, .null), (107, .getfield 63, 3, 1, 1, 332, .null), (110, .getfield 67, 3, 3, 1, 165, .null)]),
  (7, [(113, .iload_n 3, 1, 0, 0, 0, .null), (114, .iaload, 1, 0, 0, 0, .null), (115, .iconst 3, 1, 0, 0, 0, .int 3), (116, .if_icmp .eq 18, 3, 134, 0, 0, .null), (119, .aload_n 0, 1, 0, 0, 0, .null), (120, .dup, 1, 0, 0, 0, .null), (121, .getfield 25, 3, 2, 5, 456, .null), (124, .aload_n 0, 1, 0, 0, 0, .null), (125, .getfield 11, 3, 2, 1, 451, .null)]),
  (8, [(128, .iload_n 3, 1, 0, 0, 0, .null), (129, .laload, 1, 0, 0, 0, .null), (130, .ladd, 1, 0, 0, 0, .null), (131, .putfield 25, 3, 2, 5, 456, .null), (134, .iinc 3 1, 3, 0, 0, 0, .int 1), (137, .goto (-92), 3, 45, 0, 0, .null), (140, .aload_n 0, 1, 0, 0, 0, .null), (141, .iload_n 2, 1, 0, 0, 0, .null), (142, .iconst (-1), 1, 0, 0, 0, .int (-1)), (143, .invokevirtual 99, 3, 18, 2002, 1015, .null)]),
  (9, [(146, .iinc 2 1, 3, 0, 0, 0, .int 1), (149, .goto (-111), 3, 38, 0, 0, .null), (152, .return_, 1, 0, 0, 0, .null)])]
def uX2_countVisits : List (Nat × List Nat) := [(38, [0, 1, 2]), (45, [0, 1, 2, 3])]
def qX2_seenAlike : CD := [(0, [(0, .lconst 0, 1, 0, 0, 0, .long 0), (1, .lstore_n 2, 1, 0, 0, 0, .null), (2, .iconst 0, 1, 0, 0, 0, .int 0), (3, .istore 4, 2, 0, 0, 0, .null), (5, .iload 4, 2, 0, 0, 0, .null), (7, .aload_n 0, 1, 0, 0, 0, .null), (8, .getfield 32, 3, 2, 0, 450, .null), (11, .getfield 63, 3, 1, 1, 332, .null), (14, .getfield 96, 3, 3, 0, 160, .null)]),
  (1, [(17, .if_icmp .ge 29, 3, 46, 0, 0, .null), (20, .aload_n 0, 1, 0, 0, 0, .null), (21, .iload 4, 2, 0, 0, 0, .null), (23, .iload_n 1, 1, 0, 0, 0, .null), (24, .invokevirtual 103, 3, 23, 2302, 1146, .null), (27, .ifCond .eq 13, 3, 40, 0, 0, .null), (30, .lload_n 2, 1, 0, 0, 0, .null), (31, .aload_n 0, 1, 0, 0, 0, .null)]),
  (2, [(32, .getfield 22, 3, 2, 4, 454, .null), (35, .iload 4, 2, 0, 0, 0, .null), (37, .laload, 1, 0, 0, 0, .null), (38, .ladd, 1, 0, 0, 0, .null), (39, .lstore_n 2, 1, 0, 0, 0, .null), (40, .iinc 4 1, 3, 0, 0, 0, .int 1), (43, .goto (-38), 3, 5, 0, 0, .null), (46, .lload_n 2, 1, 0, 0, 0, .null), (47, .lreturn, 1, 0, 0, 0, .null)])]
def uX2_seenAlike : List (Nat × List Nat) := [(5, [0, 1, 2, 4])]
def qX2_looksLike : CD := [(0, [(0, .aload_n 0, 1, 0, 0, 0, .null), (1, .getfield 32, 3, 2, 0, 450, .null), (4, .getfield 63, 3, 1, 1, 332, .null), (7, .iload_n 1, 1, 0, 0, 0, .null), (8, .iconst 0, 1, 0, 0, 0, .int 0), (9, .invokevirtual 106, 3, 32, 3302, 1150, .null), (12, .ifCond .eq 28, 3, 40, 0, 0, .null), (15, .aload_n 0, 1, 0, 0, 0, .null)]),
  (1, [(16, .getfield 32, 3, 2, 0, 450, .null), (19, .getfield 72, 3, 1, 3, 337, .null), (22, .iload_n 1, 1, 0, 0, 0, .null), (23, .iaload, 1, 0, 0, 0, .null), (24, .aload_n 0, 1, 0, 0, 0, .null), (25, .getfield 32, 3, 2, 0, 450, .null), (28, .getfield 72, 3, 1, 3, 337, .null), (31, .iload_n 2, 1, 0, 0, 0, .null)]),
  (2, [(32, .iaload, 1, 0, 0, 0, .null), (33, .if_icmp .ne 7, 3, 40, 0, 0, .null), (36, .iconst 1, 1, 0, 0, 0, .int 1), (37, .goto 4, 3, 41, 0, 0, .null), (40, .iconst 0, 1, 0, 0, 0, .int 0), (41, .ireturn, 1, 0, 0, 0, .null)])]
def uX2_looksLike : List (Nat × List Nat) := []
def qX2_secondBelief : CD := [(0, [(0, .aload_n 0, 1, 0, 0, 0, .null), (1, .bipush 24, 2, 0, 0, 0, .int 24), (3, .invokevirtual 93, 3, 17, 2001, 1002, .null), (6, .lconst 0, 1, 0, 0, 0, .long 0), (7, .lstore_n 2, 1, 0, 0, 0, .null), (8, .lconst 0, 1, 0, 0, 0, .long 0), (9, .lstore 4, 2, 0, 0, 0, .null), (11, .aload_n 0, 1, 0, 0, 0, .null), (12, .getfield 32, 3, 2, 0, 450, .null), (15, .getfield 47, 3, 1, 0, 329, .null)]),
  (1, [(18, .getfield 51, 3, 0, 1, 285, .null), (21, .iconst 1, 1, 0, 0, 0, .int 1), (22, .iaload, 1, 0, 0, 0, .null), (23, .istore 6, 2, 0, 0, 0, .null), (25, .iconst 0, 1, 0, 0, 0, .int 0), (26, .istore 7, 2, 0, 0, 0, .null), (28, .iload 7, 2, 0, 0, 0, .null), (30, .iload 6, 2, 0, 0, 0, .null)]),
  (2, [(32, .if_icmp .gt 134, 3, 166, 0, 0, .null), (35, .iconst 0, 1, 0, 0, 0, .int 0), (36, .istore 8, 2, 0, 0, 0, .null), (38, .iload 8, 2, 0, 0, 0, .null), (40, .bipush 16, 2, 0, 0, 0, .int 16), (42, .if_icmp .ge 111, 3, 153, 0, 0, .null), (45, .aload_n 0, 1, 0, 0, 0, .null), (46, .iload 8, 2, 0, 0, 0, .null)]),
  (3, [(48, .iload_n 1, 1, 0, 0, 0, .null), (49, .invokevirtual 103, 3, 23, 2302, 1146, .null), (52, .ifCond .eq 20, 3, 72, 0, 0, .null), (55, .aload_n 0, 1, 0, 0, 0, .null), (56, .iload 8, 2, 0, 0, 0, .null), (58, .iload 8, 2, 0, 0, 0, .null), (60, .iload_n 1, 1, 0, 0, 0, .null), (61, .if_icmp .ne 7, 3, 68, 0, 0, .null)]),
  (4, [(64, .iconst 1, 1, 0, 0, 0, .int 1), (65, .goto 4, 3, 69, 0, 0, .null), (68, .iconst 0, 1, 0, 0, 0, .int 0), (69, .invokevirtual 109, 3, 25, 2002, 1151, .null), (72, .aload_n 0, 1, 0, 0, 0, .null), (73, .getfield 32, 3, 2, 0, 450, .null), (76, .iload 8, 2, 0, 0, 0, .null), (78, .iload 7, 2, 0, 0, 0, .null)]),
  (5, [(80, .invokevirtual 59, 3, 15, 1302, 1011, .null), (83, .ifCond .ne 64, 3, 147, 0, 0, .null), (86, .iconst 1, 1, 0, 0, 0, .int 1), (87, .istore 9, 2, 0, 0, 0, .null), (89, .iload 9, 2, 0, 0, 0, .null), (91, .bipush 12, 2, 0, 0, 0, .int 12), (93, .if_icmp .ge 54, 3, 147, 0, 0, .null)]),
  (6, [(96, .lload_n 2, 1, 0, 0, 0, .null), (97, .aload_n 0, 1, 0, 0, 0, .null), (98, .getfield 11, 3, 2, 1, 451, .null), (101, .iload 8, 2, 0, 0, 0, .null), (103, .bipush 24, 2, 0, 0, 0, .int 24), (105, .imul, 1, 0, 0, 0, .null), (106, .iload 9, 2, 0, 0, 0, .null), (108, .iadd, 1, 0, 0, 0, .null), (109, .laload, 1, 0, 0, 0, .null), (110, .ladd, 1, 0, 0, 0, .null), (111, .lstore_n 2, 1, 0, 0, 0, .null)]),
  (7, [(112, .lload 4, 2, 0, 0, 0, .null), (114, .aload_n 0, 1, 0, 0, 0, .null), (115, .getfield 11, 3, 2, 1, 451, .null), (118, .iload 8, 2, 0, 0, 0, .null), (120, .bipush 24, 2, 0, 0, 0, .int 24), (122, .imul, 1, 0, 0, 0, .null), (123, .bipush 12, 2, 0, 0, 0, .int 12), (125, .iadd, 1, 0, 0, 0, .null), (126, .iload 9, 2, 0, 0, 0, .null)]),
  (8, [(128, .iadd, 1, 0, 0, 0, .null), (129, .laload, 1, 0, 0, 0, .null), (130, .ldc2_w 113, 3, 0, 0, 1155, .long 27720), (133, .iload 9, 2, 0, 0, 0, .null), (135, .i2l, 1, 0, 0, 0, .null), (136, .ldiv, 1, 0, 0, 0, .null), (137, .lmul, 1, 0, 0, 0, .null), (138, .ladd, 1, 0, 0, 0, .null), (139, .lstore 4, 2, 0, 0, 0, .null), (141, .iinc 9 1, 3, 0, 0, 0, .int 1)]),
  (9, [(144, .goto (-55), 3, 89, 0, 0, .null), (147, .iinc 8 1, 3, 0, 0, 0, .int 1), (150, .goto (-112), 3, 38, 0, 0, .null), (153, .aload_n 0, 1, 0, 0, 0, .null), (154, .iload 7, 2, 0, 0, 0, .null), (156, .iconst (-1), 1, 0, 0, 0, .int (-1)), (157, .invokevirtual 99, 3, 18, 2002, 1015, .null)]),
  (10, [(160, .iinc 7 1, 3, 0, 0, 0, .int 1), (163, .goto (-135), 3, 28, 0, 0, .null), (166, .lload 4, 2, 0, 0, 0, .null), (168, .lload_n 2, 1, 0, 0, 0, .null), (169, .ldc2_w 113, 3, 0, 0, 1155, .long 27720), (172, .lmul, 1, 0, 0, 0, .null), (173, .invokestatic 115, 3, 26, 102, 1156, .null)]),
  (11, [(176, .ireturn, 1, 0, 0, 0, .null)])]
def uX2_secondBelief : List (Nat × List Nat) := [(28, [0, 1, 2, 4, 6, 7]), (38, [0, 1, 2, 4, 6, 7, 8]), (89, [0, 1, 2, 4, 6, 7, 8, 9])]
def qX2_countOne : CD := [(0, [(0, .iload_n 1, 1, 0, 0, 0, .null), (1, .bipush 24, 2, 0, 0, 0, .int 24), (3, .imul, 1, 0, 0, 0, .null), (4, .istore_n 3, 1, 0, 0, 0, .null), (5, .bipush 11, 2, 0, 0, 0, .int 11), (7, .istore 4, 2, 0, 0, 0, .null), (9, .iload 4, 2, 0, 0, 0, .null), (11, .ifCond .le 73, 3, 84, 0, 0, .null), (14, .aload_n 0, 1, 0, 0, 0, .null), (15, .getfield 11, 3, 2, 1, 451, .null)]),
  (1, [(18, .iload_n 3, 1, 0, 0, 0, .null), (19, .iload 4, 2, 0, 0, 0, .null), (21, .iadd, 1, 0, 0, 0, .null), (22, .aload_n 0, 1, 0, 0, 0, .null), (23, .getfield 11, 3, 2, 1, 451, .null), (26, .iload_n 3, 1, 0, 0, 0, .null), (27, .iload 4, 2, 0, 0, 0, .null), (29, .iadd, 1, 0, 0, 0, .null), (30, .iconst 1, 1, 0, 0, 0, .int 1), (31, .isub, 1, 0, 0, 0, .null)]),
  (2, [(32, .laload, 1, 0, 0, 0, .null), (33, .lastore, 1, 0, 0, 0, .null), (34, .aload_n 0, 1, 0, 0, 0, .null), (35, .getfield 11, 3, 2, 1, 451, .null), (38, .iload_n 3, 1, 0, 0, 0, .null), (39, .bipush 12, 2, 0, 0, 0, .int 12), (41, .iadd, 1, 0, 0, 0, .null), (42, .iload 4, 2, 0, 0, 0, .null), (44, .iadd, 1, 0, 0, 0, .null), (45, .aload_n 0, 1, 0, 0, 0, .null), (46, .getfield 11, 3, 2, 1, 451, .null)]),
  (3, [(49, .iload_n 3, 1, 0, 0, 0, .null), (50, .bipush 12, 2, 0, 0, 0, .int 12), (52, .iadd, 1, 0, 0, 0, .null), (53, .iload 4, 2, 0, 0, 0, .null), (55, .iadd, 1, 0, 0, 0, .null), (56, .iconst 1, 1, 0, 0, 0, .int 1), (57, .isub, 1, 0, 0, 0, .null), (58, .laload, 1, 0, 0, 0, .null), (59, .iload_n 2, 1, 0, 0, 0, .null), (60, .ifCond .eq 15, 3, 75, 0, 0, .null), (63, .aload_n 0, 1, 0, 0, 0, .null)]),
  (4, [(64, .getfield 11, 3, 2, 1, 451, .null), (67, .iload_n 3, 1, 0, 0, 0, .null), (68, .iload 4, 2, 0, 0, 0, .null), (70, .iadd, 1, 0, 0, 0, .null), (71, .laload, 1, 0, 0, 0, .null), (72, .goto 4, 3, 76, 0, 0, .null), (75, .lconst 0, 1, 0, 0, 0, .long 0), (76, .ladd, 1, 0, 0, 0, .null), (77, .lastore, 1, 0, 0, 0, .null), (78, .iinc 4 (-1), 3, 0, 0, 0, .int (-1))]),
  (5, [(81, .goto (-72), 3, 9, 0, 0, .null), (84, .aload_n 0, 1, 0, 0, 0, .null), (85, .getfield 11, 3, 2, 1, 451, .null), (88, .iload_n 3, 1, 0, 0, 0, .null), (89, .lconst 0, 1, 0, 0, 0, .long 0), (90, .lastore, 1, 0, 0, 0, .null), (91, .aload_n 0, 1, 0, 0, 0, .null), (92, .getfield 11, 3, 2, 1, 451, .null), (95, .iload_n 3, 1, 0, 0, 0, .null)]),
  (6, [(96, .bipush 12, 2, 0, 0, 0, .int 12), (98, .iadd, 1, 0, 0, 0, .null), (99, .lconst 0, 1, 0, 0, 0, .long 0), (100, .lastore, 1, 0, 0, 0, .null), (101, .return_, 1, 0, 0, 0, .null)])]
def uX2_countOne : List (Nat × List Nat) := [(9, [0, 2, 3, 4])]
def qX2_millionths : CD := [(0, [(0, .lload_n 2, 1, 0, 0, 0, .null), (1, .lconst 0, 1, 0, 0, 0, .long 0), (2, .lcmp, 1, 0, 0, 0, .null), (3, .ifCond .ne 5, 3, 8, 0, 0, .null), (6, .iconst (-1), 1, 0, 0, 0, .int (-1)), (7, .ireturn, 1, 0, 0, 0, .null), (8, .lload_n 0, 1, 0, 0, 0, .null), (9, .lload_n 2, 1, 0, 0, 0, .null), (10, .ldiv, 1, 0, 0, 0, .null), (11, .lstore 4, 2, 0, 0, 0, .null), (13, .lload_n 0, 1, 0, 0, 0, .null), (14, .lload_n 2, 1, 0, 0, 0, .null), (15, .lrem, 1, 0, 0, 0, .null)]),
  (1, [(16, .lstore 6, 2, 0, 0, 0, .null), (18, .iconst 0, 1, 0, 0, 0, .int 0), (19, .istore 8, 2, 0, 0, 0, .null), (21, .iload 8, 2, 0, 0, 0, .null), (23, .bipush 6, 2, 0, 0, 0, .int 6), (25, .if_icmp .ge 36, 3, 61, 0, 0, .null), (28, .lload 6, 2, 0, 0, 0, .null), (30, .ldc2_w 91, 3, 0, 0, 1027, .long 10)]),
  (2, [(33, .lmul, 1, 0, 0, 0, .null), (34, .lstore 6, 2, 0, 0, 0, .null), (36, .lload 4, 2, 0, 0, 0, .null), (38, .ldc2_w 91, 3, 0, 0, 1027, .long 10), (41, .lmul, 1, 0, 0, 0, .null), (42, .lload 6, 2, 0, 0, 0, .null), (44, .lload_n 2, 1, 0, 0, 0, .null), (45, .ldiv, 1, 0, 0, 0, .null), (46, .ladd, 1, 0, 0, 0, .null), (47, .lstore 4, 2, 0, 0, 0, .null)]),
  (3, [(49, .lload 6, 2, 0, 0, 0, .null), (51, .lload_n 2, 1, 0, 0, 0, .null), (52, .lrem, 1, 0, 0, 0, .null), (53, .lstore 6, 2, 0, 0, 0, .null), (55, .iinc 8 1, 3, 0, 0, 0, .int 1), (58, .goto (-37), 3, 21, 0, 0, .null), (61, .lload 4, 2, 0, 0, 0, .null), (63, .l2i, 1, 0, 0, 0, .null)]),
  (4, [(64, .ireturn, 1, 0, 0, 0, .null)])]
def uX2_millionths : List (Nat × List Nat) := [(21, [2, 4, 6, 8])]
def qX2_factor : CD := [(0, [(0, .aload_n 0, 1, 0, 0, 0, .null), (1, .bipush 11, 2, 0, 0, 0, .int 11), (3, .invokevirtual 93, 3, 17, 2001, 1002, .null), (6, .lconst 0, 1, 0, 0, 0, .long 0), (7, .lstore_n 3, 1, 0, 0, 0, .null), (8, .aload_n 0, 1, 0, 0, 0, .null), (9, .getfield 32, 3, 2, 0, 450, .null), (12, .getfield 47, 3, 1, 0, 329, .null), (15, .getfield 51, 3, 0, 1, 285, .null)]),
  (1, [(18, .iconst 1, 1, 0, 0, 0, .int 1), (19, .iaload, 1, 0, 0, 0, .null), (20, .istore 5, 2, 0, 0, 0, .null), (22, .iconst 0, 1, 0, 0, 0, .int 0), (23, .istore 6, 2, 0, 0, 0, .null), (25, .iload 6, 2, 0, 0, 0, .null), (27, .iload 5, 2, 0, 0, 0, .null), (29, .if_icmp .gt 104, 3, 133, 0, 0, .null)]),
  (2, [(32, .iconst 0, 1, 0, 0, 0, .int 0), (33, .istore 7, 2, 0, 0, 0, .null), (35, .iload 7, 2, 0, 0, 0, .null), (37, .bipush 16, 2, 0, 0, 0, .int 16), (39, .if_icmp .ge 81, 3, 120, 0, 0, .null), (42, .aload_n 0, 1, 0, 0, 0, .null), (43, .getfield 32, 3, 2, 0, 450, .null), (46, .iload 7, 2, 0, 0, 0, .null)]),
  (3, [(48, .iload 6, 2, 0, 0, 0, .null), (50, .invokevirtual 59, 3, 15, 1302, 1011, .null), (53, .ifCond .eq 21, 3, 74, 0, 0, .null), (56, .aload_n 0, 1, 0, 0, 0, .null), (57, .getfield 32, 3, 2, 0, 450, .null), (60, .getfield 63, 3, 1, 1, 332, .null), (63, .getfield 119, 3, 3, 3, 180, .null)]),
  (4, [(66, .iload 7, 2, 0, 0, 0, .null), (68, .iaload, 1, 0, 0, 0, .null), (69, .ineg, 1, 0, 0, 0, .null), (70, .i2l, 1, 0, 0, 0, .null), (71, .goto 23, 3, 94, 0, 0, .null), (74, .aload_n 0, 1, 0, 0, 0, .null), (75, .getfield 32, 3, 2, 0, 450, .null), (78, .getfield 122, 3, 1, 6, 346, .null)]),
  (5, [(81, .iload 6, 2, 0, 0, 0, .null), (83, .bipush 16, 2, 0, 0, 0, .int 16), (85, .imul, 1, 0, 0, 0, .null), (86, .iload 7, 2, 0, 0, 0, .null), (88, .iadd, 1, 0, 0, 0, .null), (89, .laload, 1, 0, 0, 0, .null), (90, .ldc2_w 57, 3, 0, 0, 1010, .long 10000000000), (93, .ldiv, 1, 0, 0, 0, .null), (94, .lstore 8, 2, 0, 0, 0, .null)]),
  (6, [(96, .lload_n 3, 1, 0, 0, 0, .null), (97, .lload 8, 2, 0, 0, 0, .null), (99, .aload_n 0, 1, 0, 0, 0, .null), (100, .getfield 11, 3, 2, 1, 451, .null), (103, .iload 7, 2, 0, 0, 0, .null), (105, .bipush 11, 2, 0, 0, 0, .int 11), (107, .imul, 1, 0, 0, 0, .null), (108, .iload_n 2, 1, 0, 0, 0, .null), (109, .iadd, 1, 0, 0, 0, .null), (110, .laload, 1, 0, 0, 0, .null), (111, .lmul, 1, 0, 0, 0, .null)]),
  (7, [(112, .ladd, 1, 0, 0, 0, .null), (113, .lstore_n 3, 1, 0, 0, 0, .null), (114, .iinc 7 1, 3, 0, 0, 0, .int 1), (117, .goto (-82), 3, 35, 0, 0, .null), (120, .aload_n 0, 1, 0, 0, 0, .null), (121, .iload 6, 2, 0, 0, 0, .null), (123, .iload_n 1, 1, 0, 0, 0, .null), (124, .invokevirtual 99, 3, 18, 2002, 1015, .null), (127, .iinc 6 1, 3, 0, 0, 0, .int 1)]),
  (8, [(130, .goto (-105), 3, 25, 0, 0, .null), (133, .lload_n 3, 1, 0, 0, 0, .null), (134, .lreturn, 1, 0, 0, 0, .null)])]
def uX2_factor : List (Nat × List Nat) := [(25, [0, 1, 2, 3, 5, 6]), (35, [0, 1, 2, 3, 5, 6, 7]), (96, [0, 1, 2, 3, 5, 6, 7, 8])]
def qX3_init : CD := [(0, [(0, .aload_n 0, 1, 0, 0, 0, .null), (1, .invokespecial 3, 3, 9001, 0, 154, .null), (4, .aload_n 0, 1, 0, 0, 0, .null), (5, .iconst 0, 1, 0, 0, 0, .int 0), (6, .putfield 9, 3, 3, 0, 155, .null), (9, .aload_n 0, 1, 0, 0, 0, .null), (10, .bipush 16, 2, 0, 0, 0, .int 16), (12, .newarray .int, 2, 0, 0, 0, .null), (14, .putfield 15, 3, 3, 1, 162, .null)]),
  (1, [(17, .aload_n 0, 1, 0, 0, 0, .null), (18, .bipush 16, 2, 0, 0, 0, .int 16), (20, .newarray .int, 2, 0, 0, 0, .null), (22, .putfield 19, 3, 3, 2, 169, .null), (25, .aload_n 0, 1, 0, 0, 0, .null), (26, .bipush 16, 2, 0, 0, 0, .int 16), (28, .newarray .int, 2, 0, 0, 0, .null), (30, .putfield 22, 3, 3, 3, 175, .null)]),
  (2, [(33, .aload_n 0, 1, 0, 0, 0, .null), (34, .bipush 16, 2, 0, 0, 0, .int 16), (36, .newarray .int, 2, 0, 0, 0, .null), (38, .putfield 25, 3, 3, 4, 181, .null), (41, .aload_n 0, 1, 0, 0, 0, .null), (42, .bipush 48, 2, 0, 0, 0, .int 48), (44, .newarray .int, 2, 0, 0, 0, .null), (46, .putfield 28, 3, 3, 5, 187, .null)]),
  (3, [(49, .aload_n 0, 1, 0, 0, 0, .null), (50, .bipush 48, 2, 0, 0, 0, .int 48), (52, .newarray .int, 2, 0, 0, 0, .null), (54, .putfield 31, 3, 3, 6, 193, .null), (57, .aload_n 0, 1, 0, 0, 0, .null), (58, .bipush 16, 2, 0, 0, 0, .int 16), (60, .newarray .int, 2, 0, 0, 0, .null), (62, .putfield 34, 3, 3, 7, 197, .null)]),
  (4, [(65, .aload_n 0, 1, 0, 0, 0, .null), (66, .bipush 16, 2, 0, 0, 0, .int 16), (68, .newarray .int, 2, 0, 0, 0, .null), (70, .putfield 37, 3, 3, 8, 200, .null), (73, .aload_n 0, 1, 0, 0, 0, .null), (74, .bipush 16, 2, 0, 0, 0, .int 16), (76, .newarray .int, 2, 0, 0, 0, .null), (78, .putfield 40, 3, 3, 9, 203, .null)]),
  (5, [(81, .aload_n 0, 1, 0, 0, 0, .null), (82, .sipush 400, 3, 0, 0, 0, .int 400), (85, .newarray .int, 2, 0, 0, 0, .null), (87, .putfield 43, 3, 3, 10, 206, .null), (90, .return_, 1, 0, 0, 0, .null)])]
def uX3_init : List (Nat × List Nat) := []
def qX3_copyOf : CD := [(0, [(0, .aload_n 0, 1, 0, 0, 0, .null), (1, .aload_n 1, 1, 0, 0, 0, .null), (2, .getfield 9, 3, 3, 0, 155, .null), (5, .putfield 9, 3, 3, 0, 155, .null), (8, .aload_n 1, 1, 0, 0, 0, .null), (9, .getfield 15, 3, 3, 1, 162, .null), (12, .aload_n 0, 1, 0, 0, 0, .null), (13, .getfield 15, 3, 3, 1, 162, .null)]),
  (1, [(16, .invokestatic 46, 3, 30, 2, 738, .null), (19, .aload_n 1, 1, 0, 0, 0, .null), (20, .getfield 19, 3, 3, 2, 169, .null), (23, .aload_n 0, 1, 0, 0, 0, .null), (24, .getfield 19, 3, 3, 2, 169, .null), (27, .invokestatic 46, 3, 30, 2, 738, .null), (30, .aload_n 1, 1, 0, 0, 0, .null), (31, .getfield 22, 3, 3, 3, 175, .null)]),
  (2, [(34, .aload_n 0, 1, 0, 0, 0, .null), (35, .getfield 22, 3, 3, 3, 175, .null), (38, .invokestatic 46, 3, 30, 2, 738, .null), (41, .aload_n 1, 1, 0, 0, 0, .null), (42, .getfield 25, 3, 3, 4, 181, .null), (45, .aload_n 0, 1, 0, 0, 0, .null), (46, .getfield 25, 3, 3, 4, 181, .null)]),
  (3, [(49, .invokestatic 46, 3, 30, 2, 738, .null), (52, .aload_n 1, 1, 0, 0, 0, .null), (53, .getfield 28, 3, 3, 5, 187, .null), (56, .aload_n 0, 1, 0, 0, 0, .null), (57, .getfield 28, 3, 3, 5, 187, .null), (60, .invokestatic 46, 3, 30, 2, 738, .null), (63, .aload_n 1, 1, 0, 0, 0, .null)]),
  (4, [(64, .getfield 31, 3, 3, 6, 193, .null), (67, .aload_n 0, 1, 0, 0, 0, .null), (68, .getfield 31, 3, 3, 6, 193, .null), (71, .invokestatic 46, 3, 30, 2, 738, .null), (74, .aload_n 1, 1, 0, 0, 0, .null), (75, .getfield 34, 3, 3, 7, 197, .null), (78, .aload_n 0, 1, 0, 0, 0, .null), (79, .getfield 34, 3, 3, 7, 197, .null)]),
  (5, [(82, .invokestatic 46, 3, 30, 2, 738, .null), (85, .aload_n 1, 1, 0, 0, 0, .null), (86, .getfield 37, 3, 3, 8, 200, .null), (89, .aload_n 0, 1, 0, 0, 0, .null), (90, .getfield 37, 3, 3, 8, 200, .null), (93, .invokestatic 46, 3, 30, 2, 738, .null)]),
  (6, [(96, .aload_n 1, 1, 0, 0, 0, .null), (97, .getfield 40, 3, 3, 9, 203, .null), (100, .aload_n 0, 1, 0, 0, 0, .null), (101, .getfield 40, 3, 3, 9, 203, .null), (104, .invokestatic 46, 3, 30, 2, 738, .null), (107, .aload_n 1, 1, 0, 0, 0, .null), (108, .getfield 43, 3, 3, 10, 206, .null), (111, .aload_n 0, 1, 0, 0, 0, .null)]),
  (7, [(112, .getfield 43, 3, 3, 10, 206, .null), (115, .invokestatic 46, 3, 30, 2, 738, .null), (118, .return_, 1, 0, 0, 0, .null)])]
def uX3_copyOf : List (Nat × List Nat) := []
def qX3_copyRow : CD := [(0, [(0, .aload_n 0, 1, 0, 0, 0, .null), (1, .iconst 0, 1, 0, 0, 0, .int 0), (2, .aload_n 1, 1, 0, 0, 0, .null), (3, .iconst 0, 1, 0, 0, 0, .int 0), (4, .aload_n 0, 1, 0, 0, 0, .null), (5, .arraylength, 1, 0, 0, 0, .null), (6, .aload_n 1, 1, 0, 0, 0, .null), (7, .arraylength, 1, 0, 0, 0, .null), (8, .invokestatic 50, 3, 9004, 102, 741, .null), (11, .invokestatic 56, 3, 9002, 5, 742, .null), (14, .return_, 1, 0, 0, 0, .null)])]
def uX3_copyRow : List (Nat × List Nat) := []
def qX3_has : CD := [(0, [(0, .iload_n 1, 1, 0, 0, 0, .null), (1, .ifCond .lt 15, 3, 16, 0, 0, .null), (4, .iload_n 1, 1, 0, 0, 0, .null), (5, .aload_n 0, 1, 0, 0, 0, .null), (6, .getfield 9, 3, 3, 0, 155, .null), (9, .if_icmp .ge 7, 3, 16, 0, 0, .null), (12, .iconst 1, 1, 0, 0, 0, .int 1), (13, .goto 4, 3, 17, 0, 0, .null)]),
  (1, [(16, .iconst 0, 1, 0, 0, 0, .int 0), (17, .ireturn, 1, 0, 0, 0, .null)])]
def uX3_has : List (Nat × List Nat) := []
def qX3_isKind : CD := [(0, [(0, .aload_n 0, 1, 0, 0, 0, .null), (1, .iload_n 1, 1, 0, 0, 0, .null), (2, .invokevirtual 62, 3, 31, 3301, 781, .null), (5, .ifCond .eq 17, 3, 22, 0, 0, .null), (8, .aload_n 0, 1, 0, 0, 0, .null), (9, .getfield 15, 3, 3, 1, 162, .null), (12, .iload_n 1, 1, 0, 0, 0, .null), (13, .iaload, 1, 0, 0, 0, .null), (14, .iload_n 2, 1, 0, 0, 0, .null), (15, .if_icmp .ne 7, 3, 22, 0, 0, .null)]),
  (1, [(18, .iconst 1, 1, 0, 0, 0, .int 1), (19, .goto 4, 3, 23, 0, 0, .null), (22, .iconst 0, 1, 0, 0, 0, .int 0), (23, .ireturn, 1, 0, 0, 0, .null)])]
def uX3_isKind : List (Nat × List Nat) := []
def qX3_told : CD := [(0, [(0, .iload_n 2, 1, 0, 0, 0, .null), (1, .ifCond .ne 10, 3, 11, 0, 0, .null), (4, .aload_n 0, 1, 0, 0, 0, .null), (5, .getfield 15, 3, 3, 1, 162, .null), (8, .iload_n 1, 1, 0, 0, 0, .null), (9, .iaload, 1, 0, 0, 0, .null), (10, .ireturn, 1, 0, 0, 0, .null), (11, .iload_n 2, 1, 0, 0, 0, .null), (12, .iconst 1, 1, 0, 0, 0, .int 1), (13, .if_icmp .ne 23, 3, 36, 0, 0, .null)]),
  (1, [(16, .aload_n 0, 1, 0, 0, 0, .null), (17, .getfield 15, 3, 3, 1, 162, .null), (20, .iload_n 1, 1, 0, 0, 0, .null), (21, .iaload, 1, 0, 0, 0, .null), (22, .ifCond .ne 12, 3, 34, 0, 0, .null), (25, .aload_n 0, 1, 0, 0, 0, .null), (26, .getfield 19, 3, 3, 2, 169, .null), (29, .iload_n 1, 1, 0, 0, 0, .null), (30, .iaload, 1, 0, 0, 0, .null), (31, .goto 4, 3, 35, 0, 0, .null)]),
  (2, [(34, .iconst (-1), 1, 0, 0, 0, .int (-1)), (35, .ireturn, 1, 0, 0, 0, .null), (36, .iload_n 2, 1, 0, 0, 0, .null), (37, .iconst 2, 1, 0, 0, 0, .int 2), (38, .if_icmp .ne 24, 3, 62, 0, 0, .null), (41, .aload_n 0, 1, 0, 0, 0, .null), (42, .getfield 15, 3, 3, 1, 162, .null), (45, .iload_n 1, 1, 0, 0, 0, .null), (46, .iaload, 1, 0, 0, 0, .null), (47, .iconst 2, 1, 0, 0, 0, .int 2)]),
  (3, [(48, .if_icmp .ne 12, 3, 60, 0, 0, .null), (51, .aload_n 0, 1, 0, 0, 0, .null), (52, .getfield 22, 3, 3, 3, 175, .null), (55, .iload_n 1, 1, 0, 0, 0, .null), (56, .iaload, 1, 0, 0, 0, .null), (57, .goto 4, 3, 61, 0, 0, .null), (60, .iconst (-1), 1, 0, 0, 0, .int (-1)), (61, .ireturn, 1, 0, 0, 0, .null), (62, .iload_n 2, 1, 0, 0, 0, .null), (63, .iconst 3, 1, 0, 0, 0, .int 3)]),
  (4, [(64, .if_icmp .ne 10, 3, 74, 0, 0, .null), (67, .aload_n 0, 1, 0, 0, 0, .null), (68, .getfield 25, 3, 3, 4, 181, .null), (71, .iload_n 1, 1, 0, 0, 0, .null), (72, .iaload, 1, 0, 0, 0, .null), (73, .ireturn, 1, 0, 0, 0, .null), (74, .iload_n 2, 1, 0, 0, 0, .null), (75, .iconst 4, 1, 0, 0, 0, .int 4), (76, .if_icmp .lt 28, 3, 104, 0, 0, .null), (79, .iload_n 2, 1, 0, 0, 0, .null)]),
  (5, [(80, .iconst 4, 1, 0, 0, 0, .int 4), (81, .isub, 1, 0, 0, 0, .null), (82, .aload_n 0, 1, 0, 0, 0, .null), (83, .getfield 25, 3, 3, 4, 181, .null), (86, .iload_n 1, 1, 0, 0, 0, .null), (87, .iaload, 1, 0, 0, 0, .null), (88, .if_icmp .ge 16, 3, 104, 0, 0, .null), (91, .aload_n 0, 1, 0, 0, 0, .null), (92, .getfield 28, 3, 3, 5, 187, .null), (95, .iload_n 1, 1, 0, 0, 0, .null)]),
  (6, [(96, .iconst 3, 1, 0, 0, 0, .int 3), (97, .imul, 1, 0, 0, 0, .null), (98, .iload_n 2, 1, 0, 0, 0, .null), (99, .iadd, 1, 0, 0, 0, .null), (100, .iconst 4, 1, 0, 0, 0, .int 4), (101, .isub, 1, 0, 0, 0, .null), (102, .iaload, 1, 0, 0, 0, .null), (103, .ireturn, 1, 0, 0, 0, .null), (104, .aload_n 0, 1, 0, 0, 0, .null), (105, .getfield 15, 3, 3, 1, 162, .null), (108, .iload_n 1, 1, 0, 0, 0, .null), (109, .iaload, 1, 0, 0, 0, .null), (110, .iconst 1, 1, 0, 0, 0, .int 1), (111, .if_icmp .ne 36, 3, 147, 0, 0, .null)]),
  (7, [(114, .iload_n 2, 1, 0, 0, 0, .null), (115, .bipush 7, 2, 0, 0, 0, .int 7), (117, .if_icmp .lt 30, 3, 147, 0, 0, .null), (120, .iload_n 2, 1, 0, 0, 0, .null), (121, .bipush 7, 2, 0, 0, 0, .int 7), (123, .isub, 1, 0, 0, 0, .null), (124, .aload_n 0, 1, 0, 0, 0, .null), (125, .getfield 25, 3, 3, 4, 181, .null)]),
  (8, [(128, .iload_n 1, 1, 0, 0, 0, .null), (129, .iaload, 1, 0, 0, 0, .null), (130, .if_icmp .ge 17, 3, 147, 0, 0, .null), (133, .aload_n 0, 1, 0, 0, 0, .null), (134, .getfield 31, 3, 3, 6, 193, .null), (137, .iload_n 1, 1, 0, 0, 0, .null), (138, .iconst 3, 1, 0, 0, 0, .int 3), (139, .imul, 1, 0, 0, 0, .null), (140, .iload_n 2, 1, 0, 0, 0, .null), (141, .iadd, 1, 0, 0, 0, .null), (142, .bipush 7, 2, 0, 0, 0, .int 7)]),
  (9, [(144, .isub, 1, 0, 0, 0, .null), (145, .iaload, 1, 0, 0, 0, .null), (146, .ireturn, 1, 0, 0, 0, .null), (147, .iconst (-1), 1, 0, 0, 0, .int (-1)), (148, .ireturn, 1, 0, 0, 0, .null)])]
def uX3_told : List (Nat × List Nat) := [(104, [0, 1, 2])]
def qX3_forks : CD := [(0, [(0, .iconst 0, 1, 0, 0, 0, .int 0), (1, .istore_n 1, 1, 0, 0, 0, .null), (2, .iconst 0, 1, 0, 0, 0, .int 0), (3, .istore_n 2, 1, 0, 0, 0, .null), (4, .iload_n 2, 1, 0, 0, 0, .null), (5, .aload_n 0, 1, 0, 0, 0, .null), (6, .getfield 9, 3, 3, 0, 155, .null), (9, .if_icmp .ge 21, 3, 30, 0, 0, .null), (12, .aload_n 0, 1, 0, 0, 0, .null), (13, .getfield 15, 3, 3, 1, 162, .null)]),
  (1, [(16, .iload_n 2, 1, 0, 0, 0, .null), (17, .iaload, 1, 0, 0, 0, .null), (18, .ifCond .ne 6, 3, 24, 0, 0, .null), (21, .iinc 1 1, 3, 0, 0, 0, .int 1), (24, .iinc 2 1, 3, 0, 0, 0, .int 1), (27, .goto (-23), 3, 4, 0, 0, .null), (30, .iload_n 1, 1, 0, 0, 0, .null), (31, .ireturn, 1, 0, 0, 0, .null)])]
def uX3_forks : List (Nat × List Nat) := [(4, [0, 1, 2])]
def qX3_forksOf : CD := [(0, [(0, .iconst 0, 1, 0, 0, 0, .int 0), (1, .istore_n 2, 1, 0, 0, 0, .null), (2, .iconst 0, 1, 0, 0, 0, .int 0), (3, .istore_n 3, 1, 0, 0, 0, .null), (4, .iload_n 3, 1, 0, 0, 0, .null), (5, .aload_n 0, 1, 0, 0, 0, .null), (6, .getfield 9, 3, 3, 0, 155, .null), (9, .if_icmp .ge 31, 3, 40, 0, 0, .null), (12, .aload_n 0, 1, 0, 0, 0, .null), (13, .getfield 15, 3, 3, 1, 162, .null)]),
  (1, [(16, .iload_n 3, 1, 0, 0, 0, .null), (17, .iaload, 1, 0, 0, 0, .null), (18, .ifCond .ne 16, 3, 34, 0, 0, .null), (21, .aload_n 0, 1, 0, 0, 0, .null), (22, .getfield 19, 3, 3, 2, 169, .null), (25, .iload_n 3, 1, 0, 0, 0, .null), (26, .iaload, 1, 0, 0, 0, .null), (27, .iload_n 1, 1, 0, 0, 0, .null), (28, .if_icmp .ne 6, 3, 34, 0, 0, .null), (31, .iinc 2 1, 3, 0, 0, 0, .int 1)]),
  (2, [(34, .iinc 3 1, 3, 0, 0, 0, .int 1), (37, .goto (-33), 3, 4, 0, 0, .null), (40, .iload_n 2, 1, 0, 0, 0, .null), (41, .ireturn, 1, 0, 0, 0, .null)])]
def uX3_forksOf : List (Nat × List Nat) := [(4, [0, 1, 2, 3])]
def qX3_usedLooks : CD := [(0, [(0, .iconst 0, 1, 0, 0, 0, .int 0), (1, .istore_n 1, 1, 0, 0, 0, .null), (2, .iconst 0, 1, 0, 0, 0, .int 0), (3, .istore_n 2, 1, 0, 0, 0, .null), (4, .iload_n 2, 1, 0, 0, 0, .null), (5, .aload_n 0, 1, 0, 0, 0, .null), (6, .getfield 9, 3, 3, 0, 155, .null), (9, .if_icmp .ge 29, 3, 38, 0, 0, .null), (12, .aload_n 0, 1, 0, 0, 0, .null), (13, .getfield 15, 3, 3, 1, 162, .null)]),
  (1, [(16, .iload_n 2, 1, 0, 0, 0, .null), (17, .iaload, 1, 0, 0, 0, .null), (18, .ifCond .ne 14, 3, 32, 0, 0, .null), (21, .iload_n 1, 1, 0, 0, 0, .null), (22, .iconst 1, 1, 0, 0, 0, .int 1), (23, .aload_n 0, 1, 0, 0, 0, .null), (24, .getfield 19, 3, 3, 2, 169, .null), (27, .iload_n 2, 1, 0, 0, 0, .null), (28, .iaload, 1, 0, 0, 0, .null), (29, .ishl, 1, 0, 0, 0, .null), (30, .ior, 1, 0, 0, 0, .null), (31, .istore_n 1, 1, 0, 0, 0, .null)]),
  (2, [(32, .iinc 2 1, 3, 0, 0, 0, .int 1), (35, .goto (-31), 3, 4, 0, 0, .null), (38, .iload_n 1, 1, 0, 0, 0, .null), (39, .ireturn, 1, 0, 0, 0, .null)])]
def uX3_usedLooks : List (Nat × List Nat) := [(4, [0, 1, 2])]
def qX4_init : CD := [(0, [(0, .aload_n 0, 1, 0, 0, 0, .null), (1, .invokespecial 3, 3, 9001, 0, 421, .null), (4, .aload_n 0, 1, 0, 0, 0, .null), (5, .sipush 352, 3, 0, 0, 0, .int 352), (8, .newarray .long, 2, 0, 0, 0, .null), (10, .putfield 9, 3, 4, 1, 423, .null), (13, .aload_n 0, 1, 0, 0, 0, .null), (14, .bipush 12, 2, 0, 0, 0, .int 12)]),
  (1, [(16, .newarray .int, 2, 0, 0, 0, .null), (18, .putfield 15, 3, 4, 2, 424, .null), (21, .aload_n 0, 1, 0, 0, 0, .null), (22, .bipush 6, 2, 0, 0, 0, .int 6), (24, .newarray .int, 2, 0, 0, 0, .null), (26, .putfield 19, 3, 4, 3, 425, .null), (29, .aload_n 0, 1, 0, 0, 0, .null), (30, .iconst 2, 1, 0, 0, 0, .int 2), (31, .newarray .int, 2, 0, 0, 0, .null)]),
  (2, [(33, .putfield 22, 3, 4, 4, 426, .null), (36, .aload_n 0, 1, 0, 0, 0, .null), (37, .iconst 2, 1, 0, 0, 0, .int 2), (38, .newarray .int, 2, 0, 0, 0, .null), (40, .putfield 25, 3, 4, 5, 427, .null), (43, .aload_n 0, 1, 0, 0, 0, .null), (44, .lconst 0, 1, 0, 0, 0, .long 0), (45, .putfield 28, 3, 4, 6, 428, .null)]),
  (3, [(48, .aload_n 0, 1, 0, 0, 0, .null), (49, .aload_n 1, 1, 0, 0, 0, .null), (50, .putfield 32, 3, 4, 0, 422, .null), (53, .return_, 1, 0, 0, 0, .null)])]
def uX4_init : List (Nat × List Nat) := []
def qX4_seek : CD := [(0, [(0, .iconst 0, 1, 0, 0, 0, .int 0), (1, .istore_n 1, 1, 0, 0, 0, .null), (2, .iload_n 1, 1, 0, 0, 0, .null), (3, .sipush 176, 3, 0, 0, 0, .int 176), (6, .if_icmp .ge 45, 3, 51, 0, 0, .null), (9, .aload_n 0, 1, 0, 0, 0, .null), (10, .getfield 9, 3, 4, 1, 423, .null), (13, .iload_n 1, 1, 0, 0, 0, .null), (14, .iconst 2, 1, 0, 0, 0, .int 2), (15, .imul, 1, 0, 0, 0, .null)]),
  (1, [(16, .aload_n 0, 1, 0, 0, 0, .null), (17, .getfield 32, 3, 4, 0, 422, .null), (20, .getfield 36, 3, 1, 6, 345, .null), (23, .iload_n 1, 1, 0, 0, 0, .null), (24, .laload, 1, 0, 0, 0, .null), (25, .lastore, 1, 0, 0, 0, .null), (26, .aload_n 0, 1, 0, 0, 0, .null), (27, .getfield 9, 3, 4, 1, 423, .null), (30, .iload_n 1, 1, 0, 0, 0, .null), (31, .iconst 2, 1, 0, 0, 0, .int 2)]),
  (2, [(32, .imul, 1, 0, 0, 0, .null), (33, .iconst 1, 1, 0, 0, 0, .int 1), (34, .iadd, 1, 0, 0, 0, .null), (35, .aload_n 0, 1, 0, 0, 0, .null), (36, .getfield 32, 3, 4, 0, 422, .null), (39, .getfield 36, 3, 1, 6, 345, .null), (42, .iload_n 1, 1, 0, 0, 0, .null), (43, .laload, 1, 0, 0, 0, .null), (44, .lastore, 1, 0, 0, 0, .null), (45, .iinc 1 1, 3, 0, 0, 0, .int 1)]),
  (3, [(48, .goto (-46), 3, 2, 0, 0, .null), (51, .aload_n 0, 1, 0, 0, 0, .null), (52, .getfield 15, 3, 4, 2, 424, .null), (55, .iconst (-1), 1, 0, 0, 0, .int (-1)), (56, .invokestatic 39, 3, 259, 2, 1037, .null), (59, .aload_n 0, 1, 0, 0, 0, .null), (60, .getfield 32, 3, 4, 0, 422, .null), (63, .aload_n 0, 1, 0, 0, 0, .null)]),
  (4, [(64, .getfield 19, 3, 4, 3, 425, .null), (67, .invokevirtual 45, 3, 14, 1001, 1038, .null), (70, .aload_n 0, 1, 0, 0, 0, .null), (71, .ldc2_w 49, 3, 0, 0, 1039, .long (-1000000000000000000)), (74, .putfield 28, 3, 4, 6, 428, .null), (77, .aload_n 0, 1, 0, 0, 0, .null), (78, .iconst 0, 1, 0, 0, 0, .int 0), (79, .aload_n 0, 1, 0, 0, 0, .null)]),
  (5, [(80, .invokevirtual 51, 3, 42, 4200, 1040, .null), (83, .invokevirtual 55, 3, 39, 4002, 1060, .null), (86, .aload_n 0, 1, 0, 0, 0, .null), (87, .getfield 28, 3, 4, 6, 428, .null), (90, .lreturn, 1, 0, 0, 0, .null)])]
def uX4_seek : List (Nat × List Nat) := [(2, [0, 1])]
def qX4_tryKey : CD := [(0, [(0, .lload_n 2, 1, 0, 0, 0, .null), (1, .aload_n 0, 1, 0, 0, 0, .null), (2, .getfield 28, 3, 4, 6, 428, .null), (5, .lcmp, 1, 0, 0, 0, .null), (6, .ifCond .gt 4, 3, 10, 0, 0, .null), (9, .return_, 1, 0, 0, 0, .null), (10, .aload_n 0, 1, 0, 0, 0, .null), (11, .invokevirtual 59, 3, 40, 4100, 1064, .null), (14, .istore 4, 2, 0, 0, 0, .null)]),
  (1, [(16, .iload 4, 2, 0, 0, 0, .null), (18, .iconst (-1), 1, 0, 0, 0, .int (-1)), (19, .if_icmp .eq 9, 3, 28, 0, 0, .null), (22, .iload_n 1, 1, 0, 0, 0, .null), (23, .bipush 12, 2, 0, 0, 0, .int 12), (25, .if_icmp .lt 9, 3, 34, 0, 0, .null), (28, .aload_n 0, 1, 0, 0, 0, .null), (29, .lload_n 2, 1, 0, 0, 0, .null), (30, .putfield 28, 3, 4, 6, 428, .null)]),
  (2, [(33, .return_, 1, 0, 0, 0, .null), (34, .aload_n 0, 1, 0, 0, 0, .null), (35, .getfield 19, 3, 4, 3, 425, .null), (38, .iload 4, 2, 0, 0, 0, .null), (40, .iconst 2, 1, 0, 0, 0, .int 2), (41, .idiv, 1, 0, 0, 0, .null), (42, .iaload, 1, 0, 0, 0, .null), (43, .iconst 2, 1, 0, 0, 0, .int 2), (44, .imul, 1, 0, 0, 0, .null), (45, .istore 5, 2, 0, 0, 0, .null), (47, .iconst 0, 1, 0, 0, 0, .int 0)]),
  (3, [(48, .istore 6, 2, 0, 0, 0, .null), (50, .iload 6, 2, 0, 0, 0, .null), (52, .iload 5, 2, 0, 0, 0, .null), (54, .if_icmp .ge 29, 3, 83, 0, 0, .null), (57, .aload_n 0, 1, 0, 0, 0, .null), (58, .getfield 15, 3, 4, 2, 424, .null), (61, .iload 4, 2, 0, 0, 0, .null), (63, .iload 6, 2, 0, 0, 0, .null)]),
  (4, [(65, .iastore, 1, 0, 0, 0, .null), (66, .aload_n 0, 1, 0, 0, 0, .null), (67, .iload_n 1, 1, 0, 0, 0, .null), (68, .iconst 1, 1, 0, 0, 0, .int 1), (69, .iadd, 1, 0, 0, 0, .null), (70, .aload_n 0, 1, 0, 0, 0, .null), (71, .invokevirtual 51, 3, 42, 4200, 1040, .null), (74, .invokevirtual 55, 3, 39, 4002, 1060, .null), (77, .iinc 6 1, 3, 0, 0, 0, .int 1)]),
  (5, [(80, .goto (-30), 3, 50, 0, 0, .null), (83, .aload_n 0, 1, 0, 0, 0, .null), (84, .getfield 15, 3, 4, 2, 424, .null), (87, .iload 4, 2, 0, 0, 0, .null), (89, .iconst (-1), 1, 0, 0, 0, .int (-1)), (90, .iastore, 1, 0, 0, 0, .null), (91, .return_, 1, 0, 0, 0, .null)])]
def uX4_tryKey : List (Nat × List Nat) := [(50, [0, 1, 4, 5, 6])]
def qX4_keyAhead : CD := [(0, [(0, .aload_n 0, 1, 0, 0, 0, .null), (1, .getfield 22, 3, 4, 4, 426, .null), (4, .iconst 0, 1, 0, 0, 0, .int 0), (5, .iconst 1, 1, 0, 0, 0, .int 1), (6, .aload_n 0, 1, 0, 0, 0, .null), (7, .getfield 32, 3, 4, 0, 422, .null), (10, .getfield 63, 3, 1, 0, 330, .null), (13, .getfield 67, 3, 0, 1, 287, .null)]),
  (1, [(16, .iconst 0, 1, 0, 0, 0, .int 0), (17, .iaload, 1, 0, 0, 0, .null), (18, .ishl, 1, 0, 0, 0, .null), (19, .iastore, 1, 0, 0, 0, .null), (20, .aload_n 0, 1, 0, 0, 0, .null), (21, .getfield 22, 3, 4, 4, 426, .null), (24, .iconst 1, 1, 0, 0, 0, .int 1), (25, .iconst 0, 1, 0, 0, 0, .int 0), (26, .iastore, 1, 0, 0, 0, .null), (27, .iconst 0, 1, 0, 0, 0, .int 0), (28, .istore_n 1, 1, 0, 0, 0, .null), (29, .iload_n 1, 1, 0, 0, 0, .null), (30, .aload_n 0, 1, 0, 0, 0, .null), (31, .getfield 32, 3, 4, 0, 422, .null)]),
  (2, [(34, .getfield 63, 3, 1, 0, 330, .null), (37, .getfield 67, 3, 0, 1, 287, .null), (40, .iconst 1, 1, 0, 0, 0, .int 1), (41, .iaload, 1, 0, 0, 0, .null), (42, .if_icmp .ge 194, 3, 236, 0, 0, .null), (45, .aload_n 0, 1, 0, 0, 0, .null), (46, .getfield 25, 3, 4, 5, 427, .null)]),
  (3, [(49, .iconst 0, 1, 0, 0, 0, .int 0), (50, .iconst 0, 1, 0, 0, 0, .int 0), (51, .iastore, 1, 0, 0, 0, .null), (52, .aload_n 0, 1, 0, 0, 0, .null), (53, .getfield 25, 3, 4, 5, 427, .null), (56, .iconst 1, 1, 0, 0, 0, .int 1), (57, .iconst 0, 1, 0, 0, 0, .int 0), (58, .iastore, 1, 0, 0, 0, .null), (59, .iconst 0, 1, 0, 0, 0, .int 0), (60, .istore_n 2, 1, 0, 0, 0, .null), (61, .iload_n 2, 1, 0, 0, 0, .null), (62, .aload_n 0, 1, 0, 0, 0, .null), (63, .getfield 32, 3, 4, 0, 422, .null)]),
  (4, [(66, .getfield 72, 3, 1, 1, 333, .null), (69, .getfield 76, 3, 3, 0, 158, .null), (72, .iconst 2, 1, 0, 0, 0, .int 2), (73, .imul, 1, 0, 0, 0, .null), (74, .if_icmp .ge 132, 3, 206, 0, 0, .null), (77, .iload_n 2, 1, 0, 0, 0, .null), (78, .iconst 2, 1, 0, 0, 0, .int 2), (79, .idiv, 1, 0, 0, 0, .null)]),
  (5, [(80, .istore_n 3, 1, 0, 0, 0, .null), (81, .iload_n 2, 1, 0, 0, 0, .null), (82, .iconst 2, 1, 0, 0, 0, .int 2), (83, .irem, 1, 0, 0, 0, .null), (84, .istore 4, 2, 0, 0, 0, .null), (86, .aload_n 0, 1, 0, 0, 0, .null), (87, .getfield 22, 3, 4, 4, 426, .null), (90, .iload 4, 2, 0, 0, 0, .null), (92, .iaload, 1, 0, 0, 0, .null), (93, .iload_n 3, 1, 0, 0, 0, .null), (94, .ishr, 1, 0, 0, 0, .null), (95, .iconst 1, 1, 0, 0, 0, .int 1)]),
  (6, [(96, .iand, 1, 0, 0, 0, .null), (97, .ifCond .ne 6, 3, 103, 0, 0, .null), (100, .goto 100, 3, 200, 0, 0, .null), (103, .aload_n 0, 1, 0, 0, 0, .null), (104, .getfield 32, 3, 4, 0, 422, .null), (107, .getfield 72, 3, 1, 1, 333, .null), (110, .getfield 82, 3, 3, 1, 167, .null)]),
  (7, [(113, .iload_n 3, 1, 0, 0, 0, .null), (114, .iaload, 1, 0, 0, 0, .null), (115, .ifCond .eq 24, 3, 139, 0, 0, .null), (118, .aload_n 0, 1, 0, 0, 0, .null), (119, .getfield 25, 3, 4, 5, 427, .null), (122, .iload 4, 2, 0, 0, 0, .null), (124, .dup2, 1, 0, 0, 0, .null), (125, .iaload, 1, 0, 0, 0, .null), (126, .aload_n 0, 1, 0, 0, 0, .null), (127, .getfield 32, 3, 4, 0, 422, .null)]),
  (8, [(130, .iload_n 3, 1, 0, 0, 0, .null), (131, .invokevirtual 85, 3, 5, 1101, 1068, .null), (134, .ior, 1, 0, 0, 0, .null), (135, .iastore, 1, 0, 0, 0, .null), (136, .goto 64, 3, 200, 0, 0, .null), (139, .aload_n 0, 1, 0, 0, 0, .null), (140, .getfield 32, 3, 4, 0, 422, .null), (143, .getfield 89, 3, 1, 3, 338, .null)]),
  (9, [(146, .iload_n 3, 1, 0, 0, 0, .null), (147, .iaload, 1, 0, 0, 0, .null), (148, .iconst 2, 1, 0, 0, 0, .int 2), (149, .imul, 1, 0, 0, 0, .null), (150, .iload 4, 2, 0, 0, 0, .null), (152, .iadd, 1, 0, 0, 0, .null), (153, .istore 5, 2, 0, 0, 0, .null), (155, .aload_n 0, 1, 0, 0, 0, .null), (156, .getfield 15, 3, 4, 2, 424, .null), (159, .iload 5, 2, 0, 0, 0, .null)]),
  (10, [(161, .iaload, 1, 0, 0, 0, .null), (162, .iconst (-1), 1, 0, 0, 0, .int (-1)), (163, .if_icmp .ne 6, 3, 169, 0, 0, .null), (166, .iload 5, 2, 0, 0, 0, .null), (168, .ireturn, 1, 0, 0, 0, .null), (169, .aload_n 0, 1, 0, 0, 0, .null), (170, .getfield 25, 3, 4, 5, 427, .null), (173, .aload_n 0, 1, 0, 0, 0, .null), (174, .getfield 15, 3, 4, 2, 424, .null)]),
  (11, [(177, .iload 5, 2, 0, 0, 0, .null), (179, .iaload, 1, 0, 0, 0, .null), (180, .iconst 2, 1, 0, 0, 0, .int 2), (181, .irem, 1, 0, 0, 0, .null), (182, .dup2, 1, 0, 0, 0, .null), (183, .iaload, 1, 0, 0, 0, .null), (184, .iconst 1, 1, 0, 0, 0, .int 1), (185, .aload_n 0, 1, 0, 0, 0, .null), (186, .iload_n 3, 1, 0, 0, 0, .null), (187, .aload_n 0, 1, 0, 0, 0, .null), (188, .getfield 15, 3, 4, 2, 424, .null), (191, .iload 5, 2, 0, 0, 0, .null)]),
  (12, [(193, .iaload, 1, 0, 0, 0, .null), (194, .invokevirtual 92, 3, 41, 4102, 1048, .null), (197, .ishl, 1, 0, 0, 0, .null), (198, .ior, 1, 0, 0, 0, .null), (199, .iastore, 1, 0, 0, 0, .null), (200, .iinc 2 1, 3, 0, 0, 0, .int 1), (203, .goto (-142), 3, 61, 0, 0, .null), (206, .aload_n 0, 1, 0, 0, 0, .null), (207, .getfield 22, 3, 4, 4, 426, .null)]),
  (13, [(210, .iconst 0, 1, 0, 0, 0, .int 0), (211, .aload_n 0, 1, 0, 0, 0, .null), (212, .getfield 25, 3, 4, 5, 427, .null), (215, .iconst 0, 1, 0, 0, 0, .int 0), (216, .iaload, 1, 0, 0, 0, .null), (217, .iastore, 1, 0, 0, 0, .null), (218, .aload_n 0, 1, 0, 0, 0, .null), (219, .getfield 22, 3, 4, 4, 426, .null), (222, .iconst 1, 1, 0, 0, 0, .int 1), (223, .aload_n 0, 1, 0, 0, 0, .null)]),
  (14, [(224, .getfield 25, 3, 4, 5, 427, .null), (227, .iconst 1, 1, 0, 0, 0, .int 1), (228, .iaload, 1, 0, 0, 0, .null), (229, .iastore, 1, 0, 0, 0, .null), (230, .iinc 1 1, 3, 0, 0, 0, .int 1), (233, .goto (-204), 3, 29, 0, 0, .null), (236, .iconst (-1), 1, 0, 0, 0, .int (-1)), (237, .ireturn, 1, 0, 0, 0, .null)])]
def uX4_keyAhead : List (Nat × List Nat) := [(29, [0, 1]), (61, [0, 1, 2])]
def qX4_roadChosen : CD := [(0, [(0, .iload_n 2, 1, 0, 0, 0, .null), (1, .iconst 2, 1, 0, 0, 0, .int 2), (2, .idiv, 1, 0, 0, 0, .null), (3, .aload_n 0, 1, 0, 0, 0, .null), (4, .getfield 32, 3, 4, 0, 422, .null), (7, .getfield 72, 3, 1, 1, 333, .null), (10, .getfield 96, 3, 3, 4, 186, .null), (13, .iload_n 1, 1, 0, 0, 0, .null), (14, .iaload, 1, 0, 0, 0, .null), (15, .iconst 1, 1, 0, 0, 0, .int 1)]),
  (1, [(16, .isub, 1, 0, 0, 0, .null), (17, .invokestatic 99, 3, 9004, 102, 1052, .null), (20, .istore_n 3, 1, 0, 0, 0, .null), (21, .aload_n 0, 1, 0, 0, 0, .null), (22, .getfield 32, 3, 4, 0, 422, .null), (25, .getfield 72, 3, 1, 1, 333, .null), (28, .getfield 104, 3, 3, 5, 191, .null), (31, .iload_n 1, 1, 0, 0, 0, .null)]),
  (2, [(32, .iconst 3, 1, 0, 0, 0, .int 3), (33, .imul, 1, 0, 0, 0, .null), (34, .iload_n 3, 1, 0, 0, 0, .null), (35, .iadd, 1, 0, 0, 0, .null), (36, .iaload, 1, 0, 0, 0, .null), (37, .ireturn, 1, 0, 0, 0, .null)])]
def uX4_roadChosen : List (Nat × List Nat) := []
def qX4_weigh : CD := [(0, [(0, .iconst 0, 1, 0, 0, 0, .int 0), (1, .istore_n 1, 1, 0, 0, 0, .null), (2, .iload_n 1, 1, 0, 0, 0, .null), (3, .aload_n 0, 1, 0, 0, 0, .null), (4, .getfield 32, 3, 4, 0, 422, .null), (7, .getfield 107, 3, 1, 8, 351, .null), (10, .if_icmp .ge 94, 3, 104, 0, 0, .null), (13, .aload_n 0, 1, 0, 0, 0, .null), (14, .getfield 32, 3, 4, 0, 422, .null)]),
  (1, [(17, .getfield 110, 3, 1, 7, 349, .null), (20, .iload_n 1, 1, 0, 0, 0, .null), (21, .iaload, 1, 0, 0, 0, .null), (22, .istore_n 2, 1, 0, 0, 0, .null), (23, .iload_n 2, 1, 0, 0, 0, .null), (24, .bipush 16, 2, 0, 0, 0, .int 16), (26, .irem, 1, 0, 0, 0, .null), (27, .istore_n 3, 1, 0, 0, 0, .null), (28, .iload_n 2, 1, 0, 0, 0, .null), (29, .iload_n 3, 1, 0, 0, 0, .null), (30, .isub, 1, 0, 0, 0, .null), (31, .bipush 16, 2, 0, 0, 0, .int 16)]),
  (2, [(33, .iadd, 1, 0, 0, 0, .null), (34, .istore 4, 2, 0, 0, 0, .null), (36, .iconst 0, 1, 0, 0, 0, .int 0), (37, .istore 5, 2, 0, 0, 0, .null), (39, .iload 5, 2, 0, 0, 0, .null), (41, .iconst 2, 1, 0, 0, 0, .int 2), (42, .if_icmp .ge 56, 3, 98, 0, 0, .null), (45, .aload_n 0, 1, 0, 0, 0, .null), (46, .getfield 9, 3, 4, 1, 423, .null)]),
  (3, [(49, .iload_n 2, 1, 0, 0, 0, .null), (50, .iconst 2, 1, 0, 0, 0, .int 2), (51, .imul, 1, 0, 0, 0, .null), (52, .iload 5, 2, 0, 0, 0, .null), (54, .iadd, 1, 0, 0, 0, .null), (55, .aload_n 0, 1, 0, 0, 0, .null), (56, .getfield 32, 3, 4, 0, 422, .null), (59, .getfield 72, 3, 1, 1, 333, .null), (62, .getfield 82, 3, 3, 1, 167, .null)]),
  (4, [(65, .iload_n 3, 1, 0, 0, 0, .null), (66, .iaload, 1, 0, 0, 0, .null), (67, .ifCond .ne 15, 3, 82, 0, 0, .null), (70, .aload_n 0, 1, 0, 0, 0, .null), (71, .iload_n 3, 1, 0, 0, 0, .null), (72, .iload 4, 2, 0, 0, 0, .null), (74, .iload 5, 2, 0, 0, 0, .null), (76, .invokevirtual 113, 3, 43, 4203, 1044, .null), (79, .goto 12, 3, 91, 0, 0, .null)]),
  (5, [(82, .aload_n 0, 1, 0, 0, 0, .null), (83, .iload_n 3, 1, 0, 0, 0, .null), (84, .iload 4, 2, 0, 0, 0, .null), (86, .iload 5, 2, 0, 0, 0, .null), (88, .invokevirtual 117, 3, 44, 4203, 1054, .null), (91, .lastore, 1, 0, 0, 0, .null), (92, .iinc 5 1, 3, 0, 0, 0, .int 1), (95, .goto (-56), 3, 39, 0, 0, .null)]),
  (6, [(98, .iinc 1 1, 3, 0, 0, 0, .int 1), (101, .goto (-99), 3, 2, 0, 0, .null), (104, .aload_n 0, 1, 0, 0, 0, .null), (105, .getfield 9, 3, 4, 1, 423, .null), (108, .aload_n 0, 1, 0, 0, 0, .null), (109, .getfield 32, 3, 4, 0, 422, .null)]),
  (7, [(112, .getfield 63, 3, 1, 0, 330, .null), (115, .getfield 67, 3, 0, 1, 287, .null), (118, .iconst 0, 1, 0, 0, 0, .int 0), (119, .iaload, 1, 0, 0, 0, .null), (120, .iconst 2, 1, 0, 0, 0, .int 2), (121, .imul, 1, 0, 0, 0, .null), (122, .laload, 1, 0, 0, 0, .null), (123, .lreturn, 1, 0, 0, 0, .null)])]
def uX4_weigh : List (Nat × List Nat) := [(2, [0, 1]), (39, [0, 1, 2, 3, 4, 5])]
def qX4_atFork : CD := [(0, [(0, .aload_n 0, 1, 0, 0, 0, .null), (1, .getfield 15, 3, 4, 2, 424, .null), (4, .aload_n 0, 1, 0, 0, 0, .null), (5, .getfield 32, 3, 4, 0, 422, .null), (8, .getfield 89, 3, 1, 3, 338, .null), (11, .iload_n 1, 1, 0, 0, 0, .null), (12, .iaload, 1, 0, 0, 0, .null), (13, .iconst 2, 1, 0, 0, 0, .int 2), (14, .imul, 1, 0, 0, 0, .null), (15, .iload_n 3, 1, 0, 0, 0, .null)]),
  (1, [(16, .iadd, 1, 0, 0, 0, .null), (17, .iaload, 1, 0, 0, 0, .null), (18, .istore 4, 2, 0, 0, 0, .null), (20, .iload 4, 2, 0, 0, 0, .null), (22, .iconst (-1), 1, 0, 0, 0, .int (-1)), (23, .if_icmp .eq 25, 3, 48, 0, 0, .null), (26, .aload_n 0, 1, 0, 0, 0, .null), (27, .getfield 9, 3, 4, 1, 423, .null), (30, .iload_n 2, 1, 0, 0, 0, .null), (31, .aload_n 0, 1, 0, 0, 0, .null)]),
  (2, [(32, .iload_n 1, 1, 0, 0, 0, .null), (33, .iload 4, 2, 0, 0, 0, .null), (35, .invokevirtual 92, 3, 41, 4102, 1048, .null), (38, .iadd, 1, 0, 0, 0, .null), (39, .iconst 2, 1, 0, 0, 0, .int 2), (40, .imul, 1, 0, 0, 0, .null), (41, .iload 4, 2, 0, 0, 0, .null), (43, .iconst 2, 1, 0, 0, 0, .int 2), (44, .irem, 1, 0, 0, 0, .null), (45, .iadd, 1, 0, 0, 0, .null), (46, .laload, 1, 0, 0, 0, .null), (47, .lreturn, 1, 0, 0, 0, .null)]),
  (3, [(48, .ldc2_w 49, 3, 0, 0, 1039, .long (-1000000000000000000)), (51, .lstore 5, 2, 0, 0, 0, .null), (53, .iconst 0, 1, 0, 0, 0, .int 0), (54, .istore 7, 2, 0, 0, 0, .null), (56, .iload 7, 2, 0, 0, 0, .null), (58, .aload_n 0, 1, 0, 0, 0, .null), (59, .getfield 32, 3, 4, 0, 422, .null), (62, .getfield 72, 3, 1, 1, 333, .null)]),
  (4, [(65, .getfield 96, 3, 3, 4, 186, .null), (68, .iload_n 1, 1, 0, 0, 0, .null), (69, .iaload, 1, 0, 0, 0, .null), (70, .if_icmp .ge 58, 3, 128, 0, 0, .null), (73, .iload_n 2, 1, 0, 0, 0, .null), (74, .aload_n 0, 1, 0, 0, 0, .null), (75, .getfield 32, 3, 4, 0, 422, .null), (78, .getfield 72, 3, 1, 1, 333, .null)]),
  (5, [(81, .getfield 104, 3, 3, 5, 191, .null), (84, .iload_n 1, 1, 0, 0, 0, .null), (85, .iconst 3, 1, 0, 0, 0, .int 3), (86, .imul, 1, 0, 0, 0, .null), (87, .iload 7, 2, 0, 0, 0, .null), (89, .iadd, 1, 0, 0, 0, .null), (90, .iaload, 1, 0, 0, 0, .null), (91, .iadd, 1, 0, 0, 0, .null), (92, .iconst 2, 1, 0, 0, 0, .int 2), (93, .imul, 1, 0, 0, 0, .null), (94, .istore 8, 2, 0, 0, 0, .null)]),
  (6, [(96, .lload 5, 2, 0, 0, 0, .null), (98, .aload_n 0, 1, 0, 0, 0, .null), (99, .getfield 9, 3, 4, 1, 423, .null), (102, .iload 8, 2, 0, 0, 0, .null), (104, .laload, 1, 0, 0, 0, .null), (105, .aload_n 0, 1, 0, 0, 0, .null), (106, .getfield 9, 3, 4, 1, 423, .null), (109, .iload 8, 2, 0, 0, 0, .null), (111, .iconst 1, 1, 0, 0, 0, .int 1)]),
  (7, [(112, .iadd, 1, 0, 0, 0, .null), (113, .laload, 1, 0, 0, 0, .null), (114, .invokestatic 120, 3, 9005, 202, 1053, .null), (117, .invokestatic 120, 3, 9005, 202, 1053, .null), (120, .lstore 5, 2, 0, 0, 0, .null), (122, .iinc 7 1, 3, 0, 0, 0, .int 1), (125, .goto (-69), 3, 56, 0, 0, .null)]),
  (8, [(128, .lload 5, 2, 0, 0, 0, .null), (130, .lreturn, 1, 0, 0, 0, .null)])]
def uX4_atFork : List (Nat × List Nat) := [(56, [0, 1, 2, 5, 7])]
def qX4_mean : CD := [(0, [(0, .lconst 0, 1, 0, 0, 0, .long 0), (1, .lstore 4, 2, 0, 0, 0, .null), (3, .iconst 0, 1, 0, 0, 0, .int 0), (4, .istore 6, 2, 0, 0, 0, .null), (6, .iload 6, 2, 0, 0, 0, .null), (8, .aload_n 0, 1, 0, 0, 0, .null), (9, .getfield 32, 3, 4, 0, 422, .null), (12, .getfield 72, 3, 1, 1, 333, .null), (15, .getfield 96, 3, 3, 4, 186, .null)]),
  (1, [(18, .iload_n 1, 1, 0, 0, 0, .null), (19, .iaload, 1, 0, 0, 0, .null), (20, .if_icmp .ge 62, 3, 82, 0, 0, .null), (23, .iload_n 2, 1, 0, 0, 0, .null), (24, .aload_n 0, 1, 0, 0, 0, .null), (25, .getfield 32, 3, 4, 0, 422, .null), (28, .getfield 72, 3, 1, 1, 333, .null), (31, .getfield 104, 3, 3, 5, 191, .null)]),
  (2, [(34, .iload_n 1, 1, 0, 0, 0, .null), (35, .iconst 3, 1, 0, 0, 0, .int 3), (36, .imul, 1, 0, 0, 0, .null), (37, .iload 6, 2, 0, 0, 0, .null), (39, .iadd, 1, 0, 0, 0, .null), (40, .iaload, 1, 0, 0, 0, .null), (41, .iadd, 1, 0, 0, 0, .null), (42, .iconst 2, 1, 0, 0, 0, .int 2), (43, .imul, 1, 0, 0, 0, .null), (44, .iload_n 3, 1, 0, 0, 0, .null), (45, .iadd, 1, 0, 0, 0, .null), (46, .istore 7, 2, 0, 0, 0, .null)]),
  (3, [(48, .lload 4, 2, 0, 0, 0, .null), (50, .aload_n 0, 1, 0, 0, 0, .null), (51, .getfield 32, 3, 4, 0, 422, .null), (54, .getfield 124, 3, 1, 9, 354, .null), (57, .iload_n 1, 1, 0, 0, 0, .null), (58, .iconst 3, 1, 0, 0, 0, .int 3), (59, .imul, 1, 0, 0, 0, .null), (60, .iload 6, 2, 0, 0, 0, .null), (62, .iadd, 1, 0, 0, 0, .null), (63, .iaload, 1, 0, 0, 0, .null)]),
  (4, [(64, .i2l, 1, 0, 0, 0, .null), (65, .aload_n 0, 1, 0, 0, 0, .null), (66, .getfield 9, 3, 4, 1, 423, .null), (69, .iload 7, 2, 0, 0, 0, .null), (71, .laload, 1, 0, 0, 0, .null), (72, .lmul, 1, 0, 0, 0, .null), (73, .ladd, 1, 0, 0, 0, .null), (74, .lstore 4, 2, 0, 0, 0, .null), (76, .iinc 6 1, 3, 0, 0, 0, .int 1), (79, .goto (-73), 3, 6, 0, 0, .null)]),
  (5, [(82, .lload 4, 2, 0, 0, 0, .null), (84, .ldc2_w 127, 3, 0, 0, 1058, .long 10), (87, .ldiv, 1, 0, 0, 0, .null), (88, .aload_n 0, 1, 0, 0, 0, .null), (89, .getfield 32, 3, 4, 0, 422, .null), (92, .getfield 72, 3, 1, 1, 333, .null), (95, .getfield 129, 3, 3, 3, 178, .null)]),
  (6, [(98, .iload_n 1, 1, 0, 0, 0, .null), (99, .iaload, 1, 0, 0, 0, .null), (100, .i2l, 1, 0, 0, 0, .null), (101, .ldc2_w 132, 3, 0, 0, 1059, .long 10000000000), (104, .lmul, 1, 0, 0, 0, .null), (105, .lsub, 1, 0, 0, 0, .null), (106, .lreturn, 1, 0, 0, 0, .null)])]
def uX4_mean : List (Nat × List Nat) := [(6, [0, 1, 2, 3, 4, 6])]
def qX5_init : CD := [(0, [(0, .aload_n 0, 1, 0, 0, 0, .null), (1, .invokespecial 3, 3, 9001, 0, 239, .null), (4, .aload_n 0, 1, 0, 0, 0, .null), (5, .iconst 0, 1, 0, 0, 0, .int 0), (6, .putfield 9, 3, 5, 2, 242, .null), (9, .aload_n 0, 1, 0, 0, 0, .null), (10, .iconst 0, 1, 0, 0, 0, .int 0), (11, .putfield 15, 3, 5, 3, 243, .null), (14, .aload_n 0, 1, 0, 0, 0, .null), (15, .iconst 0, 1, 0, 0, 0, .int 0)]),
  (1, [(16, .putfield 18, 3, 5, 4, 244, .null), (19, .aload_n 0, 1, 0, 0, 0, .null), (20, .iconst 3, 1, 0, 0, 0, .int 3), (21, .putfield 21, 3, 5, 5, 245, .null), (24, .aload_n 0, 1, 0, 0, 0, .null), (25, .iconst 0, 1, 0, 0, 0, .int 0), (26, .putfield 24, 3, 5, 6, 246, .null), (29, .aload_n 0, 1, 0, 0, 0, .null), (30, .iconst 0, 1, 0, 0, 0, .int 0), (31, .putfield 27, 3, 5, 7, 247, .null)]),
  (2, [(34, .aload_n 0, 1, 0, 0, 0, .null), (35, .iconst 0, 1, 0, 0, 0, .int 0), (36, .putfield 30, 3, 5, 8, 248, .null), (39, .aload_n 0, 1, 0, 0, 0, .null), (40, .iconst 0, 1, 0, 0, 0, .int 0), (41, .putfield 33, 3, 5, 9, 249, .null), (44, .aload_n 0, 1, 0, 0, 0, .null), (45, .aload_n 1, 1, 0, 0, 0, .null), (46, .putfield 36, 3, 5, 0, 240, .null)]),
  (3, [(49, .aload_n 0, 1, 0, 0, 0, .null), (50, .aload_n 2, 1, 0, 0, 0, .null), (51, .putfield 40, 3, 5, 1, 241, .null), (54, .return_, 1, 0, 0, 0, .null)])]
def uX5_init : List (Nat × List Nat) := []
def qX5_read : CD := [(0, [(0, .aload_n 0, 1, 0, 0, 0, .null), (1, .iconst 0, 1, 0, 0, 0, .int 0), (2, .iload_n 1, 1, 0, 0, 0, .null), (3, .aload_n 0, 1, 0, 0, 0, .null), (4, .getfield 36, 3, 5, 0, 240, .null), (7, .arraylength, 1, 0, 0, 0, .null), (8, .invokestatic 44, 3, 9004, 102, 569, .null), (11, .invokestatic 50, 3, 9003, 102, 572, .null), (14, .putfield 9, 3, 5, 2, 242, .null)]),
  (1, [(17, .aload_n 0, 1, 0, 0, 0, .null), (18, .getfield 40, 3, 5, 1, 241, .null), (21, .iconst 0, 1, 0, 0, 0, .int 0), (22, .putfield 53, 3, 3, 0, 156, .null), (25, .aload_n 0, 1, 0, 0, 0, .null), (26, .iconst 0, 1, 0, 0, 0, .int 0), (27, .putfield 30, 3, 5, 8, 248, .null), (30, .aload_n 0, 1, 0, 0, 0, .null), (31, .iconst 0, 1, 0, 0, 0, .int 0)]),
  (2, [(32, .putfield 33, 3, 5, 9, 249, .null), (35, .aload_n 0, 1, 0, 0, 0, .null), (36, .iconst 0, 1, 0, 0, 0, .int 0), (37, .putfield 18, 3, 5, 4, 244, .null), (40, .aload_n 0, 1, 0, 0, 0, .null), (41, .invokevirtual 58, 3, 68, 5000, 575, .null), (44, .iconst 1, 1, 0, 0, 0, .int 1), (45, .istore_n 2, 1, 0, 0, 0, .null), (46, .aload_n 0, 1, 0, 0, 0, .null), (47, .iconst 0, 1, 0, 0, 0, .int 0)]),
  (3, [(48, .putfield 27, 3, 5, 7, 247, .null), (51, .aload_n 0, 1, 0, 0, 0, .null), (52, .getfield 27, 3, 5, 7, 247, .null), (55, .bipush 16, 2, 0, 0, 0, .int 16), (57, .if_icmp .ge 62, 3, 119, 0, 0, .null), (60, .iload_n 2, 1, 0, 0, 0, .null), (61, .ifCond .eq 58, 3, 119, 0, 0, .null)]),
  (4, [(64, .aload_n 0, 1, 0, 0, 0, .null), (65, .invokevirtual 61, 3, 47, 5300, 585, .null), (68, .ifCond .ne 8, 3, 76, 0, 0, .null), (71, .aload_n 0, 1, 0, 0, 0, .null), (72, .getfield 15, 3, 5, 3, 243, .null), (75, .ireturn, 1, 0, 0, 0, .null), (76, .aload_n 0, 1, 0, 0, 0, .null), (77, .getfield 40, 3, 5, 1, 241, .null)]),
  (5, [(80, .aload_n 0, 1, 0, 0, 0, .null), (81, .getfield 27, 3, 5, 7, 247, .null), (84, .iconst 1, 1, 0, 0, 0, .int 1), (85, .iadd, 1, 0, 0, 0, .null), (86, .putfield 53, 3, 3, 0, 156, .null), (89, .aload_n 0, 1, 0, 0, 0, .null), (90, .getfield 21, 3, 5, 5, 245, .null), (93, .iconst 3, 1, 0, 0, 0, .int 3), (94, .if_icmp .ne 5, 3, 99, 0, 0, .null)]),
  (6, [(97, .iconst (-1), 1, 0, 0, 0, .int (-1)), (98, .ireturn, 1, 0, 0, 0, .null), (99, .aload_n 0, 1, 0, 0, 0, .null), (100, .bipush 59, 2, 0, 0, 0, .int 59), (102, .invokevirtual 65, 3, 64, 5301, 659, .null), (105, .istore_n 2, 1, 0, 0, 0, .null), (106, .aload_n 0, 1, 0, 0, 0, .null), (107, .dup, 1, 0, 0, 0, .null), (108, .getfield 27, 3, 5, 7, 247, .null), (111, .iconst 1, 1, 0, 0, 0, .int 1)]),
  (7, [(112, .iadd, 1, 0, 0, 0, .null), (113, .putfield 27, 3, 5, 7, 247, .null), (116, .goto (-65), 3, 51, 0, 0, .null), (119, .aload_n 0, 1, 0, 0, 0, .null), (120, .getfield 15, 3, 5, 3, 243, .null), (123, .ireturn, 1, 0, 0, 0, .null)])]
def uX5_read : List (Nat × List Nat) := [(51, [0, 2])]
def qX5_readPlace : CD := [(0, [(0, .aload_n 0, 1, 0, 0, 0, .null), (1, .getfield 40, 3, 5, 1, 241, .null), (4, .getfield 69, 3, 3, 2, 171, .null), (7, .aload_n 0, 1, 0, 0, 0, .null), (8, .getfield 27, 3, 5, 7, 247, .null), (11, .iconst 0, 1, 0, 0, 0, .int 0), (12, .iastore, 1, 0, 0, 0, .null), (13, .aload_n 0, 1, 0, 0, 0, .null), (14, .getfield 40, 3, 5, 1, 241, .null)]),
  (1, [(17, .getfield 73, 3, 3, 3, 177, .null), (20, .aload_n 0, 1, 0, 0, 0, .null), (21, .getfield 27, 3, 5, 7, 247, .null), (24, .iconst 0, 1, 0, 0, 0, .int 0), (25, .iastore, 1, 0, 0, 0, .null), (26, .aload_n 0, 1, 0, 0, 0, .null), (27, .getfield 40, 3, 5, 1, 241, .null), (30, .getfield 76, 3, 3, 4, 182, .null)]),
  (2, [(33, .aload_n 0, 1, 0, 0, 0, .null), (34, .getfield 27, 3, 5, 7, 247, .null), (37, .iconst 0, 1, 0, 0, 0, .int 0), (38, .iastore, 1, 0, 0, 0, .null), (39, .aload_n 0, 1, 0, 0, 0, .null), (40, .getfield 40, 3, 5, 1, 241, .null), (43, .getfield 79, 3, 3, 7, 199, .null), (46, .aload_n 0, 1, 0, 0, 0, .null), (47, .getfield 27, 3, 5, 7, 247, .null)]),
  (3, [(50, .aload_n 0, 1, 0, 0, 0, .null), (51, .getfield 30, 3, 5, 8, 248, .null), (54, .iastore, 1, 0, 0, 0, .null), (55, .aload_n 0, 1, 0, 0, 0, .null), (56, .getfield 40, 3, 5, 1, 241, .null), (59, .getfield 82, 3, 3, 8, 202, .null), (62, .aload_n 0, 1, 0, 0, 0, .null), (63, .getfield 27, 3, 5, 7, 247, .null)]),
  (4, [(66, .aload_n 0, 1, 0, 0, 0, .null), (67, .getfield 30, 3, 5, 8, 248, .null), (70, .iastore, 1, 0, 0, 0, .null), (71, .aload_n 0, 1, 0, 0, 0, .null), (72, .getfield 40, 3, 5, 1, 241, .null), (75, .getfield 85, 3, 3, 9, 205, .null), (78, .aload_n 0, 1, 0, 0, 0, .null), (79, .getfield 27, 3, 5, 7, 247, .null)]),
  (5, [(82, .aload_n 0, 1, 0, 0, 0, .null), (83, .getfield 30, 3, 5, 8, 248, .null), (86, .iastore, 1, 0, 0, 0, .null), (87, .aload_n 0, 1, 0, 0, 0, .null), (88, .ldc 88, 2, 1, 0, 589, .ref 0), (90, .invokevirtual 90, 3, 66, 5301, 590, .null), (93, .ifCond .eq 8, 3, 101, 0, 0, .null)]),
  (6, [(96, .aload_n 0, 1, 0, 0, 0, .null), (97, .invokevirtual 94, 3, 48, 5300, 646, .null), (100, .ireturn, 1, 0, 0, 0, .null), (101, .aload_n 0, 1, 0, 0, 0, .null), (102, .ldc 97, 2, 1, 0, 667, .ref 2), (104, .invokevirtual 90, 3, 66, 5301, 590, .null), (107, .ifCond .eq 8, 3, 115, 0, 0, .null), (110, .aload_n 0, 1, 0, 0, 0, .null), (111, .invokevirtual 99, 3, 49, 5300, 668, .null)]),
  (7, [(114, .ireturn, 1, 0, 0, 0, .null), (115, .aload_n 0, 1, 0, 0, 0, .null), (116, .ldc 102, 2, 1, 0, 673, .ref 4), (118, .invokevirtual 90, 3, 66, 5301, 590, .null), (121, .ifCond .eq 8, 3, 129, 0, 0, .null), (124, .aload_n 0, 1, 0, 0, 0, .null), (125, .invokevirtual 104, 3, 50, 5300, 674, .null)]),
  (8, [(128, .ireturn, 1, 0, 0, 0, .null), (129, .aload_n 0, 1, 0, 0, 0, .null), (130, .ldc 107, 2, 1, 0, 678, .ref 5), (132, .invokevirtual 90, 3, 66, 5301, 590, .null), (135, .ifCond .eq 14, 3, 149, 0, 0, .null), (138, .aload_n 0, 1, 0, 0, 0, .null), (139, .invokevirtual 109, 3, 52, 5300, 679, .null), (142, .ifCond .eq 7, 3, 149, 0, 0, .null)]),
  (9, [(145, .iconst 1, 1, 0, 0, 0, .int 1), (146, .goto 4, 3, 150, 0, 0, .null), (149, .iconst 0, 1, 0, 0, 0, .int 0), (150, .ireturn, 1, 0, 0, 0, .null)])]
def uX5_readPlace : List (Nat × List Nat) := []
def qX5_readFork : CD := [(0, [(0, .aload_n 0, 1, 0, 0, 0, .null), (1, .getfield 40, 3, 5, 1, 241, .null), (4, .getfield 112, 3, 3, 1, 166, .null), (7, .aload_n 0, 1, 0, 0, 0, .null), (8, .getfield 27, 3, 5, 7, 247, .null), (11, .iconst 0, 1, 0, 0, 0, .int 0), (12, .iastore, 1, 0, 0, 0, .null), (13, .aload_n 0, 1, 0, 0, 0, .null), (14, .getfield 40, 3, 5, 1, 241, .null)]),
  (1, [(17, .getfield 69, 3, 3, 2, 171, .null), (20, .aload_n 0, 1, 0, 0, 0, .null), (21, .getfield 27, 3, 5, 7, 247, .null), (24, .aload_n 0, 1, 0, 0, 0, .null), (25, .getfield 24, 3, 5, 6, 246, .null), (28, .iastore, 1, 0, 0, 0, .null), (29, .aload_n 0, 1, 0, 0, 0, .null), (30, .iconst 0, 1, 0, 0, 0, .int 0), (31, .iconst 5, 1, 0, 0, 0, .int 5)]),
  (2, [(32, .invokevirtual 114, 3, 67, 5302, 650, .null), (35, .ifCond .eq 12, 3, 47, 0, 0, .null), (38, .aload_n 0, 1, 0, 0, 0, .null), (39, .ldc 118, 2, 1, 0, 654, .ref 1), (41, .invokevirtual 90, 3, 66, 5301, 590, .null), (44, .ifCond .ne 5, 3, 49, 0, 0, .null), (47, .iconst 0, 1, 0, 0, 0, .int 0)]),
  (3, [(48, .ireturn, 1, 0, 0, 0, .null), (49, .iconst 1, 1, 0, 0, 0, .int 1), (50, .istore_n 1, 1, 0, 0, 0, .null), (51, .iconst 0, 1, 0, 0, 0, .int 0), (52, .istore_n 2, 1, 0, 0, 0, .null), (53, .iload_n 2, 1, 0, 0, 0, .null), (54, .iconst 3, 1, 0, 0, 0, .int 3), (55, .if_icmp .ge 43, 3, 98, 0, 0, .null), (58, .iload_n 1, 1, 0, 0, 0, .null), (59, .ifCond .eq 39, 3, 98, 0, 0, .null), (62, .aload_n 0, 1, 0, 0, 0, .null), (63, .iload_n 2, 1, 0, 0, 0, .null)]),
  (4, [(64, .invokevirtual 120, 3, 51, 5301, 655, .null), (67, .ifCond .ne 5, 3, 72, 0, 0, .null), (70, .iconst 0, 1, 0, 0, 0, .int 0), (71, .ireturn, 1, 0, 0, 0, .null), (72, .iload_n 2, 1, 0, 0, 0, .null), (73, .iconst 2, 1, 0, 0, 0, .int 2), (74, .if_icmp .ge 16, 3, 90, 0, 0, .null), (77, .aload_n 0, 1, 0, 0, 0, .null), (78, .bipush 44, 2, 0, 0, 0, .int 44)]),
  (5, [(80, .invokevirtual 65, 3, 64, 5301, 659, .null), (83, .ifCond .eq 7, 3, 90, 0, 0, .null), (86, .iconst 1, 1, 0, 0, 0, .int 1), (87, .goto 4, 3, 91, 0, 0, .null), (90, .iconst 0, 1, 0, 0, 0, .int 0), (91, .istore_n 1, 1, 0, 0, 0, .null), (92, .iinc 2 1, 3, 0, 0, 0, .int 1), (95, .goto (-42), 3, 53, 0, 0, .null)]),
  (6, [(98, .iconst 1, 1, 0, 0, 0, .int 1), (99, .ireturn, 1, 0, 0, 0, .null)])]
def uX5_readFork : List (Nat × List Nat) := [(53, [0, 1, 2])]
def qX5_readTurn : CD := [(0, [(0, .aload_n 0, 1, 0, 0, 0, .null), (1, .getfield 40, 3, 5, 1, 241, .null), (4, .getfield 112, 3, 3, 1, 166, .null), (7, .aload_n 0, 1, 0, 0, 0, .null), (8, .getfield 27, 3, 5, 7, 247, .null), (11, .iconst 1, 1, 0, 0, 0, .int 1), (12, .iastore, 1, 0, 0, 0, .null), (13, .bipush 10, 2, 0, 0, 0, .int 10), (15, .istore_n 1, 1, 0, 0, 0, .null)]),
  (1, [(16, .iconst 1, 1, 0, 0, 0, .int 1), (17, .istore_n 2, 1, 0, 0, 0, .null), (18, .iconst 0, 1, 0, 0, 0, .int 0), (19, .istore_n 3, 1, 0, 0, 0, .null), (20, .iload_n 3, 1, 0, 0, 0, .null), (21, .iconst 3, 1, 0, 0, 0, .int 3), (22, .if_icmp .ge 92, 3, 114, 0, 0, .null), (25, .iload_n 2, 1, 0, 0, 0, .null), (26, .ifCond .eq 88, 3, 114, 0, 0, .null), (29, .aload_n 0, 1, 0, 0, 0, .null), (30, .iload_n 3, 1, 0, 0, 0, .null), (31, .invokevirtual 120, 3, 51, 5301, 655, .null)]),
  (2, [(34, .ifCond .eq 12, 3, 46, 0, 0, .null), (37, .aload_n 0, 1, 0, 0, 0, .null), (38, .ldc 124, 2, 1, 0, 672, .ref 3), (40, .invokevirtual 90, 3, 66, 5301, 590, .null), (43, .ifCond .ne 5, 3, 48, 0, 0, .null), (46, .iconst 0, 1, 0, 0, 0, .int 0), (47, .ireturn, 1, 0, 0, 0, .null)]),
  (3, [(48, .aload_n 0, 1, 0, 0, 0, .null), (49, .getfield 24, 3, 5, 6, 246, .null), (52, .istore 4, 2, 0, 0, 0, .null), (54, .aload_n 0, 1, 0, 0, 0, .null), (55, .iconst 1, 1, 0, 0, 0, .int 1), (56, .iload_n 1, 1, 0, 0, 0, .null), (57, .invokevirtual 114, 3, 67, 5302, 650, .null), (60, .ifCond .ne 5, 3, 65, 0, 0, .null), (63, .iconst 0, 1, 0, 0, 0, .int 0)]),
  (4, [(64, .ireturn, 1, 0, 0, 0, .null), (65, .iload_n 1, 1, 0, 0, 0, .null), (66, .iload 4, 2, 0, 0, 0, .null), (68, .isub, 1, 0, 0, 0, .null), (69, .istore_n 1, 1, 0, 0, 0, .null), (70, .aload_n 0, 1, 0, 0, 0, .null), (71, .getfield 40, 3, 5, 1, 241, .null), (74, .getfield 126, 3, 3, 6, 196, .null), (77, .aload_n 0, 1, 0, 0, 0, .null), (78, .getfield 27, 3, 5, 7, 247, .null)]),
  (5, [(81, .iconst 3, 1, 0, 0, 0, .int 3), (82, .imul, 1, 0, 0, 0, .null), (83, .iload_n 3, 1, 0, 0, 0, .null), (84, .iadd, 1, 0, 0, 0, .null), (85, .iload 4, 2, 0, 0, 0, .null), (87, .iastore, 1, 0, 0, 0, .null), (88, .iload_n 3, 1, 0, 0, 0, .null), (89, .iconst 2, 1, 0, 0, 0, .int 2), (90, .if_icmp .ge 16, 3, 106, 0, 0, .null), (93, .aload_n 0, 1, 0, 0, 0, .null), (94, .bipush 44, 2, 0, 0, 0, .int 44)]),
  (6, [(96, .invokevirtual 65, 3, 64, 5301, 659, .null), (99, .ifCond .eq 7, 3, 106, 0, 0, .null), (102, .iconst 1, 1, 0, 0, 0, .int 1), (103, .goto 4, 3, 107, 0, 0, .null), (106, .iconst 0, 1, 0, 0, 0, .int 0), (107, .istore_n 2, 1, 0, 0, 0, .null), (108, .iinc 3 1, 3, 0, 0, 0, .int 1), (111, .goto (-91), 3, 20, 0, 0, .null)]),
  (7, [(114, .iload_n 1, 1, 0, 0, 0, .null), (115, .ifCond .ne 7, 3, 122, 0, 0, .null), (118, .iconst 1, 1, 0, 0, 0, .int 1), (119, .goto 4, 3, 123, 0, 0, .null), (122, .iconst 0, 1, 0, 0, 0, .int 0), (123, .ireturn, 1, 0, 0, 0, .null)])]
def uX5_readTurn : List (Nat × List Nat) := [(20, [0, 1, 2, 3])]
def qX5_readInn : CD := [(0, [(0, .aload_n 0, 1, 0, 0, 0, .null), (1, .getfield 40, 3, 5, 1, 241, .null), (4, .getfield 112, 3, 3, 1, 166, .null), (7, .aload_n 0, 1, 0, 0, 0, .null), (8, .getfield 27, 3, 5, 7, 247, .null), (11, .iconst 2, 1, 0, 0, 0, .int 2), (12, .iastore, 1, 0, 0, 0, .null), (13, .aload_n 0, 1, 0, 0, 0, .null), (14, .getfield 40, 3, 5, 1, 241, .null)]),
  (1, [(17, .getfield 73, 3, 3, 3, 177, .null), (20, .aload_n 0, 1, 0, 0, 0, .null), (21, .getfield 27, 3, 5, 7, 247, .null), (24, .aload_n 0, 1, 0, 0, 0, .null), (25, .getfield 24, 3, 5, 6, 246, .null), (28, .iastore, 1, 0, 0, 0, .null), (29, .aload_n 0, 1, 0, 0, 0, .null), (30, .iconst 0, 1, 0, 0, 0, .int 0), (31, .bipush 99, 2, 0, 0, 0, .int 99)]),
  (2, [(33, .invokevirtual 114, 3, 67, 5302, 650, .null), (36, .ifCond .eq 24, 3, 60, 0, 0, .null), (39, .aload_n 0, 1, 0, 0, 0, .null), (40, .ldc 118, 2, 1, 0, 654, .ref 1), (42, .invokevirtual 90, 3, 66, 5301, 590, .null), (45, .ifCond .eq 15, 3, 60, 0, 0, .null)]),
  (3, [(48, .aload_n 0, 1, 0, 0, 0, .null), (49, .iconst 0, 1, 0, 0, 0, .int 0), (50, .invokevirtual 120, 3, 51, 5301, 655, .null), (53, .ifCond .eq 7, 3, 60, 0, 0, .null), (56, .iconst 1, 1, 0, 0, 0, .int 1), (57, .goto 4, 3, 61, 0, 0, .null), (60, .iconst 0, 1, 0, 0, 0, .int 0), (61, .ireturn, 1, 0, 0, 0, .null)])]
def uX5_readInn : List (Nat × List Nat) := []
def qX5_readRoad : CD := [(0, [(0, .aload_n 0, 1, 0, 0, 0, .null), (1, .getfield 40, 3, 5, 1, 241, .null), (4, .getfield 129, 3, 3, 5, 192, .null), (7, .aload_n 0, 1, 0, 0, 0, .null), (8, .getfield 27, 3, 5, 7, 247, .null), (11, .iconst 3, 1, 0, 0, 0, .int 3), (12, .imul, 1, 0, 0, 0, .null), (13, .iload_n 1, 1, 0, 0, 0, .null), (14, .iadd, 1, 0, 0, 0, .null), (15, .aload_n 0, 1, 0, 0, 0, .null)]),
  (1, [(16, .getfield 24, 3, 5, 6, 246, .null), (19, .iastore, 1, 0, 0, 0, .null), (20, .aload_n 0, 1, 0, 0, 0, .null), (21, .getfield 40, 3, 5, 1, 241, .null), (24, .getfield 76, 3, 3, 4, 182, .null), (27, .aload_n 0, 1, 0, 0, 0, .null), (28, .getfield 27, 3, 5, 7, 247, .null), (31, .iload_n 1, 1, 0, 0, 0, .null)]),
  (2, [(32, .iconst 1, 1, 0, 0, 0, .int 1), (33, .iadd, 1, 0, 0, 0, .null), (34, .iastore, 1, 0, 0, 0, .null), (35, .aload_n 0, 1, 0, 0, 0, .null), (36, .iconst 0, 1, 0, 0, 0, .int 0), (37, .bipush 15, 2, 0, 0, 0, .int 15), (39, .invokevirtual 114, 3, 67, 5302, 650, .null), (42, .ireturn, 1, 0, 0, 0, .null)])]
def uX5_readRoad : List (Nat × List Nat) := []
def qX5_readEnd : CD := [(0, [(0, .aload_n 0, 1, 0, 0, 0, .null), (1, .getfield 40, 3, 5, 1, 241, .null), (4, .getfield 112, 3, 3, 1, 166, .null), (7, .aload_n 0, 1, 0, 0, 0, .null), (8, .getfield 27, 3, 5, 7, 247, .null), (11, .iconst 3, 1, 0, 0, 0, .int 3), (12, .iastore, 1, 0, 0, 0, .null), (13, .aload_n 0, 1, 0, 0, 0, .null), (14, .iconst 0, 1, 0, 0, 0, .int 0), (15, .invokevirtual 132, 3, 58, 5301, 683, .null)]),
  (1, [(18, .ifCond .ne 5, 3, 23, 0, 0, .null), (21, .iconst 0, 1, 0, 0, 0, .int 0), (22, .ireturn, 1, 0, 0, 0, .null), (23, .aload_n 0, 1, 0, 0, 0, .null), (24, .getfield 40, 3, 5, 1, 241, .null), (27, .getfield 82, 3, 3, 8, 202, .null), (30, .aload_n 0, 1, 0, 0, 0, .null), (31, .getfield 27, 3, 5, 7, 247, .null)]),
  (2, [(34, .aload_n 0, 1, 0, 0, 0, .null), (35, .getfield 30, 3, 5, 8, 248, .null), (38, .iastore, 1, 0, 0, 0, .null), (39, .aload_n 0, 1, 0, 0, 0, .null), (40, .ldc 135, 2, 1, 0, 702, .ref 9), (42, .invokevirtual 90, 3, 66, 5301, 590, .null), (45, .ifCond .eq 13, 3, 58, 0, 0, .null)]),
  (3, [(48, .aload_n 0, 1, 0, 0, 0, .null), (49, .iconst 0, 1, 0, 0, 0, .int 0), (50, .invokevirtual 137, 3, 53, 5301, 703, .null), (53, .ifCond .ne 5, 3, 58, 0, 0, .null), (56, .iconst 0, 1, 0, 0, 0, .int 0), (57, .ireturn, 1, 0, 0, 0, .null), (58, .aload_n 0, 1, 0, 0, 0, .null), (59, .getfield 40, 3, 5, 1, 241, .null), (62, .getfield 85, 3, 3, 9, 205, .null)]),
  (4, [(65, .aload_n 0, 1, 0, 0, 0, .null), (66, .getfield 27, 3, 5, 7, 247, .null), (69, .aload_n 0, 1, 0, 0, 0, .null), (70, .getfield 30, 3, 5, 8, 248, .null), (73, .iastore, 1, 0, 0, 0, .null), (74, .iconst 1, 1, 0, 0, 0, .int 1), (75, .ireturn, 1, 0, 0, 0, .null)])]
def uX5_readEnd : List (Nat × List Nat) := []
def qX5_readTest : CD := [(0, [(0, .aload_n 0, 1, 0, 0, 0, .null), (1, .iload_n 1, 1, 0, 0, 0, .null), (2, .invokevirtual 140, 3, 54, 5301, 707, .null), (5, .ifCond .ne 5, 3, 10, 0, 0, .null), (8, .iconst 0, 1, 0, 0, 0, .int 0), (9, .ireturn, 1, 0, 0, 0, .null), (10, .iconst 0, 1, 0, 0, 0, .int 0), (11, .istore_n 2, 1, 0, 0, 0, .null), (12, .iload_n 2, 1, 0, 0, 0, .null), (13, .sipush 400, 3, 0, 0, 0, .int 400)]),
  (1, [(16, .if_icmp .ge 45, 3, 61, 0, 0, .null), (19, .aload_n 0, 1, 0, 0, 0, .null), (20, .ldc 143, 2, 1, 0, 729, .ref 12), (22, .invokevirtual 90, 3, 66, 5301, 590, .null), (25, .ifCond .eq 36, 3, 61, 0, 0, .null), (28, .aload_n 0, 1, 0, 0, 0, .null), (29, .getfield 30, 3, 5, 8, 248, .null)]),
  (2, [(32, .istore_n 3, 1, 0, 0, 0, .null), (33, .aload_n 0, 1, 0, 0, 0, .null), (34, .bipush 12, 2, 0, 0, 0, .int 12), (36, .iconst 0, 1, 0, 0, 0, .int 0), (37, .invokevirtual 147, 3, 61, 5002, 698, .null), (40, .aload_n 0, 1, 0, 0, 0, .null), (41, .iload_n 1, 1, 0, 0, 0, .null), (42, .invokevirtual 140, 3, 54, 5301, 707, .null), (45, .ifCond .ne 5, 3, 50, 0, 0, .null)]),
  (3, [(48, .iconst 0, 1, 0, 0, 0, .int 0), (49, .ireturn, 1, 0, 0, 0, .null), (50, .aload_n 0, 1, 0, 0, 0, .null), (51, .iload_n 3, 1, 0, 0, 0, .null), (52, .invokevirtual 151, 3, 62, 5001, 725, .null), (55, .iinc 2 1, 3, 0, 0, 0, .int 1), (58, .goto (-46), 3, 12, 0, 0, .null), (61, .iconst 1, 1, 0, 0, 0, .int 1), (62, .ireturn, 1, 0, 0, 0, .null)])]
def uX5_readTest : List (Nat × List Nat) := [(12, [0, 1, 2])]
def qX5_readBoth : CD := [(0, [(0, .aload_n 0, 1, 0, 0, 0, .null), (1, .iload_n 1, 1, 0, 0, 0, .null), (2, .invokevirtual 155, 3, 55, 5301, 711, .null), (5, .ifCond .ne 5, 3, 10, 0, 0, .null), (8, .iconst 0, 1, 0, 0, 0, .int 0), (9, .ireturn, 1, 0, 0, 0, .null), (10, .iconst 0, 1, 0, 0, 0, .int 0), (11, .istore_n 2, 1, 0, 0, 0, .null), (12, .iload_n 2, 1, 0, 0, 0, .null), (13, .sipush 400, 3, 0, 0, 0, .int 400)]),
  (1, [(16, .if_icmp .ge 45, 3, 61, 0, 0, .null), (19, .aload_n 0, 1, 0, 0, 0, .null), (20, .ldc 158, 2, 1, 0, 724, .ref 11), (22, .invokevirtual 90, 3, 66, 5301, 590, .null), (25, .ifCond .eq 36, 3, 61, 0, 0, .null), (28, .aload_n 0, 1, 0, 0, 0, .null), (29, .getfield 30, 3, 5, 8, 248, .null)]),
  (2, [(32, .istore_n 3, 1, 0, 0, 0, .null), (33, .aload_n 0, 1, 0, 0, 0, .null), (34, .bipush 13, 2, 0, 0, 0, .int 13), (36, .iconst 0, 1, 0, 0, 0, .int 0), (37, .invokevirtual 147, 3, 61, 5002, 698, .null), (40, .aload_n 0, 1, 0, 0, 0, .null), (41, .iload_n 1, 1, 0, 0, 0, .null), (42, .invokevirtual 155, 3, 55, 5301, 711, .null), (45, .ifCond .ne 5, 3, 50, 0, 0, .null)]),
  (3, [(48, .iconst 0, 1, 0, 0, 0, .int 0), (49, .ireturn, 1, 0, 0, 0, .null), (50, .aload_n 0, 1, 0, 0, 0, .null), (51, .iload_n 3, 1, 0, 0, 0, .null), (52, .invokevirtual 151, 3, 62, 5001, 725, .null), (55, .iinc 2 1, 3, 0, 0, 0, .int 1), (58, .goto (-46), 3, 12, 0, 0, .null), (61, .iconst 1, 1, 0, 0, 0, .int 1), (62, .ireturn, 1, 0, 0, 0, .null)])]
def uX5_readBoth : List (Nat × List Nat) := [(12, [0, 1, 2])]
def qX5_readPlain : CD := [(0, [(0, .iconst 0, 1, 0, 0, 0, .int 0), (1, .istore_n 2, 1, 0, 0, 0, .null), (2, .iconst 0, 1, 0, 0, 0, .int 0), (3, .istore_n 3, 1, 0, 0, 0, .null), (4, .iload_n 3, 1, 0, 0, 0, .null), (5, .sipush 400, 3, 0, 0, 0, .int 400), (8, .if_icmp .ge 28, 3, 36, 0, 0, .null), (11, .aload_n 0, 1, 0, 0, 0, .null), (12, .ldc 160, 2, 1, 0, 715, .ref 10), (14, .invokevirtual 90, 3, 66, 5301, 590, .null)]),
  (1, [(17, .ifCond .eq 19, 3, 36, 0, 0, .null), (20, .iload_n 2, 1, 0, 0, 0, .null), (21, .ifCond .ne 7, 3, 28, 0, 0, .null), (24, .iconst 1, 1, 0, 0, 0, .int 1), (25, .goto 4, 3, 29, 0, 0, .null), (28, .iconst 0, 1, 0, 0, 0, .int 0), (29, .istore_n 2, 1, 0, 0, 0, .null), (30, .iinc 3 1, 3, 0, 0, 0, .int 1)]),
  (2, [(33, .goto (-29), 3, 4, 0, 0, .null), (36, .aload_n 0, 1, 0, 0, 0, .null), (37, .bipush 40, 2, 0, 0, 0, .int 40), (39, .invokevirtual 162, 3, 63, 5301, 663, .null), (42, .ifCond .eq 11, 3, 53, 0, 0, .null), (45, .aload_n 0, 1, 0, 0, 0, .null), (46, .iload_n 1, 1, 0, 0, 0, .null), (47, .invokevirtual 165, 3, 56, 5301, 716, .null)]),
  (3, [(50, .goto 8, 3, 58, 0, 0, .null), (53, .aload_n 0, 1, 0, 0, 0, .null), (54, .iload_n 1, 1, 0, 0, 0, .null), (55, .invokevirtual 168, 3, 57, 5301, 720, .null), (58, .istore_n 3, 1, 0, 0, 0, .null), (59, .iload_n 3, 1, 0, 0, 0, .null), (60, .ifCond .eq 14, 3, 74, 0, 0, .null), (63, .iload_n 2, 1, 0, 0, 0, .null)]),
  (4, [(64, .ifCond .eq 10, 3, 74, 0, 0, .null), (67, .aload_n 0, 1, 0, 0, 0, .null), (68, .bipush 11, 2, 0, 0, 0, .int 11), (70, .iconst 0, 1, 0, 0, 0, .int 0), (71, .invokevirtual 147, 3, 61, 5002, 698, .null), (74, .iload_n 3, 1, 0, 0, 0, .null), (75, .ireturn, 1, 0, 0, 0, .null)])]
def uX5_readPlain : List (Nat × List Nat) := [(4, [0, 1, 2, 3]), (36, [0, 1, 2])]
def qX5_readInBrackets : CD := [(0, [(0, .iload_n 1, 1, 0, 0, 0, .null), (1, .bipush 8, 2, 0, 0, 0, .int 8), (3, .if_icmp .ge 35, 3, 38, 0, 0, .null), (6, .aload_n 0, 1, 0, 0, 0, .null), (7, .bipush 40, 2, 0, 0, 0, .int 40), (9, .invokevirtual 65, 3, 64, 5301, 659, .null), (12, .ifCond .eq 26, 3, 38, 0, 0, .null), (15, .aload_n 0, 1, 0, 0, 0, .null)]),
  (1, [(16, .iload_n 1, 1, 0, 0, 0, .null), (17, .iconst 1, 1, 0, 0, 0, .int 1), (18, .iadd, 1, 0, 0, 0, .null), (19, .invokevirtual 137, 3, 53, 5301, 703, .null), (22, .ifCond .eq 16, 3, 38, 0, 0, .null), (25, .aload_n 0, 1, 0, 0, 0, .null), (26, .bipush 41, 2, 0, 0, 0, .int 41), (28, .invokevirtual 65, 3, 64, 5301, 659, .null), (31, .ifCond .eq 7, 3, 38, 0, 0, .null)]),
  (2, [(34, .iconst 1, 1, 0, 0, 0, .int 1), (35, .goto 4, 3, 39, 0, 0, .null), (38, .iconst 0, 1, 0, 0, 0, .int 0), (39, .ireturn, 1, 0, 0, 0, .null)])]
def uX5_readInBrackets : List (Nat × List Nat) := []
def qX5_readComparison : CD := [(0, [(0, .aload_n 0, 1, 0, 0, 0, .null), (1, .iload_n 1, 1, 0, 0, 0, .null), (2, .invokevirtual 132, 3, 58, 5301, 683, .null), (5, .ifCond .ne 5, 3, 10, 0, 0, .null), (8, .iconst 0, 1, 0, 0, 0, .int 0), (9, .ireturn, 1, 0, 0, 0, .null), (10, .aload_n 0, 1, 0, 0, 0, .null), (11, .bipush 60, 2, 0, 0, 0, .int 60), (13, .invokevirtual 162, 3, 63, 5301, 663, .null)]),
  (1, [(16, .ifCond .eq 8, 3, 24, 0, 0, .null), (19, .bipush 8, 2, 0, 0, 0, .int 8), (21, .goto 19, 3, 40, 0, 0, .null), (24, .aload_n 0, 1, 0, 0, 0, .null), (25, .bipush 62, 2, 0, 0, 0, .int 62), (27, .invokevirtual 162, 3, 63, 5301, 663, .null), (30, .ifCond .eq 8, 3, 38, 0, 0, .null)]),
  (2, [(33, .bipush 9, 2, 0, 0, 0, .int 9), (35, .goto 5, 3, 40, 0, 0, .null), (38, .bipush 10, 2, 0, 0, 0, .int 10), (40, .istore_n 2, 1, 0, 0, 0, .null), (41, .iload_n 2, 1, 0, 0, 0, .null), (42, .bipush 10, 2, 0, 0, 0, .int 10), (44, .if_icmp .ne 14, 3, 58, 0, 0, .null), (47, .aload_n 0, 1, 0, 0, 0, .null)]),
  (3, [(48, .bipush 61, 2, 0, 0, 0, .int 61), (50, .invokevirtual 162, 3, 63, 5301, 663, .null), (53, .ifCond .ne 5, 3, 58, 0, 0, .null), (56, .iconst 0, 1, 0, 0, 0, .int 0), (57, .ireturn, 1, 0, 0, 0, .null), (58, .aload_n 0, 1, 0, 0, 0, .null), (59, .invokevirtual 58, 3, 68, 5000, 575, .null), (62, .aload_n 0, 1, 0, 0, 0, .null), (63, .iload_n 1, 1, 0, 0, 0, .null)]),
  (4, [(64, .invokevirtual 132, 3, 58, 5301, 683, .null), (67, .ifCond .ne 5, 3, 72, 0, 0, .null), (70, .iconst 0, 1, 0, 0, 0, .int 0), (71, .ireturn, 1, 0, 0, 0, .null), (72, .aload_n 0, 1, 0, 0, 0, .null), (73, .iload_n 2, 1, 0, 0, 0, .null), (74, .iconst 0, 1, 0, 0, 0, .int 0), (75, .invokevirtual 147, 3, 61, 5002, 698, .null), (78, .iconst 1, 1, 0, 0, 0, .int 1), (79, .ireturn, 1, 0, 0, 0, .null)])]
def uX5_readComparison : List (Nat × List Nat) := [(41, [0, 1, 2])]
def qX5_readSum : CD := [(0, [(0, .aload_n 0, 1, 0, 0, 0, .null), (1, .iload_n 1, 1, 0, 0, 0, .null), (2, .invokevirtual 171, 3, 59, 5301, 687, .null), (5, .ifCond .ne 5, 3, 10, 0, 0, .null), (8, .iconst 0, 1, 0, 0, 0, .int 0), (9, .ireturn, 1, 0, 0, 0, .null), (10, .iconst 0, 1, 0, 0, 0, .int 0), (11, .istore_n 2, 1, 0, 0, 0, .null), (12, .iload_n 2, 1, 0, 0, 0, .null), (13, .sipush 400, 3, 0, 0, 0, .int 400)]),
  (1, [(16, .if_icmp .ge 62, 3, 78, 0, 0, .null), (19, .aload_n 0, 1, 0, 0, 0, .null), (20, .bipush 43, 2, 0, 0, 0, .int 43), (22, .invokevirtual 162, 3, 63, 5301, 663, .null), (25, .ifCond .ne 12, 3, 37, 0, 0, .null), (28, .aload_n 0, 1, 0, 0, 0, .null), (29, .bipush 45, 2, 0, 0, 0, .int 45), (31, .invokevirtual 162, 3, 63, 5301, 663, .null)]),
  (2, [(34, .ifCond .eq 44, 3, 78, 0, 0, .null), (37, .aload_n 0, 1, 0, 0, 0, .null), (38, .bipush 43, 2, 0, 0, 0, .int 43), (40, .invokevirtual 162, 3, 63, 5301, 663, .null), (43, .ifCond .eq 7, 3, 50, 0, 0, .null), (46, .iconst 4, 1, 0, 0, 0, .int 4), (47, .goto 4, 3, 51, 0, 0, .null)]),
  (3, [(50, .iconst 5, 1, 0, 0, 0, .int 5), (51, .istore_n 3, 1, 0, 0, 0, .null), (52, .aload_n 0, 1, 0, 0, 0, .null), (53, .invokevirtual 58, 3, 68, 5000, 575, .null), (56, .aload_n 0, 1, 0, 0, 0, .null), (57, .iload_n 1, 1, 0, 0, 0, .null), (58, .invokevirtual 171, 3, 59, 5301, 687, .null), (61, .ifCond .ne 5, 3, 66, 0, 0, .null)]),
  (4, [(64, .iconst 0, 1, 0, 0, 0, .int 0), (65, .ireturn, 1, 0, 0, 0, .null), (66, .aload_n 0, 1, 0, 0, 0, .null), (67, .iload_n 3, 1, 0, 0, 0, .null), (68, .iconst 0, 1, 0, 0, 0, .int 0), (69, .invokevirtual 147, 3, 61, 5002, 698, .null), (72, .iinc 2 1, 3, 0, 0, 0, .int 1), (75, .goto (-63), 3, 12, 0, 0, .null), (78, .iconst 1, 1, 0, 0, 0, .int 1), (79, .ireturn, 1, 0, 0, 0, .null)])]
def uX5_readSum : List (Nat × List Nat) := [(12, [0, 1, 2]), (52, [0, 1, 2, 3])]
def qX5_readTerm : CD := [(0, [(0, .aload_n 0, 1, 0, 0, 0, .null), (1, .iload_n 1, 1, 0, 0, 0, .null), (2, .invokevirtual 174, 3, 60, 5301, 691, .null), (5, .ifCond .ne 5, 3, 10, 0, 0, .null), (8, .iconst 0, 1, 0, 0, 0, .int 0), (9, .ireturn, 1, 0, 0, 0, .null), (10, .iconst 0, 1, 0, 0, 0, .int 0), (11, .istore_n 2, 1, 0, 0, 0, .null), (12, .iload_n 2, 1, 0, 0, 0, .null), (13, .sipush 400, 3, 0, 0, 0, .int 400)]),
  (1, [(16, .if_icmp .ge 64, 3, 80, 0, 0, .null), (19, .aload_n 0, 1, 0, 0, 0, .null), (20, .bipush 42, 2, 0, 0, 0, .int 42), (22, .invokevirtual 162, 3, 63, 5301, 663, .null), (25, .ifCond .ne 12, 3, 37, 0, 0, .null), (28, .aload_n 0, 1, 0, 0, 0, .null), (29, .bipush 47, 2, 0, 0, 0, .int 47), (31, .invokevirtual 162, 3, 63, 5301, 663, .null)]),
  (2, [(34, .ifCond .eq 46, 3, 80, 0, 0, .null), (37, .aload_n 0, 1, 0, 0, 0, .null), (38, .bipush 42, 2, 0, 0, 0, .int 42), (40, .invokevirtual 162, 3, 63, 5301, 663, .null), (43, .ifCond .eq 8, 3, 51, 0, 0, .null), (46, .bipush 6, 2, 0, 0, 0, .int 6)]),
  (3, [(48, .goto 5, 3, 53, 0, 0, .null), (51, .bipush 7, 2, 0, 0, 0, .int 7), (53, .istore_n 3, 1, 0, 0, 0, .null), (54, .aload_n 0, 1, 0, 0, 0, .null), (55, .invokevirtual 58, 3, 68, 5000, 575, .null), (58, .aload_n 0, 1, 0, 0, 0, .null), (59, .iload_n 1, 1, 0, 0, 0, .null), (60, .invokevirtual 174, 3, 60, 5301, 691, .null), (63, .ifCond .ne 5, 3, 68, 0, 0, .null)]),
  (4, [(66, .iconst 0, 1, 0, 0, 0, .int 0), (67, .ireturn, 1, 0, 0, 0, .null), (68, .aload_n 0, 1, 0, 0, 0, .null), (69, .iload_n 3, 1, 0, 0, 0, .null), (70, .iconst 0, 1, 0, 0, 0, .int 0), (71, .invokevirtual 147, 3, 61, 5002, 698, .null), (74, .iinc 2 1, 3, 0, 0, 0, .int 1), (77, .goto (-65), 3, 12, 0, 0, .null)]),
  (5, [(80, .iconst 1, 1, 0, 0, 0, .int 1), (81, .ireturn, 1, 0, 0, 0, .null)])]
def uX5_readTerm : List (Nat × List Nat) := [(12, [0, 1, 2]), (54, [0, 1, 2, 3])]
def qX5_readPart : CD := [(0, [(0, .aload_n 0, 1, 0, 0, 0, .null), (1, .bipush 91, 2, 0, 0, 0, .int 91), (3, .invokevirtual 162, 3, 63, 5301, 663, .null), (6, .ifCond .eq 43, 3, 49, 0, 0, .null), (9, .iload_n 1, 1, 0, 0, 0, .null), (10, .bipush 8, 2, 0, 0, 0, .int 8), (12, .if_icmp .ge 35, 3, 47, 0, 0, .null), (15, .aload_n 0, 1, 0, 0, 0, .null)]),
  (1, [(16, .bipush 91, 2, 0, 0, 0, .int 91), (18, .invokevirtual 65, 3, 64, 5301, 659, .null), (21, .ifCond .eq 26, 3, 47, 0, 0, .null), (24, .aload_n 0, 1, 0, 0, 0, .null), (25, .iload_n 1, 1, 0, 0, 0, .null), (26, .iconst 1, 1, 0, 0, 0, .int 1), (27, .iadd, 1, 0, 0, 0, .null), (28, .invokevirtual 132, 3, 58, 5301, 683, .null), (31, .ifCond .eq 16, 3, 47, 0, 0, .null)]),
  (2, [(34, .aload_n 0, 1, 0, 0, 0, .null), (35, .bipush 93, 2, 0, 0, 0, .int 93), (37, .invokevirtual 65, 3, 64, 5301, 659, .null), (40, .ifCond .eq 7, 3, 47, 0, 0, .null), (43, .iconst 1, 1, 0, 0, 0, .int 1), (44, .goto 4, 3, 48, 0, 0, .null), (47, .iconst 0, 1, 0, 0, 0, .int 0)]),
  (3, [(48, .ireturn, 1, 0, 0, 0, .null), (49, .aload_n 0, 1, 0, 0, 0, .null), (50, .getfield 21, 3, 5, 5, 245, .null), (53, .iconst 1, 1, 0, 0, 0, .int 1), (54, .if_icmp .ne 7, 3, 61, 0, 0, .null), (57, .iconst 0, 1, 0, 0, 0, .int 0), (58, .goto 43, 3, 101, 0, 0, .null), (61, .aload_n 0, 1, 0, 0, 0, .null), (62, .ldc 177, 2, 1, 0, 695, .ref 6)]),
  (4, [(64, .invokevirtual 179, 3, 65, 5301, 594, .null), (67, .ifCond .eq 7, 3, 74, 0, 0, .null), (70, .iconst 1, 1, 0, 0, 0, .int 1), (71, .goto 30, 3, 101, 0, 0, .null), (74, .aload_n 0, 1, 0, 0, 0, .null), (75, .ldc 182, 2, 1, 0, 696, .ref 7), (77, .invokevirtual 179, 3, 65, 5301, 594, .null)]),
  (5, [(80, .ifCond .eq 7, 3, 87, 0, 0, .null), (83, .iconst 2, 1, 0, 0, 0, .int 2), (84, .goto 17, 3, 101, 0, 0, .null), (87, .aload_n 0, 1, 0, 0, 0, .null), (88, .ldc 183, 2, 1, 0, 697, .ref 8), (90, .invokevirtual 179, 3, 65, 5301, 594, .null), (93, .ifCond .eq 7, 3, 100, 0, 0, .null)]),
  (6, [(96, .iconst 3, 1, 0, 0, 0, .int 3), (97, .goto 4, 3, 101, 0, 0, .null), (100, .iconst (-1), 1, 0, 0, 0, .int (-1)), (101, .istore_n 2, 1, 0, 0, 0, .null), (102, .iload_n 2, 1, 0, 0, 0, .null), (103, .iconst (-1), 1, 0, 0, 0, .int (-1)), (104, .if_icmp .eq 22, 3, 126, 0, 0, .null), (107, .aload_n 0, 1, 0, 0, 0, .null), (108, .getfield 24, 3, 5, 6, 246, .null), (111, .sipush 1000, 3, 0, 0, 0, .int 1000)]),
  (7, [(114, .if_icmp .gt 12, 3, 126, 0, 0, .null), (117, .aload_n 0, 1, 0, 0, 0, .null), (118, .getfield 33, 3, 5, 9, 249, .null), (121, .bipush 50, 2, 0, 0, 0, .int 50), (123, .if_icmp .lt 5, 3, 128, 0, 0, .null), (126, .iconst 0, 1, 0, 0, 0, .int 0), (127, .ireturn, 1, 0, 0, 0, .null)]),
  (8, [(128, .aload_n 0, 1, 0, 0, 0, .null), (129, .dup, 1, 0, 0, 0, .null), (130, .getfield 33, 3, 5, 9, 249, .null), (133, .iconst 1, 1, 0, 0, 0, .int 1), (134, .iadd, 1, 0, 0, 0, .null), (135, .putfield 33, 3, 5, 9, 249, .null), (138, .aload_n 0, 1, 0, 0, 0, .null), (139, .iload_n 2, 1, 0, 0, 0, .null), (140, .aload_n 0, 1, 0, 0, 0, .null), (141, .getfield 24, 3, 5, 6, 246, .null)]),
  (9, [(144, .invokevirtual 147, 3, 61, 5002, 698, .null), (147, .aload_n 0, 1, 0, 0, 0, .null), (148, .invokevirtual 58, 3, 68, 5000, 575, .null), (151, .iconst 1, 1, 0, 0, 0, .int 1), (152, .ireturn, 1, 0, 0, 0, .null)])]
def uX5_readPart : List (Nat × List Nat) := [(102, [0, 2])]
def qX5_put : CD := [(0, [(0, .aload_n 0, 1, 0, 0, 0, .null), (1, .getfield 30, 3, 5, 8, 248, .null), (4, .aload_n 0, 1, 0, 0, 0, .null), (5, .getfield 40, 3, 5, 1, 241, .null), (8, .getfield 185, 3, 3, 10, 208, .null), (11, .arraylength, 1, 0, 0, 0, .null), (12, .if_icmp .ge 30, 3, 42, 0, 0, .null), (15, .aload_n 0, 1, 0, 0, 0, .null)]),
  (1, [(16, .getfield 40, 3, 5, 1, 241, .null), (19, .getfield 185, 3, 3, 10, 208, .null), (22, .aload_n 0, 1, 0, 0, 0, .null), (23, .getfield 30, 3, 5, 8, 248, .null), (26, .iload_n 1, 1, 0, 0, 0, .null), (27, .iload_n 2, 1, 0, 0, 0, .null), (28, .iconst 4, 1, 0, 0, 0, .int 4), (29, .ishl, 1, 0, 0, 0, .null), (30, .ior, 1, 0, 0, 0, .null), (31, .iastore, 1, 0, 0, 0, .null)]),
  (2, [(32, .aload_n 0, 1, 0, 0, 0, .null), (33, .dup, 1, 0, 0, 0, .null), (34, .getfield 30, 3, 5, 8, 248, .null), (37, .iconst 1, 1, 0, 0, 0, .int 1), (38, .iadd, 1, 0, 0, 0, .null), (39, .putfield 30, 3, 5, 8, 248, .null), (42, .return_, 1, 0, 0, 0, .null)])]
def uX5_put : List (Nat × List Nat) := []
def qX5_aim : CD := [(0, [(0, .iload_n 1, 1, 0, 0, 0, .null), (1, .aload_n 0, 1, 0, 0, 0, .null), (2, .getfield 40, 3, 5, 1, 241, .null), (5, .getfield 185, 3, 3, 10, 208, .null), (8, .arraylength, 1, 0, 0, 0, .null), (9, .if_icmp .ge 31, 3, 40, 0, 0, .null), (12, .aload_n 0, 1, 0, 0, 0, .null), (13, .getfield 40, 3, 5, 1, 241, .null)]),
  (1, [(16, .getfield 185, 3, 3, 10, 208, .null), (19, .iload_n 1, 1, 0, 0, 0, .null), (20, .aload_n 0, 1, 0, 0, 0, .null), (21, .getfield 40, 3, 5, 1, 241, .null), (24, .getfield 185, 3, 3, 10, 208, .null), (27, .iload_n 1, 1, 0, 0, 0, .null), (28, .iaload, 1, 0, 0, 0, .null), (29, .bipush 15, 2, 0, 0, 0, .int 15), (31, .iand, 1, 0, 0, 0, .null)]),
  (2, [(32, .aload_n 0, 1, 0, 0, 0, .null), (33, .getfield 30, 3, 5, 8, 248, .null), (36, .iconst 4, 1, 0, 0, 0, .int 4), (37, .ishl, 1, 0, 0, 0, .null), (38, .ior, 1, 0, 0, 0, .null), (39, .iastore, 1, 0, 0, 0, .null), (40, .return_, 1, 0, 0, 0, .null)])]
def uX5_aim : List (Nat × List Nat) := []
def qX5_isSign : CD := [(0, [(0, .aload_n 0, 1, 0, 0, 0, .null), (1, .getfield 21, 3, 5, 5, 245, .null), (4, .iconst 2, 1, 0, 0, 0, .int 2), (5, .if_icmp .ne 15, 3, 20, 0, 0, .null), (8, .aload_n 0, 1, 0, 0, 0, .null), (9, .getfield 24, 3, 5, 6, 246, .null), (12, .iload_n 1, 1, 0, 0, 0, .null), (13, .if_icmp .ne 7, 3, 20, 0, 0, .null)]),
  (1, [(16, .iconst 1, 1, 0, 0, 0, .int 1), (17, .goto 4, 3, 21, 0, 0, .null), (20, .iconst 0, 1, 0, 0, 0, .int 0), (21, .ireturn, 1, 0, 0, 0, .null)])]
def uX5_isSign : List (Nat × List Nat) := []
def qX5_takeSign : CD := [(0, [(0, .aload_n 0, 1, 0, 0, 0, .null), (1, .iload_n 1, 1, 0, 0, 0, .null), (2, .invokevirtual 162, 3, 63, 5301, 663, .null), (5, .istore_n 2, 1, 0, 0, 0, .null), (6, .iload_n 2, 1, 0, 0, 0, .null), (7, .ifCond .eq 7, 3, 14, 0, 0, .null), (10, .aload_n 0, 1, 0, 0, 0, .null), (11, .invokevirtual 58, 3, 68, 5000, 575, .null), (14, .iload_n 2, 1, 0, 0, 0, .null), (15, .ireturn, 1, 0, 0, 0, .null)])]
def uX5_takeSign : List (Nat × List Nat) := []
def qX5_isWord : CD := [(0, [(0, .aload_n 0, 1, 0, 0, 0, .null), (1, .getfield 21, 3, 5, 5, 245, .null), (4, .ifCond .ne 19, 3, 23, 0, 0, .null), (7, .aload_n 0, 1, 0, 0, 0, .null), (8, .getfield 18, 3, 5, 4, 244, .null), (11, .aload_n 0, 1, 0, 0, 0, .null), (12, .getfield 15, 3, 5, 3, 243, .null), (15, .isub, 1, 0, 0, 0, .null)]),
  (1, [(16, .aload_n 1, 1, 0, 0, 0, .null), (17, .invokevirtual 188, 3, 253, 11100, 598, .null), (20, .if_icmp .eq 5, 3, 25, 0, 0, .null), (23, .iconst 0, 1, 0, 0, 0, .int 0), (24, .ireturn, 1, 0, 0, 0, .null), (25, .iconst 0, 1, 0, 0, 0, .int 0), (26, .istore_n 2, 1, 0, 0, 0, .null), (27, .iload_n 2, 1, 0, 0, 0, .null), (28, .aload_n 1, 1, 0, 0, 0, .null), (29, .invokevirtual 188, 3, 253, 11100, 598, .null)]),
  (2, [(32, .if_icmp .ge 30, 3, 62, 0, 0, .null), (35, .aload_n 0, 1, 0, 0, 0, .null), (36, .getfield 36, 3, 5, 0, 240, .null), (39, .aload_n 0, 1, 0, 0, 0, .null), (40, .getfield 15, 3, 5, 3, 243, .null), (43, .iload_n 2, 1, 0, 0, 0, .null), (44, .iadd, 1, 0, 0, 0, .null), (45, .baload, 1, 0, 0, 0, .null), (46, .aload_n 1, 1, 0, 0, 0, .null), (47, .iload_n 2, 1, 0, 0, 0, .null)]),
  (3, [(48, .invokevirtual 193, 3, 254, 11501, 608, .null), (51, .if_icmp .eq 5, 3, 56, 0, 0, .null), (54, .iconst 0, 1, 0, 0, 0, .int 0), (55, .ireturn, 1, 0, 0, 0, .null), (56, .iinc 2 1, 3, 0, 0, 0, .int 1), (59, .goto (-32), 3, 27, 0, 0, .null), (62, .iconst 1, 1, 0, 0, 0, .int 1), (63, .ireturn, 1, 0, 0, 0, .null)])]
def uX5_isWord : List (Nat × List Nat) := [(27, [0, 1, 2])]
def qX5_takeWord : CD := [(0, [(0, .aload_n 0, 1, 0, 0, 0, .null), (1, .aload_n 1, 1, 0, 0, 0, .null), (2, .invokevirtual 179, 3, 65, 5301, 594, .null), (5, .istore_n 2, 1, 0, 0, 0, .null), (6, .iload_n 2, 1, 0, 0, 0, .null), (7, .ifCond .eq 7, 3, 14, 0, 0, .null), (10, .aload_n 0, 1, 0, 0, 0, .null), (11, .invokevirtual 58, 3, 68, 5000, 575, .null), (14, .iload_n 2, 1, 0, 0, 0, .null), (15, .ireturn, 1, 0, 0, 0, .null)])]
def uX5_takeWord : List (Nat × List Nat) := []
def qX5_takeNumber : CD := [(0, [(0, .aload_n 0, 1, 0, 0, 0, .null), (1, .getfield 21, 3, 5, 5, 245, .null), (4, .iconst 1, 1, 0, 0, 0, .int 1), (5, .if_icmp .ne 23, 3, 28, 0, 0, .null), (8, .aload_n 0, 1, 0, 0, 0, .null), (9, .getfield 24, 3, 5, 6, 246, .null), (12, .iload_n 1, 1, 0, 0, 0, .null), (13, .if_icmp .lt 15, 3, 28, 0, 0, .null)]),
  (1, [(16, .aload_n 0, 1, 0, 0, 0, .null), (17, .getfield 24, 3, 5, 6, 246, .null), (20, .iload_n 2, 1, 0, 0, 0, .null), (21, .if_icmp .gt 7, 3, 28, 0, 0, .null), (24, .iconst 1, 1, 0, 0, 0, .int 1), (25, .goto 4, 3, 29, 0, 0, .null), (28, .iconst 0, 1, 0, 0, 0, .int 0), (29, .istore_n 3, 1, 0, 0, 0, .null), (30, .iload_n 3, 1, 0, 0, 0, .null), (31, .ifCond .eq 7, 3, 38, 0, 0, .null)]),
  (2, [(34, .aload_n 0, 1, 0, 0, 0, .null), (35, .invokevirtual 58, 3, 68, 5000, 575, .null), (38, .iload_n 3, 1, 0, 0, 0, .null), (39, .ireturn, 1, 0, 0, 0, .null)])]
def uX5_takeNumber : List (Nat × List Nat) := [(28, [0])]
def qX5_advance : CD := [(0, [(0, .aload_n 0, 1, 0, 0, 0, .null), (1, .getfield 18, 3, 5, 4, 244, .null), (4, .istore_n 1, 1, 0, 0, 0, .null), (5, .iload_n 1, 1, 0, 0, 0, .null), (6, .aload_n 0, 1, 0, 0, 0, .null), (7, .getfield 9, 3, 5, 2, 242, .null), (10, .if_icmp .ge 20, 3, 30, 0, 0, .null), (13, .aload_n 0, 1, 0, 0, 0, .null), (14, .getfield 36, 3, 5, 0, 240, .null)]),
  (1, [(17, .iload_n 1, 1, 0, 0, 0, .null), (18, .baload, 1, 0, 0, 0, .null), (19, .bipush 32, 2, 0, 0, 0, .int 32), (21, .if_icmp .ne 9, 3, 30, 0, 0, .null), (24, .iinc 1 1, 3, 0, 0, 0, .int 1), (27, .goto (-22), 3, 5, 0, 0, .null), (30, .aload_n 0, 1, 0, 0, 0, .null), (31, .iload_n 1, 1, 0, 0, 0, .null)]),
  (2, [(32, .putfield 15, 3, 5, 3, 243, .null), (35, .aload_n 0, 1, 0, 0, 0, .null), (36, .iconst 0, 1, 0, 0, 0, .int 0), (37, .putfield 24, 3, 5, 6, 246, .null), (40, .iload_n 1, 1, 0, 0, 0, .null), (41, .aload_n 0, 1, 0, 0, 0, .null), (42, .getfield 9, 3, 5, 2, 242, .null), (45, .if_icmp .lt 11, 3, 56, 0, 0, .null)]),
  (3, [(48, .aload_n 0, 1, 0, 0, 0, .null), (49, .iconst 3, 1, 0, 0, 0, .int 3), (50, .putfield 21, 3, 5, 5, 245, .null), (53, .goto 138, 3, 191, 0, 0, .null), (56, .aload_n 0, 1, 0, 0, 0, .null), (57, .getfield 36, 3, 5, 0, 240, .null), (60, .iload_n 1, 1, 0, 0, 0, .null), (61, .baload, 1, 0, 0, 0, .null), (62, .invokestatic 197, 3, 69, 301, 579, .null)]),
  (4, [(65, .ifCond .eq 34, 3, 99, 0, 0, .null), (68, .aload_n 0, 1, 0, 0, 0, .null), (69, .iconst 0, 1, 0, 0, 0, .int 0), (70, .putfield 21, 3, 5, 5, 245, .null), (73, .iload_n 1, 1, 0, 0, 0, .null), (74, .aload_n 0, 1, 0, 0, 0, .null), (75, .getfield 9, 3, 5, 2, 242, .null), (78, .if_icmp .ge 113, 3, 191, 0, 0, .null)]),
  (5, [(81, .aload_n 0, 1, 0, 0, 0, .null), (82, .getfield 36, 3, 5, 0, 240, .null), (85, .iload_n 1, 1, 0, 0, 0, .null), (86, .baload, 1, 0, 0, 0, .null), (87, .invokestatic 197, 3, 69, 301, 579, .null), (90, .ifCond .eq 101, 3, 191, 0, 0, .null), (93, .iinc 1 1, 3, 0, 0, 0, .int 1)]),
  (6, [(96, .goto (-23), 3, 73, 0, 0, .null), (99, .aload_n 0, 1, 0, 0, 0, .null), (100, .getfield 36, 3, 5, 0, 240, .null), (103, .iload_n 1, 1, 0, 0, 0, .null), (104, .baload, 1, 0, 0, 0, .null), (105, .invokestatic 201, 3, 70, 301, 582, .null), (108, .ifCond .eq 61, 3, 169, 0, 0, .null), (111, .aload_n 0, 1, 0, 0, 0, .null)]),
  (7, [(112, .iconst 1, 1, 0, 0, 0, .int 1), (113, .putfield 21, 3, 5, 5, 245, .null), (116, .iload_n 1, 1, 0, 0, 0, .null), (117, .aload_n 0, 1, 0, 0, 0, .null), (118, .getfield 9, 3, 5, 2, 242, .null), (121, .if_icmp .ge 70, 3, 191, 0, 0, .null), (124, .aload_n 0, 1, 0, 0, 0, .null), (125, .getfield 36, 3, 5, 0, 240, .null)]),
  (8, [(128, .iload_n 1, 1, 0, 0, 0, .null), (129, .baload, 1, 0, 0, 0, .null), (130, .invokestatic 201, 3, 70, 301, 582, .null), (133, .ifCond .eq 58, 3, 191, 0, 0, .null), (136, .aload_n 0, 1, 0, 0, 0, .null), (137, .sipush 9999, 3, 0, 0, 0, .int 9999), (140, .aload_n 0, 1, 0, 0, 0, .null), (141, .getfield 24, 3, 5, 6, 246, .null)]),
  (9, [(144, .bipush 10, 2, 0, 0, 0, .int 10), (146, .imul, 1, 0, 0, 0, .null), (147, .aload_n 0, 1, 0, 0, 0, .null), (148, .getfield 36, 3, 5, 0, 240, .null), (151, .iload_n 1, 1, 0, 0, 0, .null), (152, .baload, 1, 0, 0, 0, .null), (153, .iadd, 1, 0, 0, 0, .null), (154, .bipush 48, 2, 0, 0, 0, .int 48), (156, .isub, 1, 0, 0, 0, .null), (157, .invokestatic 44, 3, 9004, 102, 569, .null)]),
  (10, [(160, .putfield 24, 3, 5, 6, 246, .null), (163, .iinc 1 1, 3, 0, 0, 0, .int 1), (166, .goto (-50), 3, 116, 0, 0, .null), (169, .aload_n 0, 1, 0, 0, 0, .null), (170, .iconst 2, 1, 0, 0, 0, .int 2), (171, .putfield 21, 3, 5, 5, 245, .null), (174, .aload_n 0, 1, 0, 0, 0, .null), (175, .aload_n 0, 1, 0, 0, 0, .null)]),
  (11, [(176, .getfield 36, 3, 5, 0, 240, .null), (179, .iload_n 1, 1, 0, 0, 0, .null), (180, .baload, 1, 0, 0, 0, .null), (181, .sipush 255, 3, 0, 0, 0, .int 255), (184, .iand, 1, 0, 0, 0, .null), (185, .putfield 24, 3, 5, 6, 246, .null), (188, .iinc 1 1, 3, 0, 0, 0, .int 1), (191, .aload_n 0, 1, 0, 0, 0, .null)]),
  (12, [(192, .iload_n 1, 1, 0, 0, 0, .null), (193, .putfield 18, 3, 5, 4, 244, .null), (196, .return_, 1, 0, 0, 0, .null)])]
def uX5_advance : List (Nat × List Nat) := [(5, [0, 1]), (30, [0, 1]), (73, [0, 1]), (116, [0, 1]), (191, [0, 1])]
def qX5_isLetter : CD := [(0, [(0, .iload_n 0, 1, 0, 0, 0, .null), (1, .bipush 97, 2, 0, 0, 0, .int 97), (3, .if_icmp .lt 13, 3, 16, 0, 0, .null), (6, .iload_n 0, 1, 0, 0, 0, .null), (7, .bipush 122, 2, 0, 0, 0, .int 122), (9, .if_icmp .gt 7, 3, 16, 0, 0, .null), (12, .iconst 1, 1, 0, 0, 0, .int 1), (13, .goto 4, 3, 17, 0, 0, .null)]),
  (1, [(16, .iconst 0, 1, 0, 0, 0, .int 0), (17, .ireturn, 1, 0, 0, 0, .null)])]
def uX5_isLetter : List (Nat × List Nat) := []
def qX5_isDigit : CD := [(0, [(0, .iload_n 0, 1, 0, 0, 0, .null), (1, .bipush 48, 2, 0, 0, 0, .int 48), (3, .if_icmp .lt 13, 3, 16, 0, 0, .null), (6, .iload_n 0, 1, 0, 0, 0, .null), (7, .bipush 57, 2, 0, 0, 0, .int 57), (9, .if_icmp .gt 7, 3, 16, 0, 0, .null), (12, .iconst 1, 1, 0, 0, 0, .int 1), (13, .goto 4, 3, 17, 0, 0, .null)]),
  (1, [(16, .iconst 0, 1, 0, 0, 0, .int 0), (17, .ireturn, 1, 0, 0, 0, .null)])]
def uX5_isDigit : List (Nat × List Nat) := []
def qX6_init : CD := [(0, [(0, .aload_n 0, 1, 0, 0, 0, .null), (1, .invokespecial 3, 3, 9001, 0, 384, .null), (4, .aload_n 0, 1, 0, 0, 0, .null), (5, .bipush 6, 2, 0, 0, 0, .int 6), (7, .newarray .int, 2, 0, 0, 0, .null), (9, .putfield 9, 3, 6, 1, 386, .null), (12, .aload_n 0, 1, 0, 0, 0, .null), (13, .bipush 18, 2, 0, 0, 0, .int 18), (15, .newarray .int, 2, 0, 0, 0, .null)]),
  (1, [(17, .putfield 15, 3, 6, 2, 387, .null), (20, .aload_n 0, 1, 0, 0, 0, .null), (21, .bipush 16, 2, 0, 0, 0, .int 16), (23, .newarray .int, 2, 0, 0, 0, .null), (25, .putfield 18, 3, 6, 3, 388, .null), (28, .aload_n 0, 1, 0, 0, 0, .null), (29, .iconst 0, 1, 0, 0, 0, .int 0), (30, .putfield 21, 3, 6, 4, 389, .null)]),
  (2, [(33, .aload_n 0, 1, 0, 0, 0, .null), (34, .iconst 0, 1, 0, 0, 0, .int 0), (35, .putfield 25, 3, 6, 5, 390, .null), (38, .aload_n 0, 1, 0, 0, 0, .null), (39, .iconst 0, 1, 0, 0, 0, .int 0), (40, .putfield 28, 3, 6, 6, 391, .null), (43, .aload_n 0, 1, 0, 0, 0, .null), (44, .iconst 1, 1, 0, 0, 0, .int 1), (45, .putfield 32, 3, 6, 7, 392, .null)]),
  (3, [(48, .aload_n 0, 1, 0, 0, 0, .null), (49, .lconst 0, 1, 0, 0, 0, .long 0), (50, .putfield 35, 3, 6, 8, 393, .null), (53, .aload_n 0, 1, 0, 0, 0, .null), (54, .lconst 0, 1, 0, 0, 0, .long 0), (55, .putfield 39, 3, 6, 9, 394, .null), (58, .aload_n 0, 1, 0, 0, 0, .null), (59, .aload_n 1, 1, 0, 0, 0, .null), (60, .putfield 42, 3, 6, 0, 385, .null), (63, .return_, 1, 0, 0, 0, .null)])]
def uX6_init : List (Nat × List Nat) := []
def qX6_seekPlain : CD := [(0, [(0, .aload_n 0, 1, 0, 0, 0, .null), (1, .getfield 42, 3, 6, 0, 385, .null), (4, .iconst 0, 1, 0, 0, 0, .int 0), (5, .invokevirtual 46, 3, 3, 1001, 901, .null), (8, .aload_n 0, 1, 0, 0, 0, .null), (9, .iconst 1, 1, 0, 0, 0, .int 1), (10, .invokevirtual 52, 3, 73, 6001, 902, .null), (13, .aload_n 0, 1, 0, 0, 0, .null), (14, .aload_n 0, 1, 0, 0, 0, .null), (15, .invokevirtual 55, 3, 78, 6100, 915, .null)]),
  (1, [(18, .ldc2_w 59, 3, 0, 0, 919, .long (-1000000000000000000)), (21, .invokevirtual 61, 3, 82, 6002, 920, .null), (24, .aload_n 0, 1, 0, 0, 0, .null), (25, .aload_n 0, 1, 0, 0, 0, .null), (26, .invokevirtual 55, 3, 78, 6100, 915, .null), (29, .invokevirtual 65, 3, 79, 6201, 946, .null)]),
  (2, [(32, .lreturn, 1, 0, 0, 0, .null)])]
def uX6_seekPlain : List (Nat × List Nat) := []
def qX6_startPlain : CD := [(0, [(0, .aload_n 0, 1, 0, 0, 0, .null), (1, .iconst 0, 1, 0, 0, 0, .int 0), (2, .putfield 28, 3, 6, 6, 391, .null), (5, .aload_n 0, 1, 0, 0, 0, .null), (6, .iload_n 1, 1, 0, 0, 0, .null), (7, .putfield 32, 3, 6, 7, 392, .null), (10, .aload_n 0, 1, 0, 0, 0, .null), (11, .getfield 42, 3, 6, 0, 385, .null), (14, .aload_n 0, 1, 0, 0, 0, .null), (15, .getfield 9, 3, 6, 1, 386, .null)]),
  (1, [(18, .invokevirtual 69, 3, 14, 1001, 906, .null), (21, .iconst 0, 1, 0, 0, 0, .int 0), (22, .istore_n 2, 1, 0, 0, 0, .null), (23, .iload_n 2, 1, 0, 0, 0, .null), (24, .bipush 6, 2, 0, 0, 0, .int 6), (26, .if_icmp .ge 15, 3, 41, 0, 0, .null), (29, .aload_n 0, 1, 0, 0, 0, .null), (30, .iload_n 2, 1, 0, 0, 0, .null), (31, .iconst 0, 1, 0, 0, 0, .int 0)]),
  (2, [(32, .invokevirtual 73, 3, 81, 6002, 911, .null), (35, .iinc 2 1, 3, 0, 0, 0, .int 1), (38, .goto (-15), 3, 23, 0, 0, .null), (41, .return_, 1, 0, 0, 0, .null)])]
def uX6_startPlain : List (Nat × List Nat) := [(23, [0, 2])]
def qX6_seekDie : CD := [(0, [(0, .aload_n 0, 1, 0, 0, 0, .null), (1, .getfield 42, 3, 6, 0, 385, .null), (4, .iconst 0, 1, 0, 0, 0, .int 0), (5, .invokevirtual 46, 3, 3, 1001, 901, .null), (8, .aload_n 0, 1, 0, 0, 0, .null), (9, .iconst 1, 1, 0, 0, 0, .int 1), (10, .putfield 28, 3, 6, 6, 391, .null), (13, .aload_n 0, 1, 0, 0, 0, .null), (14, .iconst 1, 1, 0, 0, 0, .int 1), (15, .putfield 32, 3, 6, 7, 392, .null)]),
  (1, [(18, .aload_n 0, 1, 0, 0, 0, .null), (19, .getfield 42, 3, 6, 0, 385, .null), (22, .aload_n 0, 1, 0, 0, 0, .null), (23, .getfield 9, 3, 6, 1, 386, .null), (26, .invokevirtual 69, 3, 14, 1001, 906, .null), (29, .iload_n 1, 1, 0, 0, 0, .null), (30, .aload_n 0, 1, 0, 0, 0, .null), (31, .invokevirtual 55, 3, 78, 6100, 915, .null)]),
  (2, [(34, .iand, 1, 0, 0, 0, .null), (35, .istore_n 2, 1, 0, 0, 0, .null), (36, .iload_n 2, 1, 0, 0, 0, .null), (37, .invokestatic 77, 3, 252, 101, 981, .null), (40, .iconst 3, 1, 0, 0, 0, .int 3), (41, .if_icmp .gt 15, 3, 56, 0, 0, .null), (44, .aload_n 0, 1, 0, 0, 0, .null), (45, .iload_n 2, 1, 0, 0, 0, .null), (46, .invokevirtual 65, 3, 79, 6201, 946, .null)]),
  (3, [(49, .ldc2_w 83, 3, 0, 0, 987, .long 5000), (52, .lcmp, 1, 0, 0, 0, .null), (53, .ifCond .le 7, 3, 60, 0, 0, .null), (56, .ldc2_w 85, 3, 0, 0, 988, .long (-1)), (59, .lreturn, 1, 0, 0, 0, .null), (60, .aload_n 0, 1, 0, 0, 0, .null), (61, .iload_n 2, 1, 0, 0, 0, .null), (62, .ldc2_w 59, 3, 0, 0, 919, .long (-1000000000000000000))]),
  (4, [(65, .invokevirtual 61, 3, 82, 6002, 920, .null), (68, .aload_n 0, 1, 0, 0, 0, .null), (69, .iload_n 2, 1, 0, 0, 0, .null), (70, .invokevirtual 65, 3, 79, 6201, 946, .null), (73, .lreturn, 1, 0, 0, 0, .null)])]
def uX6_seekDie : List (Nat × List Nat) := []
def qX6_tellBest : CD := [(0, [(0, .iload_n 3, 1, 0, 0, 0, .null), (1, .ifCond .ne 10, 3, 11, 0, 0, .null), (4, .aload_n 0, 1, 0, 0, 0, .null), (5, .getfield 35, 3, 6, 8, 393, .null), (8, .goto 16, 3, 24, 0, 0, .null), (11, .iload_n 3, 1, 0, 0, 0, .null), (12, .iconst 1, 1, 0, 0, 0, .int 1), (13, .if_icmp .ne 10, 3, 23, 0, 0, .null)]),
  (1, [(16, .aload_n 0, 1, 0, 0, 0, .null), (17, .getfield 39, 3, 6, 9, 394, .null), (20, .goto 4, 3, 24, 0, 0, .null), (23, .lload_n 1, 1, 0, 0, 0, .null), (24, .lreturn, 1, 0, 0, 0, .null)])]
def uX6_tellBest : List (Nat × List Nat) := []
def qX6_firstRoad : CD := [(0, [(0, .iconst 0, 1, 0, 0, 0, .int 0), (1, .istore_n 2, 1, 0, 0, 0, .null), (2, .iload_n 2, 1, 0, 0, 0, .null), (3, .iconst 2, 1, 0, 0, 0, .int 2), (4, .if_icmp .ge 22, 3, 26, 0, 0, .null), (7, .aload_n 0, 1, 0, 0, 0, .null), (8, .getfield 15, 3, 6, 2, 387, .null), (11, .iload_n 1, 1, 0, 0, 0, .null), (12, .iconst 3, 1, 0, 0, 0, .int 3), (13, .imul, 1, 0, 0, 0, .null), (14, .iload_n 2, 1, 0, 0, 0, .null), (15, .iadd, 1, 0, 0, 0, .null)]),
  (1, [(16, .iaload, 1, 0, 0, 0, .null), (17, .ifCond .ne 9, 3, 26, 0, 0, .null), (20, .iinc 2 1, 3, 0, 0, 0, .int 1), (23, .goto (-21), 3, 2, 0, 0, .null), (26, .iload_n 2, 1, 0, 0, 0, .null), (27, .ireturn, 1, 0, 0, 0, .null)])]
def uX6_firstRoad : List (Nat × List Nat) := [(2, [0, 1, 2])]
def qX6_giveFirst : CD := [(0, [(0, .aload_n 0, 1, 0, 0, 0, .null), (1, .getfield 15, 3, 6, 2, 387, .null), (4, .aload_n 1, 1, 0, 0, 0, .null), (5, .invokestatic 87, 3, 30, 2, 941, .null), (8, .return_, 1, 0, 0, 0, .null)])]
def uX6_giveFirst : List (Nat × List Nat) := []
def qX6_usedLooks : CD := [(0, [(0, .iconst 0, 1, 0, 0, 0, .int 0), (1, .istore_n 1, 1, 0, 0, 0, .null), (2, .iconst 0, 1, 0, 0, 0, .int 0), (3, .istore_n 2, 1, 0, 0, 0, .null), (4, .iload_n 2, 1, 0, 0, 0, .null), (5, .bipush 6, 2, 0, 0, 0, .int 6), (7, .if_icmp .ge 24, 3, 31, 0, 0, .null), (10, .aload_n 0, 1, 0, 0, 0, .null), (11, .getfield 9, 3, 6, 1, 386, .null), (14, .iload_n 2, 1, 0, 0, 0, .null), (15, .iaload, 1, 0, 0, 0, .null)]),
  (1, [(16, .ifCond .le 9, 3, 25, 0, 0, .null), (19, .iload_n 1, 1, 0, 0, 0, .null), (20, .iconst 1, 1, 0, 0, 0, .int 1), (21, .iload_n 2, 1, 0, 0, 0, .null), (22, .ishl, 1, 0, 0, 0, .null), (23, .ior, 1, 0, 0, 0, .null), (24, .istore_n 1, 1, 0, 0, 0, .null), (25, .iinc 2 1, 3, 0, 0, 0, .int 1), (28, .goto (-24), 3, 4, 0, 0, .null), (31, .iload_n 1, 1, 0, 0, 0, .null)]),
  (2, [(32, .ireturn, 1, 0, 0, 0, .null)])]
def uX6_usedLooks : List (Nat × List Nat) := [(4, [0, 1, 2])]
def qX6_rules : CD := [(0, [(0, .lconst 1, 1, 0, 0, 0, .long 1), (1, .lstore_n 2, 1, 0, 0, 0, .null), (2, .iconst 0, 1, 0, 0, 0, .int 0), (3, .istore 4, 2, 0, 0, 0, .null), (5, .iload 4, 2, 0, 0, 0, .null), (7, .bipush 6, 2, 0, 0, 0, .int 6), (9, .if_icmp .ge 29, 3, 38, 0, 0, .null), (12, .iload_n 1, 1, 0, 0, 0, .null), (13, .iload 4, 2, 0, 0, 0, .null), (15, .ishr, 1, 0, 0, 0, .null)]),
  (1, [(16, .iconst 1, 1, 0, 0, 0, .int 1), (17, .iand, 1, 0, 0, 0, .null), (18, .iconst 1, 1, 0, 0, 0, .int 1), (19, .if_icmp .ne 13, 3, 32, 0, 0, .null), (22, .lload_n 2, 1, 0, 0, 0, .null), (23, .aload_n 0, 1, 0, 0, 0, .null), (24, .iload 4, 2, 0, 0, 0, .null), (26, .invokevirtual 93, 3, 80, 6101, 942, .null), (29, .i2l, 1, 0, 0, 0, .null), (30, .lmul, 1, 0, 0, 0, .null), (31, .lstore_n 2, 1, 0, 0, 0, .null)]),
  (2, [(32, .iinc 4 1, 3, 0, 0, 0, .int 1), (35, .goto (-30), 3, 5, 0, 0, .null), (38, .lload_n 2, 1, 0, 0, 0, .null), (39, .lreturn, 1, 0, 0, 0, .null)])]
def uX6_rules : List (Nat × List Nat) := [(5, [0, 1, 2, 4])]
def qX6_choices : CD := [(0, [(0, .aload_n 0, 1, 0, 0, 0, .null), (1, .getfield 28, 3, 6, 6, 391, .null), (4, .ifCond .ne 10, 3, 14, 0, 0, .null), (7, .aload_n 0, 1, 0, 0, 0, .null), (8, .getfield 9, 3, 6, 1, 386, .null), (11, .iload_n 1, 1, 0, 0, 0, .null), (12, .iaload, 1, 0, 0, 0, .null), (13, .ireturn, 1, 0, 0, 0, .null), (14, .aload_n 0, 1, 0, 0, 0, .null), (15, .getfield 9, 3, 6, 1, 386, .null)]),
  (1, [(18, .iload_n 1, 1, 0, 0, 0, .null), (19, .iaload, 1, 0, 0, 0, .null), (20, .iconst 1, 1, 0, 0, 0, .int 1), (21, .if_icmp .ne 7, 3, 28, 0, 0, .null), (24, .iconst 1, 1, 0, 0, 0, .int 1), (25, .goto 20, 3, 45, 0, 0, .null), (28, .aload_n 0, 1, 0, 0, 0, .null), (29, .getfield 9, 3, 6, 1, 386, .null)]),
  (2, [(32, .iload_n 1, 1, 0, 0, 0, .null), (33, .iaload, 1, 0, 0, 0, .null), (34, .iconst 2, 1, 0, 0, 0, .int 2), (35, .if_icmp .ne 8, 3, 43, 0, 0, .null), (38, .bipush 11, 2, 0, 0, 0, .int 11), (40, .goto 5, 3, 45, 0, 0, .null), (43, .bipush 66, 2, 0, 0, 0, .int 66), (45, .ireturn, 1, 0, 0, 0, .null)])]
def uX6_choices : List (Nat × List Nat) := []
def qX6_choose : CD := [(0, [(0, .iload_n 2, 1, 0, 0, 0, .null), (1, .ifCond .ne 8, 3, 9, 0, 0, .null), (4, .bipush 10, 2, 0, 0, 0, .int 10), (6, .goto 4, 3, 10, 0, 0, .null), (9, .iconst 0, 1, 0, 0, 0, .int 0), (10, .istore_n 3, 1, 0, 0, 0, .null), (11, .iload_n 2, 1, 0, 0, 0, .null), (12, .iconst 1, 1, 0, 0, 0, .int 1), (13, .if_icmp .ne 8, 3, 21, 0, 0, .null)]),
  (1, [(16, .bipush 10, 2, 0, 0, 0, .int 10), (18, .goto 4, 3, 22, 0, 0, .null), (21, .iconst 0, 1, 0, 0, 0, .int 0), (22, .istore 4, 2, 0, 0, 0, .null), (24, .aload_n 0, 1, 0, 0, 0, .null), (25, .getfield 28, 3, 6, 6, 391, .null), (28, .ifCond .eq 24, 3, 52, 0, 0, .null), (31, .aload_n 0, 1, 0, 0, 0, .null)]),
  (2, [(32, .getfield 9, 3, 6, 1, 386, .null), (35, .iload_n 1, 1, 0, 0, 0, .null), (36, .iaload, 1, 0, 0, 0, .null), (37, .iconst 2, 1, 0, 0, 0, .int 2), (38, .if_icmp .ne 14, 3, 52, 0, 0, .null), (41, .iload_n 2, 1, 0, 0, 0, .null), (42, .istore_n 3, 1, 0, 0, 0, .null), (43, .bipush 10, 2, 0, 0, 0, .int 10), (45, .iload_n 2, 1, 0, 0, 0, .null), (46, .isub, 1, 0, 0, 0, .null), (47, .istore 4, 2, 0, 0, 0, .null)]),
  (3, [(49, .goto 55, 3, 104, 0, 0, .null), (52, .aload_n 0, 1, 0, 0, 0, .null), (53, .getfield 28, 3, 6, 6, 391, .null), (56, .ifCond .eq 48, 3, 104, 0, 0, .null), (59, .aload_n 0, 1, 0, 0, 0, .null), (60, .getfield 9, 3, 6, 1, 386, .null), (63, .iload_n 1, 1, 0, 0, 0, .null)]),
  (4, [(64, .iaload, 1, 0, 0, 0, .null), (65, .iconst 3, 1, 0, 0, 0, .int 3), (66, .if_icmp .ne 38, 3, 104, 0, 0, .null), (69, .iconst 0, 1, 0, 0, 0, .int 0), (70, .istore_n 3, 1, 0, 0, 0, .null), (71, .iload_n 2, 1, 0, 0, 0, .null), (72, .istore 4, 2, 0, 0, 0, .null), (74, .iload_n 3, 1, 0, 0, 0, .null), (75, .bipush 10, 2, 0, 0, 0, .int 10), (77, .if_icmp .ge 27, 3, 104, 0, 0, .null)]),
  (5, [(80, .iload 4, 2, 0, 0, 0, .null), (82, .bipush 10, 2, 0, 0, 0, .int 10), (84, .iload_n 3, 1, 0, 0, 0, .null), (85, .isub, 1, 0, 0, 0, .null), (86, .if_icmp .le 18, 3, 104, 0, 0, .null), (89, .iload 4, 2, 0, 0, 0, .null), (91, .bipush 11, 2, 0, 0, 0, .int 11), (93, .iload_n 3, 1, 0, 0, 0, .null), (94, .isub, 1, 0, 0, 0, .null), (95, .isub, 1, 0, 0, 0, .null)]),
  (6, [(96, .istore 4, 2, 0, 0, 0, .null), (98, .iinc 3 1, 3, 0, 0, 0, .int 1), (101, .goto (-27), 3, 74, 0, 0, .null), (104, .aload_n 0, 1, 0, 0, 0, .null), (105, .getfield 42, 3, 6, 0, 385, .null), (108, .getfield 96, 3, 1, 4, 341, .null), (111, .iload_n 1, 1, 0, 0, 0, .null)]),
  (7, [(112, .iconst 3, 1, 0, 0, 0, .int 3), (113, .imul, 1, 0, 0, 0, .null), (114, .iload_n 3, 1, 0, 0, 0, .null), (115, .iastore, 1, 0, 0, 0, .null), (116, .aload_n 0, 1, 0, 0, 0, .null), (117, .getfield 42, 3, 6, 0, 385, .null), (120, .getfield 96, 3, 1, 4, 341, .null), (123, .iload_n 1, 1, 0, 0, 0, .null), (124, .iconst 3, 1, 0, 0, 0, .int 3), (125, .imul, 1, 0, 0, 0, .null), (126, .iconst 1, 1, 0, 0, 0, .int 1), (127, .iadd, 1, 0, 0, 0, .null)]),
  (8, [(128, .iload 4, 2, 0, 0, 0, .null), (130, .iastore, 1, 0, 0, 0, .null), (131, .aload_n 0, 1, 0, 0, 0, .null), (132, .getfield 42, 3, 6, 0, 385, .null), (135, .getfield 96, 3, 1, 4, 341, .null), (138, .iload_n 1, 1, 0, 0, 0, .null), (139, .iconst 3, 1, 0, 0, 0, .int 3), (140, .imul, 1, 0, 0, 0, .null), (141, .iconst 2, 1, 0, 0, 0, .int 2), (142, .iadd, 1, 0, 0, 0, .null), (143, .bipush 10, 2, 0, 0, 0, .int 10)]),
  (9, [(145, .iload_n 3, 1, 0, 0, 0, .null), (146, .isub, 1, 0, 0, 0, .null), (147, .iload 4, 2, 0, 0, 0, .null), (149, .isub, 1, 0, 0, 0, .null), (150, .iastore, 1, 0, 0, 0, .null), (151, .return_, 1, 0, 0, 0, .null)])]
def uX6_choose : List (Nat × List Nat) := [(24, [0, 1, 2, 3, 4]), (52, [0, 1, 2, 3, 4]), (74, [0, 1, 3, 4]), (104, [0, 1, 3, 4])]
def qX6_seek : CD := [(0, [(0, .aload_n 0, 1, 0, 0, 0, .null), (1, .lload_n 2, 1, 0, 0, 0, .null), (2, .putfield 35, 3, 6, 8, 393, .null), (5, .aload_n 0, 1, 0, 0, 0, .null), (6, .lconst 0, 1, 0, 0, 0, .long 0), (7, .putfield 39, 3, 6, 9, 394, .null), (10, .aload_n 0, 1, 0, 0, 0, .null), (11, .iload_n 1, 1, 0, 0, 0, .null), (12, .aload_n 0, 1, 0, 0, 0, .null), (13, .getfield 42, 3, 6, 0, 385, .null)]),
  (1, [(16, .invokevirtual 99, 3, 13, 1100, 924, .null), (19, .iand, 1, 0, 0, 0, .null), (20, .putfield 25, 3, 6, 5, 390, .null), (23, .iconst 0, 1, 0, 0, 0, .int 0), (24, .istore 4, 2, 0, 0, 0, .null), (26, .iload 4, 2, 0, 0, 0, .null), (28, .bipush 6, 2, 0, 0, 0, .int 6), (30, .if_icmp .ge 26, 3, 56, 0, 0, .null)]),
  (2, [(33, .iload_n 1, 1, 0, 0, 0, .null), (34, .iload 4, 2, 0, 0, 0, .null), (36, .ishr, 1, 0, 0, 0, .null), (37, .iconst 1, 1, 0, 0, 0, .int 1), (38, .iand, 1, 0, 0, 0, .null), (39, .iconst 1, 1, 0, 0, 0, .int 1), (40, .if_icmp .ne 10, 3, 50, 0, 0, .null), (43, .aload_n 0, 1, 0, 0, 0, .null), (44, .iload 4, 2, 0, 0, 0, .null), (46, .iconst 0, 1, 0, 0, 0, .int 0), (47, .invokevirtual 73, 3, 81, 6002, 911, .null)]),
  (3, [(50, .iinc 4 1, 3, 0, 0, 0, .int 1), (53, .goto (-27), 3, 26, 0, 0, .null), (56, .aload_n 0, 1, 0, 0, 0, .null), (57, .getfield 42, 3, 6, 0, 385, .null), (60, .aload_n 0, 1, 0, 0, 0, .null), (61, .getfield 25, 3, 6, 5, 390, .null)]),
  (4, [(64, .putfield 102, 3, 1, 5, 343, .null), (67, .aload_n 0, 1, 0, 0, 0, .null), (68, .getfield 42, 3, 6, 0, 385, .null), (71, .invokevirtual 105, 3, 8, 1200, 928, .null), (74, .lstore 4, 2, 0, 0, 0, .null), (76, .aload_n 0, 1, 0, 0, 0, .null), (77, .lload 4, 2, 0, 0, 0, .null), (79, .invokevirtual 109, 3, 84, 6301, 929, .null)]),
  (5, [(82, .ifCond .eq 10, 3, 92, 0, 0, .null), (85, .aload_n 0, 1, 0, 0, 0, .null), (86, .iconst 0, 1, 0, 0, 0, .int 0), (87, .lload 4, 2, 0, 0, 0, .null), (89, .invokevirtual 113, 3, 83, 6002, 933, .null), (92, .aload_n 0, 1, 0, 0, 0, .null), (93, .getfield 42, 3, 6, 0, 385, .null)]),
  (6, [(96, .iconst 0, 1, 0, 0, 0, .int 0), (97, .putfield 102, 3, 1, 5, 343, .null), (100, .aload_n 0, 1, 0, 0, 0, .null), (101, .dup, 1, 0, 0, 0, .null), (102, .getfield 39, 3, 6, 9, 394, .null), (105, .aload_n 0, 1, 0, 0, 0, .null), (106, .iload_n 1, 1, 0, 0, 0, .null), (107, .aload_n 0, 1, 0, 0, 0, .null), (108, .getfield 25, 3, 6, 5, 390, .null), (111, .iconst (-1), 1, 0, 0, 0, .int (-1))]),
  (7, [(112, .ixor, 1, 0, 0, 0, .null), (113, .iand, 1, 0, 0, 0, .null), (114, .invokevirtual 65, 3, 79, 6201, 946, .null), (117, .lmul, 1, 0, 0, 0, .null), (118, .putfield 39, 3, 6, 9, 394, .null), (121, .return_, 1, 0, 0, 0, .null)])]
def uX6_seek : List (Nat × List Nat) := [(26, [0, 1, 4]), (92, [0, 1])]
def qX6_tryLook : CD := [(0, [(0, .iload_n 1, 1, 0, 0, 0, .null), (1, .bipush 6, 2, 0, 0, 0, .int 6), (3, .if_icmp .lt 11, 3, 14, 0, 0, .null), (6, .aload_n 0, 1, 0, 0, 0, .null), (7, .lload_n 2, 1, 0, 0, 0, .null), (8, .invokevirtual 116, 3, 85, 6001, 937, .null), (11, .goto 114, 3, 125, 0, 0, .null), (14, .aload_n 0, 1, 0, 0, 0, .null), (15, .getfield 25, 3, 6, 5, 390, .null)]),
  (1, [(18, .iload_n 1, 1, 0, 0, 0, .null), (19, .ishr, 1, 0, 0, 0, .null), (20, .iconst 1, 1, 0, 0, 0, .int 1), (21, .iand, 1, 0, 0, 0, .null), (22, .ifCond .ne 14, 3, 36, 0, 0, .null), (25, .aload_n 0, 1, 0, 0, 0, .null), (26, .iload_n 1, 1, 0, 0, 0, .null), (27, .iconst 1, 1, 0, 0, 0, .int 1), (28, .iadd, 1, 0, 0, 0, .null), (29, .lload_n 2, 1, 0, 0, 0, .null), (30, .invokevirtual 113, 3, 83, 6002, 933, .null)]),
  (2, [(33, .goto 92, 3, 125, 0, 0, .null), (36, .aload_n 0, 1, 0, 0, 0, .null), (37, .getfield 42, 3, 6, 0, 385, .null), (40, .dup, 1, 0, 0, 0, .null), (41, .getfield 102, 3, 1, 5, 343, .null), (44, .iconst 1, 1, 0, 0, 0, .int 1), (45, .iload_n 1, 1, 0, 0, 0, .null), (46, .ishl, 1, 0, 0, 0, .null), (47, .iconst (-1), 1, 0, 0, 0, .int (-1))]),
  (3, [(48, .ixor, 1, 0, 0, 0, .null), (49, .iand, 1, 0, 0, 0, .null), (50, .putfield 102, 3, 1, 5, 343, .null), (53, .aload_n 0, 1, 0, 0, 0, .null), (54, .iload_n 1, 1, 0, 0, 0, .null), (55, .invokevirtual 93, 3, 80, 6101, 942, .null), (58, .istore 4, 2, 0, 0, 0, .null), (60, .iconst 0, 1, 0, 0, 0, .int 0), (61, .istore 5, 2, 0, 0, 0, .null), (63, .iload 5, 2, 0, 0, 0, .null)]),
  (4, [(65, .iload 4, 2, 0, 0, 0, .null), (67, .if_icmp .ge 43, 3, 110, 0, 0, .null), (70, .aload_n 0, 1, 0, 0, 0, .null), (71, .iload_n 1, 1, 0, 0, 0, .null), (72, .iload 5, 2, 0, 0, 0, .null), (74, .invokevirtual 73, 3, 81, 6002, 911, .null), (77, .aload_n 0, 1, 0, 0, 0, .null), (78, .getfield 42, 3, 6, 0, 385, .null)]),
  (5, [(81, .invokevirtual 105, 3, 8, 1200, 928, .null), (84, .lstore 6, 2, 0, 0, 0, .null), (86, .aload_n 0, 1, 0, 0, 0, .null), (87, .lload 6, 2, 0, 0, 0, .null), (89, .invokevirtual 109, 3, 84, 6301, 929, .null), (92, .ifCond .eq 12, 3, 104, 0, 0, .null), (95, .aload_n 0, 1, 0, 0, 0, .null)]),
  (6, [(96, .iload_n 1, 1, 0, 0, 0, .null), (97, .iconst 1, 1, 0, 0, 0, .int 1), (98, .iadd, 1, 0, 0, 0, .null), (99, .lload 6, 2, 0, 0, 0, .null), (101, .invokevirtual 113, 3, 83, 6002, 933, .null), (104, .iinc 5 1, 3, 0, 0, 0, .int 1), (107, .goto (-44), 3, 63, 0, 0, .null), (110, .aload_n 0, 1, 0, 0, 0, .null), (111, .getfield 42, 3, 6, 0, 385, .null)]),
  (7, [(114, .dup, 1, 0, 0, 0, .null), (115, .getfield 102, 3, 1, 5, 343, .null), (118, .iconst 1, 1, 0, 0, 0, .int 1), (119, .iload_n 1, 1, 0, 0, 0, .null), (120, .ishl, 1, 0, 0, 0, .null), (121, .ior, 1, 0, 0, 0, .null), (122, .putfield 102, 3, 1, 5, 343, .null), (125, .return_, 1, 0, 0, 0, .null)])]
def uX6_tryLook : List (Nat × List Nat) := [(63, [0, 1, 4, 5])]
def qX6_mayBeBest : CD := [(0, [(0, .aload_n 0, 1, 0, 0, 0, .null), (1, .getfield 32, 3, 6, 7, 392, .null), (4, .ifCond .eq 20, 3, 24, 0, 0, .null), (7, .lload_n 1, 1, 0, 0, 0, .null), (8, .aload_n 0, 1, 0, 0, 0, .null), (9, .getfield 35, 3, 6, 8, 393, .null), (12, .lcmp, 1, 0, 0, 0, .null), (13, .ifCond .lt 7, 3, 20, 0, 0, .null)]),
  (1, [(16, .iconst 1, 1, 0, 0, 0, .int 1), (17, .goto 21, 3, 38, 0, 0, .null), (20, .iconst 0, 1, 0, 0, 0, .int 0), (21, .goto 17, 3, 38, 0, 0, .null), (24, .lload_n 1, 1, 0, 0, 0, .null), (25, .aload_n 0, 1, 0, 0, 0, .null), (26, .getfield 35, 3, 6, 8, 393, .null), (29, .lcmp, 1, 0, 0, 0, .null), (30, .ifCond .le 7, 3, 37, 0, 0, .null)]),
  (2, [(33, .iconst 1, 1, 0, 0, 0, .int 1), (34, .goto 4, 3, 38, 0, 0, .null), (37, .iconst 0, 1, 0, 0, 0, .int 0), (38, .ireturn, 1, 0, 0, 0, .null)])]
def uX6_mayBeBest : List (Nat × List Nat) := []
def qX6_takeRule : CD := [(0, [(0, .lload_n 1, 1, 0, 0, 0, .null), (1, .aload_n 0, 1, 0, 0, 0, .null), (2, .getfield 35, 3, 6, 8, 393, .null), (5, .lcmp, 1, 0, 0, 0, .null), (6, .ifCond .le 27, 3, 33, 0, 0, .null), (9, .aload_n 0, 1, 0, 0, 0, .null), (10, .lload_n 1, 1, 0, 0, 0, .null), (11, .putfield 35, 3, 6, 8, 393, .null), (14, .aload_n 0, 1, 0, 0, 0, .null), (15, .lconst 0, 1, 0, 0, 0, .long 0)]),
  (1, [(16, .putfield 39, 3, 6, 9, 394, .null), (19, .aload_n 0, 1, 0, 0, 0, .null), (20, .getfield 42, 3, 6, 0, 385, .null), (23, .getfield 96, 3, 1, 4, 341, .null), (26, .aload_n 0, 1, 0, 0, 0, .null), (27, .getfield 15, 3, 6, 2, 387, .null), (30, .invokestatic 87, 3, 30, 2, 941, .null)]),
  (2, [(33, .aload_n 0, 1, 0, 0, 0, .null), (34, .dup, 1, 0, 0, 0, .null), (35, .getfield 39, 3, 6, 9, 394, .null), (38, .lconst 1, 1, 0, 0, 0, .long 1), (39, .ladd, 1, 0, 0, 0, .null), (40, .putfield 39, 3, 6, 9, 394, .null), (43, .return_, 1, 0, 0, 0, .null)])]
def uX6_takeRule : List (Nat × List Nat) := []
def qX6_fewestSigns : CD := [(0, [(0, .aload_n 0, 1, 0, 0, 0, .null), (1, .iload_n 1, 1, 0, 0, 0, .null), (2, .invokevirtual 120, 3, 88, 6001, 1105, .null), (5, .iconst 0, 1, 0, 0, 0, .int 0), (6, .istore 4, 2, 0, 0, 0, .null), (8, .iload 4, 2, 0, 0, 0, .null), (10, .aload_n 0, 1, 0, 0, 0, .null), (11, .getfield 21, 3, 6, 4, 389, .null), (14, .if_icmp .gt 61, 3, 75, 0, 0, .null)]),
  (1, [(17, .iconst 0, 1, 0, 0, 0, .int 0), (18, .istore 5, 2, 0, 0, 0, .null), (20, .iload 5, 2, 0, 0, 0, .null), (22, .iconst 1, 1, 0, 0, 0, .int 1), (23, .aload_n 0, 1, 0, 0, 0, .null), (24, .getfield 21, 3, 6, 4, 389, .null), (27, .ishl, 1, 0, 0, 0, .null), (28, .if_icmp .ge 41, 3, 69, 0, 0, .null), (31, .iload 5, 2, 0, 0, 0, .null)]),
  (2, [(33, .invokestatic 77, 3, 252, 101, 981, .null), (36, .iload 4, 2, 0, 0, 0, .null), (38, .if_icmp .ne 25, 3, 63, 0, 0, .null), (41, .aload_n 0, 1, 0, 0, 0, .null), (42, .iload 5, 2, 0, 0, 0, .null), (44, .iload_n 1, 1, 0, 0, 0, .null), (45, .lload_n 2, 1, 0, 0, 0, .null), (46, .lconst 1, 1, 0, 0, 0, .long 1), (47, .lsub, 1, 0, 0, 0, .null)]),
  (3, [(48, .invokevirtual 124, 3, 89, 6203, 1110, .null), (51, .lload_n 2, 1, 0, 0, 0, .null), (52, .lcmp, 1, 0, 0, 0, .null), (53, .ifCond .lt 10, 3, 63, 0, 0, .null), (56, .aload_n 0, 1, 0, 0, 0, .null), (57, .iload 5, 2, 0, 0, 0, .null), (59, .invokevirtual 128, 3, 90, 6101, 1114, .null), (62, .ireturn, 1, 0, 0, 0, .null), (63, .iinc 5 1, 3, 0, 0, 0, .int 1)]),
  (4, [(66, .goto (-46), 3, 20, 0, 0, .null), (69, .iinc 4 1, 3, 0, 0, 0, .int 1), (72, .goto (-64), 3, 8, 0, 0, .null), (75, .iconst (-1), 1, 0, 0, 0, .int (-1)), (76, .ireturn, 1, 0, 0, 0, .null)])]
def uX6_fewestSigns : List (Nat × List Nat) := [(8, [0, 1, 2, 4]), (20, [0, 1, 2, 4, 5])]
def qX6_bestSigned : CD := [(0, [(0, .aload_n 0, 1, 0, 0, 0, .null), (1, .iload_n 1, 1, 0, 0, 0, .null), (2, .invokevirtual 120, 3, 88, 6001, 1105, .null), (5, .ldc2_w 59, 3, 0, 0, 919, .long (-1000000000000000000)), (8, .lstore_n 2, 1, 0, 0, 0, .null), (9, .iconst 0, 1, 0, 0, 0, .int 0), (10, .istore 4, 2, 0, 0, 0, .null), (12, .iload 4, 2, 0, 0, 0, .null), (14, .iconst 1, 1, 0, 0, 0, .int 1), (15, .aload_n 0, 1, 0, 0, 0, .null)]),
  (1, [(16, .getfield 21, 3, 6, 4, 389, .null), (19, .ishl, 1, 0, 0, 0, .null), (20, .if_icmp .ge 18, 3, 38, 0, 0, .null), (23, .aload_n 0, 1, 0, 0, 0, .null), (24, .iload 4, 2, 0, 0, 0, .null), (26, .iload_n 1, 1, 0, 0, 0, .null), (27, .lload_n 2, 1, 0, 0, 0, .null), (28, .invokevirtual 124, 3, 89, 6203, 1110, .null), (31, .lstore_n 2, 1, 0, 0, 0, .null)]),
  (2, [(32, .iinc 4 1, 3, 0, 0, 0, .int 1), (35, .goto (-23), 3, 12, 0, 0, .null), (38, .lload_n 2, 1, 0, 0, 0, .null), (39, .lreturn, 1, 0, 0, 0, .null)])]
def uX6_bestSigned : List (Nat × List Nat) := [(12, [0, 1, 2, 4])]
def qX6_startSigns : CD := [(0, [(0, .aload_n 0, 1, 0, 0, 0, .null), (1, .getfield 42, 3, 6, 0, 385, .null), (4, .iconst 0, 1, 0, 0, 0, .int 0), (5, .invokevirtual 46, 3, 3, 1001, 901, .null), (8, .aload_n 0, 1, 0, 0, 0, .null), (9, .iconst 0, 1, 0, 0, 0, .int 0), (10, .putfield 21, 3, 6, 4, 389, .null), (13, .iconst 0, 1, 0, 0, 0, .int 0), (14, .istore_n 2, 1, 0, 0, 0, .null), (15, .iload_n 2, 1, 0, 0, 0, .null)]),
  (1, [(16, .aload_n 0, 1, 0, 0, 0, .null), (17, .getfield 42, 3, 6, 0, 385, .null), (20, .getfield 131, 3, 1, 1, 334, .null), (23, .getfield 135, 3, 3, 0, 161, .null), (26, .if_icmp .ge 60, 3, 86, 0, 0, .null), (29, .aload_n 0, 1, 0, 0, 0, .null), (30, .getfield 42, 3, 6, 0, 385, .null)]),
  (2, [(33, .getfield 131, 3, 1, 1, 334, .null), (36, .getfield 138, 3, 3, 1, 168, .null), (39, .iload_n 2, 1, 0, 0, 0, .null), (40, .iaload, 1, 0, 0, 0, .null), (41, .ifCond .ne 39, 3, 80, 0, 0, .null), (44, .aload_n 0, 1, 0, 0, 0, .null), (45, .getfield 42, 3, 6, 0, 385, .null)]),
  (3, [(48, .getfield 131, 3, 1, 1, 334, .null), (51, .getfield 141, 3, 3, 2, 174, .null), (54, .iload_n 2, 1, 0, 0, 0, .null), (55, .iaload, 1, 0, 0, 0, .null), (56, .iload_n 1, 1, 0, 0, 0, .null), (57, .if_icmp .ne 23, 3, 80, 0, 0, .null), (60, .aload_n 0, 1, 0, 0, 0, .null), (61, .getfield 18, 3, 6, 3, 388, .null)]),
  (4, [(64, .aload_n 0, 1, 0, 0, 0, .null), (65, .getfield 21, 3, 6, 4, 389, .null), (68, .iload_n 2, 1, 0, 0, 0, .null), (69, .iastore, 1, 0, 0, 0, .null), (70, .aload_n 0, 1, 0, 0, 0, .null), (71, .dup, 1, 0, 0, 0, .null), (72, .getfield 21, 3, 6, 4, 389, .null), (75, .iconst 1, 1, 0, 0, 0, .int 1), (76, .iadd, 1, 0, 0, 0, .null), (77, .putfield 21, 3, 6, 4, 389, .null)]),
  (5, [(80, .iinc 2 1, 3, 0, 0, 0, .int 1), (83, .goto (-68), 3, 15, 0, 0, .null), (86, .aload_n 0, 1, 0, 0, 0, .null), (87, .aload_n 0, 1, 0, 0, 0, .null), (88, .getfield 21, 3, 6, 4, 389, .null), (91, .bipush 6, 2, 0, 0, 0, .int 6), (93, .invokestatic 144, 3, 9004, 102, 1109, .null)]),
  (6, [(96, .putfield 21, 3, 6, 4, 389, .null), (99, .return_, 1, 0, 0, 0, .null)])]
def uX6_startSigns : List (Nat × List Nat) := [(15, [0, 1, 2])]
def qX6_bestWithSigns : CD := [(0, [(0, .iconst 0, 1, 0, 0, 0, .int 0), (1, .istore 5, 2, 0, 0, 0, .null), (3, .iload 5, 2, 0, 0, 0, .null), (5, .aload_n 0, 1, 0, 0, 0, .null), (6, .getfield 21, 3, 6, 4, 389, .null), (9, .if_icmp .ge 39, 3, 48, 0, 0, .null), (12, .aload_n 0, 1, 0, 0, 0, .null), (13, .getfield 42, 3, 6, 0, 385, .null)]),
  (1, [(16, .getfield 150, 3, 1, 3, 339, .null), (19, .aload_n 0, 1, 0, 0, 0, .null), (20, .getfield 18, 3, 6, 3, 388, .null), (23, .iload 5, 2, 0, 0, 0, .null), (25, .iaload, 1, 0, 0, 0, .null), (26, .iload_n 1, 1, 0, 0, 0, .null), (27, .iload 5, 2, 0, 0, 0, .null), (29, .ishr, 1, 0, 0, 0, .null), (30, .iconst 1, 1, 0, 0, 0, .int 1), (31, .iand, 1, 0, 0, 0, .null)]),
  (2, [(32, .iconst 1, 1, 0, 0, 0, .int 1), (33, .if_icmp .ne 7, 3, 40, 0, 0, .null), (36, .iconst 5, 1, 0, 0, 0, .int 5), (37, .goto 4, 3, 41, 0, 0, .null), (40, .iload_n 2, 1, 0, 0, 0, .null), (41, .iastore, 1, 0, 0, 0, .null), (42, .iinc 5 1, 3, 0, 0, 0, .int 1), (45, .goto (-42), 3, 3, 0, 0, .null)]),
  (3, [(48, .aload_n 0, 1, 0, 0, 0, .null), (49, .iconst 0, 1, 0, 0, 0, .int 0), (50, .invokevirtual 52, 3, 73, 6001, 902, .null), (53, .aload_n 0, 1, 0, 0, 0, .null), (54, .aload_n 0, 1, 0, 0, 0, .null), (55, .invokevirtual 55, 3, 78, 6100, 915, .null), (58, .lload_n 3, 1, 0, 0, 0, .null), (59, .invokevirtual 61, 3, 82, 6002, 920, .null), (62, .aload_n 0, 1, 0, 0, 0, .null), (63, .getfield 35, 3, 6, 8, 393, .null)]),
  (4, [(66, .lreturn, 1, 0, 0, 0, .null)])]
def uX6_bestWithSigns : List (Nat × List Nat) := [(3, [0, 1, 2, 3, 5])]
def qX6_placesOf : CD := [(0, [(0, .iconst 0, 1, 0, 0, 0, .int 0), (1, .istore_n 2, 1, 0, 0, 0, .null), (2, .iconst 0, 1, 0, 0, 0, .int 0), (3, .istore_n 3, 1, 0, 0, 0, .null), (4, .iload_n 3, 1, 0, 0, 0, .null), (5, .aload_n 0, 1, 0, 0, 0, .null), (6, .getfield 21, 3, 6, 4, 389, .null), (9, .if_icmp .ge 29, 3, 38, 0, 0, .null), (12, .iload_n 1, 1, 0, 0, 0, .null), (13, .iload_n 3, 1, 0, 0, 0, .null), (14, .ishr, 1, 0, 0, 0, .null), (15, .iconst 1, 1, 0, 0, 0, .int 1)]),
  (1, [(16, .iand, 1, 0, 0, 0, .null), (17, .iconst 1, 1, 0, 0, 0, .int 1), (18, .if_icmp .ne 14, 3, 32, 0, 0, .null), (21, .iload_n 2, 1, 0, 0, 0, .null), (22, .iconst 1, 1, 0, 0, 0, .int 1), (23, .aload_n 0, 1, 0, 0, 0, .null), (24, .getfield 18, 3, 6, 3, 388, .null), (27, .iload_n 3, 1, 0, 0, 0, .null), (28, .iaload, 1, 0, 0, 0, .null), (29, .ishl, 1, 0, 0, 0, .null), (30, .ior, 1, 0, 0, 0, .null), (31, .istore_n 2, 1, 0, 0, 0, .null)]),
  (2, [(32, .iinc 3 1, 3, 0, 0, 0, .int 1), (35, .goto (-31), 3, 4, 0, 0, .null), (38, .iload_n 2, 1, 0, 0, 0, .null), (39, .ireturn, 1, 0, 0, 0, .null)])]
def uX6_placesOf : List (Nat × List Nat) := [(4, [0, 1, 2, 3])]
def qX7_init : CD := [(0, [(0, .aload_n 0, 1, 0, 0, 0, .null), (1, .invokespecial 3, 3, 9001, 0, 306, .null), (4, .aload_n 0, 1, 0, 0, 0, .null), (5, .bipush 32, 2, 0, 0, 0, .int 32), (7, .newarray .long, 2, 0, 0, 0, .null), (9, .putfield 9, 3, 7, 0, 307, .null), (12, .aload_n 0, 1, 0, 0, 0, .null), (13, .iconst 0, 1, 0, 0, 0, .int 0), (14, .putfield 15, 3, 7, 1, 308, .null)]),
  (1, [(17, .aload_n 0, 1, 0, 0, 0, .null), (18, .iconst 0, 1, 0, 0, 0, .int 0), (19, .putfield 19, 3, 7, 2, 309, .null), (22, .aload_n 0, 1, 0, 0, 0, .null), (23, .iconst 0, 1, 0, 0, 0, .int 0), (24, .putfield 22, 3, 7, 3, 310, .null), (27, .return_, 1, 0, 0, 0, .null)])]
def uX7_init : List (Nat × List Nat) := []
def qX7_tell : CD := [(0, [(0, .aload_n 0, 1, 0, 0, 0, .null), (1, .iload_n 2, 1, 0, 0, 0, .null), (2, .putfield 15, 3, 7, 1, 308, .null), (5, .aload_n 0, 1, 0, 0, 0, .null), (6, .iload_n 3, 1, 0, 0, 0, .null), (7, .putfield 19, 3, 7, 2, 309, .null), (10, .aload_n 0, 1, 0, 0, 0, .null), (11, .iload 4, 2, 0, 0, 0, .null), (13, .putfield 22, 3, 7, 3, 310, .null)]),
  (1, [(16, .aload_n 1, 1, 0, 0, 0, .null), (17, .getfield 25, 3, 3, 8, 201, .null), (20, .aload_n 0, 1, 0, 0, 0, .null), (21, .getfield 15, 3, 7, 1, 308, .null), (24, .iaload, 1, 0, 0, 0, .null), (25, .istore 5, 2, 0, 0, 0, .null), (27, .aload_n 1, 1, 0, 0, 0, .null), (28, .getfield 31, 3, 3, 9, 204, .null), (31, .aload_n 0, 1, 0, 0, 0, .null)]),
  (2, [(32, .getfield 15, 3, 7, 1, 308, .null), (35, .iaload, 1, 0, 0, 0, .null), (36, .istore 6, 2, 0, 0, 0, .null), (38, .iload 6, 2, 0, 0, 0, .null), (40, .iload 5, 2, 0, 0, 0, .null), (42, .if_icmp .le 22, 3, 64, 0, 0, .null), (45, .aload_n 0, 1, 0, 0, 0, .null), (46, .aload_n 1, 1, 0, 0, 0, .null), (47, .getfield 34, 3, 3, 10, 207, .null)]),
  (3, [(50, .iload 5, 2, 0, 0, 0, .null), (52, .iload 6, 2, 0, 0, 0, .null), (54, .invokevirtual 37, 3, 93, 7203, 787, .null), (57, .lconst 1, 1, 0, 0, 0, .long 1), (58, .lcmp, 1, 0, 0, 0, .null), (59, .ifCond .eq 5, 3, 64, 0, 0, .null), (62, .iconst 0, 1, 0, 0, 0, .int 0), (63, .ireturn, 1, 0, 0, 0, .null)]),
  (4, [(64, .aload_n 0, 1, 0, 0, 0, .null), (65, .aload_n 1, 1, 0, 0, 0, .null), (66, .getfield 34, 3, 3, 10, 207, .null), (69, .aload_n 1, 1, 0, 0, 0, .null), (70, .getfield 41, 3, 3, 7, 198, .null), (73, .aload_n 0, 1, 0, 0, 0, .null), (74, .getfield 15, 3, 7, 1, 308, .null), (77, .iaload, 1, 0, 0, 0, .null), (78, .iload 5, 2, 0, 0, 0, .null)]),
  (5, [(80, .invokevirtual 37, 3, 93, 7203, 787, .null), (83, .lstore 7, 2, 0, 0, 0, .null), (85, .lload 7, 2, 0, 0, 0, .null), (87, .ldc2_w 44, 3, 0, 0, 794, .long (-1000000000000000000)), (90, .lcmp, 1, 0, 0, 0, .null), (91, .ifCond .ne 7, 3, 98, 0, 0, .null), (94, .iconst 0, 1, 0, 0, 0, .int 0), (95, .goto 18, 3, 113, 0, 0, .null)]),
  (6, [(98, .ldc2_w 46, 3, 0, 0, 808, .long (-999)), (101, .ldc2_w 48, 3, 0, 0, 809, .long 999), (104, .lload 7, 2, 0, 0, 0, .null), (106, .invokestatic 50, 3, 9006, 202, 810, .null), (109, .invokestatic 56, 3, 9005, 202, 813, .null)]),
  (7, [(112, .l2i, 1, 0, 0, 0, .null), (113, .ireturn, 1, 0, 0, 0, .null)])]
def uX7_tell : List (Nat × List Nat) := [(64, [0, 1, 5])]
def qX7_run : CD := [(0, [(0, .iconst 0, 1, 0, 0, 0, .int 0), (1, .istore 4, 2, 0, 0, 0, .null), (3, .iload_n 2, 1, 0, 0, 0, .null), (4, .istore 5, 2, 0, 0, 0, .null), (6, .iload 5, 2, 0, 0, 0, .null), (8, .iload_n 3, 1, 0, 0, 0, .null), (9, .if_icmp .ge 217, 3, 226, 0, 0, .null), (12, .iload 5, 2, 0, 0, 0, .null), (14, .aload_n 1, 1, 0, 0, 0, .null), (15, .arraylength, 1, 0, 0, 0, .null)]),
  (1, [(16, .if_icmp .ge 210, 3, 226, 0, 0, .null), (19, .aload_n 1, 1, 0, 0, 0, .null), (20, .iload 5, 2, 0, 0, 0, .null), (22, .iaload, 1, 0, 0, 0, .null), (23, .bipush 15, 2, 0, 0, 0, .int 15), (25, .iand, 1, 0, 0, 0, .null), (26, .istore 6, 2, 0, 0, 0, .null), (28, .aload_n 1, 1, 0, 0, 0, .null), (29, .iload 5, 2, 0, 0, 0, .null), (31, .iaload, 1, 0, 0, 0, .null)]),
  (2, [(32, .iconst 4, 1, 0, 0, 0, .int 4), (33, .ishr, 1, 0, 0, 0, .null), (34, .istore 7, 2, 0, 0, 0, .null), (36, .iload 4, 2, 0, 0, 0, .null), (38, .aload_n 0, 1, 0, 0, 0, .null), (39, .getfield 9, 3, 7, 0, 307, .null), (42, .arraylength, 1, 0, 0, 0, .null), (43, .if_icmp .ge 13, 3, 56, 0, 0, .null), (46, .iload 4, 2, 0, 0, 0, .null)]),
  (3, [(48, .iload 6, 2, 0, 0, 0, .null), (50, .invokestatic 59, 3, 94, 101, 791, .null), (53, .if_icmp .ge 7, 3, 60, 0, 0, .null), (56, .ldc2_w 44, 3, 0, 0, 794, .long (-1000000000000000000)), (59, .lreturn, 1, 0, 0, 0, .null), (60, .iload 6, 2, 0, 0, 0, .null), (62, .iconst 4, 1, 0, 0, 0, .int 4), (63, .if_icmp .ge 24, 3, 87, 0, 0, .null)]),
  (4, [(66, .aload_n 0, 1, 0, 0, 0, .null), (67, .getfield 9, 3, 7, 0, 307, .null), (70, .iload 4, 2, 0, 0, 0, .null), (72, .aload_n 0, 1, 0, 0, 0, .null), (73, .iload 6, 2, 0, 0, 0, .null), (75, .iload 7, 2, 0, 0, 0, .null), (77, .invokevirtual 63, 3, 95, 7202, 795, .null)]),
  (5, [(80, .lastore, 1, 0, 0, 0, .null), (81, .iinc 4 1, 3, 0, 0, 0, .int 1), (84, .goto 136, 3, 220, 0, 0, .null), (87, .iload 6, 2, 0, 0, 0, .null), (89, .bipush 11, 2, 0, 0, 0, .int 11), (91, .if_icmp .ge 56, 3, 147, 0, 0, .null), (94, .iinc 4 (-1), 3, 0, 0, 0, .int (-1))]),
  (6, [(97, .iload 6, 2, 0, 0, 0, .null), (99, .aload_n 0, 1, 0, 0, 0, .null), (100, .getfield 9, 3, 7, 0, 307, .null), (103, .iload 4, 2, 0, 0, 0, .null), (105, .iconst 1, 1, 0, 0, 0, .int 1), (106, .isub, 1, 0, 0, 0, .null), (107, .laload, 1, 0, 0, 0, .null), (108, .aload_n 0, 1, 0, 0, 0, .null), (109, .getfield 9, 3, 7, 0, 307, .null)]),
  (7, [(112, .iload 4, 2, 0, 0, 0, .null), (114, .laload, 1, 0, 0, 0, .null), (115, .invokestatic 67, 3, 96, 203, 799, .null), (118, .lstore 8, 2, 0, 0, 0, .null), (120, .lload 8, 2, 0, 0, 0, .null), (122, .ldc2_w 44, 3, 0, 0, 794, .long (-1000000000000000000)), (125, .lcmp, 1, 0, 0, 0, .null), (126, .ifCond .ne 7, 3, 133, 0, 0, .null)]),
  (8, [(129, .ldc2_w 44, 3, 0, 0, 794, .long (-1000000000000000000)), (132, .lreturn, 1, 0, 0, 0, .null), (133, .aload_n 0, 1, 0, 0, 0, .null), (134, .getfield 9, 3, 7, 0, 307, .null), (137, .iload 4, 2, 0, 0, 0, .null), (139, .iconst 1, 1, 0, 0, 0, .int 1), (140, .isub, 1, 0, 0, 0, .null), (141, .lload 8, 2, 0, 0, 0, .null), (143, .lastore, 1, 0, 0, 0, .null)]),
  (9, [(144, .goto 76, 3, 220, 0, 0, .null), (147, .iload 6, 2, 0, 0, 0, .null), (149, .bipush 11, 2, 0, 0, 0, .int 11), (151, .if_icmp .ne 26, 3, 177, 0, 0, .null), (154, .aload_n 0, 1, 0, 0, 0, .null), (155, .getfield 9, 3, 7, 0, 307, .null), (158, .iload 4, 2, 0, 0, 0, .null)]),
  (10, [(160, .iconst 1, 1, 0, 0, 0, .int 1), (161, .isub, 1, 0, 0, 0, .null), (162, .lconst 1, 1, 0, 0, 0, .long 1), (163, .aload_n 0, 1, 0, 0, 0, .null), (164, .getfield 9, 3, 7, 0, 307, .null), (167, .iload 4, 2, 0, 0, 0, .null), (169, .iconst 1, 1, 0, 0, 0, .int 1), (170, .isub, 1, 0, 0, 0, .null), (171, .laload, 1, 0, 0, 0, .null), (172, .lsub, 1, 0, 0, 0, .null), (173, .lastore, 1, 0, 0, 0, .null), (174, .goto 46, 3, 220, 0, 0, .null)]),
  (11, [(177, .aload_n 0, 1, 0, 0, 0, .null), (178, .getfield 9, 3, 7, 0, 307, .null), (181, .iload 4, 2, 0, 0, 0, .null), (183, .iconst 1, 1, 0, 0, 0, .int 1), (184, .isub, 1, 0, 0, 0, .null), (185, .laload, 1, 0, 0, 0, .null), (186, .iload 6, 2, 0, 0, 0, .null), (188, .bipush 12, 2, 0, 0, 0, .int 12), (190, .if_icmp .ne 7, 3, 197, 0, 0, .null)]),
  (12, [(193, .iconst 1, 1, 0, 0, 0, .int 1), (194, .goto 4, 3, 198, 0, 0, .null), (197, .iconst 0, 1, 0, 0, 0, .int 0), (198, .i2l, 1, 0, 0, 0, .null), (199, .lcmp, 1, 0, 0, 0, .null), (200, .ifCond .ne 17, 3, 217, 0, 0, .null), (203, .iload 5, 2, 0, 0, 0, .null), (205, .iload 7, 2, 0, 0, 0, .null), (207, .iconst 1, 1, 0, 0, 0, .int 1)]),
  (13, [(208, .isub, 1, 0, 0, 0, .null), (209, .invokestatic 71, 3, 9003, 102, 807, .null), (212, .istore 5, 2, 0, 0, 0, .null), (214, .goto 6, 3, 220, 0, 0, .null), (217, .iinc 4 (-1), 3, 0, 0, 0, .int (-1)), (220, .iinc 5 1, 3, 0, 0, 0, .int 1), (223, .goto (-217), 3, 6, 0, 0, .null)]),
  (14, [(226, .iload 4, 2, 0, 0, 0, .null), (228, .ifCond .le 12, 3, 240, 0, 0, .null), (231, .aload_n 0, 1, 0, 0, 0, .null), (232, .getfield 9, 3, 7, 0, 307, .null), (235, .iconst 0, 1, 0, 0, 0, .int 0), (236, .laload, 1, 0, 0, 0, .null), (237, .goto 6, 3, 243, 0, 0, .null)]),
  (15, [(240, .ldc2_w 44, 3, 0, 0, 794, .long (-1000000000000000000)), (243, .lreturn, 1, 0, 0, 0, .null)])]
def uX7_run : List (Nat × List Nat) := [(6, [0, 1, 3, 4, 5])]
def qX7_needed : CD := [(0, [(0, .iload_n 0, 1, 0, 0, 0, .null), (1, .iconst 4, 1, 0, 0, 0, .int 4), (2, .if_icmp .ge 7, 3, 9, 0, 0, .null), (5, .iconst 0, 1, 0, 0, 0, .int 0), (6, .goto 14, 3, 20, 0, 0, .null), (9, .iload_n 0, 1, 0, 0, 0, .null), (10, .bipush 11, 2, 0, 0, 0, .int 11), (12, .if_icmp .ge 7, 3, 19, 0, 0, .null), (15, .iconst 2, 1, 0, 0, 0, .int 2)]),
  (1, [(16, .goto 4, 3, 20, 0, 0, .null), (19, .iconst 1, 1, 0, 0, 0, .int 1), (20, .ireturn, 1, 0, 0, 0, .null)])]
def uX7_needed : List (Nat × List Nat) := []
def qX7_said : CD := [(0, [(0, .iload_n 1, 1, 0, 0, 0, .null), (1, .iconst 1, 1, 0, 0, 0, .int 1), (2, .if_icmp .ne 11, 3, 13, 0, 0, .null), (5, .aload_n 0, 1, 0, 0, 0, .null), (6, .getfield 19, 3, 7, 2, 309, .null), (9, .i2l, 1, 0, 0, 0, .null), (10, .goto 31, 3, 41, 0, 0, .null), (13, .iload_n 1, 1, 0, 0, 0, .null), (14, .iconst 2, 1, 0, 0, 0, .int 2), (15, .if_icmp .ne 11, 3, 26, 0, 0, .null)]),
  (1, [(18, .aload_n 0, 1, 0, 0, 0, .null), (19, .getfield 15, 3, 7, 1, 308, .null), (22, .i2l, 1, 0, 0, 0, .null), (23, .goto 18, 3, 41, 0, 0, .null), (26, .iload_n 1, 1, 0, 0, 0, .null), (27, .iconst 3, 1, 0, 0, 0, .int 3), (28, .if_icmp .ne 11, 3, 39, 0, 0, .null), (31, .aload_n 0, 1, 0, 0, 0, .null)]),
  (2, [(32, .getfield 22, 3, 7, 3, 310, .null), (35, .i2l, 1, 0, 0, 0, .null), (36, .goto 5, 3, 41, 0, 0, .null), (39, .iload_n 2, 1, 0, 0, 0, .null), (40, .i2l, 1, 0, 0, 0, .null), (41, .lreturn, 1, 0, 0, 0, .null)])]
def uX7_said : List (Nat × List Nat) := []
def qX7_join : CD := [(0, [(0, .iload_n 0, 1, 0, 0, 0, .null), (1, .tableswitch 100 4 10 #[79, 86, 93, 100, 43, 55, 67], 43, 0, 0, 0, .null)]),
  (2, [(44, .lload_n 1, 1, 0, 0, 0, .null), (45, .lload_n 3, 1, 0, 0, 0, .null), (46, .lcmp, 1, 0, 0, 0, .null), (47, .ifCond .ge 7, 3, 54, 0, 0, .null)]),
  (3, [(50, .lconst 1, 1, 0, 0, 0, .long 1), (51, .goto 4, 3, 55, 0, 0, .null), (54, .lconst 0, 1, 0, 0, 0, .long 0), (55, .lreturn, 1, 0, 0, 0, .null), (56, .lload_n 1, 1, 0, 0, 0, .null), (57, .lload_n 3, 1, 0, 0, 0, .null), (58, .lcmp, 1, 0, 0, 0, .null), (59, .ifCond .le 7, 3, 66, 0, 0, .null), (62, .lconst 1, 1, 0, 0, 0, .long 1), (63, .goto 4, 3, 67, 0, 0, .null)]),
  (4, [(66, .lconst 0, 1, 0, 0, 0, .long 0), (67, .lreturn, 1, 0, 0, 0, .null), (68, .lload_n 1, 1, 0, 0, 0, .null), (69, .lload_n 3, 1, 0, 0, 0, .null), (70, .lcmp, 1, 0, 0, 0, .null), (71, .ifCond .ne 7, 3, 78, 0, 0, .null), (74, .lconst 1, 1, 0, 0, 0, .long 1), (75, .goto 4, 3, 79, 0, 0, .null), (78, .lconst 0, 1, 0, 0, 0, .long 0), (79, .lreturn, 1, 0, 0, 0, .null)]),
  (5, [(80, .lload_n 1, 1, 0, 0, 0, .null), (81, .lload_n 3, 1, 0, 0, 0, .null), (82, .ladd, 1, 0, 0, 0, .null), (83, .invokestatic 74, 3, 97, 201, 802, .null), (86, .lreturn, 1, 0, 0, 0, .null), (87, .lload_n 1, 1, 0, 0, 0, .null), (88, .lload_n 3, 1, 0, 0, 0, .null), (89, .lsub, 1, 0, 0, 0, .null), (90, .invokestatic 74, 3, 97, 201, 802, .null), (93, .lreturn, 1, 0, 0, 0, .null), (94, .lload_n 1, 1, 0, 0, 0, .null), (95, .lload_n 3, 1, 0, 0, 0, .null)]),
  (6, [(96, .lmul, 1, 0, 0, 0, .null), (97, .invokestatic 74, 3, 97, 201, 802, .null), (100, .lreturn, 1, 0, 0, 0, .null), (101, .lload_n 3, 1, 0, 0, 0, .null), (102, .lconst 0, 1, 0, 0, 0, .long 0), (103, .lcmp, 1, 0, 0, 0, .null), (104, .ifCond .ne 9, 3, 113, 0, 0, .null), (107, .ldc2_w 44, 3, 0, 0, 794, .long (-1000000000000000000)), (110, .goto 6, 3, 116, 0, 0, .null)]),
  (7, [(113, .lload_n 1, 1, 0, 0, 0, .null), (114, .lload_n 3, 1, 0, 0, 0, .null), (115, .ldiv, 1, 0, 0, 0, .null), (116, .lreturn, 1, 0, 0, 0, .null)])]
def uX7_join : List (Nat × List Nat) := []
def qX7_checked : CD := [(0, [(0, .lload_n 0, 1, 0, 0, 0, .null), (1, .ldc2_w 78, 3, 0, 0, 805, .long 1000000000), (4, .lcmp, 1, 0, 0, 0, .null), (5, .ifCond .gt 11, 3, 16, 0, 0, .null), (8, .lload_n 0, 1, 0, 0, 0, .null), (9, .ldc2_w 80, 3, 0, 0, 806, .long (-1000000000)), (12, .lcmp, 1, 0, 0, 0, .null), (13, .ifCond .ge 9, 3, 22, 0, 0, .null)]),
  (1, [(16, .ldc2_w 44, 3, 0, 0, 794, .long (-1000000000000000000)), (19, .goto 4, 3, 23, 0, 0, .null), (22, .lload_n 0, 1, 0, 0, 0, .null), (23, .lreturn, 1, 0, 0, 0, .null)])]
def uX7_checked : List (Nat × List Nat) := []
def qX8_init : CD := [(0, [(0, .aload_n 0, 1, 0, 0, 0, .null), (1, .invokespecial 3, 3, 9001, 0, 480, .null), (4, .aload_n 0, 1, 0, 0, 0, .null), (5, .bipush 11, 2, 0, 0, 0, .int 11), (7, .newarray .int, 2, 0, 0, 0, .null), (9, .putfield 9, 3, 8, 2, 483, .null), (12, .aload_n 0, 1, 0, 0, 0, .null), (13, .iconst (-1), 1, 0, 0, 0, .int (-1)), (14, .putfield 15, 3, 8, 3, 485, .null)]),
  (1, [(17, .aload_n 0, 1, 0, 0, 0, .null), (18, .lconst 0, 1, 0, 0, 0, .long 0), (19, .putfield 19, 3, 8, 4, 487, .null), (22, .aload_n 0, 1, 0, 0, 0, .null), (23, .aload_n 1, 1, 0, 0, 0, .null), (24, .putfield 23, 3, 8, 0, 481, .null), (27, .aload_n 0, 1, 0, 0, 0, .null), (28, .aload_n 2, 1, 0, 0, 0, .null), (29, .putfield 27, 3, 8, 1, 482, .null)]),
  (2, [(32, .return_, 1, 0, 0, 0, .null)])]
def uX8_init : List (Nat × List Nat) := []
def qX8_go : CD := [(0, [(0, .aload_n 0, 1, 0, 0, 0, .null), (1, .getfield 23, 3, 8, 0, 481, .null), (4, .getfield 31, 3, 0, 0, 281, .null), (7, .astore_n 2, 1, 0, 0, 0, .null), (8, .aload_n 0, 1, 0, 0, 0, .null), (9, .getfield 23, 3, 8, 0, 481, .null), (12, .getfield 37, 3, 0, 1, 284, .null), (15, .iconst 1, 1, 0, 0, 0, .int 1)]),
  (1, [(16, .iaload, 1, 0, 0, 0, .null), (17, .istore_n 3, 1, 0, 0, 0, .null), (18, .aload_n 0, 1, 0, 0, 0, .null), (19, .getfield 23, 3, 8, 0, 481, .null), (22, .getfield 37, 3, 0, 1, 284, .null), (25, .iconst 0, 1, 0, 0, 0, .int 0), (26, .iaload, 1, 0, 0, 0, .null), (27, .istore 4, 2, 0, 0, 0, .null), (29, .iload_n 1, 1, 0, 0, 0, .null), (30, .istore 5, 2, 0, 0, 0, .null)]),
  (2, [(32, .aload_n 0, 1, 0, 0, 0, .null), (33, .lconst 0, 1, 0, 0, 0, .long 0), (34, .putfield 19, 3, 8, 4, 487, .null), (37, .aload_n 0, 1, 0, 0, 0, .null), (38, .iconst 0, 1, 0, 0, 0, .int 0), (39, .putfield 15, 3, 8, 3, 485, .null), (42, .aload_n 0, 1, 0, 0, 0, .null), (43, .getfield 9, 3, 8, 2, 483, .null), (46, .iconst 0, 1, 0, 0, 0, .int 0), (47, .iload 4, 2, 0, 0, 0, .null)]),
  (3, [(49, .iastore, 1, 0, 0, 0, .null), (50, .aload_n 0, 1, 0, 0, 0, .null), (51, .getfield 15, 3, 8, 3, 485, .null), (54, .iload_n 3, 1, 0, 0, 0, .null), (55, .if_icmp .ge 123, 3, 178, 0, 0, .null), (58, .aload_n 2, 1, 0, 0, 0, .null), (59, .iload 4, 2, 0, 0, 0, .null), (61, .invokevirtual 40, 3, 31, 3301, 1182, .null)]),
  (4, [(64, .ifCond .eq 114, 3, 178, 0, 0, .null), (67, .aload_n 2, 1, 0, 0, 0, .null), (68, .getfield 46, 3, 3, 1, 164, .null), (71, .iload 4, 2, 0, 0, 0, .null), (73, .iaload, 1, 0, 0, 0, .null), (74, .iconst 3, 1, 0, 0, 0, .int 3), (75, .if_icmp .eq 103, 3, 178, 0, 0, .null), (78, .iconst 0, 1, 0, 0, 0, .int 0), (79, .istore 6, 2, 0, 0, 0, .null)]),
  (5, [(81, .aload_n 2, 1, 0, 0, 0, .null), (82, .getfield 46, 3, 3, 1, 164, .null), (85, .iload 4, 2, 0, 0, 0, .null), (87, .iaload, 1, 0, 0, 0, .null), (88, .iconst 2, 1, 0, 0, 0, .int 2), (89, .if_icmp .eq 34, 3, 123, 0, 0, .null), (92, .iload 5, 2, 0, 0, 0, .null), (94, .i2l, 1, 0, 0, 0, .null), (95, .ldc2_w 49, 3, 0, 0, 1183, .long 1103)]),
  (6, [(98, .lmul, 1, 0, 0, 0, .null), (99, .ldc2_w 51, 3, 0, 0, 1184, .long 12345), (102, .ladd, 1, 0, 0, 0, .null), (103, .ldc2_w 53, 3, 0, 0, 1185, .long 1000003), (106, .lrem, 1, 0, 0, 0, .null), (107, .l2i, 1, 0, 0, 0, .null), (108, .istore 5, 2, 0, 0, 0, .null), (110, .aload_n 0, 1, 0, 0, 0, .null), (111, .iload 4, 2, 0, 0, 0, .null)]),
  (7, [(113, .iload 5, 2, 0, 0, 0, .null), (115, .bipush 10, 2, 0, 0, 0, .int 10), (117, .irem, 1, 0, 0, 0, .null), (118, .invokevirtual 55, 3, 100, 8102, 1186, .null), (121, .istore 6, 2, 0, 0, 0, .null), (123, .aload_n 0, 1, 0, 0, 0, .null), (124, .dup, 1, 0, 0, 0, .null), (125, .getfield 19, 3, 8, 4, 487, .null)]),
  (8, [(128, .aload_n 2, 1, 0, 0, 0, .null), (129, .getfield 59, 3, 3, 3, 176, .null), (132, .iload 4, 2, 0, 0, 0, .null), (134, .iaload, 1, 0, 0, 0, .null), (135, .i2l, 1, 0, 0, 0, .null), (136, .lsub, 1, 0, 0, 0, .null), (137, .putfield 19, 3, 8, 4, 487, .null), (140, .aload_n 2, 1, 0, 0, 0, .null), (141, .getfield 62, 3, 3, 5, 188, .null)]),
  (9, [(144, .iload 4, 2, 0, 0, 0, .null), (146, .iconst 3, 1, 0, 0, 0, .int 3), (147, .imul, 1, 0, 0, 0, .null), (148, .iload 6, 2, 0, 0, 0, .null), (150, .iadd, 1, 0, 0, 0, .null), (151, .iaload, 1, 0, 0, 0, .null), (152, .istore 4, 2, 0, 0, 0, .null), (154, .aload_n 0, 1, 0, 0, 0, .null), (155, .dup, 1, 0, 0, 0, .null), (156, .getfield 15, 3, 8, 3, 485, .null), (159, .iconst 1, 1, 0, 0, 0, .int 1)]),
  (10, [(160, .iadd, 1, 0, 0, 0, .null), (161, .putfield 15, 3, 8, 3, 485, .null), (164, .aload_n 0, 1, 0, 0, 0, .null), (165, .getfield 9, 3, 8, 2, 483, .null), (168, .aload_n 0, 1, 0, 0, 0, .null), (169, .getfield 15, 3, 8, 3, 485, .null), (172, .iload 4, 2, 0, 0, 0, .null), (174, .iastore, 1, 0, 0, 0, .null), (175, .goto (-125), 3, 50, 0, 0, .null)]),
  (11, [(178, .aload_n 0, 1, 0, 0, 0, .null), (179, .dup, 1, 0, 0, 0, .null), (180, .getfield 19, 3, 8, 4, 487, .null), (183, .aload_n 2, 1, 0, 0, 0, .null), (184, .iload 4, 2, 0, 0, 0, .null), (186, .iconst 3, 1, 0, 0, 0, .int 3), (187, .invokevirtual 65, 3, 32, 3302, 1190, .null), (190, .ifCond .eq 22, 3, 212, 0, 0, .null)]),
  (12, [(193, .aload_n 0, 1, 0, 0, 0, .null), (194, .getfield 27, 3, 8, 1, 482, .null), (197, .aload_n 2, 1, 0, 0, 0, .null), (198, .iload 4, 2, 0, 0, 0, .null), (200, .aload_n 0, 1, 0, 0, 0, .null), (201, .getfield 15, 3, 8, 3, 485, .null), (204, .iload_n 3, 1, 0, 0, 0, .null), (205, .invokevirtual 69, 3, 92, 7104, 1191, .null)]),
  (13, [(208, .i2l, 1, 0, 0, 0, .null), (209, .goto 26, 3, 235, 0, 0, .null), (212, .aload_n 0, 1, 0, 0, 0, .null), (213, .getfield 23, 3, 8, 0, 481, .null), (216, .getfield 37, 3, 0, 1, 284, .null), (219, .aload_n 2, 1, 0, 0, 0, .null), (220, .iload 4, 2, 0, 0, 0, .null), (222, .invokevirtual 40, 3, 31, 3301, 1182, .null)]),
  (14, [(225, .ifCond .eq 7, 3, 232, 0, 0, .null), (228, .iconst 2, 1, 0, 0, 0, .int 2), (229, .goto 4, 3, 233, 0, 0, .null), (232, .iconst 3, 1, 0, 0, 0, .int 3), (233, .iaload, 1, 0, 0, 0, .null), (234, .i2l, 1, 0, 0, 0, .null), (235, .ladd, 1, 0, 0, 0, .null), (236, .putfield 19, 3, 8, 4, 487, .null), (239, .return_, 1, 0, 0, 0, .null)])]
def uX8_go : List (Nat × List Nat) := [(50, [0, 2, 3, 4, 5]), (123, [0, 2, 3, 4, 5, 6]), (178, [0, 2, 3, 4])]
def qX8_drawnRoad : CD := [(0, [(0, .aload_n 0, 1, 0, 0, 0, .null), (1, .getfield 23, 3, 8, 0, 481, .null), (4, .getfield 31, 3, 0, 0, 281, .null), (7, .astore_n 3, 1, 0, 0, 0, .null), (8, .aload_n 3, 1, 0, 0, 0, .null), (9, .getfield 46, 3, 3, 1, 164, .null), (12, .iload_n 1, 1, 0, 0, 0, .null), (13, .iaload, 1, 0, 0, 0, .null), (14, .ifCond .ne 13, 3, 27, 0, 0, .null)]),
  (1, [(17, .aload_n 0, 1, 0, 0, 0, .null), (18, .getfield 23, 3, 8, 0, 481, .null), (21, .getfield 75, 3, 0, 2, 291, .null), (24, .goto 7, 3, 31, 0, 0, .null), (27, .aload_n 3, 1, 0, 0, 0, .null), (28, .getfield 78, 3, 3, 6, 195, .null), (31, .astore 4, 2, 0, 0, 0, .null)]),
  (2, [(33, .aload_n 3, 1, 0, 0, 0, .null), (34, .getfield 46, 3, 3, 1, 164, .null), (37, .iload_n 1, 1, 0, 0, 0, .null), (38, .iaload, 1, 0, 0, 0, .null), (39, .ifCond .ne 12, 3, 51, 0, 0, .null), (42, .aload_n 3, 1, 0, 0, 0, .null), (43, .getfield 81, 3, 3, 2, 172, .null), (46, .iload_n 1, 1, 0, 0, 0, .null), (47, .iaload, 1, 0, 0, 0, .null)]),
  (3, [(48, .goto 4, 3, 52, 0, 0, .null), (51, .iload_n 1, 1, 0, 0, 0, .null), (52, .iconst 3, 1, 0, 0, 0, .int 3), (53, .imul, 1, 0, 0, 0, .null), (54, .istore 5, 2, 0, 0, 0, .null), (56, .iconst 0, 1, 0, 0, 0, .int 0), (57, .istore 6, 2, 0, 0, 0, .null), (59, .aload 4, 2, 0, 0, 0, .null), (61, .iload 5, 2, 0, 0, 0, .null), (63, .iaload, 1, 0, 0, 0, .null)]),
  (4, [(64, .istore 7, 2, 0, 0, 0, .null), (66, .iload 6, 2, 0, 0, 0, .null), (68, .aload_n 3, 1, 0, 0, 0, .null), (69, .getfield 84, 3, 3, 4, 184, .null), (72, .iload_n 1, 1, 0, 0, 0, .null), (73, .iaload, 1, 0, 0, 0, .null), (74, .iconst 1, 1, 0, 0, 0, .int 1), (75, .isub, 1, 0, 0, 0, .null), (76, .if_icmp .ge 28, 3, 104, 0, 0, .null), (79, .iload_n 2, 1, 0, 0, 0, .null)]),
  (5, [(80, .iload 7, 2, 0, 0, 0, .null), (82, .if_icmp .lt 22, 3, 104, 0, 0, .null), (85, .iinc 6 1, 3, 0, 0, 0, .int 1), (88, .iload 7, 2, 0, 0, 0, .null), (90, .aload 4, 2, 0, 0, 0, .null), (92, .iload 5, 2, 0, 0, 0, .null), (94, .iload 6, 2, 0, 0, 0, .null)]),
  (6, [(96, .iadd, 1, 0, 0, 0, .null), (97, .iaload, 1, 0, 0, 0, .null), (98, .iadd, 1, 0, 0, 0, .null), (99, .istore 7, 2, 0, 0, 0, .null), (101, .goto (-35), 3, 66, 0, 0, .null), (104, .iload 6, 2, 0, 0, 0, .null), (106, .ireturn, 1, 0, 0, 0, .null)])]
def uX8_drawnRoad : List (Nat × List Nat) := [(33, [1, 2, 3, 4]), (66, [1, 2, 3, 4, 5, 6, 7])]
def qX9_init : CD := [(0, [(0, .aload_n 0, 1, 0, 0, 0, .null), (1, .invokespecial 1, 3, 9001, 0, 146, .null), (4, .aload_n 0, 1, 0, 0, 0, .null), (5, .sipush 400, 3, 0, 0, 0, .int 400), (8, .newarray .byte, 2, 0, 0, 0, .null), (10, .putfield 9, 3, 9, 0, 500, .null), (13, .aload_n 0, 1, 0, 0, 0, .null), (14, .iconst 0, 1, 0, 0, 0, .int 0), (15, .putfield 13, 3, 9, 1, 501, .null)]),
  (1, [(18, .aload_n 0, 1, 0, 0, 0, .null), (19, .iconst (-1), 1, 0, 0, 0, .int (-1)), (20, .putfield 17, 3, 9, 2, 502, .null), (23, .aload_n 0, 1, 0, 0, 0, .null), (24, .new 20, 3, 3, 11, 149, .null), (27, .dup, 1, 0, 0, 0, .null), (28, .invokespecial 22, 3, 28, 0, 151, .null), (31, .putfield 23, 3, 9, 3, 503, .null)]),
  (2, [(34, .aload_n 0, 1, 0, 0, 0, .null), (35, .new 27, 3, 5, 10, 234, .null), (38, .dup, 1, 0, 0, 0, .null), (39, .aload_n 0, 1, 0, 0, 0, .null), (40, .getfield 9, 3, 9, 0, 500, .null), (43, .aload_n 0, 1, 0, 0, 0, .null), (44, .getfield 23, 3, 9, 3, 503, .null), (47, .invokespecial 29, 3, 45, 2, 236, .null)]),
  (3, [(50, .putfield 32, 3, 9, 4, 504, .null), (53, .aload_n 0, 1, 0, 0, 0, .null), (54, .new 36, 3, 0, 3, 271, .null), (57, .dup, 1, 0, 0, 0, .null), (58, .invokespecial 38, 3, 0, 0, 273, .null), (61, .putfield 39, 3, 9, 5, 505, .null)]),
  (4, [(64, .aload_n 0, 1, 0, 0, 0, .null), (65, .iconst 2, 1, 0, 0, 0, .int 2), (66, .anewarray 36, 3, 0, 0, 271, .null), (69, .dup, 1, 0, 0, 0, .null), (70, .iconst 0, 1, 0, 0, 0, .int 0), (71, .new 36, 3, 0, 3, 271, .null), (74, .dup, 1, 0, 0, 0, .null), (75, .invokespecial 38, 3, 0, 0, 273, .null), (78, .aastore, 1, 0, 0, 0, .null), (79, .dup, 1, 0, 0, 0, .null)]),
  (5, [(80, .iconst 1, 1, 0, 0, 0, .int 1), (81, .new 36, 3, 0, 3, 271, .null), (84, .dup, 1, 0, 0, 0, .null), (85, .invokespecial 38, 3, 0, 0, 273, .null), (88, .aastore, 1, 0, 0, 0, .null), (89, .putfield 43, 3, 9, 6, 506, .null), (92, .aload_n 0, 1, 0, 0, 0, .null), (93, .iconst 2, 1, 0, 0, 0, .int 2), (94, .newarray .boolean, 2, 0, 0, 0, .null)]),
  (6, [(96, .putfield 47, 3, 9, 7, 507, .null), (99, .aload_n 0, 1, 0, 0, 0, .null), (100, .new 51, 3, 7, 4, 301, .null), (103, .dup, 1, 0, 0, 0, .null), (104, .invokespecial 53, 3, 91, 0, 303, .null), (107, .putfield 54, 3, 9, 8, 508, .null), (110, .aload_n 0, 1, 0, 0, 0, .null), (111, .new 58, 3, 1, 11, 322, .null)]),
  (7, [(114, .dup, 1, 0, 0, 0, .null), (115, .aload_n 0, 1, 0, 0, 0, .null), (116, .getfield 39, 3, 9, 5, 505, .null), (119, .aload_n 0, 1, 0, 0, 0, .null), (120, .getfield 54, 3, 9, 8, 508, .null), (123, .invokespecial 60, 3, 2, 2, 324, .null), (126, .putfield 63, 3, 9, 9, 509, .null)]),
  (8, [(129, .aload_n 0, 1, 0, 0, 0, .null), (130, .new 67, 3, 6, 10, 379, .null), (133, .dup, 1, 0, 0, 0, .null), (134, .aload_n 0, 1, 0, 0, 0, .null), (135, .getfield 63, 3, 9, 9, 509, .null), (138, .invokespecial 69, 3, 71, 1, 381, .null), (141, .putfield 72, 3, 9, 10, 510, .null)]),
  (9, [(144, .aload_n 0, 1, 0, 0, 0, .null), (145, .new 76, 3, 4, 7, 416, .null), (148, .dup, 1, 0, 0, 0, .null), (149, .aload_n 0, 1, 0, 0, 0, .null), (150, .getfield 63, 3, 9, 9, 509, .null), (153, .invokespecial 78, 3, 37, 1, 418, .null), (156, .putfield 79, 3, 9, 11, 511, .null), (159, .aload_n 0, 1, 0, 0, 0, .null)]),
  (10, [(160, .new 83, 3, 2, 7, 444, .null), (163, .dup, 1, 0, 0, 0, .null), (164, .aload_n 0, 1, 0, 0, 0, .null), (165, .getfield 63, 3, 9, 9, 509, .null), (168, .invokespecial 85, 3, 16, 1, 446, .null), (171, .putfield 86, 3, 9, 12, 512, .null), (174, .aload_n 0, 1, 0, 0, 0, .null), (175, .new 90, 3, 8, 5, 475, .null)]),
  (11, [(178, .dup, 1, 0, 0, 0, .null), (179, .aload_n 0, 1, 0, 0, 0, .null), (180, .getfield 39, 3, 9, 5, 505, .null), (183, .aload_n 0, 1, 0, 0, 0, .null), (184, .getfield 54, 3, 9, 8, 508, .null), (187, .invokespecial 92, 3, 98, 2, 477, .null), (190, .putfield 93, 3, 9, 13, 513, .null)]),
  (12, [(193, .aload_n 0, 1, 0, 0, 0, .null), (194, .iconst 4, 1, 0, 0, 0, .int 4), (195, .newarray .int, 2, 0, 0, 0, .null), (197, .putfield 97, 3, 9, 14, 514, .null), (200, .aload_n 0, 1, 0, 0, 0, .null), (201, .iconst 0, 1, 0, 0, 0, .int 0), (202, .putfield 101, 3, 9, 15, 515, .null), (205, .return_, 1, 0, 0, 0, .null)])]
def uX9_init : List (Nat × List Nat) := []
def qX9_feed : CD := [(0, [(0, .aload_n 0, 1, 0, 0, 0, .null), (1, .getfield 13, 3, 9, 1, 501, .null), (4, .bipush 20, 2, 0, 0, 0, .int 20), (6, .iadd, 1, 0, 0, 0, .null), (7, .sipush 400, 3, 0, 0, 0, .int 400), (10, .if_icmp .le 5, 3, 15, 0, 0, .null), (13, .iconst (-1), 1, 0, 0, 0, .int (-1)), (14, .ireturn, 1, 0, 0, 0, .null), (15, .aload_n 0, 1, 0, 0, 0, .null)]),
  (1, [(16, .iload_n 1, 1, 0, 0, 0, .null), (17, .invokevirtual 104, 3, 103, 9001, 553, .null), (20, .aload_n 0, 1, 0, 0, 0, .null), (21, .iload_n 2, 1, 0, 0, 0, .null), (22, .invokevirtual 104, 3, 103, 9001, 553, .null), (25, .aload_n 0, 1, 0, 0, 0, .null), (26, .iload_n 3, 1, 0, 0, 0, .null), (27, .invokevirtual 104, 3, 103, 9001, 553, .null), (30, .aload_n 0, 1, 0, 0, 0, .null), (31, .iload 4, 2, 0, 0, 0, .null)]),
  (2, [(33, .invokevirtual 104, 3, 103, 9001, 553, .null), (36, .aload_n 0, 1, 0, 0, 0, .null), (37, .iload 5, 2, 0, 0, 0, .null), (39, .invokevirtual 104, 3, 103, 9001, 553, .null), (42, .aload_n 0, 1, 0, 0, 0, .null), (43, .getfield 13, 3, 9, 1, 501, .null), (46, .ireturn, 1, 0, 0, 0, .null)])]
def uX9_feed : List (Nat × List Nat) := []
def qX9_putFour : CD := [(0, [(0, .bipush 24, 2, 0, 0, 0, .int 24), (2, .istore_n 2, 1, 0, 0, 0, .null), (3, .iload_n 2, 1, 0, 0, 0, .null), (4, .ifCond .lt 42, 3, 46, 0, 0, .null), (7, .aload_n 0, 1, 0, 0, 0, .null), (8, .getfield 13, 3, 9, 1, 501, .null), (11, .sipush 400, 3, 0, 0, 0, .int 400), (14, .if_icmp .ge 32, 3, 46, 0, 0, .null)]),
  (1, [(17, .aload_n 0, 1, 0, 0, 0, .null), (18, .getfield 9, 3, 9, 0, 500, .null), (21, .aload_n 0, 1, 0, 0, 0, .null), (22, .getfield 13, 3, 9, 1, 501, .null), (25, .iload_n 1, 1, 0, 0, 0, .null), (26, .iload_n 2, 1, 0, 0, 0, .null), (27, .ishr, 1, 0, 0, 0, .null), (28, .i2b, 1, 0, 0, 0, .null), (29, .bastore, 1, 0, 0, 0, .null), (30, .aload_n 0, 1, 0, 0, 0, .null), (31, .dup, 1, 0, 0, 0, .null)]),
  (2, [(32, .getfield 13, 3, 9, 1, 501, .null), (35, .iconst 1, 1, 0, 0, 0, .int 1), (36, .iadd, 1, 0, 0, 0, .null), (37, .putfield 13, 3, 9, 1, 501, .null), (40, .iinc 2 (-8), 3, 0, 0, 0, .int (-8)), (43, .goto (-40), 3, 3, 0, 0, .null), (46, .return_, 1, 0, 0, 0, .null)])]
def uX9_putFour : List (Nat × List Nat) := [(3, [0, 1, 2])]
def qX9_end : CD := [(0, [(0, .iload_n 1, 1, 0, 0, 0, .null), (1, .ifCond .lt 11, 3, 12, 0, 0, .null), (4, .iload_n 1, 1, 0, 0, 0, .null), (5, .aload_n 0, 1, 0, 0, 0, .null), (6, .getfield 13, 3, 9, 1, 501, .null), (9, .if_icmp .le 5, 3, 14, 0, 0, .null), (12, .iconst (-1), 1, 0, 0, 0, .int (-1)), (13, .ireturn, 1, 0, 0, 0, .null), (14, .aload_n 0, 1, 0, 0, 0, .null), (15, .iload_n 1, 1, 0, 0, 0, .null)]),
  (1, [(16, .putfield 13, 3, 9, 1, 501, .null), (19, .iload_n 1, 1, 0, 0, 0, .null), (20, .ireturn, 1, 0, 0, 0, .null)])]
def uX9_end : List (Nat × List Nat) := []
def qX9_country : CD := [(0, [(0, .aload_n 0, 1, 0, 0, 0, .null), (1, .getfield 13, 3, 9, 1, 501, .null), (4, .istore_n 1, 1, 0, 0, 0, .null), (5, .aload_n 0, 1, 0, 0, 0, .null), (6, .iconst 0, 1, 0, 0, 0, .int 0), (7, .putfield 13, 3, 9, 1, 501, .null), (10, .aload_n 0, 1, 0, 0, 0, .null), (11, .aload_n 0, 1, 0, 0, 0, .null), (12, .getfield 32, 3, 9, 4, 504, .null), (15, .iload_n 1, 1, 0, 0, 0, .null)]),
  (1, [(16, .invokevirtual 108, 3, 46, 5101, 565, .null), (19, .putfield 17, 3, 9, 2, 502, .null), (22, .aload_n 0, 1, 0, 0, 0, .null), (23, .getfield 17, 3, 9, 2, 502, .null), (26, .iconst (-1), 1, 0, 0, 0, .int (-1)), (27, .if_icmp .eq 10, 3, 37, 0, 0, .null), (30, .aload_n 0, 1, 0, 0, 0, .null), (31, .bipush (-6), 2, 0, 0, 0, .int (-6))]),
  (2, [(33, .invokevirtual 112, 3, 139, 9101, 730, .null), (36, .ireturn, 1, 0, 0, 0, .null), (37, .aload_n 0, 1, 0, 0, 0, .null), (38, .getfield 39, 3, 9, 5, 505, .null), (41, .getfield 115, 3, 0, 0, 282, .null), (44, .aload_n 0, 1, 0, 0, 0, .null), (45, .getfield 23, 3, 9, 3, 503, .null)]),
  (3, [(48, .invokevirtual 118, 3, 29, 3001, 734, .null), (51, .aload_n 0, 1, 0, 0, 0, .null), (52, .aload_n 0, 1, 0, 0, 0, .null), (53, .getfield 39, 3, 9, 5, 505, .null), (56, .getfield 115, 3, 0, 0, 282, .null), (59, .getfield 122, 3, 3, 0, 159, .null), (62, .invokevirtual 125, 3, 140, 9101, 745, .null)]),
  (4, [(65, .ireturn, 1, 0, 0, 0, .null)])]
def uX9_country : List (Nat × List Nat) := []
def qX9_fault : CD := [(0, [(0, .aload_n 0, 1, 0, 0, 0, .null), (1, .getfield 17, 3, 9, 2, 502, .null), (4, .ireturn, 1, 0, 0, 0, .null)])]
def uX9_fault : List (Nat × List Nat) := []
def qX9_terms : CD := [(0, [(0, .iload_n 1, 1, 0, 0, 0, .null), (1, .ifCond .lt 26, 3, 27, 0, 0, .null), (4, .iload_n 1, 1, 0, 0, 0, .null), (5, .iconst 3, 1, 0, 0, 0, .int 3), (6, .if_icmp .gt 21, 3, 27, 0, 0, .null), (9, .iload_n 2, 1, 0, 0, 0, .null), (10, .getstatic 128, 3, 0, 0, 757, .ref 26), (13, .iload_n 1, 1, 0, 0, 0, .null), (14, .iaload, 1, 0, 0, 0, .null), (15, .if_icmp .lt 12, 3, 27, 0, 0, .null)]),
  (1, [(18, .iload_n 2, 1, 0, 0, 0, .null), (19, .getstatic 131, 3, 1, 0, 759, .ref 27), (22, .iload_n 1, 1, 0, 0, 0, .null), (23, .iaload, 1, 0, 0, 0, .null), (24, .if_icmp .le 9, 3, 33, 0, 0, .null), (27, .aload_n 0, 1, 0, 0, 0, .null), (28, .iconst (-1), 1, 0, 0, 0, .int (-1)), (29, .invokevirtual 112, 3, 139, 9101, 730, .null)]),
  (2, [(32, .ireturn, 1, 0, 0, 0, .null), (33, .aload_n 0, 1, 0, 0, 0, .null), (34, .getfield 39, 3, 9, 5, 505, .null), (37, .getfield 134, 3, 0, 1, 288, .null), (40, .iload_n 1, 1, 0, 0, 0, .null), (41, .iaload, 1, 0, 0, 0, .null), (42, .istore_n 3, 1, 0, 0, 0, .null), (43, .aload_n 0, 1, 0, 0, 0, .null), (44, .getfield 39, 3, 9, 5, 505, .null), (47, .getfield 134, 3, 0, 1, 288, .null)]),
  (3, [(50, .iload_n 1, 1, 0, 0, 0, .null), (51, .iload_n 2, 1, 0, 0, 0, .null), (52, .iastore, 1, 0, 0, 0, .null), (53, .aload_n 0, 1, 0, 0, 0, .null), (54, .iload_n 3, 1, 0, 0, 0, .null), (55, .invokevirtual 125, 3, 140, 9101, 745, .null), (58, .ireturn, 1, 0, 0, 0, .null)])]
def uX9_terms : List (Nat × List Nat) := []
def qX9_of : CD := [(0, [(0, .aload_n 0, 1, 0, 0, 0, .null), (1, .getfield 39, 3, 9, 5, 505, .null), (4, .getfield 115, 3, 0, 0, 282, .null), (7, .iload_n 1, 1, 0, 0, 0, .null), (8, .invokevirtual 137, 3, 31, 3301, 765, .null), (11, .ifCond .ne 5, 3, 16, 0, 0, .null), (14, .iconst (-1), 1, 0, 0, 0, .int (-1)), (15, .ireturn, 1, 0, 0, 0, .null)]),
  (1, [(16, .aload_n 0, 1, 0, 0, 0, .null), (17, .getfield 39, 3, 9, 5, 505, .null), (20, .getfield 115, 3, 0, 0, 282, .null), (23, .iload_n 1, 1, 0, 0, 0, .null), (24, .iload_n 2, 1, 0, 0, 0, .null), (25, .invokevirtual 141, 3, 33, 3102, 769, .null), (28, .ireturn, 1, 0, 0, 0, .null)])]
def uX9_of : List (Nat × List Nat) := []
def qX9_pays : CD := [(0, [(0, .aload_n 0, 1, 0, 0, 0, .null), (1, .getfield 39, 3, 9, 5, 505, .null), (4, .getfield 115, 3, 0, 0, 282, .null), (7, .iload_n 1, 1, 0, 0, 0, .null), (8, .iconst 3, 1, 0, 0, 0, .int 3), (9, .invokevirtual 145, 3, 32, 3302, 777, .null), (12, .ifCond .eq 13, 3, 25, 0, 0, .null), (15, .iload_n 2, 1, 0, 0, 0, .null)]),
  (1, [(16, .ifCond .lt 9, 3, 25, 0, 0, .null), (19, .iload_n 2, 1, 0, 0, 0, .null), (20, .bipush 11, 2, 0, 0, 0, .int 11), (22, .if_icmp .lt 7, 3, 29, 0, 0, .null), (25, .ldc2_w 149, 3, 0, 0, 782, .long (-1000000000000000000)), (28, .lreturn, 1, 0, 0, 0, .null), (29, .aload_n 0, 1, 0, 0, 0, .null), (30, .getfield 54, 3, 9, 8, 508, .null)]),
  (2, [(33, .aload_n 0, 1, 0, 0, 0, .null), (34, .getfield 39, 3, 9, 5, 505, .null), (37, .getfield 115, 3, 0, 0, 282, .null), (40, .iload_n 1, 1, 0, 0, 0, .null), (41, .iload_n 2, 1, 0, 0, 0, .null), (42, .aload_n 0, 1, 0, 0, 0, .null), (43, .getfield 39, 3, 9, 5, 505, .null), (46, .getfield 134, 3, 0, 1, 288, .null)]),
  (3, [(49, .iconst 1, 1, 0, 0, 0, .int 1), (50, .iaload, 1, 0, 0, 0, .null), (51, .invokevirtual 151, 3, 92, 7104, 783, .null), (54, .i2l, 1, 0, 0, 0, .null), (55, .lreturn, 1, 0, 0, 0, .null)])]
def uX9_pays : List (Nat × List Nat) := []
def qX9_paint : CD := [(0, [(0, .iload_n 2, 1, 0, 0, 0, .null), (1, .invokestatic 155, 3, 142, 301, 820, .null), (4, .ifCond .ne 9, 3, 13, 0, 0, .null), (7, .aload_n 0, 1, 0, 0, 0, .null), (8, .iconst (-1), 1, 0, 0, 0, .int (-1)), (9, .invokevirtual 112, 3, 139, 9101, 730, .null), (12, .ireturn, 1, 0, 0, 0, .null), (13, .aload_n 0, 1, 0, 0, 0, .null), (14, .getfield 39, 3, 9, 5, 505, .null)]),
  (1, [(17, .getfield 115, 3, 0, 0, 282, .null), (20, .iload_n 1, 1, 0, 0, 0, .null), (21, .invokevirtual 137, 3, 31, 3301, 765, .null), (24, .ifCond .ne 10, 3, 34, 0, 0, .null), (27, .aload_n 0, 1, 0, 0, 0, .null), (28, .bipush (-2), 2, 0, 0, 0, .int (-2)), (30, .invokevirtual 112, 3, 139, 9101, 730, .null)]),
  (2, [(33, .ireturn, 1, 0, 0, 0, .null), (34, .aload_n 0, 1, 0, 0, 0, .null), (35, .getfield 39, 3, 9, 5, 505, .null), (38, .getfield 115, 3, 0, 0, 282, .null), (41, .iload_n 1, 1, 0, 0, 0, .null), (42, .iconst 0, 1, 0, 0, 0, .int 0), (43, .invokevirtual 145, 3, 32, 3302, 777, .null), (46, .ifCond .ne 10, 3, 56, 0, 0, .null)]),
  (3, [(49, .aload_n 0, 1, 0, 0, 0, .null), (50, .bipush (-3), 2, 0, 0, 0, .int (-3)), (52, .invokevirtual 112, 3, 139, 9101, 730, .null), (55, .ireturn, 1, 0, 0, 0, .null), (56, .aload_n 0, 1, 0, 0, 0, .null), (57, .getfield 39, 3, 9, 5, 505, .null), (60, .getfield 115, 3, 0, 0, 282, .null), (63, .getfield 158, 3, 3, 2, 173, .null)]),
  (4, [(66, .iload_n 1, 1, 0, 0, 0, .null), (67, .iaload, 1, 0, 0, 0, .null), (68, .istore_n 3, 1, 0, 0, 0, .null), (69, .aload_n 0, 1, 0, 0, 0, .null), (70, .getfield 39, 3, 9, 5, 505, .null), (73, .getfield 115, 3, 0, 0, 282, .null), (76, .getfield 158, 3, 3, 2, 173, .null), (79, .iload_n 1, 1, 0, 0, 0, .null)]),
  (5, [(80, .iload_n 2, 1, 0, 0, 0, .null), (81, .iastore, 1, 0, 0, 0, .null), (82, .aload_n 0, 1, 0, 0, 0, .null), (83, .iload_n 3, 1, 0, 0, 0, .null), (84, .invokevirtual 125, 3, 140, 9101, 745, .null), (87, .ireturn, 1, 0, 0, 0, .null)])]
def uX9_paint : List (Nat × List Nat) := []
def qX9_used : CD := [(0, [(0, .aload_n 0, 1, 0, 0, 0, .null), (1, .getfield 39, 3, 9, 5, 505, .null), (4, .getfield 115, 3, 0, 0, 282, .null), (7, .invokevirtual 161, 3, 36, 3100, 827, .null), (10, .ireturn, 1, 0, 0, 0, .null)])]
def uX9_used : List (Nat × List Nat) := []
def qX9_rule : CD := [(0, [(0, .iload_n 1, 1, 0, 0, 0, .null), (1, .invokestatic 155, 3, 142, 301, 820, .null), (4, .ifCond .eq 25, 3, 29, 0, 0, .null), (7, .iload_n 2, 1, 0, 0, 0, .null), (8, .ifCond .lt 21, 3, 29, 0, 0, .null), (11, .iload_n 2, 1, 0, 0, 0, .null), (12, .bipush 10, 2, 0, 0, 0, .int 10), (14, .if_icmp .gt 15, 3, 29, 0, 0, .null)]),
  (1, [(17, .iload_n 3, 1, 0, 0, 0, .null), (18, .ifCond .lt 11, 3, 29, 0, 0, .null), (21, .iload_n 3, 1, 0, 0, 0, .null), (22, .bipush 10, 2, 0, 0, 0, .int 10), (24, .iload_n 2, 1, 0, 0, 0, .null), (25, .isub, 1, 0, 0, 0, .null), (26, .if_icmp .le 9, 3, 35, 0, 0, .null), (29, .aload_n 0, 1, 0, 0, 0, .null), (30, .iconst (-1), 1, 0, 0, 0, .int (-1)), (31, .invokevirtual 112, 3, 139, 9101, 730, .null)]),
  (2, [(34, .ireturn, 1, 0, 0, 0, .null), (35, .aload_n 0, 1, 0, 0, 0, .null), (36, .getfield 39, 3, 9, 5, 505, .null), (39, .getfield 165, 3, 0, 2, 292, .null), (42, .iload_n 1, 1, 0, 0, 0, .null), (43, .iconst 3, 1, 0, 0, 0, .int 3), (44, .imul, 1, 0, 0, 0, .null), (45, .iload_n 2, 1, 0, 0, 0, .null), (46, .iastore, 1, 0, 0, 0, .null), (47, .aload_n 0, 1, 0, 0, 0, .null)]),
  (3, [(48, .getfield 39, 3, 9, 5, 505, .null), (51, .getfield 165, 3, 0, 2, 292, .null), (54, .iload_n 1, 1, 0, 0, 0, .null), (55, .iconst 3, 1, 0, 0, 0, .int 3), (56, .imul, 1, 0, 0, 0, .null), (57, .iconst 1, 1, 0, 0, 0, .int 1), (58, .iadd, 1, 0, 0, 0, .null), (59, .iload_n 3, 1, 0, 0, 0, .null), (60, .iastore, 1, 0, 0, 0, .null), (61, .aload_n 0, 1, 0, 0, 0, .null), (62, .getfield 39, 3, 9, 5, 505, .null)]),
  (4, [(65, .getfield 165, 3, 0, 2, 292, .null), (68, .iload_n 1, 1, 0, 0, 0, .null), (69, .iconst 3, 1, 0, 0, 0, .int 3), (70, .imul, 1, 0, 0, 0, .null), (71, .iconst 2, 1, 0, 0, 0, .int 2), (72, .iadd, 1, 0, 0, 0, .null), (73, .bipush 10, 2, 0, 0, 0, .int 10), (75, .iload_n 2, 1, 0, 0, 0, .null), (76, .isub, 1, 0, 0, 0, .null), (77, .iload_n 3, 1, 0, 0, 0, .null), (78, .isub, 1, 0, 0, 0, .null), (79, .iastore, 1, 0, 0, 0, .null)]),
  (5, [(80, .aload_n 0, 1, 0, 0, 0, .null), (81, .iconst 0, 1, 0, 0, 0, .int 0), (82, .invokevirtual 125, 3, 140, 9101, 745, .null), (85, .ireturn, 1, 0, 0, 0, .null)])]
def uX9_rule : List (Nat × List Nat) := [(29, [0])]
def qX9_tenths : CD := [(0, [(0, .iload_n 1, 1, 0, 0, 0, .null), (1, .invokestatic 155, 3, 142, 301, 820, .null), (4, .ifCond .eq 12, 3, 16, 0, 0, .null), (7, .iload_n 2, 1, 0, 0, 0, .null), (8, .ifCond .lt 8, 3, 16, 0, 0, .null), (11, .iload_n 2, 1, 0, 0, 0, .null), (12, .iconst 3, 1, 0, 0, 0, .int 3), (13, .if_icmp .lt 5, 3, 18, 0, 0, .null)]),
  (1, [(16, .iconst (-1), 1, 0, 0, 0, .int (-1)), (17, .ireturn, 1, 0, 0, 0, .null), (18, .aload_n 0, 1, 0, 0, 0, .null), (19, .getfield 39, 3, 9, 5, 505, .null), (22, .getfield 165, 3, 0, 2, 292, .null), (25, .iload_n 1, 1, 0, 0, 0, .null), (26, .iconst 3, 1, 0, 0, 0, .int 3), (27, .imul, 1, 0, 0, 0, .null), (28, .iload_n 2, 1, 0, 0, 0, .null), (29, .iadd, 1, 0, 0, 0, .null), (30, .iaload, 1, 0, 0, 0, .null), (31, .ireturn, 1, 0, 0, 0, .null)])]
def uX9_tenths : List (Nat × List Nat) := []
def qX9_worth : CD := [(0, [(0, .aload_n 0, 1, 0, 0, 0, .null), (1, .invokevirtual 168, 3, 141, 9300, 843, .null), (4, .ifCond .eq 7, 3, 11, 0, 0, .null), (7, .ldc2_w 149, 3, 0, 0, 782, .long (-1000000000000000000)), (10, .lreturn, 1, 0, 0, 0, .null), (11, .aload_n 0, 1, 0, 0, 0, .null), (12, .getfield 63, 3, 9, 9, 509, .null), (15, .iconst 0, 1, 0, 0, 0, .int 0)]),
  (1, [(16, .invokevirtual 172, 3, 3, 1001, 847, .null), (19, .aload_n 0, 1, 0, 0, 0, .null), (20, .getfield 63, 3, 9, 9, 509, .null), (23, .invokevirtual 176, 3, 8, 1200, 870, .null), (26, .lreturn, 1, 0, 0, 0, .null)])]
def uX9_worth : List (Nat × List Nat) := []
def qX9_from : CD := [(0, [(0, .aload_n 0, 1, 0, 0, 0, .null), (1, .getfield 39, 3, 9, 5, 505, .null), (4, .getfield 115, 3, 0, 0, 282, .null), (7, .iload_n 1, 1, 0, 0, 0, .null), (8, .invokevirtual 137, 3, 31, 3301, 765, .null), (11, .ifCond .eq 20, 3, 31, 0, 0, .null), (14, .iload_n 2, 1, 0, 0, 0, .null), (15, .ifCond .lt 16, 3, 31, 0, 0, .null)]),
  (1, [(18, .iload_n 2, 1, 0, 0, 0, .null), (19, .aload_n 0, 1, 0, 0, 0, .null), (20, .getfield 39, 3, 9, 5, 505, .null), (23, .getfield 134, 3, 0, 1, 288, .null), (26, .iconst 1, 1, 0, 0, 0, .int 1), (27, .iaload, 1, 0, 0, 0, .null), (28, .if_icmp .le 7, 3, 35, 0, 0, .null), (31, .ldc2_w 149, 3, 0, 0, 782, .long (-1000000000000000000))]),
  (2, [(34, .lreturn, 1, 0, 0, 0, .null), (35, .aload_n 0, 1, 0, 0, 0, .null), (36, .getfield 63, 3, 9, 9, 509, .null), (39, .iconst 1, 1, 0, 0, 0, .int 1), (40, .invokevirtual 172, 3, 3, 1001, 847, .null), (43, .aload_n 0, 1, 0, 0, 0, .null), (44, .getfield 63, 3, 9, 9, 509, .null), (47, .invokevirtual 176, 3, 8, 1200, 870, .null)]),
  (3, [(50, .pop2, 1, 0, 0, 0, .null), (51, .aload_n 0, 1, 0, 0, 0, .null), (52, .getfield 63, 3, 9, 9, 509, .null), (55, .getfield 180, 3, 1, 6, 347, .null), (58, .iload_n 2, 1, 0, 0, 0, .null), (59, .bipush 16, 2, 0, 0, 0, .int 16), (61, .imul, 1, 0, 0, 0, .null), (62, .iload_n 1, 1, 0, 0, 0, .null), (63, .iadd, 1, 0, 0, 0, .null)]),
  (4, [(64, .laload, 1, 0, 0, 0, .null), (65, .lreturn, 1, 0, 0, 0, .null)])]
def uX9_from : List (Nat × List Nat) := []
def qX9_plain : CD := [(0, [(0, .iload_n 1, 1, 0, 0, 0, .null), (1, .ifCond .lt 15, 3, 16, 0, 0, .null), (4, .iload_n 1, 1, 0, 0, 0, .null), (5, .iconst 2, 1, 0, 0, 0, .int 2), (6, .if_icmp .gt 10, 3, 16, 0, 0, .null), (9, .aload_n 0, 1, 0, 0, 0, .null), (10, .invokevirtual 168, 3, 141, 9300, 843, .null), (13, .ifCond .eq 7, 3, 20, 0, 0, .null)]),
  (1, [(16, .ldc2_w 149, 3, 0, 0, 782, .long (-1000000000000000000)), (19, .lreturn, 1, 0, 0, 0, .null), (20, .aload_n 0, 1, 0, 0, 0, .null), (21, .getfield 72, 3, 9, 10, 510, .null), (24, .aload_n 0, 1, 0, 0, 0, .null), (25, .getfield 72, 3, 9, 10, 510, .null), (28, .invokevirtual 184, 3, 72, 6200, 897, .null), (31, .iload_n 1, 1, 0, 0, 0, .null)]),
  (2, [(32, .invokevirtual 187, 3, 75, 6202, 950, .null), (35, .lreturn, 1, 0, 0, 0, .null)])]
def uX9_plain : List (Nat × List Nat) := []
def qX9_road : CD := [(0, [(0, .iload_n 1, 1, 0, 0, 0, .null), (1, .invokestatic 155, 3, 142, 301, 820, .null), (4, .ifCond .eq 10, 3, 14, 0, 0, .null), (7, .aload_n 0, 1, 0, 0, 0, .null), (8, .invokevirtual 168, 3, 141, 9300, 843, .null), (11, .ifCond .eq 5, 3, 16, 0, 0, .null), (14, .iconst (-1), 1, 0, 0, 0, .int (-1)), (15, .ireturn, 1, 0, 0, 0, .null)]),
  (1, [(16, .aload_n 0, 1, 0, 0, 0, .null), (17, .getfield 72, 3, 9, 10, 510, .null), (20, .invokevirtual 184, 3, 72, 6200, 897, .null), (23, .pop2, 1, 0, 0, 0, .null), (24, .aload_n 0, 1, 0, 0, 0, .null), (25, .getfield 72, 3, 9, 10, 510, .null), (28, .iload_n 1, 1, 0, 0, 0, .null), (29, .invokevirtual 191, 3, 76, 6101, 958, .null)]),
  (2, [(32, .ireturn, 1, 0, 0, 0, .null)])]
def uX9_road : List (Nat × List Nat) := []
def qX9_follow : CD := [(0, [(0, .aload_n 0, 1, 0, 0, 0, .null), (1, .invokevirtual 168, 3, 141, 9300, 843, .null), (4, .ifCond .eq 10, 3, 14, 0, 0, .null), (7, .aload_n 0, 1, 0, 0, 0, .null), (8, .bipush (-3), 2, 0, 0, 0, .int (-3)), (10, .invokevirtual 112, 3, 139, 9101, 730, .null), (13, .ireturn, 1, 0, 0, 0, .null), (14, .aload_n 0, 1, 0, 0, 0, .null), (15, .getfield 72, 3, 9, 10, 510, .null)]),
  (1, [(18, .invokevirtual 184, 3, 72, 6200, 897, .null), (21, .pop2, 1, 0, 0, 0, .null), (22, .aload_n 0, 1, 0, 0, 0, .null), (23, .getfield 72, 3, 9, 10, 510, .null), (26, .aload_n 0, 1, 0, 0, 0, .null), (27, .getfield 39, 3, 9, 5, 505, .null), (30, .getfield 165, 3, 0, 2, 292, .null)]),
  (2, [(33, .invokevirtual 194, 3, 77, 6001, 966, .null), (36, .aload_n 0, 1, 0, 0, 0, .null), (37, .iconst 0, 1, 0, 0, 0, .int 0), (38, .invokevirtual 125, 3, 140, 9101, 745, .null), (41, .ireturn, 1, 0, 0, 0, .null)])]
def uX9_follow : List (Nat × List Nat) := []
def qX9_die : CD := [(0, [(0, .iload_n 1, 1, 0, 0, 0, .null), (1, .invokestatic 198, 3, 143, 301, 974, .null), (4, .ifCond .eq 19, 3, 23, 0, 0, .null), (7, .iload_n 2, 1, 0, 0, 0, .null), (8, .ifCond .lt 15, 3, 23, 0, 0, .null), (11, .iload_n 2, 1, 0, 0, 0, .null), (12, .iconst 2, 1, 0, 0, 0, .int 2), (13, .if_icmp .gt 10, 3, 23, 0, 0, .null)]),
  (1, [(16, .aload_n 0, 1, 0, 0, 0, .null), (17, .invokevirtual 168, 3, 141, 9300, 843, .null), (20, .ifCond .eq 7, 3, 27, 0, 0, .null), (23, .ldc2_w 149, 3, 0, 0, 782, .long (-1000000000000000000)), (26, .lreturn, 1, 0, 0, 0, .null), (27, .aload_n 0, 1, 0, 0, 0, .null), (28, .getfield 72, 3, 9, 10, 510, .null), (31, .iload_n 1, 1, 0, 0, 0, .null)]),
  (2, [(32, .invokevirtual 201, 3, 74, 6201, 977, .null), (35, .lstore_n 3, 1, 0, 0, 0, .null), (36, .lload_n 3, 1, 0, 0, 0, .null), (37, .ldc2_w 205, 3, 0, 0, 989, .long (-1)), (40, .lcmp, 1, 0, 0, 0, .null), (41, .ifCond .ne 9, 3, 50, 0, 0, .null), (44, .ldc2_w 149, 3, 0, 0, 782, .long (-1000000000000000000)), (47, .goto 12, 3, 59, 0, 0, .null)]),
  (3, [(50, .aload_n 0, 1, 0, 0, 0, .null), (51, .getfield 72, 3, 9, 10, 510, .null), (54, .lload_n 3, 1, 0, 0, 0, .null), (55, .iload_n 2, 1, 0, 0, 0, .null), (56, .invokevirtual 187, 3, 75, 6202, 950, .null), (59, .lreturn, 1, 0, 0, 0, .null)])]
def uX9_die : List (Nat × List Nat) := []
def qX9_cast : CD := [(0, [(0, .iload_n 1, 1, 0, 0, 0, .null), (1, .invokestatic 198, 3, 143, 301, 974, .null), (4, .ifCond .ne 9, 3, 13, 0, 0, .null), (7, .aload_n 0, 1, 0, 0, 0, .null), (8, .iconst (-1), 1, 0, 0, 0, .int (-1)), (9, .invokevirtual 112, 3, 139, 9101, 730, .null), (12, .ireturn, 1, 0, 0, 0, .null), (13, .aload_n 0, 1, 0, 0, 0, .null), (14, .invokevirtual 168, 3, 141, 9300, 843, .null)]),
  (1, [(17, .ifCond .ne 18, 3, 35, 0, 0, .null), (20, .aload_n 0, 1, 0, 0, 0, .null), (21, .getfield 72, 3, 9, 10, 510, .null), (24, .iload_n 1, 1, 0, 0, 0, .null), (25, .invokevirtual 201, 3, 74, 6201, 977, .null), (28, .ldc2_w 205, 3, 0, 0, 989, .long (-1)), (31, .lcmp, 1, 0, 0, 0, .null)]),
  (2, [(32, .ifCond .ne 10, 3, 42, 0, 0, .null), (35, .aload_n 0, 1, 0, 0, 0, .null), (36, .bipush (-3), 2, 0, 0, 0, .int (-3)), (38, .invokevirtual 112, 3, 139, 9101, 730, .null), (41, .ireturn, 1, 0, 0, 0, .null), (42, .aload_n 0, 1, 0, 0, 0, .null), (43, .getfield 72, 3, 9, 10, 510, .null), (46, .aload_n 0, 1, 0, 0, 0, .null), (47, .getfield 39, 3, 9, 5, 505, .null)]),
  (3, [(50, .getfield 165, 3, 0, 2, 292, .null), (53, .invokevirtual 194, 3, 77, 6001, 966, .null), (56, .aload_n 0, 1, 0, 0, 0, .null), (57, .iconst 0, 1, 0, 0, 0, .int 0), (58, .invokevirtual 125, 3, 140, 9101, 745, .null), (61, .ireturn, 1, 0, 0, 0, .null)])]
def uX9_cast : List (Nat × List Nat) := []
def qX9_power : CD := [(0, [(0, .iload_n 1, 1, 0, 0, 0, .null), (1, .invokestatic 155, 3, 142, 301, 820, .null), (4, .ifCond .eq 20, 3, 24, 0, 0, .null), (7, .iload_n 2, 1, 0, 0, 0, .null), (8, .ifCond .lt 16, 3, 24, 0, 0, .null), (11, .iload_n 2, 1, 0, 0, 0, .null), (12, .bipush 11, 2, 0, 0, 0, .int 11), (14, .if_icmp .ge 10, 3, 24, 0, 0, .null)]),
  (1, [(17, .aload_n 0, 1, 0, 0, 0, .null), (18, .invokevirtual 168, 3, 141, 9300, 843, .null), (21, .ifCond .eq 7, 3, 28, 0, 0, .null), (24, .ldc2_w 149, 3, 0, 0, 782, .long (-1000000000000000000)), (27, .lreturn, 1, 0, 0, 0, .null), (28, .aload_n 0, 1, 0, 0, 0, .null), (29, .getfield 63, 3, 9, 9, 509, .null)]),
  (2, [(32, .iconst 0, 1, 0, 0, 0, .int 0), (33, .invokevirtual 172, 3, 3, 1001, 847, .null), (36, .aload_n 0, 1, 0, 0, 0, .null), (37, .getfield 86, 3, 9, 12, 512, .null), (40, .iload_n 1, 1, 0, 0, 0, .null), (41, .iload_n 2, 1, 0, 0, 0, .null), (42, .invokevirtual 207, 3, 27, 2202, 998, .null), (45, .lreturn, 1, 0, 0, 0, .null)])]
def uX9_power : List (Nat × List Nat) := []
def qX9_pocket : CD := [(0, [(0, .aload_n 0, 1, 0, 0, 0, .null), (1, .invokevirtual 168, 3, 141, 9300, 843, .null), (4, .ifCond .ne 20, 3, 24, 0, 0, .null), (7, .aload_n 0, 1, 0, 0, 0, .null), (8, .getfield 39, 3, 9, 5, 505, .null), (11, .getfield 115, 3, 0, 0, 282, .null), (14, .invokevirtual 161, 3, 36, 3100, 827, .null)]),
  (1, [(17, .invokestatic 211, 3, 252, 101, 1032, .null), (20, .iconst 3, 1, 0, 0, 0, .int 3), (21, .if_icmp .le 7, 3, 28, 0, 0, .null), (24, .ldc2_w 149, 3, 0, 0, 782, .long (-1000000000000000000)), (27, .lreturn, 1, 0, 0, 0, .null), (28, .aload_n 0, 1, 0, 0, 0, .null), (29, .getfield 63, 3, 9, 9, 509, .null)]),
  (2, [(32, .iconst 0, 1, 0, 0, 0, .int 0), (33, .invokevirtual 172, 3, 3, 1001, 847, .null), (36, .aload_n 0, 1, 0, 0, 0, .null), (37, .getfield 79, 3, 9, 11, 511, .null), (40, .invokevirtual 216, 3, 38, 4200, 1033, .null), (43, .lreturn, 1, 0, 0, 0, .null)])]
def uX9_pocket : List (Nat × List Nat) := []
def qX9_knowing : CD := [(0, [(0, .aload_n 0, 1, 0, 0, 0, .null), (1, .invokevirtual 168, 3, 141, 9300, 843, .null), (4, .ifCond .eq 7, 3, 11, 0, 0, .null), (7, .ldc2_w 149, 3, 0, 0, 782, .long (-1000000000000000000)), (10, .lreturn, 1, 0, 0, 0, .null), (11, .aload_n 0, 1, 0, 0, 0, .null), (12, .getfield 63, 3, 9, 9, 509, .null), (15, .iconst 0, 1, 0, 0, 0, .int 0)]),
  (1, [(16, .invokevirtual 172, 3, 3, 1001, 847, .null), (19, .aload_n 0, 1, 0, 0, 0, .null), (20, .getfield 63, 3, 9, 9, 509, .null), (23, .invokevirtual 219, 3, 7, 1000, 1073, .null), (26, .aload_n 0, 1, 0, 0, 0, .null), (27, .getfield 63, 3, 9, 9, 509, .null), (30, .invokevirtual 176, 3, 8, 1200, 870, .null)]),
  (2, [(33, .lreturn, 1, 0, 0, 0, .null)])]
def uX9_knowing : List (Nat × List Nat) := []
def qX9_knows : CD := [(0, [(0, .aload_n 0, 1, 0, 0, 0, .null), (1, .getfield 39, 3, 9, 5, 505, .null), (4, .getfield 115, 3, 0, 0, 282, .null), (7, .iload_n 1, 1, 0, 0, 0, .null), (8, .iconst 0, 1, 0, 0, 0, .int 0), (9, .invokevirtual 145, 3, 32, 3302, 777, .null), (12, .ifCond .eq 20, 3, 32, 0, 0, .null), (15, .iload_n 2, 1, 0, 0, 0, .null)]),
  (1, [(16, .ifCond .lt 16, 3, 32, 0, 0, .null), (19, .iload_n 2, 1, 0, 0, 0, .null), (20, .aload_n 0, 1, 0, 0, 0, .null), (21, .getfield 39, 3, 9, 5, 505, .null), (24, .getfield 134, 3, 0, 1, 288, .null), (27, .iconst 1, 1, 0, 0, 0, .int 1), (28, .iaload, 1, 0, 0, 0, .null), (29, .if_icmp .lt 5, 3, 34, 0, 0, .null)]),
  (2, [(32, .iconst (-1), 1, 0, 0, 0, .int (-1)), (33, .ireturn, 1, 0, 0, 0, .null), (34, .aload_n 0, 1, 0, 0, 0, .null), (35, .getfield 63, 3, 9, 9, 509, .null), (38, .iconst 1, 1, 0, 0, 0, .int 1), (39, .invokevirtual 172, 3, 3, 1001, 847, .null), (42, .aload_n 0, 1, 0, 0, 0, .null), (43, .getfield 63, 3, 9, 9, 509, .null), (46, .invokevirtual 219, 3, 7, 1000, 1073, .null)]),
  (3, [(49, .aload_n 0, 1, 0, 0, 0, .null), (50, .getfield 63, 3, 9, 9, 509, .null), (53, .invokevirtual 176, 3, 8, 1200, 870, .null), (56, .pop2, 1, 0, 0, 0, .null), (57, .aload_n 0, 1, 0, 0, 0, .null), (58, .getfield 63, 3, 9, 9, 509, .null), (61, .iload_n 1, 1, 0, 0, 0, .null), (62, .iload_n 2, 1, 0, 0, 0, .null), (63, .invokevirtual 222, 3, 12, 1102, 1081, .null)]),
  (4, [(66, .ireturn, 1, 0, 0, 0, .null)])]
def uX9_knows : List (Nat × List Nat) := []
def qX9_signs : CD := [(0, [(0, .iload 4, 2, 0, 0, 0, .null), (2, .ifCond .lt 17, 3, 19, 0, 0, .null), (5, .iload 4, 2, 0, 0, 0, .null), (7, .iconst 1, 1, 0, 0, 0, .int 1), (8, .if_icmp .gt 11, 3, 19, 0, 0, .null), (11, .aload_n 0, 1, 0, 0, 0, .null), (12, .iload_n 1, 1, 0, 0, 0, .null), (13, .invokevirtual 225, 3, 127, 9301, 1089, .null)]),
  (1, [(16, .ifCond .ne 5, 3, 21, 0, 0, .null), (19, .iconst (-1), 1, 0, 0, 0, .int (-1)), (20, .ireturn, 1, 0, 0, 0, .null), (21, .aload_n 0, 1, 0, 0, 0, .null), (22, .getfield 72, 3, 9, 10, 510, .null), (25, .iload_n 1, 1, 0, 0, 0, .null), (26, .ldc2_w 228, 3, 0, 0, 1097, .long (-1000000000000000)), (29, .ldc2_w 230, 3, 0, 0, 1098, .long 1000000000000000)]),
  (2, [(32, .lload_n 2, 1, 0, 0, 0, .null), (33, .invokestatic 232, 3, 9006, 202, 1099, .null), (36, .invokestatic 238, 3, 9005, 202, 1100, .null), (39, .invokevirtual 241, 3, 86, 6102, 1101, .null), (42, .istore 5, 2, 0, 0, 0, .null), (44, .iload 5, 2, 0, 0, 0, .null), (46, .iconst (-1), 1, 0, 0, 0, .int (-1)), (47, .if_icmp .eq 9, 3, 56, 0, 0, .null)]),
  (3, [(50, .iload 4, 2, 0, 0, 0, .null), (52, .iconst 1, 1, 0, 0, 0, .int 1), (53, .if_icmp .ne 8, 3, 61, 0, 0, .null), (56, .iload 5, 2, 0, 0, 0, .null), (58, .goto 8, 3, 66, 0, 0, .null), (61, .iload 5, 2, 0, 0, 0, .null), (63, .invokestatic 211, 3, 252, 101, 1032, .null)]),
  (4, [(66, .ireturn, 1, 0, 0, 0, .null)])]
def uX9_signs : List (Nat × List Nat) := []
def qX9_signed : CD := [(0, [(0, .aload_n 0, 1, 0, 0, 0, .null), (1, .iload_n 1, 1, 0, 0, 0, .null), (2, .invokevirtual 225, 3, 127, 9301, 1089, .null), (5, .ifCond .ne 7, 3, 12, 0, 0, .null), (8, .ldc2_w 149, 3, 0, 0, 782, .long (-1000000000000000000)), (11, .lreturn, 1, 0, 0, 0, .null), (12, .aload_n 0, 1, 0, 0, 0, .null), (13, .getfield 72, 3, 9, 10, 510, .null)]),
  (1, [(16, .iload_n 1, 1, 0, 0, 0, .null), (17, .invokevirtual 245, 3, 87, 6201, 1122, .null), (20, .lreturn, 1, 0, 0, 0, .null)])]
def uX9_signed : List (Nat × List Nat) := []
def qX9_canSign : CD := [(0, [(0, .iload_n 1, 1, 0, 0, 0, .null), (1, .ifCond .lt 8, 3, 9, 0, 0, .null), (4, .iload_n 1, 1, 0, 0, 0, .null), (5, .iconst 5, 1, 0, 0, 0, .int 5), (6, .if_icmp .lt 5, 3, 11, 0, 0, .null), (9, .iconst 0, 1, 0, 0, 0, .int 0), (10, .ireturn, 1, 0, 0, 0, .null), (11, .aload_n 0, 1, 0, 0, 0, .null), (12, .getfield 39, 3, 9, 5, 505, .null), (15, .getfield 115, 3, 0, 0, 282, .null)]),
  (1, [(18, .iload_n 1, 1, 0, 0, 0, .null), (19, .invokevirtual 248, 3, 35, 3101, 1093, .null), (22, .istore_n 2, 1, 0, 0, 0, .null), (23, .iload_n 2, 1, 0, 0, 0, .null), (24, .ifCond .le 27, 3, 51, 0, 0, .null), (27, .iload_n 2, 1, 0, 0, 0, .null), (28, .bipush 6, 2, 0, 0, 0, .int 6), (30, .if_icmp .gt 21, 3, 51, 0, 0, .null)]),
  (2, [(33, .aload_n 0, 1, 0, 0, 0, .null), (34, .getfield 39, 3, 9, 5, 505, .null), (37, .getfield 115, 3, 0, 0, 282, .null), (40, .iconst 5, 1, 0, 0, 0, .int 5), (41, .invokevirtual 248, 3, 35, 3101, 1093, .null), (44, .ifCond .ne 7, 3, 51, 0, 0, .null), (47, .iconst 1, 1, 0, 0, 0, .int 1)]),
  (3, [(48, .goto 4, 3, 52, 0, 0, .null), (51, .iconst 0, 1, 0, 0, 0, .int 0), (52, .ireturn, 1, 0, 0, 0, .null)])]
def uX9_canSign : List (Nat × List Nat) := []
def qX9_visits : CD := [(0, [(0, .aload_n 0, 1, 0, 0, 0, .null), (1, .getfield 39, 3, 9, 5, 505, .null), (4, .getfield 115, 3, 0, 0, 282, .null), (7, .iload_n 1, 1, 0, 0, 0, .null), (8, .invokevirtual 137, 3, 31, 3301, 765, .null), (11, .ifCond .ne 7, 3, 18, 0, 0, .null), (14, .ldc2_w 149, 3, 0, 0, 782, .long (-1000000000000000000))]),
  (1, [(17, .lreturn, 1, 0, 0, 0, .null), (18, .aload_n 0, 1, 0, 0, 0, .null), (19, .getfield 63, 3, 9, 9, 509, .null), (22, .iconst 0, 1, 0, 0, 0, .int 0), (23, .invokevirtual 172, 3, 3, 1001, 847, .null), (26, .aload_n 0, 1, 0, 0, 0, .null), (27, .getfield 86, 3, 9, 12, 512, .null), (30, .invokevirtual 251, 3, 21, 2000, 1130, .null)]),
  (2, [(33, .aload_n 0, 1, 0, 0, 0, .null), (34, .getfield 86, 3, 9, 12, 512, .null), (37, .getfield 254, 3, 2, 4, 455, .null), (40, .iload_n 1, 1, 0, 0, 0, .null), (41, .laload, 1, 0, 0, 0, .null), (42, .lreturn, 1, 0, 0, 0, .null)])]
def uX9_visits : List (Nat × List Nat) := []
def qX9_ends : CD := [(0, [(0, .iload_n 1, 1, 0, 0, 0, .null), (1, .bipush 16, 2, 0, 0, 0, .int 16), (3, .if_icmp .eq 9, 3, 12, 0, 0, .null), (6, .iload_n 1, 1, 0, 0, 0, .null), (7, .bipush 17, 2, 0, 0, 0, .int 17), (9, .if_icmp .ne 7, 3, 16, 0, 0, .null), (12, .iconst 1, 1, 0, 0, 0, .int 1), (13, .goto 4, 3, 17, 0, 0, .null)]),
  (1, [(16, .iconst 0, 1, 0, 0, 0, .int 0), (17, .istore_n 2, 1, 0, 0, 0, .null), (18, .aload_n 0, 1, 0, 0, 0, .null), (19, .invokevirtual 168, 3, 141, 9300, 843, .null), (22, .ifCond .ne 22, 3, 44, 0, 0, .null), (25, .iload_n 2, 1, 0, 0, 0, .null), (26, .ifCond .ne 22, 3, 48, 0, 0, .null), (29, .aload_n 0, 1, 0, 0, 0, .null), (30, .getfield 39, 3, 9, 5, 505, .null)]),
  (2, [(33, .getfield 115, 3, 0, 0, 282, .null), (36, .iload_n 1, 1, 0, 0, 0, .null), (37, .iconst 3, 1, 0, 0, 0, .int 3), (38, .invokevirtual 145, 3, 32, 3302, 777, .null), (41, .ifCond .ne 7, 3, 48, 0, 0, .null), (44, .ldc2_w 149, 3, 0, 0, 782, .long (-1000000000000000000)), (47, .lreturn, 1, 0, 0, 0, .null)]),
  (3, [(48, .aload_n 0, 1, 0, 0, 0, .null), (49, .getfield 63, 3, 9, 9, 509, .null), (52, .iconst 0, 1, 0, 0, 0, .int 0), (53, .invokevirtual 172, 3, 3, 1001, 847, .null), (56, .aload_n 0, 1, 0, 0, 0, .null), (57, .getfield 86, 3, 9, 12, 512, .null), (60, .invokevirtual 251, 3, 21, 2000, 1130, .null), (63, .iload_n 2, 1, 0, 0, 0, .null)]),
  (4, [(64, .ifCond .eq 27, 3, 91, 0, 0, .null), (67, .iload_n 1, 1, 0, 0, 0, .null), (68, .bipush 16, 2, 0, 0, 0, .int 16), (70, .if_icmp .ne 13, 3, 83, 0, 0, .null), (73, .aload_n 0, 1, 0, 0, 0, .null), (74, .getfield 86, 3, 9, 12, 512, .null), (77, .getfield 257, 3, 2, 5, 457, .null)]),
  (5, [(80, .goto 10, 3, 90, 0, 0, .null), (83, .aload_n 0, 1, 0, 0, 0, .null), (84, .getfield 86, 3, 9, 12, 512, .null), (87, .getfield 261, 3, 2, 6, 459, .null), (90, .lreturn, 1, 0, 0, 0, .null), (91, .aload_n 0, 1, 0, 0, 0, .null), (92, .getfield 86, 3, 9, 12, 512, .null), (95, .getfield 254, 3, 2, 4, 455, .null)]),
  (6, [(98, .iload_n 1, 1, 0, 0, 0, .null), (99, .laload, 1, 0, 0, 0, .null), (100, .lreturn, 1, 0, 0, 0, .null)])]
def uX9_ends : List (Nat × List Nat) := [(18, [0, 1, 2]), (48, [0, 1, 2])]
def qX9_belief : CD := [(0, [(0, .aload_n 0, 1, 0, 0, 0, .null), (1, .getfield 39, 3, 9, 5, 505, .null), (4, .getfield 115, 3, 0, 0, 282, .null), (7, .iload_n 1, 1, 0, 0, 0, .null), (8, .iconst 0, 1, 0, 0, 0, .int 0), (9, .invokevirtual 145, 3, 32, 3302, 777, .null), (12, .ifCond .eq 12, 3, 24, 0, 0, .null), (15, .iload_n 2, 1, 0, 0, 0, .null)]),
  (1, [(16, .ifCond .lt 8, 3, 24, 0, 0, .null), (19, .iload_n 2, 1, 0, 0, 0, .null), (20, .iconst 1, 1, 0, 0, 0, .int 1), (21, .if_icmp .le 5, 3, 26, 0, 0, .null), (24, .iconst (-1), 1, 0, 0, 0, .int (-1)), (25, .ireturn, 1, 0, 0, 0, .null), (26, .aload_n 0, 1, 0, 0, 0, .null), (27, .getfield 63, 3, 9, 9, 509, .null), (30, .iconst 0, 1, 0, 0, 0, .int 0), (31, .invokevirtual 172, 3, 3, 1001, 847, .null)]),
  (2, [(34, .iload_n 2, 1, 0, 0, 0, .null), (35, .iconst 1, 1, 0, 0, 0, .int 1), (36, .if_icmp .ne 12, 3, 48, 0, 0, .null), (39, .aload_n 0, 1, 0, 0, 0, .null), (40, .getfield 86, 3, 9, 12, 512, .null), (43, .iload_n 1, 1, 0, 0, 0, .null), (44, .invokevirtual 264, 3, 24, 2101, 1142, .null), (47, .ireturn, 1, 0, 0, 0, .null)]),
  (3, [(48, .aload_n 0, 1, 0, 0, 0, .null), (49, .getfield 86, 3, 9, 12, 512, .null), (52, .invokevirtual 251, 3, 21, 2000, 1130, .null), (55, .aload_n 0, 1, 0, 0, 0, .null), (56, .getfield 86, 3, 9, 12, 512, .null), (59, .getfield 254, 3, 2, 4, 455, .null), (62, .iload_n 1, 1, 0, 0, 0, .null), (63, .laload, 1, 0, 0, 0, .null)]),
  (4, [(64, .aload_n 0, 1, 0, 0, 0, .null), (65, .getfield 86, 3, 9, 12, 512, .null), (68, .iload_n 1, 1, 0, 0, 0, .null), (69, .invokevirtual 267, 3, 22, 2201, 1159, .null), (72, .invokestatic 270, 3, 26, 102, 1163, .null), (75, .ireturn, 1, 0, 0, 0, .null)])]
def uX9_belief : List (Nat × List Nat) := []
def qX9_bet : CD := [(0, [(0, .aload_n 0, 1, 0, 0, 0, .null), (1, .getfield 39, 3, 9, 5, 505, .null), (4, .getfield 115, 3, 0, 0, 282, .null), (7, .iload_n 1, 1, 0, 0, 0, .null), (8, .iconst 0, 1, 0, 0, 0, .int 0), (9, .invokevirtual 145, 3, 32, 3302, 777, .null), (12, .ifCond .eq 13, 3, 25, 0, 0, .null), (15, .iload_n 2, 1, 0, 0, 0, .null)]),
  (1, [(16, .ifCond .lt 9, 3, 25, 0, 0, .null), (19, .iload_n 2, 1, 0, 0, 0, .null), (20, .bipush 100, 2, 0, 0, 0, .int 100), (22, .if_icmp .le 7, 3, 29, 0, 0, .null), (25, .ldc2_w 149, 3, 0, 0, 782, .long (-1000000000000000000)), (28, .lreturn, 1, 0, 0, 0, .null), (29, .aload_n 0, 1, 0, 0, 0, .null), (30, .getfield 63, 3, 9, 9, 509, .null)]),
  (2, [(33, .iconst 0, 1, 0, 0, 0, .int 0), (34, .invokevirtual 172, 3, 3, 1001, 847, .null), (37, .aload_n 0, 1, 0, 0, 0, .null), (38, .getfield 86, 3, 9, 12, 512, .null), (41, .invokevirtual 251, 3, 21, 2000, 1130, .null), (44, .ldc2_w 274, 3, 0, 0, 1168, .long 100), (47, .aload_n 0, 1, 0, 0, 0, .null)]),
  (3, [(48, .getfield 86, 3, 9, 12, 512, .null), (51, .getfield 254, 3, 2, 4, 455, .null), (54, .iload_n 1, 1, 0, 0, 0, .null), (55, .laload, 1, 0, 0, 0, .null), (56, .lmul, 1, 0, 0, 0, .null), (57, .iload_n 2, 1, 0, 0, 0, .null), (58, .i2l, 1, 0, 0, 0, .null), (59, .aload_n 0, 1, 0, 0, 0, .null), (60, .getfield 86, 3, 9, 12, 512, .null), (63, .iload_n 1, 1, 0, 0, 0, .null)]),
  (4, [(64, .invokevirtual 267, 3, 22, 2201, 1159, .null), (67, .lmul, 1, 0, 0, 0, .null), (68, .lsub, 1, 0, 0, 0, .null), (69, .lreturn, 1, 0, 0, 0, .null)])]
def uX9_bet : List (Nat × List Nat) := []
def qX9_price : CD := [(0, [(0, .aload_n 0, 1, 0, 0, 0, .null), (1, .getfield 39, 3, 9, 5, 505, .null), (4, .getfield 115, 3, 0, 0, 282, .null), (7, .iload_n 1, 1, 0, 0, 0, .null), (8, .iconst 0, 1, 0, 0, 0, .int 0), (9, .invokevirtual 145, 3, 32, 3302, 777, .null), (12, .ifCond .ne 5, 3, 17, 0, 0, .null), (15, .iconst (-1), 1, 0, 0, 0, .int (-1))]),
  (1, [(16, .ireturn, 1, 0, 0, 0, .null), (17, .aload_n 0, 1, 0, 0, 0, .null), (18, .getfield 63, 3, 9, 9, 509, .null), (21, .iconst 0, 1, 0, 0, 0, .int 0), (22, .invokevirtual 172, 3, 3, 1001, 847, .null), (25, .aload_n 0, 1, 0, 0, 0, .null), (26, .getfield 86, 3, 9, 12, 512, .null), (29, .invokevirtual 251, 3, 21, 2000, 1130, .null)]),
  (2, [(32, .aload_n 0, 1, 0, 0, 0, .null), (33, .getfield 86, 3, 9, 12, 512, .null), (36, .iload_n 1, 1, 0, 0, 0, .null), (37, .invokevirtual 267, 3, 22, 2201, 1159, .null), (40, .lstore_n 2, 1, 0, 0, 0, .null), (41, .lload_n 2, 1, 0, 0, 0, .null), (42, .lconst 0, 1, 0, 0, 0, .long 0), (43, .lcmp, 1, 0, 0, 0, .null), (44, .ifCond .ne 8, 3, 52, 0, 0, .null), (47, .bipush 100, 2, 0, 0, 0, .int 100)]),
  (3, [(49, .goto 19, 3, 68, 0, 0, .null), (52, .ldc2_w 274, 3, 0, 0, 1168, .long 100), (55, .aload_n 0, 1, 0, 0, 0, .null), (56, .getfield 86, 3, 9, 12, 512, .null), (59, .getfield 254, 3, 2, 4, 455, .null), (62, .iload_n 1, 1, 0, 0, 0, .null), (63, .laload, 1, 0, 0, 0, .null)]),
  (4, [(64, .lmul, 1, 0, 0, 0, .null), (65, .lload_n 2, 1, 0, 0, 0, .null), (66, .ldiv, 1, 0, 0, 0, .null), (67, .l2i, 1, 0, 0, 0, .null), (68, .ireturn, 1, 0, 0, 0, .null)])]
def uX9_price : List (Nat × List Nat) := []
def qX9_ride : CD := [(0, [(0, .iload_n 1, 1, 0, 0, 0, .null), (1, .ifCond .lt 10, 3, 11, 0, 0, .null), (4, .iload_n 1, 1, 0, 0, 0, .null), (5, .ldc_w 276, 3, 0, 0, 1177, .int 1000000), (8, .if_icmp .le 9, 3, 17, 0, 0, .null), (11, .aload_n 0, 1, 0, 0, 0, .null), (12, .iconst (-1), 1, 0, 0, 0, .int (-1)), (13, .invokevirtual 112, 3, 139, 9101, 730, .null)]),
  (1, [(16, .ireturn, 1, 0, 0, 0, .null), (17, .aload_n 0, 1, 0, 0, 0, .null), (18, .invokevirtual 168, 3, 141, 9300, 843, .null), (21, .ifCond .eq 10, 3, 31, 0, 0, .null), (24, .aload_n 0, 1, 0, 0, 0, .null), (25, .bipush (-3), 2, 0, 0, 0, .int (-3)), (27, .invokevirtual 112, 3, 139, 9101, 730, .null), (30, .ireturn, 1, 0, 0, 0, .null), (31, .aload_n 0, 1, 0, 0, 0, .null)]),
  (2, [(32, .getfield 93, 3, 9, 13, 513, .null), (35, .iload_n 1, 1, 0, 0, 0, .null), (36, .invokevirtual 277, 3, 99, 8001, 1178, .null), (39, .aload_n 0, 1, 0, 0, 0, .null), (40, .aload_n 0, 1, 0, 0, 0, .null), (41, .getfield 93, 3, 9, 13, 513, .null), (44, .getfield 280, 3, 8, 3, 486, .null), (47, .invokevirtual 125, 3, 140, 9101, 745, .null)]),
  (3, [(50, .ireturn, 1, 0, 0, 0, .null)])]
def uX9_ride : List (Nat × List Nat) := []
def qX9_rode : CD := [(0, [(0, .iload_n 1, 1, 0, 0, 0, .null), (1, .iconst (-1), 1, 0, 0, 0, .int (-1)), (2, .if_icmp .lt 25, 3, 27, 0, 0, .null), (5, .iload_n 1, 1, 0, 0, 0, .null), (6, .aload_n 0, 1, 0, 0, 0, .null), (7, .getfield 93, 3, 9, 13, 513, .null), (10, .getfield 280, 3, 8, 3, 486, .null), (13, .if_icmp .gt 14, 3, 27, 0, 0, .null)]),
  (1, [(16, .aload_n 0, 1, 0, 0, 0, .null), (17, .getfield 93, 3, 9, 13, 513, .null), (20, .getfield 280, 3, 8, 3, 486, .null), (23, .iconst (-1), 1, 0, 0, 0, .int (-1)), (24, .if_icmp .ne 7, 3, 31, 0, 0, .null), (27, .ldc2_w 149, 3, 0, 0, 782, .long (-1000000000000000000)), (30, .lreturn, 1, 0, 0, 0, .null), (31, .iload_n 1, 1, 0, 0, 0, .null)]),
  (2, [(32, .iconst (-1), 1, 0, 0, 0, .int (-1)), (33, .if_icmp .ne 13, 3, 46, 0, 0, .null), (36, .aload_n 0, 1, 0, 0, 0, .null), (37, .getfield 93, 3, 9, 13, 513, .null), (40, .getfield 283, 3, 8, 4, 488, .null), (43, .goto 13, 3, 56, 0, 0, .null), (46, .aload_n 0, 1, 0, 0, 0, .null), (47, .getfield 93, 3, 9, 13, 513, .null)]),
  (3, [(50, .getfield 286, 3, 8, 2, 484, .null), (53, .iload_n 1, 1, 0, 0, 0, .null), (54, .iaload, 1, 0, 0, 0, .null), (55, .i2l, 1, 0, 0, 0, .null), (56, .lreturn, 1, 0, 0, 0, .null)])]
def uX9_rode : List (Nat × List Nat) := []
def qX9_image : CD := [(0, [(0, .iload_n 1, 1, 0, 0, 0, .null), (1, .ifCond .lt 8, 3, 9, 0, 0, .null), (4, .iload_n 1, 1, 0, 0, 0, .null), (5, .iconst 2, 1, 0, 0, 0, .int 2), (6, .if_icmp .lt 9, 3, 15, 0, 0, .null), (9, .aload_n 0, 1, 0, 0, 0, .null), (10, .iconst (-1), 1, 0, 0, 0, .int (-1)), (11, .invokevirtual 112, 3, 139, 9101, 730, .null), (14, .ireturn, 1, 0, 0, 0, .null), (15, .aload_n 0, 1, 0, 0, 0, .null)]),
  (1, [(16, .getfield 43, 3, 9, 6, 506, .null), (19, .iload_n 1, 1, 0, 0, 0, .null), (20, .aaload, 1, 0, 0, 0, .null), (21, .aload_n 0, 1, 0, 0, 0, .null), (22, .getfield 39, 3, 9, 5, 505, .null), (25, .invokevirtual 289, 3, 1, 1, 1200, .null), (28, .aload_n 0, 1, 0, 0, 0, .null), (29, .getfield 47, 3, 9, 7, 507, .null)]),
  (2, [(32, .iload_n 1, 1, 0, 0, 0, .null), (33, .iconst 1, 1, 0, 0, 0, .int 1), (34, .bastore, 1, 0, 0, 0, .null), (35, .aload_n 0, 1, 0, 0, 0, .null), (36, .iconst 0, 1, 0, 0, 0, .int 0), (37, .invokevirtual 125, 3, 140, 9101, 745, .null), (40, .ireturn, 1, 0, 0, 0, .null)])]
def uX9_image : List (Nat × List Nat) := []
def qX9_back : CD := [(0, [(0, .iload_n 1, 1, 0, 0, 0, .null), (1, .ifCond .lt 8, 3, 9, 0, 0, .null), (4, .iload_n 1, 1, 0, 0, 0, .null), (5, .iconst 2, 1, 0, 0, 0, .int 2), (6, .if_icmp .lt 9, 3, 15, 0, 0, .null), (9, .aload_n 0, 1, 0, 0, 0, .null), (10, .iconst (-1), 1, 0, 0, 0, .int (-1)), (11, .invokevirtual 112, 3, 139, 9101, 730, .null), (14, .ireturn, 1, 0, 0, 0, .null), (15, .aload_n 0, 1, 0, 0, 0, .null)]),
  (1, [(16, .getfield 47, 3, 9, 7, 507, .null), (19, .iload_n 1, 1, 0, 0, 0, .null), (20, .baload, 1, 0, 0, 0, .null), (21, .ifCond .ne 10, 3, 31, 0, 0, .null), (24, .aload_n 0, 1, 0, 0, 0, .null), (25, .bipush (-2), 2, 0, 0, 0, .int (-2)), (27, .invokevirtual 112, 3, 139, 9101, 730, .null), (30, .ireturn, 1, 0, 0, 0, .null), (31, .aload_n 0, 1, 0, 0, 0, .null)]),
  (2, [(32, .getfield 39, 3, 9, 5, 505, .null), (35, .aload_n 0, 1, 0, 0, 0, .null), (36, .getfield 43, 3, 9, 6, 506, .null), (39, .iload_n 1, 1, 0, 0, 0, .null), (40, .aaload, 1, 0, 0, 0, .null), (41, .invokevirtual 289, 3, 1, 1, 1200, .null), (44, .aload_n 0, 1, 0, 0, 0, .null), (45, .iconst 0, 1, 0, 0, 0, .int 0), (46, .invokevirtual 125, 3, 140, 9101, 745, .null)]),
  (3, [(49, .ireturn, 1, 0, 0, 0, .null)])]
def uX9_back : List (Nat × List Nat) := []
def qX9_count : CD := [(0, [(0, .iload_n 1, 1, 0, 0, 0, .null), (1, .iconst 4, 1, 0, 0, 0, .int 4), (2, .if_icmp .lt 18, 3, 20, 0, 0, .null), (5, .iload_n 1, 1, 0, 0, 0, .null), (6, .bipush 7, 2, 0, 0, 0, .int 7), (8, .if_icmp .gt 12, 3, 20, 0, 0, .null), (11, .aload_n 0, 1, 0, 0, 0, .null), (12, .getfield 97, 3, 9, 14, 514, .null), (15, .iload_n 1, 1, 0, 0, 0, .null)]),
  (1, [(16, .iconst 4, 1, 0, 0, 0, .int 4), (17, .isub, 1, 0, 0, 0, .null), (18, .iaload, 1, 0, 0, 0, .null), (19, .ireturn, 1, 0, 0, 0, .null), (20, .iload_n 1, 1, 0, 0, 0, .null), (21, .bipush 8, 2, 0, 0, 0, .int 8), (23, .if_icmp .lt 22, 3, 45, 0, 0, .null), (26, .iload_n 1, 1, 0, 0, 0, .null), (27, .bipush 11, 2, 0, 0, 0, .int 11), (29, .if_icmp .gt 16, 3, 45, 0, 0, .null)]),
  (2, [(32, .aload_n 0, 1, 0, 0, 0, .null), (33, .getfield 39, 3, 9, 5, 505, .null), (36, .getfield 134, 3, 0, 1, 288, .null), (39, .iload_n 1, 1, 0, 0, 0, .null), (40, .bipush 8, 2, 0, 0, 0, .int 8), (42, .isub, 1, 0, 0, 0, .null), (43, .iaload, 1, 0, 0, 0, .null), (44, .ireturn, 1, 0, 0, 0, .null), (45, .iload_n 1, 1, 0, 0, 0, .null), (46, .tableswitch 71 0 3 #[30, 41, 52, 66], 30, 0, 0, 0, .null)]),
  (4, [(76, .aload_n 0, 1, 0, 0, 0, .null), (77, .getfield 39, 3, 9, 5, 505, .null)]),
  (5, [(80, .getfield 115, 3, 0, 0, 282, .null), (83, .getfield 122, 3, 3, 0, 159, .null), (86, .ireturn, 1, 0, 0, 0, .null), (87, .aload_n 0, 1, 0, 0, 0, .null), (88, .getfield 39, 3, 9, 5, 505, .null), (91, .getfield 115, 3, 0, 0, 282, .null), (94, .invokevirtual 292, 3, 34, 3100, 1214, .null)]),
  (6, [(97, .ireturn, 1, 0, 0, 0, .null), (98, .aload_n 0, 1, 0, 0, 0, .null), (99, .getfield 39, 3, 9, 5, 505, .null), (102, .getfield 115, 3, 0, 0, 282, .null), (105, .invokevirtual 161, 3, 36, 3100, 827, .null), (108, .invokestatic 211, 3, 252, 101, 1032, .null), (111, .ireturn, 1, 0, 0, 0, .null)]),
  (7, [(112, .aload_n 0, 1, 0, 0, 0, .null), (113, .getfield 13, 3, 9, 1, 501, .null), (116, .ireturn, 1, 0, 0, 0, .null), (117, .sipush (-1000), 3, 0, 0, 0, .int (-1000)), (120, .ireturn, 1, 0, 0, 0, .null)])]
def uX9_count : List (Nat × List Nat) := [(20, [0, 1]), (45, [0, 1])]
def qX9_status : CD := [(0, [(0, .aload_n 0, 1, 0, 0, 0, .null), (1, .getfield 101, 3, 9, 15, 515, .null), (4, .ireturn, 1, 0, 0, 0, .null)])]
def uX9_status : List (Nat × List Nat) := []
def qX9_refuse : CD := [(0, [(0, .aload_n 0, 1, 0, 0, 0, .null), (1, .iload_n 1, 1, 0, 0, 0, .null), (2, .putfield 101, 3, 9, 15, 515, .null), (5, .aload_n 0, 1, 0, 0, 0, .null), (6, .getfield 97, 3, 9, 14, 514, .null), (9, .iload_n 1, 1, 0, 0, 0, .null), (10, .bipush (-6), 2, 0, 0, 0, .int (-6)), (12, .if_icmp .ne 7, 3, 19, 0, 0, .null), (15, .iconst 3, 1, 0, 0, 0, .int 3)]),
  (1, [(16, .goto 24, 3, 40, 0, 0, .null), (19, .iload_n 1, 1, 0, 0, 0, .null), (20, .bipush (-3), 2, 0, 0, 0, .int (-3)), (22, .if_icmp .ne 7, 3, 29, 0, 0, .null), (25, .iconst 2, 1, 0, 0, 0, .int 2), (26, .goto 14, 3, 40, 0, 0, .null), (29, .iload_n 1, 1, 0, 0, 0, .null), (30, .bipush (-2), 2, 0, 0, 0, .int (-2))]),
  (2, [(32, .if_icmp .ne 7, 3, 39, 0, 0, .null), (35, .iconst 1, 1, 0, 0, 0, .int 1), (36, .goto 4, 3, 40, 0, 0, .null), (39, .iconst 0, 1, 0, 0, 0, .int 0), (40, .dup2, 1, 0, 0, 0, .null), (41, .iaload, 1, 0, 0, 0, .null), (42, .iconst 1, 1, 0, 0, 0, .int 1), (43, .iadd, 1, 0, 0, 0, .null), (44, .iastore, 1, 0, 0, 0, .null), (45, .iload_n 1, 1, 0, 0, 0, .null), (46, .ireturn, 1, 0, 0, 0, .null)])]
def uX9_refuse : List (Nat × List Nat) := []
def qX9_grant : CD := [(0, [(0, .aload_n 0, 1, 0, 0, 0, .null), (1, .iconst 0, 1, 0, 0, 0, .int 0), (2, .putfield 101, 3, 9, 15, 515, .null), (5, .iload_n 1, 1, 0, 0, 0, .null), (6, .ireturn, 1, 0, 0, 0, .null)])]
def uX9_grant : List (Nat × List Nat) := []
def qX9_noPlaces : CD := [(0, [(0, .aload_n 0, 1, 0, 0, 0, .null), (1, .getfield 39, 3, 9, 5, 505, .null), (4, .getfield 115, 3, 0, 0, 282, .null), (7, .getfield 122, 3, 3, 0, 159, .null), (10, .ifCond .ne 7, 3, 17, 0, 0, .null), (13, .iconst 1, 1, 0, 0, 0, .int 1), (14, .goto 4, 3, 18, 0, 0, .null)]),
  (1, [(17, .iconst 0, 1, 0, 0, 0, .int 0), (18, .ireturn, 1, 0, 0, 0, .null)])]
def uX9_noPlaces : List (Nat × List Nat) := []
def qX9_isLook : CD := [(0, [(0, .iload_n 0, 1, 0, 0, 0, .null), (1, .ifCond .lt 13, 3, 14, 0, 0, .null), (4, .iload_n 0, 1, 0, 0, 0, .null), (5, .bipush 6, 2, 0, 0, 0, .int 6), (7, .if_icmp .ge 7, 3, 14, 0, 0, .null), (10, .iconst 1, 1, 0, 0, 0, .int 1), (11, .goto 4, 3, 15, 0, 0, .null), (14, .iconst 0, 1, 0, 0, 0, .int 0), (15, .ireturn, 1, 0, 0, 0, .null)])]
def uX9_isLook : List (Nat × List Nat) := []
def qX9_isLooks : CD := [(0, [(0, .iload_n 0, 1, 0, 0, 0, .null), (1, .ifCond .lt 13, 3, 14, 0, 0, .null), (4, .iload_n 0, 1, 0, 0, 0, .null), (5, .bipush 64, 2, 0, 0, 0, .int 64), (7, .if_icmp .ge 7, 3, 14, 0, 0, .null), (10, .iconst 1, 1, 0, 0, 0, .int 1), (11, .goto 4, 3, 15, 0, 0, .null), (14, .iconst 0, 1, 0, 0, 0, .int 0), (15, .ireturn, 1, 0, 0, 0, .null)])]
def uX9_isLooks : List (Nat × List Nat) := []
def qX10_lies : CD := [(0, [(0, .iload_n 0, 1, 0, 0, 0, .null), (1, .iload_n 1, 1, 0, 0, 0, .null), (2, .if_icmp .lt 12, 3, 14, 0, 0, .null), (5, .iload_n 0, 1, 0, 0, 0, .null), (6, .iload_n 2, 1, 0, 0, 0, .null), (7, .if_icmp .gt 7, 3, 14, 0, 0, .null), (10, .iconst 1, 1, 0, 0, 0, .int 1), (11, .goto 4, 3, 15, 0, 0, .null), (14, .iconst 0, 1, 0, 0, 0, .int 0), (15, .ireturn, 1, 0, 0, 0, .null)])]
def uX10_lies : List (Nat × List Nat) := []
def qX10_refuses : CD := [(0, [(0, .aload_n 0, 1, 0, 0, 0, .null), (1, .iload_n 1, 1, 0, 0, 0, .null), (2, .putfield 3, 3, 10, 0, 1228, .null), (5, .aload_n 0, 1, 0, 0, 0, .null), (6, .getfield 7, 3, 10, 2, 1230, .null), (9, .iload_n 1, 1, 0, 0, 0, .null), (10, .ineg, 1, 0, 0, 0, .null), (11, .dup2, 1, 0, 0, 0, .null), (12, .iaload, 1, 0, 0, 0, .null), (13, .iconst 1, 1, 0, 0, 0, .int 1), (14, .iadd, 1, 0, 0, 0, .null), (15, .iastore, 1, 0, 0, 0, .null)]),
  (1, [(16, .iload_n 1, 1, 0, 0, 0, .null), (17, .ireturn, 1, 0, 0, 0, .null)])]
def uX10_refuses : List (Nat × List Nat) := []
def qX10_good : CD := [(0, [(0, .aload_n 0, 1, 0, 0, 0, .null), (1, .iconst 0, 1, 0, 0, 0, .int 0), (2, .putfield 3, 3, 10, 0, 1228, .null), (5, .aload_n 0, 1, 0, 0, 0, .null), (6, .dup, 1, 0, 0, 0, .null), (7, .getfield 11, 3, 10, 1, 1229, .null), (10, .iconst 1, 1, 0, 0, 0, .int 1), (11, .iadd, 1, 0, 0, 0, .null), (12, .putfield 11, 3, 10, 1, 1229, .null), (15, .iload_n 1, 1, 0, 0, 0, .null)]),
  (1, [(16, .ireturn, 1, 0, 0, 0, .null)])]
def uX10_good : List (Nat × List Nat) := []
def qX10_isIn : CD := [(0, [(0, .iload_n 0, 1, 0, 0, 0, .null), (1, .iload_n 1, 1, 0, 0, 0, .null), (2, .ishr, 1, 0, 0, 0, .null), (3, .iconst 1, 1, 0, 0, 0, .int 1), (4, .iand, 1, 0, 0, 0, .null), (5, .iconst 1, 1, 0, 0, 0, .int 1), (6, .if_icmp .ne 7, 3, 13, 0, 0, .null), (9, .iconst 1, 1, 0, 0, 0, .int 1), (10, .goto 4, 3, 14, 0, 0, .null), (13, .iconst 0, 1, 0, 0, 0, .int 0), (14, .ireturn, 1, 0, 0, 0, .null)])]
def uX10_isIn : List (Nat × List Nat) := []
def qX10_ones : CD := [(0, [(0, .iconst 0, 1, 0, 0, 0, .int 0), (1, .istore_n 1, 1, 0, 0, 0, .null), (2, .iconst 0, 1, 0, 0, 0, .int 0), (3, .istore_n 2, 1, 0, 0, 0, .null), (4, .iload_n 2, 1, 0, 0, 0, .null), (5, .bipush 16, 2, 0, 0, 0, .int 16), (7, .if_icmp .ge 17, 3, 24, 0, 0, .null), (10, .iload_n 1, 1, 0, 0, 0, .null), (11, .iload_n 0, 1, 0, 0, 0, .null), (12, .iload_n 2, 1, 0, 0, 0, .null), (13, .ishr, 1, 0, 0, 0, .null), (14, .iconst 1, 1, 0, 0, 0, .int 1), (15, .iand, 1, 0, 0, 0, .null)]),
  (1, [(16, .iadd, 1, 0, 0, 0, .null), (17, .istore_n 1, 1, 0, 0, 0, .null), (18, .iinc 2 1, 3, 0, 0, 0, .int 1), (21, .goto (-17), 3, 4, 0, 0, .null), (24, .iload_n 1, 1, 0, 0, 0, .null), (25, .ireturn, 1, 0, 0, 0, .null)])]
def uX10_ones : List (Nat × List Nat) := [(4, [0, 1, 2])]
def qX10_ten : CD := [(0, [(0, .lconst 1, 1, 0, 0, 0, .long 1), (1, .lstore_n 1, 1, 0, 0, 0, .null), (2, .iconst 0, 1, 0, 0, 0, .int 0), (3, .istore_n 3, 1, 0, 0, 0, .null), (4, .iload_n 3, 1, 0, 0, 0, .null), (5, .iload_n 0, 1, 0, 0, 0, .null), (6, .if_icmp .ge 15, 3, 21, 0, 0, .null), (9, .lload_n 1, 1, 0, 0, 0, .null), (10, .ldc2_w 14, 3, 0, 0, 1604, .long 10), (13, .lmul, 1, 0, 0, 0, .null), (14, .lstore_n 1, 1, 0, 0, 0, .null), (15, .iinc 3 1, 3, 0, 0, 0, .int 1)]),
  (1, [(18, .goto (-14), 3, 4, 0, 0, .null), (21, .lload_n 1, 1, 0, 0, 0, .null), (22, .lreturn, 1, 0, 0, 0, .null)])]
def uX10_ten : List (Nat × List Nat) := [(4, [0, 1, 3])]
def qX10_init : CD := [(0, [(0, .aload_n 0, 1, 0, 0, 0, .null), (1, .invokespecial 16, 3, 9001, 0, 1227, .null), (4, .aload_n 0, 1, 0, 0, 0, .null), (5, .bipush 7, 2, 0, 0, 0, .int 7), (7, .newarray .int, 2, 0, 0, 0, .null), (9, .putfield 7, 3, 10, 2, 1230, .null), (12, .aload_n 0, 1, 0, 0, 0, .null), (13, .sipush 984, 3, 0, 0, 0, .int 984)]),
  (1, [(16, .newarray .int, 2, 0, 0, 0, .null), (18, .putfield 22, 3, 10, 3, 1231, .null), (21, .aload_n 0, 1, 0, 0, 0, .null), (22, .sipush 1968, 3, 0, 0, 0, .int 1968), (25, .newarray .int, 2, 0, 0, 0, .null), (27, .putfield 25, 3, 10, 4, 1232, .null), (30, .aload_n 0, 1, 0, 0, 0, .null), (31, .iconst 2, 1, 0, 0, 0, .int 2)]),
  (2, [(32, .newarray .boolean, 2, 0, 0, 0, .null), (34, .putfield 28, 3, 10, 5, 1233, .null), (37, .aload_n 0, 1, 0, 0, 0, .null), (38, .bipush 53, 2, 0, 0, 0, .int 53), (40, .newarray .byte, 2, 0, 0, 0, .null), (42, .dup, 1, 0, 0, 0, .null), (43, .iconst 0, 1, 0, 0, 0, .int 0), (44, .bipush 102, 2, 0, 0, 0, .int 102), (46, .bastore, 1, 0, 0, 0, .null), (47, .dup, 1, 0, 0, 0, .null)]),
  (3, [(48, .iconst 1, 1, 0, 0, 0, .int 1), (49, .bipush 111, 2, 0, 0, 0, .int 111), (51, .bastore, 1, 0, 0, 0, .null), (52, .dup, 1, 0, 0, 0, .null), (53, .iconst 2, 1, 0, 0, 0, .int 2), (54, .bipush 114, 2, 0, 0, 0, .int 114), (56, .bastore, 1, 0, 0, 0, .null), (57, .dup, 1, 0, 0, 0, .null), (58, .iconst 3, 1, 0, 0, 0, .int 3), (59, .bipush 107, 2, 0, 0, 0, .int 107), (61, .bastore, 1, 0, 0, 0, .null), (62, .dup, 1, 0, 0, 0, .null), (63, .iconst 4, 1, 0, 0, 0, .int 4)]),
  (4, [(64, .bipush 32, 2, 0, 0, 0, .int 32), (66, .bastore, 1, 0, 0, 0, .null), (67, .dup, 1, 0, 0, 0, .null), (68, .iconst 5, 1, 0, 0, 0, .int 5), (69, .bipush 116, 2, 0, 0, 0, .int 116), (71, .bastore, 1, 0, 0, 0, .null), (72, .dup, 1, 0, 0, 0, .null), (73, .bipush 6, 2, 0, 0, 0, .int 6), (75, .bipush 111, 2, 0, 0, 0, .int 111), (77, .bastore, 1, 0, 0, 0, .null), (78, .dup, 1, 0, 0, 0, .null), (79, .bipush 7, 2, 0, 0, 0, .int 7)]),
  (5, [(81, .bipush 32, 2, 0, 0, 0, .int 32), (83, .bastore, 1, 0, 0, 0, .null), (84, .dup, 1, 0, 0, 0, .null), (85, .bipush 8, 2, 0, 0, 0, .int 8), (87, .bipush 116, 2, 0, 0, 0, .int 116), (89, .bastore, 1, 0, 0, 0, .null), (90, .dup, 1, 0, 0, 0, .null), (91, .bipush 9, 2, 0, 0, 0, .int 9), (93, .bipush 117, 2, 0, 0, 0, .int 117), (95, .bastore, 1, 0, 0, 0, .null)]),
  (6, [(96, .dup, 1, 0, 0, 0, .null), (97, .bipush 10, 2, 0, 0, 0, .int 10), (99, .bipush 114, 2, 0, 0, 0, .int 114), (101, .bastore, 1, 0, 0, 0, .null), (102, .dup, 1, 0, 0, 0, .null), (103, .bipush 11, 2, 0, 0, 0, .int 11), (105, .bipush 110, 2, 0, 0, 0, .int 110), (107, .bastore, 1, 0, 0, 0, .null), (108, .dup, 1, 0, 0, 0, .null), (109, .bipush 12, 2, 0, 0, 0, .int 12), (111, .bipush 32, 2, 0, 0, 0, .int 32)]),
  (7, [(113, .bastore, 1, 0, 0, 0, .null), (114, .dup, 1, 0, 0, 0, .null), (115, .bipush 13, 2, 0, 0, 0, .int 13), (117, .bipush 98, 2, 0, 0, 0, .int 98), (119, .bastore, 1, 0, 0, 0, .null), (120, .dup, 1, 0, 0, 0, .null), (121, .bipush 14, 2, 0, 0, 0, .int 14), (123, .bipush 121, 2, 0, 0, 0, .int 121), (125, .bastore, 1, 0, 0, 0, .null), (126, .dup, 1, 0, 0, 0, .null), (127, .bipush 15, 2, 0, 0, 0, .int 15)]),
  (8, [(129, .bipush 32, 2, 0, 0, 0, .int 32), (131, .bastore, 1, 0, 0, 0, .null), (132, .dup, 1, 0, 0, 0, .null), (133, .bipush 16, 2, 0, 0, 0, .int 16), (135, .bipush 105, 2, 0, 0, 0, .int 105), (137, .bastore, 1, 0, 0, 0, .null), (138, .dup, 1, 0, 0, 0, .null), (139, .bipush 17, 2, 0, 0, 0, .int 17), (141, .bipush 110, 2, 0, 0, 0, .int 110), (143, .bastore, 1, 0, 0, 0, .null)]),
  (9, [(144, .dup, 1, 0, 0, 0, .null), (145, .bipush 18, 2, 0, 0, 0, .int 18), (147, .bipush 110, 2, 0, 0, 0, .int 110), (149, .bastore, 1, 0, 0, 0, .null), (150, .dup, 1, 0, 0, 0, .null), (151, .bipush 19, 2, 0, 0, 0, .int 19), (153, .bipush 32, 2, 0, 0, 0, .int 32), (155, .bastore, 1, 0, 0, 0, .null), (156, .dup, 1, 0, 0, 0, .null), (157, .bipush 20, 2, 0, 0, 0, .int 20), (159, .bipush 101, 2, 0, 0, 0, .int 101)]),
  (10, [(161, .bastore, 1, 0, 0, 0, .null), (162, .dup, 1, 0, 0, 0, .null), (163, .bipush 21, 2, 0, 0, 0, .int 21), (165, .bipush 110, 2, 0, 0, 0, .int 110), (167, .bastore, 1, 0, 0, 0, .null), (168, .dup, 1, 0, 0, 0, .null), (169, .bipush 22, 2, 0, 0, 0, .int 22), (171, .bipush 100, 2, 0, 0, 0, .int 100), (173, .bastore, 1, 0, 0, 0, .null), (174, .dup, 1, 0, 0, 0, .null), (175, .bipush 23, 2, 0, 0, 0, .int 23)]),
  (11, [(177, .bipush 32, 2, 0, 0, 0, .int 32), (179, .bastore, 1, 0, 0, 0, .null), (180, .dup, 1, 0, 0, 0, .null), (181, .bipush 24, 2, 0, 0, 0, .int 24), (183, .bipush 105, 2, 0, 0, 0, .int 105), (185, .bastore, 1, 0, 0, 0, .null), (186, .dup, 1, 0, 0, 0, .null), (187, .bipush 25, 2, 0, 0, 0, .int 25), (189, .bipush 102, 2, 0, 0, 0, .int 102), (191, .bastore, 1, 0, 0, 0, .null)]),
  (12, [(192, .dup, 1, 0, 0, 0, .null), (193, .bipush 26, 2, 0, 0, 0, .int 26), (195, .bipush 32, 2, 0, 0, 0, .int 32), (197, .bastore, 1, 0, 0, 0, .null), (198, .dup, 1, 0, 0, 0, .null), (199, .bipush 27, 2, 0, 0, 0, .int 27), (201, .bipush 111, 2, 0, 0, 0, .int 111), (203, .bastore, 1, 0, 0, 0, .null), (204, .dup, 1, 0, 0, 0, .null), (205, .bipush 28, 2, 0, 0, 0, .int 28), (207, .bipush 114, 2, 0, 0, 0, .int 114)]),
  (13, [(209, .bastore, 1, 0, 0, 0, .null), (210, .dup, 1, 0, 0, 0, .null), (211, .bipush 29, 2, 0, 0, 0, .int 29), (213, .bipush 32, 2, 0, 0, 0, .int 32), (215, .bastore, 1, 0, 0, 0, .null), (216, .dup, 1, 0, 0, 0, .null), (217, .bipush 30, 2, 0, 0, 0, .int 30), (219, .bipush 97, 2, 0, 0, 0, .int 97), (221, .bastore, 1, 0, 0, 0, .null), (222, .dup, 1, 0, 0, 0, .null), (223, .bipush 31, 2, 0, 0, 0, .int 31)]),
  (14, [(225, .bipush 110, 2, 0, 0, 0, .int 110), (227, .bastore, 1, 0, 0, 0, .null), (228, .dup, 1, 0, 0, 0, .null), (229, .bipush 32, 2, 0, 0, 0, .int 32), (231, .bipush 100, 2, 0, 0, 0, .int 100), (233, .bastore, 1, 0, 0, 0, .null), (234, .dup, 1, 0, 0, 0, .null), (235, .bipush 33, 2, 0, 0, 0, .int 33), (237, .bipush 32, 2, 0, 0, 0, .int 32), (239, .bastore, 1, 0, 0, 0, .null)]),
  (15, [(240, .dup, 1, 0, 0, 0, .null), (241, .bipush 34, 2, 0, 0, 0, .int 34), (243, .bipush 110, 2, 0, 0, 0, .int 110), (245, .bastore, 1, 0, 0, 0, .null), (246, .dup, 1, 0, 0, 0, .null), (247, .bipush 35, 2, 0, 0, 0, .int 35), (249, .bipush 111, 2, 0, 0, 0, .int 111), (251, .bastore, 1, 0, 0, 0, .null), (252, .dup, 1, 0, 0, 0, .null), (253, .bipush 36, 2, 0, 0, 0, .int 36), (255, .bipush 116, 2, 0, 0, 0, .int 116)]),
  (16, [(257, .bastore, 1, 0, 0, 0, .null), (258, .dup, 1, 0, 0, 0, .null), (259, .bipush 37, 2, 0, 0, 0, .int 37), (261, .bipush 32, 2, 0, 0, 0, .int 32), (263, .bastore, 1, 0, 0, 0, .null), (264, .dup, 1, 0, 0, 0, .null), (265, .bipush 38, 2, 0, 0, 0, .int 38), (267, .bipush 115, 2, 0, 0, 0, .int 115), (269, .bastore, 1, 0, 0, 0, .null), (270, .dup, 1, 0, 0, 0, .null), (271, .bipush 39, 2, 0, 0, 0, .int 39)]),
  (17, [(273, .bipush 116, 2, 0, 0, 0, .int 116), (275, .bastore, 1, 0, 0, 0, .null), (276, .dup, 1, 0, 0, 0, .null), (277, .bipush 40, 2, 0, 0, 0, .int 40), (279, .bipush 101, 2, 0, 0, 0, .int 101), (281, .bastore, 1, 0, 0, 0, .null), (282, .dup, 1, 0, 0, 0, .null), (283, .bipush 41, 2, 0, 0, 0, .int 41), (285, .bipush 112, 2, 0, 0, 0, .int 112), (287, .bastore, 1, 0, 0, 0, .null)]),
  (18, [(288, .dup, 1, 0, 0, 0, .null), (289, .bipush 42, 2, 0, 0, 0, .int 42), (291, .bipush 32, 2, 0, 0, 0, .int 32), (293, .bastore, 1, 0, 0, 0, .null), (294, .dup, 1, 0, 0, 0, .null), (295, .bipush 43, 2, 0, 0, 0, .int 43), (297, .bipush 112, 2, 0, 0, 0, .int 112), (299, .bastore, 1, 0, 0, 0, .null), (300, .dup, 1, 0, 0, 0, .null), (301, .bipush 44, 2, 0, 0, 0, .int 44), (303, .bipush 108, 2, 0, 0, 0, .int 108)]),
  (19, [(305, .bastore, 1, 0, 0, 0, .null), (306, .dup, 1, 0, 0, 0, .null), (307, .bipush 45, 2, 0, 0, 0, .int 45), (309, .bipush 97, 2, 0, 0, 0, .int 97), (311, .bastore, 1, 0, 0, 0, .null), (312, .dup, 1, 0, 0, 0, .null), (313, .bipush 46, 2, 0, 0, 0, .int 46), (315, .bipush 99, 2, 0, 0, 0, .int 99), (317, .bastore, 1, 0, 0, 0, .null), (318, .dup, 1, 0, 0, 0, .null), (319, .bipush 47, 2, 0, 0, 0, .int 47)]),
  (20, [(321, .bipush 101, 2, 0, 0, 0, .int 101), (323, .bastore, 1, 0, 0, 0, .null), (324, .dup, 1, 0, 0, 0, .null), (325, .bipush 48, 2, 0, 0, 0, .int 48), (327, .bipush 32, 2, 0, 0, 0, .int 32), (329, .bastore, 1, 0, 0, 0, .null), (330, .dup, 1, 0, 0, 0, .null), (331, .bipush 49, 2, 0, 0, 0, .int 49), (333, .bipush 100, 2, 0, 0, 0, .int 100), (335, .bastore, 1, 0, 0, 0, .null)]),
  (21, [(336, .dup, 1, 0, 0, 0, .null), (337, .bipush 50, 2, 0, 0, 0, .int 50), (339, .bipush 97, 2, 0, 0, 0, .int 97), (341, .bastore, 1, 0, 0, 0, .null), (342, .dup, 1, 0, 0, 0, .null), (343, .bipush 51, 2, 0, 0, 0, .int 51), (345, .bipush 121, 2, 0, 0, 0, .int 121), (347, .bastore, 1, 0, 0, 0, .null), (348, .dup, 1, 0, 0, 0, .null), (349, .bipush 52, 2, 0, 0, 0, .int 52), (351, .bipush 32, 2, 0, 0, 0, .int 32)]),
  (22, [(353, .bastore, 1, 0, 0, 0, .null), (354, .putfield 32, 3, 10, 6, 1234, .null), (357, .aload_n 0, 1, 0, 0, 0, .null), (358, .sipush 400, 3, 0, 0, 0, .int 400), (361, .newarray .byte, 2, 0, 0, 0, .null), (363, .putfield 36, 3, 10, 7, 1235, .null), (366, .aload_n 0, 1, 0, 0, 0, .null), (367, .iconst 5, 1, 0, 0, 0, .int 5)]),
  (23, [(368, .newarray .int, 2, 0, 0, 0, .null), (370, .putfield 39, 3, 10, 8, 1236, .null), (373, .aload_n 0, 1, 0, 0, 0, .null), (374, .iconst (-1), 1, 0, 0, 0, .int (-1)), (375, .putfield 42, 3, 10, 10, 1238, .null), (378, .aload_n 0, 1, 0, 0, 0, .null), (379, .sipush 401, 3, 0, 0, 0, .int 401), (382, .newarray .int, 2, 0, 0, 0, .null)]),
  (24, [(384, .putfield 45, 3, 10, 11, 1239, .null), (387, .aload_n 0, 1, 0, 0, 0, .null), (388, .sipush 401, 3, 0, 0, 0, .int 401), (391, .newarray .int, 2, 0, 0, 0, .null), (393, .putfield 48, 3, 10, 12, 1240, .null), (396, .aload_n 0, 1, 0, 0, 0, .null), (397, .sipush 401, 3, 0, 0, 0, .int 401)]),
  (25, [(400, .newarray .int, 2, 0, 0, 0, .null), (402, .putfield 51, 3, 10, 13, 1241, .null), (405, .aload_n 0, 1, 0, 0, 0, .null), (406, .sipush 160, 3, 0, 0, 0, .int 160), (409, .newarray .int, 2, 0, 0, 0, .null), (411, .putfield 54, 3, 10, 18, 1246, .null), (414, .aload_n 0, 1, 0, 0, 0, .null), (415, .iconst 3, 1, 0, 0, 0, .int 3)]),
  (26, [(416, .newarray .int, 2, 0, 0, 0, .null), (418, .putfield 57, 3, 10, 24, 1252, .null), (421, .aload_n 0, 1, 0, 0, 0, .null), (422, .sipush 176, 3, 0, 0, 0, .int 176), (425, .newarray .int, 2, 0, 0, 0, .null), (427, .putfield 60, 3, 10, 25, 1253, .null), (430, .aload_n 0, 1, 0, 0, 0, .null), (431, .iconst (-1), 1, 0, 0, 0, .int (-1))]),
  (27, [(432, .putfield 63, 3, 10, 26, 1254, .null), (435, .aload_n 0, 1, 0, 0, 0, .null), (436, .bipush 18, 2, 0, 0, 0, .int 18), (438, .newarray .int, 2, 0, 0, 0, .null), (440, .putfield 66, 3, 10, 27, 1255, .null), (443, .aload_n 0, 1, 0, 0, 0, .null), (444, .sipush 176, 3, 0, 0, 0, .int 176), (447, .newarray .long, 2, 0, 0, 0, .null)]),
  (28, [(449, .putfield 69, 3, 10, 28, 1256, .null), (452, .aload_n 0, 1, 0, 0, 0, .null), (453, .bipush 6, 2, 0, 0, 0, .int 6), (455, .newarray .int, 2, 0, 0, 0, .null), (457, .putfield 73, 3, 10, 30, 1258, .null), (460, .aload_n 0, 1, 0, 0, 0, .null), (461, .bipush 6, 2, 0, 0, 0, .int 6), (463, .newarray .int, 2, 0, 0, 0, .null)]),
  (29, [(465, .putfield 76, 3, 10, 31, 1259, .null), (468, .aload_n 0, 1, 0, 0, 0, .null), (469, .bipush 18, 2, 0, 0, 0, .int 18), (471, .newarray .int, 2, 0, 0, 0, .null), (473, .putfield 79, 3, 10, 35, 1263, .null), (476, .aload_n 0, 1, 0, 0, 0, .null), (477, .sipush 1936, 3, 0, 0, 0, .int 1936)]),
  (30, [(480, .newarray .long, 2, 0, 0, 0, .null), (482, .putfield 82, 3, 10, 36, 1264, .null), (485, .aload_n 0, 1, 0, 0, 0, .null), (486, .bipush 12, 2, 0, 0, 0, .int 12), (488, .newarray .int, 2, 0, 0, 0, .null), (490, .putfield 85, 3, 10, 37, 1265, .null), (493, .aload_n 0, 1, 0, 0, 0, .null), (494, .sipush 352, 3, 0, 0, 0, .int 352)]),
  (31, [(497, .newarray .long, 2, 0, 0, 0, .null), (499, .putfield 88, 3, 10, 38, 1266, .null), (502, .aload_n 0, 1, 0, 0, 0, .null), (503, .sipush 176, 3, 0, 0, 0, .int 176), (506, .newarray .long, 2, 0, 0, 0, .null), (508, .putfield 91, 3, 10, 39, 1267, .null), (511, .aload_n 0, 1, 0, 0, 0, .null)]),
  (32, [(512, .bipush 18, 2, 0, 0, 0, .int 18), (514, .newarray .long, 2, 0, 0, 0, .null), (516, .putfield 94, 3, 10, 40, 1268, .null), (519, .aload_n 0, 1, 0, 0, 0, .null), (520, .sipush 2304, 3, 0, 0, 0, .int 2304), (523, .newarray .long, 2, 0, 0, 0, .null), (525, .putfield 97, 3, 10, 41, 1269, .null)]),
  (33, [(528, .aload_n 0, 1, 0, 0, 0, .null), (529, .sipush 2304, 3, 0, 0, 0, .int 2304), (532, .newarray .long, 2, 0, 0, 0, .null), (534, .putfield 100, 3, 10, 42, 1270, .null), (537, .aload_n 0, 1, 0, 0, 0, .null), (538, .bipush 11, 2, 0, 0, 0, .int 11), (540, .newarray .int, 2, 0, 0, 0, .null), (542, .putfield 103, 3, 10, 45, 1273, .null)]),
  (34, [(545, .aload_n 0, 1, 0, 0, 0, .null), (546, .iconst (-1), 1, 0, 0, 0, .int (-1)), (547, .putfield 106, 3, 10, 46, 1274, .null), (550, .aload_n 0, 1, 0, 0, 0, .null), (551, .getfield 22, 3, 10, 3, 1231, .null), (554, .sipush 179, 3, 0, 0, 0, .int 179), (557, .bipush 10, 2, 0, 0, 0, .int 10), (559, .iastore, 1, 0, 0, 0, .null)]),
  (35, [(560, .iconst 0, 1, 0, 0, 0, .int 0), (561, .istore_n 1, 1, 0, 0, 0, .null), (562, .iload_n 1, 1, 0, 0, 0, .null), (563, .bipush 6, 2, 0, 0, 0, .int 6), (565, .if_icmp .ge 23, 3, 588, 0, 0, .null), (568, .aload_n 0, 1, 0, 0, 0, .null), (569, .getfield 22, 3, 10, 3, 1231, .null), (572, .sipush 160, 3, 0, 0, 0, .int 160), (575, .iconst 3, 1, 0, 0, 0, .int 3)]),
  (36, [(576, .iload_n 1, 1, 0, 0, 0, .null), (577, .imul, 1, 0, 0, 0, .null), (578, .iadd, 1, 0, 0, 0, .null), (579, .bipush 10, 2, 0, 0, 0, .int 10), (581, .iastore, 1, 0, 0, 0, .null), (582, .iinc 1 1, 3, 0, 0, 0, .int 1), (585, .goto (-23), 3, 562, 0, 0, .null), (588, .return_, 1, 0, 0, 0, .null)])]
def uX10_init : List (Nat × List Nat) := [(562, [0, 1])]
def qX10_image : CD := [(0, [(0, .iload_n 1, 1, 0, 0, 0, .null), (1, .iconst 0, 1, 0, 0, 0, .int 0), (2, .iconst 1, 1, 0, 0, 0, .int 1), (3, .invokestatic 109, 3, 144, 303, 1380, .null), (6, .ifCond .ne 9, 3, 15, 0, 0, .null), (9, .aload_n 0, 1, 0, 0, 0, .null), (10, .iconst (-1), 1, 0, 0, 0, .int (-1)), (11, .invokevirtual 113, 3, 145, 10101, 1383, .null), (14, .ireturn, 1, 0, 0, 0, .null), (15, .iconst 0, 1, 0, 0, 0, .int 0)]),
  (1, [(16, .istore_n 2, 1, 0, 0, 0, .null), (17, .iload_n 2, 1, 0, 0, 0, .null), (18, .sipush 984, 3, 0, 0, 0, .int 984), (21, .if_icmp .ge 27, 3, 48, 0, 0, .null), (24, .aload_n 0, 1, 0, 0, 0, .null), (25, .getfield 25, 3, 10, 4, 1232, .null), (28, .sipush 984, 3, 0, 0, 0, .int 984), (31, .iload_n 1, 1, 0, 0, 0, .null)]),
  (2, [(32, .imul, 1, 0, 0, 0, .null), (33, .iload_n 2, 1, 0, 0, 0, .null), (34, .iadd, 1, 0, 0, 0, .null), (35, .aload_n 0, 1, 0, 0, 0, .null), (36, .getfield 22, 3, 10, 3, 1231, .null), (39, .iload_n 2, 1, 0, 0, 0, .null), (40, .iaload, 1, 0, 0, 0, .null), (41, .iastore, 1, 0, 0, 0, .null), (42, .iinc 2 1, 3, 0, 0, 0, .int 1), (45, .goto (-28), 3, 17, 0, 0, .null)]),
  (3, [(48, .aload_n 0, 1, 0, 0, 0, .null), (49, .getfield 28, 3, 10, 5, 1233, .null), (52, .iload_n 1, 1, 0, 0, 0, .null), (53, .iconst 1, 1, 0, 0, 0, .int 1), (54, .bastore, 1, 0, 0, 0, .null), (55, .aload_n 0, 1, 0, 0, 0, .null), (56, .iconst 0, 1, 0, 0, 0, .int 0), (57, .invokevirtual 117, 3, 146, 10101, 1387, .null), (60, .ireturn, 1, 0, 0, 0, .null)])]
def uX10_image : List (Nat × List Nat) := [(17, [0, 1, 2])]
def qX10_back : CD := [(0, [(0, .iload_n 1, 1, 0, 0, 0, .null), (1, .iconst 0, 1, 0, 0, 0, .int 0), (2, .iconst 1, 1, 0, 0, 0, .int 1), (3, .invokestatic 109, 3, 144, 303, 1380, .null), (6, .ifCond .ne 9, 3, 15, 0, 0, .null), (9, .aload_n 0, 1, 0, 0, 0, .null), (10, .iconst (-1), 1, 0, 0, 0, .int (-1)), (11, .invokevirtual 113, 3, 145, 10101, 1383, .null), (14, .ireturn, 1, 0, 0, 0, .null), (15, .aload_n 0, 1, 0, 0, 0, .null)]),
  (1, [(16, .getfield 28, 3, 10, 5, 1233, .null), (19, .iload_n 1, 1, 0, 0, 0, .null), (20, .baload, 1, 0, 0, 0, .null), (21, .ifCond .ne 10, 3, 31, 0, 0, .null), (24, .aload_n 0, 1, 0, 0, 0, .null), (25, .bipush (-2), 2, 0, 0, 0, .int (-2)), (27, .invokevirtual 113, 3, 145, 10101, 1383, .null), (30, .ireturn, 1, 0, 0, 0, .null), (31, .iconst 0, 1, 0, 0, 0, .int 0)]),
  (2, [(32, .istore_n 2, 1, 0, 0, 0, .null), (33, .iload_n 2, 1, 0, 0, 0, .null), (34, .sipush 984, 3, 0, 0, 0, .int 984), (37, .if_icmp .ge 27, 3, 64, 0, 0, .null), (40, .aload_n 0, 1, 0, 0, 0, .null), (41, .getfield 22, 3, 10, 3, 1231, .null), (44, .iload_n 2, 1, 0, 0, 0, .null), (45, .aload_n 0, 1, 0, 0, 0, .null), (46, .getfield 25, 3, 10, 4, 1232, .null)]),
  (3, [(49, .sipush 984, 3, 0, 0, 0, .int 984), (52, .iload_n 1, 1, 0, 0, 0, .null), (53, .imul, 1, 0, 0, 0, .null), (54, .iload_n 2, 1, 0, 0, 0, .null), (55, .iadd, 1, 0, 0, 0, .null), (56, .iaload, 1, 0, 0, 0, .null), (57, .iastore, 1, 0, 0, 0, .null), (58, .iinc 2 1, 3, 0, 0, 0, .int 1), (61, .goto (-28), 3, 33, 0, 0, .null)]),
  (4, [(64, .aload_n 0, 1, 0, 0, 0, .null), (65, .iconst 0, 1, 0, 0, 0, .int 0), (66, .invokevirtual 117, 3, 146, 10101, 1387, .null), (69, .ireturn, 1, 0, 0, 0, .null)])]
def uX10_back : List (Nat × List Nat) := [(33, [0, 1, 2])]
def qX10_places : CD := [(0, [(0, .aload_n 0, 1, 0, 0, 0, .null), (1, .getfield 22, 3, 10, 3, 1231, .null), (4, .sipush 182, 3, 0, 0, 0, .int 182), (7, .iaload, 1, 0, 0, 0, .null), (8, .ireturn, 1, 0, 0, 0, .null)])]
def uX10_places : List (Nat × List Nat) := []
def qX10_day : CD := [(0, [(0, .aload_n 0, 1, 0, 0, 0, .null), (1, .getfield 22, 3, 10, 3, 1231, .null), (4, .sipush 179, 3, 0, 0, 0, .int 179), (7, .iaload, 1, 0, 0, 0, .null), (8, .ireturn, 1, 0, 0, 0, .null)])]
def uX10_day : List (Nat × List Nat) := []
def qX10_isPlace : CD := [(0, [(0, .iload_n 1, 1, 0, 0, 0, .null), (1, .iconst 0, 1, 0, 0, 0, .int 0), (2, .aload_n 0, 1, 0, 0, 0, .null), (3, .invokevirtual 120, 3, 153, 10100, 1493, .null), (6, .iconst 1, 1, 0, 0, 0, .int 1), (7, .isub, 1, 0, 0, 0, .null), (8, .invokestatic 109, 3, 144, 303, 1380, .null), (11, .ireturn, 1, 0, 0, 0, .null)])]
def uX10_isPlace : List (Nat × List Nat) := []
def qX10_placeOf : CD := [(0, [(0, .aload_n 0, 1, 0, 0, 0, .null), (1, .getfield 22, 3, 10, 3, 1231, .null), (4, .iconst 0, 1, 0, 0, 0, .int 0), (5, .bipush 10, 2, 0, 0, 0, .int 10), (7, .iload_n 1, 1, 0, 0, 0, .null), (8, .imul, 1, 0, 0, 0, .null), (9, .iadd, 1, 0, 0, 0, .null), (10, .iload_n 2, 1, 0, 0, 0, .null), (11, .iadd, 1, 0, 0, 0, .null), (12, .iaload, 1, 0, 0, 0, .null), (13, .ireturn, 1, 0, 0, 0, .null)])]
def uX10_placeOf : List (Nat × List Nat) := []
def qX10_isFork : CD := [(0, [(0, .aload_n 0, 1, 0, 0, 0, .null), (1, .iload_n 1, 1, 0, 0, 0, .null), (2, .invokevirtual 124, 3, 155, 10301, 1489, .null), (5, .ifCond .eq 16, 3, 21, 0, 0, .null), (8, .aload_n 0, 1, 0, 0, 0, .null), (9, .iload_n 1, 1, 0, 0, 0, .null), (10, .iconst 0, 1, 0, 0, 0, .int 0), (11, .invokevirtual 128, 3, 156, 10102, 1497, .null), (14, .ifCond .ne 7, 3, 21, 0, 0, .null)]),
  (1, [(17, .iconst 1, 1, 0, 0, 0, .int 1), (18, .goto 4, 3, 22, 0, 0, .null), (21, .iconst 0, 1, 0, 0, 0, .int 0), (22, .ireturn, 1, 0, 0, 0, .null)])]
def uX10_isFork : List (Nat × List Nat) := []
def qX10_isLook : CD := [(0, [(0, .iload_n 0, 1, 0, 0, 0, .null), (1, .iconst 0, 1, 0, 0, 0, .int 0), (2, .iconst 5, 1, 0, 0, 0, .int 5), (3, .invokestatic 109, 3, 144, 303, 1380, .null), (6, .ireturn, 1, 0, 0, 0, .null)])]
def uX10_isLook : List (Nat × List Nat) := []
def qX10_feed : CD := [(0, [(0, .aload_n 0, 1, 0, 0, 0, .null), (1, .getfield 132, 3, 10, 9, 1237, .null), (4, .bipush 20, 2, 0, 0, 0, .int 20), (6, .iadd, 1, 0, 0, 0, .null), (7, .sipush 400, 3, 0, 0, 0, .int 400), (10, .if_icmp .le 5, 3, 15, 0, 0, .null), (13, .iconst (-1), 1, 0, 0, 0, .int (-1)), (14, .ireturn, 1, 0, 0, 0, .null), (15, .aload_n 0, 1, 0, 0, 0, .null)]),
  (1, [(16, .getfield 39, 3, 10, 8, 1236, .null), (19, .iconst 0, 1, 0, 0, 0, .int 0), (20, .iload_n 1, 1, 0, 0, 0, .null), (21, .iastore, 1, 0, 0, 0, .null), (22, .aload_n 0, 1, 0, 0, 0, .null), (23, .getfield 39, 3, 10, 8, 1236, .null), (26, .iconst 1, 1, 0, 0, 0, .int 1), (27, .iload_n 2, 1, 0, 0, 0, .null), (28, .iastore, 1, 0, 0, 0, .null), (29, .aload_n 0, 1, 0, 0, 0, .null), (30, .getfield 39, 3, 10, 8, 1236, .null)]),
  (2, [(33, .iconst 2, 1, 0, 0, 0, .int 2), (34, .iload_n 3, 1, 0, 0, 0, .null), (35, .iastore, 1, 0, 0, 0, .null), (36, .aload_n 0, 1, 0, 0, 0, .null), (37, .getfield 39, 3, 10, 8, 1236, .null), (40, .iconst 3, 1, 0, 0, 0, .int 3), (41, .iload 4, 2, 0, 0, 0, .null), (43, .iastore, 1, 0, 0, 0, .null), (44, .aload_n 0, 1, 0, 0, 0, .null), (45, .getfield 39, 3, 10, 8, 1236, .null)]),
  (3, [(48, .iconst 4, 1, 0, 0, 0, .int 4), (49, .iload 5, 2, 0, 0, 0, .null), (51, .iastore, 1, 0, 0, 0, .null), (52, .iconst 0, 1, 0, 0, 0, .int 0), (53, .istore 6, 2, 0, 0, 0, .null), (55, .iload 6, 2, 0, 0, 0, .null), (57, .bipush 20, 2, 0, 0, 0, .int 20), (59, .if_icmp .ge 42, 3, 101, 0, 0, .null), (62, .aload_n 0, 1, 0, 0, 0, .null), (63, .getfield 36, 3, 10, 7, 1235, .null)]),
  (4, [(66, .aload_n 0, 1, 0, 0, 0, .null), (67, .getfield 132, 3, 10, 9, 1237, .null), (70, .iload 6, 2, 0, 0, 0, .null), (72, .iadd, 1, 0, 0, 0, .null), (73, .aload_n 0, 1, 0, 0, 0, .null), (74, .getfield 39, 3, 10, 8, 1236, .null), (77, .iload 6, 2, 0, 0, 0, .null), (79, .iconst 4, 1, 0, 0, 0, .int 4)]),
  (5, [(80, .idiv, 1, 0, 0, 0, .null), (81, .iaload, 1, 0, 0, 0, .null), (82, .bipush 24, 2, 0, 0, 0, .int 24), (84, .bipush 8, 2, 0, 0, 0, .int 8), (86, .iload 6, 2, 0, 0, 0, .null), (88, .iconst 4, 1, 0, 0, 0, .int 4), (89, .irem, 1, 0, 0, 0, .null), (90, .imul, 1, 0, 0, 0, .null), (91, .isub, 1, 0, 0, 0, .null), (92, .ishr, 1, 0, 0, 0, .null), (93, .i2b, 1, 0, 0, 0, .null), (94, .bastore, 1, 0, 0, 0, .null), (95, .iinc 6 1, 3, 0, 0, 0, .int 1)]),
  (6, [(98, .goto (-43), 3, 55, 0, 0, .null), (101, .aload_n 0, 1, 0, 0, 0, .null), (102, .dup, 1, 0, 0, 0, .null), (103, .getfield 132, 3, 10, 9, 1237, .null), (106, .bipush 20, 2, 0, 0, 0, .int 20), (108, .iadd, 1, 0, 0, 0, .null), (109, .putfield 132, 3, 10, 9, 1237, .null)]),
  (7, [(112, .aload_n 0, 1, 0, 0, 0, .null), (113, .getfield 132, 3, 10, 9, 1237, .null), (116, .ireturn, 1, 0, 0, 0, .null)])]
def uX10_feed : List (Nat × List Nat) := [(55, [0, 6])]
def qX10_end : CD := [(0, [(0, .iload_n 1, 1, 0, 0, 0, .null), (1, .iconst 0, 1, 0, 0, 0, .int 0), (2, .aload_n 0, 1, 0, 0, 0, .null), (3, .getfield 132, 3, 10, 9, 1237, .null), (6, .invokestatic 109, 3, 144, 303, 1380, .null), (9, .ifCond .ne 5, 3, 14, 0, 0, .null), (12, .iconst (-1), 1, 0, 0, 0, .int (-1)), (13, .ireturn, 1, 0, 0, 0, .null), (14, .aload_n 0, 1, 0, 0, 0, .null), (15, .iload_n 1, 1, 0, 0, 0, .null)]),
  (1, [(16, .putfield 132, 3, 10, 9, 1237, .null), (19, .iload_n 1, 1, 0, 0, 0, .null), (20, .ireturn, 1, 0, 0, 0, .null)])]
def uX10_end : List (Nat × List Nat) := []
def qX10_isSmall : CD := [(0, [(0, .iload_n 0, 1, 0, 0, 0, .null), (1, .bipush 97, 2, 0, 0, 0, .int 97), (3, .if_icmp .lt 13, 3, 16, 0, 0, .null), (6, .iload_n 0, 1, 0, 0, 0, .null), (7, .bipush 122, 2, 0, 0, 0, .int 122), (9, .if_icmp .gt 7, 3, 16, 0, 0, .null), (12, .iconst 1, 1, 0, 0, 0, .int 1), (13, .goto 4, 3, 17, 0, 0, .null)]),
  (1, [(16, .iconst 0, 1, 0, 0, 0, .int 0), (17, .ireturn, 1, 0, 0, 0, .null)])]
def uX10_isSmall : List (Nat × List Nat) := []
def qX10_isDigit : CD := [(0, [(0, .iload_n 0, 1, 0, 0, 0, .null), (1, .bipush 48, 2, 0, 0, 0, .int 48), (3, .if_icmp .lt 13, 3, 16, 0, 0, .null), (6, .iload_n 0, 1, 0, 0, 0, .null), (7, .bipush 57, 2, 0, 0, 0, .int 57), (9, .if_icmp .gt 7, 3, 16, 0, 0, .null), (12, .iconst 1, 1, 0, 0, 0, .int 1), (13, .goto 4, 3, 17, 0, 0, .null)]),
  (1, [(16, .iconst 0, 1, 0, 0, 0, .int 0), (17, .ireturn, 1, 0, 0, 0, .null)])]
def uX10_isDigit : List (Nat × List Nat) := []
def qX10_wordOf : CD := [(0, [(0, .iconst 1, 1, 0, 0, 0, .int 1), (1, .istore_n 3, 1, 0, 0, 0, .null), (2, .iconst 0, 1, 0, 0, 0, .int 0), (3, .istore 4, 2, 0, 0, 0, .null), (5, .iload 4, 2, 0, 0, 0, .null), (7, .aload_n 0, 1, 0, 0, 0, .null), (8, .getfield 32, 3, 10, 6, 1234, .null), (11, .arraylength, 1, 0, 0, 0, .null), (12, .if_icmp .ge 114, 3, 126, 0, 0, .null), (15, .iconst 0, 1, 0, 0, 0, .int 0)]),
  (1, [(16, .istore 5, 2, 0, 0, 0, .null), (18, .aload_n 0, 1, 0, 0, 0, .null), (19, .getfield 32, 3, 10, 6, 1234, .null), (22, .iload 4, 2, 0, 0, 0, .null), (24, .iload 5, 2, 0, 0, 0, .null), (26, .iadd, 1, 0, 0, 0, .null), (27, .baload, 1, 0, 0, 0, .null), (28, .bipush 32, 2, 0, 0, 0, .int 32), (30, .if_icmp .eq 9, 3, 39, 0, 0, .null)]),
  (2, [(33, .iinc 5 1, 3, 0, 0, 0, .int 1), (36, .goto (-18), 3, 18, 0, 0, .null), (39, .iload 5, 2, 0, 0, 0, .null), (41, .iload_n 2, 1, 0, 0, 0, .null), (42, .iload_n 1, 1, 0, 0, 0, .null), (43, .isub, 1, 0, 0, 0, .null), (44, .if_icmp .ne 7, 3, 51, 0, 0, .null), (47, .iconst 1, 1, 0, 0, 0, .int 1)]),
  (3, [(48, .goto 4, 3, 52, 0, 0, .null), (51, .iconst 0, 1, 0, 0, 0, .int 0), (52, .istore 6, 2, 0, 0, 0, .null), (54, .iconst 0, 1, 0, 0, 0, .int 0), (55, .istore 7, 2, 0, 0, 0, .null), (57, .iload 7, 2, 0, 0, 0, .null), (59, .iload 5, 2, 0, 0, 0, .null), (61, .if_icmp .ge 43, 3, 104, 0, 0, .null)]),
  (4, [(64, .iload 6, 2, 0, 0, 0, .null), (66, .ifCond .eq 38, 3, 104, 0, 0, .null), (69, .aload_n 0, 1, 0, 0, 0, .null), (70, .getfield 32, 3, 10, 6, 1234, .null), (73, .iload 4, 2, 0, 0, 0, .null), (75, .iload 7, 2, 0, 0, 0, .null), (77, .iadd, 1, 0, 0, 0, .null), (78, .baload, 1, 0, 0, 0, .null), (79, .aload_n 0, 1, 0, 0, 0, .null)]),
  (5, [(80, .getfield 36, 3, 10, 7, 1235, .null), (83, .iload_n 1, 1, 0, 0, 0, .null), (84, .iload 7, 2, 0, 0, 0, .null), (86, .iadd, 1, 0, 0, 0, .null), (87, .baload, 1, 0, 0, 0, .null), (88, .if_icmp .ne 7, 3, 95, 0, 0, .null), (91, .iconst 1, 1, 0, 0, 0, .int 1), (92, .goto 4, 3, 96, 0, 0, .null), (95, .iconst 0, 1, 0, 0, 0, .int 0)]),
  (6, [(96, .istore 6, 2, 0, 0, 0, .null), (98, .iinc 7 1, 3, 0, 0, 0, .int 1), (101, .goto (-44), 3, 57, 0, 0, .null), (104, .iload 6, 2, 0, 0, 0, .null), (106, .ifCond .eq 5, 3, 111, 0, 0, .null), (109, .iload_n 3, 1, 0, 0, 0, .null), (110, .ireturn, 1, 0, 0, 0, .null), (111, .iload 4, 2, 0, 0, 0, .null)]),
  (7, [(113, .iload 5, 2, 0, 0, 0, .null), (115, .iconst 1, 1, 0, 0, 0, .int 1), (116, .iadd, 1, 0, 0, 0, .null), (117, .iadd, 1, 0, 0, 0, .null), (118, .istore 4, 2, 0, 0, 0, .null), (120, .iinc 3 1, 3, 0, 0, 0, .int 1), (123, .goto (-118), 3, 5, 0, 0, .null), (126, .iconst 0, 1, 0, 0, 0, .int 0), (127, .ireturn, 1, 0, 0, 0, .null)])]
def uX10_wordOf : List (Nat × List Nat) := [(5, [0, 1, 2, 3, 4]), (18, [0, 1, 2, 3, 4, 5]), (57, [0, 1, 2, 3, 4, 5, 6, 7])]
def qX10_splits : CD := [(0, [(0, .aload_n 0, 1, 0, 0, 0, .null), (1, .iconst 0, 1, 0, 0, 0, .int 0), (2, .putfield 135, 3, 10, 14, 1242, .null), (5, .iconst 0, 1, 0, 0, 0, .int 0), (6, .istore_n 2, 1, 0, 0, 0, .null), (7, .iload_n 2, 1, 0, 0, 0, .null), (8, .iload_n 1, 1, 0, 0, 0, .null), (9, .if_icmp .ge 254, 3, 263, 0, 0, .null), (12, .aload_n 0, 1, 0, 0, 0, .null), (13, .getfield 36, 3, 10, 7, 1235, .null)]),
  (1, [(16, .iload_n 2, 1, 0, 0, 0, .null), (17, .baload, 1, 0, 0, 0, .null), (18, .istore_n 3, 1, 0, 0, 0, .null), (19, .iload_n 3, 1, 0, 0, 0, .null), (20, .bipush 32, 2, 0, 0, 0, .int 32), (22, .if_icmp .ne 9, 3, 31, 0, 0, .null), (25, .iinc 2 1, 3, 0, 0, 0, .int 1), (28, .goto (-21), 3, 7, 0, 0, .null), (31, .iload_n 2, 1, 0, 0, 0, .null)]),
  (2, [(32, .iconst 1, 1, 0, 0, 0, .int 1), (33, .iadd, 1, 0, 0, 0, .null), (34, .istore 4, 2, 0, 0, 0, .null), (36, .iload_n 3, 1, 0, 0, 0, .null), (37, .invokestatic 138, 3, 161, 301, 1411, .null), (40, .ifCond .eq 28, 3, 68, 0, 0, .null), (43, .iload 4, 2, 0, 0, 0, .null), (45, .iload_n 1, 1, 0, 0, 0, .null), (46, .if_icmp .ge 22, 3, 68, 0, 0, .null)]),
  (3, [(49, .aload_n 0, 1, 0, 0, 0, .null), (50, .getfield 36, 3, 10, 7, 1235, .null), (53, .iload 4, 2, 0, 0, 0, .null), (55, .baload, 1, 0, 0, 0, .null), (56, .invokestatic 138, 3, 161, 301, 1411, .null), (59, .ifCond .eq 9, 3, 68, 0, 0, .null), (62, .iinc 4 1, 3, 0, 0, 0, .int 1)]),
  (4, [(65, .goto (-22), 3, 43, 0, 0, .null), (68, .iload_n 3, 1, 0, 0, 0, .null), (69, .invokestatic 141, 3, 162, 301, 1414, .null), (72, .ifCond .eq 28, 3, 100, 0, 0, .null), (75, .iload 4, 2, 0, 0, 0, .null), (77, .iload_n 1, 1, 0, 0, 0, .null), (78, .if_icmp .ge 22, 3, 100, 0, 0, .null)]),
  (5, [(81, .aload_n 0, 1, 0, 0, 0, .null), (82, .getfield 36, 3, 10, 7, 1235, .null), (85, .iload 4, 2, 0, 0, 0, .null), (87, .baload, 1, 0, 0, 0, .null), (88, .invokestatic 141, 3, 162, 301, 1414, .null), (91, .ifCond .eq 9, 3, 100, 0, 0, .null), (94, .iinc 4 1, 3, 0, 0, 0, .int 1)]),
  (6, [(97, .goto (-22), 3, 75, 0, 0, .null), (100, .aload_n 0, 1, 0, 0, 0, .null), (101, .getfield 51, 3, 10, 13, 1241, .null), (104, .aload_n 0, 1, 0, 0, 0, .null), (105, .getfield 135, 3, 10, 14, 1242, .null), (108, .iload_n 2, 1, 0, 0, 0, .null), (109, .iastore, 1, 0, 0, 0, .null), (110, .aload_n 0, 1, 0, 0, 0, .null), (111, .getfield 48, 3, 10, 12, 1240, .null)]),
  (7, [(114, .aload_n 0, 1, 0, 0, 0, .null), (115, .getfield 135, 3, 10, 14, 1242, .null), (118, .iconst 0, 1, 0, 0, 0, .int 0), (119, .iastore, 1, 0, 0, 0, .null), (120, .aload_n 0, 1, 0, 0, 0, .null), (121, .getfield 45, 3, 10, 11, 1239, .null), (124, .aload_n 0, 1, 0, 0, 0, .null), (125, .getfield 135, 3, 10, 14, 1242, .null)]),
  (8, [(128, .iload_n 3, 1, 0, 0, 0, .null), (129, .invokestatic 138, 3, 161, 301, 1411, .null), (132, .ifCond .eq 13, 3, 145, 0, 0, .null), (135, .aload_n 0, 1, 0, 0, 0, .null), (136, .iload_n 2, 1, 0, 0, 0, .null), (137, .iload 4, 2, 0, 0, 0, .null), (139, .invokevirtual 144, 3, 163, 10102, 1417, .null), (142, .goto 23, 3, 165, 0, 0, .null)]),
  (9, [(145, .iload_n 3, 1, 0, 0, 0, .null), (146, .invokestatic 141, 3, 162, 301, 1414, .null), (149, .ifCond .eq 8, 3, 157, 0, 0, .null), (152, .bipush 50, 2, 0, 0, 0, .int 50), (154, .goto 11, 3, 165, 0, 0, .null), (157, .bipush 100, 2, 0, 0, 0, .int 100), (159, .iload_n 3, 1, 0, 0, 0, .null)]),
  (10, [(160, .sipush 255, 3, 0, 0, 0, .int 255), (163, .iand, 1, 0, 0, 0, .null), (164, .iadd, 1, 0, 0, 0, .null), (165, .iastore, 1, 0, 0, 0, .null), (166, .iload_n 2, 1, 0, 0, 0, .null), (167, .istore 5, 2, 0, 0, 0, .null), (169, .iload 5, 2, 0, 0, 0, .null), (171, .iload 4, 2, 0, 0, 0, .null), (173, .if_icmp .ge 74, 3, 247, 0, 0, .null)]),
  (11, [(176, .iload_n 3, 1, 0, 0, 0, .null), (177, .invokestatic 141, 3, 162, 301, 1414, .null), (180, .ifCond .eq 67, 3, 247, 0, 0, .null), (183, .aload_n 0, 1, 0, 0, 0, .null), (184, .getfield 48, 3, 10, 12, 1240, .null), (187, .aload_n 0, 1, 0, 0, 0, .null), (188, .getfield 135, 3, 10, 14, 1242, .null), (191, .aload_n 0, 1, 0, 0, 0, .null)]),
  (12, [(192, .getfield 48, 3, 10, 12, 1240, .null), (195, .aload_n 0, 1, 0, 0, 0, .null), (196, .getfield 135, 3, 10, 14, 1242, .null), (199, .iaload, 1, 0, 0, 0, .null), (200, .ldc 147, 2, 0, 0, 1421, .int 1000000), (202, .if_icmp .le 15, 3, 217, 0, 0, .null), (205, .aload_n 0, 1, 0, 0, 0, .null), (206, .getfield 48, 3, 10, 12, 1240, .null)]),
  (13, [(209, .aload_n 0, 1, 0, 0, 0, .null), (210, .getfield 135, 3, 10, 14, 1242, .null), (213, .iaload, 1, 0, 0, 0, .null), (214, .goto 26, 3, 240, 0, 0, .null), (217, .bipush 10, 2, 0, 0, 0, .int 10), (219, .aload_n 0, 1, 0, 0, 0, .null), (220, .getfield 48, 3, 10, 12, 1240, .null), (223, .aload_n 0, 1, 0, 0, 0, .null)]),
  (14, [(224, .getfield 135, 3, 10, 14, 1242, .null), (227, .iaload, 1, 0, 0, 0, .null), (228, .imul, 1, 0, 0, 0, .null), (229, .aload_n 0, 1, 0, 0, 0, .null), (230, .getfield 36, 3, 10, 7, 1235, .null), (233, .iload 5, 2, 0, 0, 0, .null), (235, .baload, 1, 0, 0, 0, .null), (236, .iadd, 1, 0, 0, 0, .null), (237, .bipush 48, 2, 0, 0, 0, .int 48), (239, .isub, 1, 0, 0, 0, .null)]),
  (15, [(240, .iastore, 1, 0, 0, 0, .null), (241, .iinc 5 1, 3, 0, 0, 0, .int 1), (244, .goto (-75), 3, 169, 0, 0, .null), (247, .aload_n 0, 1, 0, 0, 0, .null), (248, .dup, 1, 0, 0, 0, .null), (249, .getfield 135, 3, 10, 14, 1242, .null), (252, .iconst 1, 1, 0, 0, 0, .int 1), (253, .iadd, 1, 0, 0, 0, .null), (254, .putfield 135, 3, 10, 14, 1242, .null)]),
  (16, [(257, .iload 4, 2, 0, 0, 0, .null), (259, .istore_n 2, 1, 0, 0, 0, .null), (260, .goto (-253), 3, 7, 0, 0, .null), (263, .aload_n 0, 1, 0, 0, 0, .null), (264, .getfield 51, 3, 10, 13, 1241, .null), (267, .aload_n 0, 1, 0, 0, 0, .null), (268, .getfield 135, 3, 10, 14, 1242, .null), (271, .iload_n 1, 1, 0, 0, 0, .null)]),
  (17, [(272, .iastore, 1, 0, 0, 0, .null), (273, .aload_n 0, 1, 0, 0, 0, .null), (274, .getfield 45, 3, 10, 11, 1239, .null), (277, .aload_n 0, 1, 0, 0, 0, .null), (278, .getfield 135, 3, 10, 14, 1242, .null), (281, .iconst 0, 1, 0, 0, 0, .int 0), (282, .iastore, 1, 0, 0, 0, .null), (283, .aload_n 0, 1, 0, 0, 0, .null), (284, .getfield 48, 3, 10, 12, 1240, .null), (287, .aload_n 0, 1, 0, 0, 0, .null)]),
  (18, [(288, .getfield 135, 3, 10, 14, 1242, .null), (291, .iconst 0, 1, 0, 0, 0, .int 0), (292, .iastore, 1, 0, 0, 0, .null), (293, .return_, 1, 0, 0, 0, .null)])]
def uX10_splits : List (Nat × List Nat) := [(7, [0, 1, 2]), (43, [0, 1, 2, 3, 4]), (75, [0, 1, 2, 3, 4]), (100, [0, 1, 2, 3, 4]), (169, [0, 1, 3, 4, 5])]
def qX10_fine : CD := [(0, [(0, .aload_n 0, 1, 0, 0, 0, .null), (1, .getfield 148, 3, 10, 17, 1245, .null), (4, .iconst (-1), 1, 0, 0, 0, .int (-1)), (5, .if_icmp .ne 7, 3, 12, 0, 0, .null), (8, .iconst 1, 1, 0, 0, 0, .int 1), (9, .goto 4, 3, 13, 0, 0, .null), (12, .iconst 0, 1, 0, 0, 0, .int 0), (13, .ireturn, 1, 0, 0, 0, .null)])]
def uX10_fine : List (Nat × List Nat) := []
def qX10_faults : CD := [(0, [(0, .aload_n 0, 1, 0, 0, 0, .null), (1, .invokevirtual 151, 3, 165, 10300, 1426, .null), (4, .ifCond .eq 16, 3, 20, 0, 0, .null), (7, .aload_n 0, 1, 0, 0, 0, .null), (8, .aload_n 0, 1, 0, 0, 0, .null), (9, .getfield 51, 3, 10, 13, 1241, .null), (12, .aload_n 0, 1, 0, 0, 0, .null), (13, .getfield 155, 3, 10, 15, 1243, .null)]),
  (1, [(16, .iaload, 1, 0, 0, 0, .null), (17, .putfield 148, 3, 10, 17, 1245, .null), (20, .return_, 1, 0, 0, 0, .null)])]
def uX10_faults : List (Nat × List Nat) := []
def qX10_takes0 : CD := [(0, [(0, .aload_n 0, 1, 0, 0, 0, .null), (1, .invokevirtual 151, 3, 165, 10300, 1426, .null), (4, .ifCond .eq 20, 3, 24, 0, 0, .null), (7, .aload_n 0, 1, 0, 0, 0, .null), (8, .getfield 45, 3, 10, 11, 1239, .null), (11, .aload_n 0, 1, 0, 0, 0, .null), (12, .getfield 155, 3, 10, 15, 1243, .null), (15, .iaload, 1, 0, 0, 0, .null)]),
  (1, [(16, .iload_n 1, 1, 0, 0, 0, .null), (17, .if_icmp .ne 7, 3, 24, 0, 0, .null), (20, .iconst 1, 1, 0, 0, 0, .int 1), (21, .goto 4, 3, 25, 0, 0, .null), (24, .iconst 0, 1, 0, 0, 0, .int 0), (25, .istore_n 2, 1, 0, 0, 0, .null), (26, .iload_n 2, 1, 0, 0, 0, .null), (27, .ifCond .eq 13, 3, 40, 0, 0, .null), (30, .aload_n 0, 1, 0, 0, 0, .null), (31, .dup, 1, 0, 0, 0, .null)]),
  (2, [(32, .getfield 155, 3, 10, 15, 1243, .null), (35, .iconst 1, 1, 0, 0, 0, .int 1), (36, .iadd, 1, 0, 0, 0, .null), (37, .putfield 155, 3, 10, 15, 1243, .null), (40, .iload_n 2, 1, 0, 0, 0, .null), (41, .ireturn, 1, 0, 0, 0, .null)])]
def uX10_takes0 : List (Nat × List Nat) := []
def qX10_must : CD := [(0, [(0, .aload_n 0, 1, 0, 0, 0, .null), (1, .iload_n 1, 1, 0, 0, 0, .null), (2, .invokevirtual 158, 3, 167, 10301, 1434, .null), (5, .ifCond .ne 7, 3, 12, 0, 0, .null), (8, .aload_n 0, 1, 0, 0, 0, .null), (9, .invokevirtual 161, 3, 166, 10000, 1422, .null), (12, .return_, 1, 0, 0, 0, .null)])]
def uX10_must : List (Nat × List Nat) := []
def qX10_leaf : CD := [(0, [(0, .aload_n 0, 1, 0, 0, 0, .null), (1, .getfield 164, 3, 10, 16, 1244, .null), (4, .bipush 50, 2, 0, 0, 0, .int 50), (6, .if_icmp .ne 7, 3, 13, 0, 0, .null), (9, .aload_n 0, 1, 0, 0, 0, .null), (10, .invokevirtual 161, 3, 166, 10000, 1422, .null), (13, .aload_n 0, 1, 0, 0, 0, .null), (14, .dup, 1, 0, 0, 0, .null), (15, .getfield 164, 3, 10, 16, 1244, .null)]),
  (1, [(18, .iconst 1, 1, 0, 0, 0, .int 1), (19, .iadd, 1, 0, 0, 0, .null), (20, .putfield 164, 3, 10, 16, 1244, .null), (23, .aload_n 0, 1, 0, 0, 0, .null), (24, .invokevirtual 151, 3, 165, 10300, 1426, .null), (27, .ifCond .eq 13, 3, 40, 0, 0, .null), (30, .aload_n 0, 1, 0, 0, 0, .null), (31, .dup, 1, 0, 0, 0, .null)]),
  (2, [(32, .getfield 155, 3, 10, 15, 1243, .null), (35, .iconst 1, 1, 0, 0, 0, .int 1), (36, .iadd, 1, 0, 0, 0, .null), (37, .putfield 155, 3, 10, 15, 1243, .null), (40, .return_, 1, 0, 0, 0, .null)])]
def uX10_leaf : List (Nat × List Nat) := [(13, [0])]
def qX10_sign : CD := [(0, [(0, .bipush 100, 2, 0, 0, 0, .int 100), (2, .iload_n 0, 1, 0, 0, 0, .null), (3, .iadd, 1, 0, 0, 0, .null), (4, .ireturn, 1, 0, 0, 0, .null)])]
def uX10_sign : List (Nat × List Nat) := []
def qX10_readTest : CD := [(0, [(0, .aload_n 0, 1, 0, 0, 0, .null), (1, .iload_n 1, 1, 0, 0, 0, .null), (2, .invokevirtual 167, 3, 172, 10001, 1469, .null), (5, .aload_n 0, 1, 0, 0, 0, .null), (6, .bipush 8, 2, 0, 0, 0, .int 8), (8, .invokevirtual 158, 3, 167, 10301, 1434, .null), (11, .ifCond .eq 11, 3, 22, 0, 0, .null), (14, .aload_n 0, 1, 0, 0, 0, .null), (15, .iload_n 1, 1, 0, 0, 0, .null)]),
  (1, [(16, .invokevirtual 167, 3, 172, 10001, 1469, .null), (19, .goto (-14), 3, 5, 0, 0, .null), (22, .return_, 1, 0, 0, 0, .null)])]
def uX10_readTest : List (Nat × List Nat) := [(5, [0, 1])]
def qX10_readBoth : CD := [(0, [(0, .aload_n 0, 1, 0, 0, 0, .null), (1, .iload_n 1, 1, 0, 0, 0, .null), (2, .invokevirtual 171, 3, 173, 10001, 1473, .null), (5, .aload_n 0, 1, 0, 0, 0, .null), (6, .bipush 9, 2, 0, 0, 0, .int 9), (8, .invokevirtual 158, 3, 167, 10301, 1434, .null), (11, .ifCond .eq 11, 3, 22, 0, 0, .null), (14, .aload_n 0, 1, 0, 0, 0, .null), (15, .iload_n 1, 1, 0, 0, 0, .null)]),
  (1, [(16, .invokevirtual 171, 3, 173, 10001, 1473, .null), (19, .goto (-14), 3, 5, 0, 0, .null), (22, .return_, 1, 0, 0, 0, .null)])]
def uX10_readBoth : List (Nat × List Nat) := [(5, [0, 1])]
def qX10_readPlain : CD := [(0, [(0, .iconst 1, 1, 0, 0, 0, .int 1), (1, .istore_n 2, 1, 0, 0, 0, .null), (2, .iload_n 2, 1, 0, 0, 0, .null), (3, .ifCond .eq 13, 3, 16, 0, 0, .null), (6, .aload_n 0, 1, 0, 0, 0, .null), (7, .bipush 10, 2, 0, 0, 0, .int 10), (9, .invokevirtual 158, 3, 167, 10301, 1434, .null), (12, .istore_n 2, 1, 0, 0, 0, .null), (13, .goto (-11), 3, 2, 0, 0, .null)]),
  (1, [(16, .aload_n 0, 1, 0, 0, 0, .null), (17, .invokevirtual 151, 3, 165, 10300, 1426, .null), (20, .ifCond .ne 4, 3, 24, 0, 0, .null), (23, .return_, 1, 0, 0, 0, .null), (24, .aload_n 0, 1, 0, 0, 0, .null), (25, .getfield 45, 3, 10, 11, 1239, .null), (28, .aload_n 0, 1, 0, 0, 0, .null), (29, .getfield 155, 3, 10, 15, 1243, .null)]),
  (2, [(32, .iaload, 1, 0, 0, 0, .null), (33, .istore_n 3, 1, 0, 0, 0, .null), (34, .iload_n 3, 1, 0, 0, 0, .null), (35, .bipush 40, 2, 0, 0, 0, .int 40), (37, .invokestatic 174, 3, 170, 101, 1446, .null), (40, .if_icmp .ne 50, 3, 90, 0, 0, .null), (43, .iload_n 1, 1, 0, 0, 0, .null), (44, .bipush 8, 2, 0, 0, 0, .int 8), (46, .if_icmp .ne 7, 3, 53, 0, 0, .null)]),
  (3, [(49, .aload_n 0, 1, 0, 0, 0, .null), (50, .invokevirtual 161, 3, 166, 10000, 1422, .null), (53, .aload_n 0, 1, 0, 0, 0, .null), (54, .invokevirtual 151, 3, 165, 10300, 1426, .null), (57, .ifCond .ne 4, 3, 61, 0, 0, .null), (60, .return_, 1, 0, 0, 0, .null), (61, .aload_n 0, 1, 0, 0, 0, .null), (62, .dup, 1, 0, 0, 0, .null), (63, .getfield 155, 3, 10, 15, 1243, .null)]),
  (4, [(66, .iconst 1, 1, 0, 0, 0, .int 1), (67, .iadd, 1, 0, 0, 0, .null), (68, .putfield 155, 3, 10, 15, 1243, .null), (71, .aload_n 0, 1, 0, 0, 0, .null), (72, .iload_n 1, 1, 0, 0, 0, .null), (73, .iconst 1, 1, 0, 0, 0, .int 1), (74, .iadd, 1, 0, 0, 0, .null), (75, .invokevirtual 178, 3, 171, 10001, 1465, .null), (78, .aload_n 0, 1, 0, 0, 0, .null), (79, .bipush 41, 2, 0, 0, 0, .int 41)]),
  (5, [(81, .invokestatic 174, 3, 170, 101, 1446, .null), (84, .invokevirtual 181, 3, 168, 10001, 1442, .null), (87, .goto 46, 3, 133, 0, 0, .null), (90, .aload_n 0, 1, 0, 0, 0, .null), (91, .iload_n 1, 1, 0, 0, 0, .null), (92, .invokevirtual 184, 3, 174, 10001, 1449, .null), (95, .aload_n 0, 1, 0, 0, 0, .null)]),
  (6, [(96, .bipush 60, 2, 0, 0, 0, .int 60), (98, .invokestatic 174, 3, 170, 101, 1446, .null), (101, .invokevirtual 158, 3, 167, 10301, 1434, .null), (104, .ifCond .ne 24, 3, 128, 0, 0, .null), (107, .aload_n 0, 1, 0, 0, 0, .null), (108, .bipush 62, 2, 0, 0, 0, .int 62), (110, .invokestatic 174, 3, 170, 101, 1446, .null)]),
  (7, [(113, .invokevirtual 158, 3, 167, 10301, 1434, .null), (116, .ifCond .ne 12, 3, 128, 0, 0, .null), (119, .aload_n 0, 1, 0, 0, 0, .null), (120, .bipush 61, 2, 0, 0, 0, .int 61), (122, .invokestatic 174, 3, 170, 101, 1446, .null), (125, .invokevirtual 181, 3, 168, 10001, 1442, .null)]),
  (8, [(128, .aload_n 0, 1, 0, 0, 0, .null), (129, .iload_n 1, 1, 0, 0, 0, .null), (130, .invokevirtual 184, 3, 174, 10001, 1449, .null), (133, .return_, 1, 0, 0, 0, .null)])]
def uX10_readPlain : List (Nat × List Nat) := [(2, [0, 1, 2]), (53, [0, 1])]
def qX10_readSum : CD := [(0, [(0, .aload_n 0, 1, 0, 0, 0, .null), (1, .iload_n 1, 1, 0, 0, 0, .null), (2, .invokevirtual 187, 3, 175, 10001, 1453, .null), (5, .aload_n 0, 1, 0, 0, 0, .null), (6, .bipush 43, 2, 0, 0, 0, .int 43), (8, .invokestatic 174, 3, 170, 101, 1446, .null), (11, .invokevirtual 158, 3, 167, 10301, 1434, .null), (14, .ifCond .ne 15, 3, 29, 0, 0, .null)]),
  (1, [(17, .aload_n 0, 1, 0, 0, 0, .null), (18, .bipush 45, 2, 0, 0, 0, .int 45), (20, .invokestatic 174, 3, 170, 101, 1446, .null), (23, .invokevirtual 158, 3, 167, 10301, 1434, .null), (26, .ifCond .eq 11, 3, 37, 0, 0, .null), (29, .aload_n 0, 1, 0, 0, 0, .null), (30, .iload_n 1, 1, 0, 0, 0, .null), (31, .invokevirtual 187, 3, 175, 10001, 1453, .null)]),
  (2, [(34, .goto (-29), 3, 5, 0, 0, .null), (37, .return_, 1, 0, 0, 0, .null)])]
def uX10_readSum : List (Nat × List Nat) := [(5, [0, 1])]
def qX10_readTerm : CD := [(0, [(0, .aload_n 0, 1, 0, 0, 0, .null), (1, .iload_n 1, 1, 0, 0, 0, .null), (2, .invokevirtual 190, 3, 176, 10001, 1457, .null), (5, .aload_n 0, 1, 0, 0, 0, .null), (6, .bipush 42, 2, 0, 0, 0, .int 42), (8, .invokestatic 174, 3, 170, 101, 1446, .null), (11, .invokevirtual 158, 3, 167, 10301, 1434, .null), (14, .ifCond .ne 15, 3, 29, 0, 0, .null)]),
  (1, [(17, .aload_n 0, 1, 0, 0, 0, .null), (18, .bipush 47, 2, 0, 0, 0, .int 47), (20, .invokestatic 174, 3, 170, 101, 1446, .null), (23, .invokevirtual 158, 3, 167, 10301, 1434, .null), (26, .ifCond .eq 11, 3, 37, 0, 0, .null), (29, .aload_n 0, 1, 0, 0, 0, .null), (30, .iload_n 1, 1, 0, 0, 0, .null), (31, .invokevirtual 190, 3, 176, 10001, 1457, .null)]),
  (2, [(34, .goto (-29), 3, 5, 0, 0, .null), (37, .return_, 1, 0, 0, 0, .null)])]
def uX10_readTerm : List (Nat × List Nat) := [(5, [0, 1])]
def qX10_readPart : CD := [(0, [(0, .aload_n 0, 1, 0, 0, 0, .null), (1, .invokevirtual 151, 3, 165, 10300, 1426, .null), (4, .ifCond .ne 4, 3, 8, 0, 0, .null), (7, .return_, 1, 0, 0, 0, .null), (8, .aload_n 0, 1, 0, 0, 0, .null), (9, .getfield 45, 3, 10, 11, 1239, .null), (12, .aload_n 0, 1, 0, 0, 0, .null), (13, .getfield 155, 3, 10, 15, 1243, .null)]),
  (1, [(16, .iaload, 1, 0, 0, 0, .null), (17, .istore_n 2, 1, 0, 0, 0, .null), (18, .iload_n 2, 1, 0, 0, 0, .null), (19, .bipush 91, 2, 0, 0, 0, .int 91), (21, .invokestatic 174, 3, 170, 101, 1446, .null), (24, .if_icmp .ne 50, 3, 74, 0, 0, .null), (27, .iload_n 1, 1, 0, 0, 0, .null), (28, .bipush 8, 2, 0, 0, 0, .int 8), (30, .if_icmp .ne 7, 3, 37, 0, 0, .null)]),
  (2, [(33, .aload_n 0, 1, 0, 0, 0, .null), (34, .invokevirtual 161, 3, 166, 10000, 1422, .null), (37, .aload_n 0, 1, 0, 0, 0, .null), (38, .invokevirtual 151, 3, 165, 10300, 1426, .null), (41, .ifCond .ne 4, 3, 45, 0, 0, .null), (44, .return_, 1, 0, 0, 0, .null), (45, .aload_n 0, 1, 0, 0, 0, .null), (46, .dup, 1, 0, 0, 0, .null), (47, .getfield 155, 3, 10, 15, 1243, .null)]),
  (3, [(50, .iconst 1, 1, 0, 0, 0, .int 1), (51, .iadd, 1, 0, 0, 0, .null), (52, .putfield 155, 3, 10, 15, 1243, .null), (55, .aload_n 0, 1, 0, 0, 0, .null), (56, .iload_n 1, 1, 0, 0, 0, .null), (57, .iconst 1, 1, 0, 0, 0, .int 1), (58, .iadd, 1, 0, 0, 0, .null), (59, .invokevirtual 184, 3, 174, 10001, 1449, .null), (62, .aload_n 0, 1, 0, 0, 0, .null), (63, .bipush 93, 2, 0, 0, 0, .int 93)]),
  (4, [(65, .invokestatic 174, 3, 170, 101, 1446, .null), (68, .invokevirtual 181, 3, 168, 10001, 1442, .null), (71, .goto 47, 3, 118, 0, 0, .null), (74, .iload_n 2, 1, 0, 0, 0, .null), (75, .bipush 50, 2, 0, 0, 0, .int 50), (77, .if_icmp .ne 18, 3, 95, 0, 0, .null)]),
  (5, [(80, .aload_n 0, 1, 0, 0, 0, .null), (81, .getfield 48, 3, 10, 12, 1240, .null), (84, .aload_n 0, 1, 0, 0, 0, .null), (85, .getfield 155, 3, 10, 15, 1243, .null), (88, .iaload, 1, 0, 0, 0, .null), (89, .sipush 1000, 3, 0, 0, 0, .int 1000), (92, .if_icmp .le 15, 3, 107, 0, 0, .null), (95, .iload_n 2, 1, 0, 0, 0, .null)]),
  (6, [(96, .bipush 11, 2, 0, 0, 0, .int 11), (98, .if_icmp .lt 16, 3, 114, 0, 0, .null), (101, .iload_n 2, 1, 0, 0, 0, .null), (102, .bipush 13, 2, 0, 0, 0, .int 13), (104, .if_icmp .gt 10, 3, 114, 0, 0, .null), (107, .aload_n 0, 1, 0, 0, 0, .null), (108, .invokevirtual 193, 3, 169, 10000, 1461, .null), (111, .goto 7, 3, 118, 0, 0, .null)]),
  (7, [(114, .aload_n 0, 1, 0, 0, 0, .null), (115, .invokevirtual 161, 3, 166, 10000, 1422, .null), (118, .return_, 1, 0, 0, 0, .null)])]
def uX10_readPart : List (Nat × List Nat) := [(37, [0, 1]), (95, [0, 2])]
def qX10_number : CD := [(0, [(0, .aload_n 0, 1, 0, 0, 0, .null), (1, .invokevirtual 151, 3, 165, 10300, 1426, .null), (4, .ifCond .eq 34, 3, 38, 0, 0, .null), (7, .aload_n 0, 1, 0, 0, 0, .null), (8, .getfield 45, 3, 10, 11, 1239, .null), (11, .aload_n 0, 1, 0, 0, 0, .null), (12, .getfield 155, 3, 10, 15, 1243, .null), (15, .iaload, 1, 0, 0, 0, .null)]),
  (1, [(16, .bipush 50, 2, 0, 0, 0, .int 50), (18, .if_icmp .ne 20, 3, 38, 0, 0, .null), (21, .aload_n 0, 1, 0, 0, 0, .null), (22, .getfield 48, 3, 10, 12, 1240, .null), (25, .aload_n 0, 1, 0, 0, 0, .null), (26, .getfield 155, 3, 10, 15, 1243, .null), (29, .iaload, 1, 0, 0, 0, .null), (30, .iload_n 1, 1, 0, 0, 0, .null), (31, .iload_n 2, 1, 0, 0, 0, .null)]),
  (2, [(32, .invokestatic 109, 3, 144, 303, 1380, .null), (35, .ifCond .ne 9, 3, 44, 0, 0, .null), (38, .aload_n 0, 1, 0, 0, 0, .null), (39, .invokevirtual 161, 3, 166, 10000, 1422, .null), (42, .iconst 0, 1, 0, 0, 0, .int 0), (43, .ireturn, 1, 0, 0, 0, .null), (44, .aload_n 0, 1, 0, 0, 0, .null), (45, .aload_n 0, 1, 0, 0, 0, .null), (46, .getfield 48, 3, 10, 12, 1240, .null)]),
  (3, [(49, .aload_n 0, 1, 0, 0, 0, .null), (50, .getfield 155, 3, 10, 15, 1243, .null), (53, .iaload, 1, 0, 0, 0, .null), (54, .putfield 196, 3, 10, 20, 1248, .null), (57, .aload_n 0, 1, 0, 0, 0, .null), (58, .dup, 1, 0, 0, 0, .null), (59, .getfield 155, 3, 10, 15, 1243, .null), (62, .iconst 1, 1, 0, 0, 0, .int 1), (63, .iadd, 1, 0, 0, 0, .null)]),
  (4, [(64, .putfield 155, 3, 10, 15, 1243, .null), (67, .iconst 1, 1, 0, 0, 0, .int 1), (68, .ireturn, 1, 0, 0, 0, .null)])]
def uX10_number : List (Nat × List Nat) := []
def qX10_readPlace : CD := [(0, [(0, .bipush 10, 2, 0, 0, 0, .int 10), (2, .aload_n 0, 1, 0, 0, 0, .null), (3, .getfield 199, 3, 10, 19, 1247, .null), (6, .imul, 1, 0, 0, 0, .null), (7, .istore_n 1, 1, 0, 0, 0, .null), (8, .iconst 0, 1, 0, 0, 0, .int 0), (9, .istore_n 2, 1, 0, 0, 0, .null), (10, .iload_n 2, 1, 0, 0, 0, .null), (11, .bipush 10, 2, 0, 0, 0, .int 10), (13, .if_icmp .ge 18, 3, 31, 0, 0, .null)]),
  (1, [(16, .aload_n 0, 1, 0, 0, 0, .null), (17, .getfield 54, 3, 10, 18, 1246, .null), (20, .iload_n 1, 1, 0, 0, 0, .null), (21, .iload_n 2, 1, 0, 0, 0, .null), (22, .iadd, 1, 0, 0, 0, .null), (23, .iconst 0, 1, 0, 0, 0, .int 0), (24, .iastore, 1, 0, 0, 0, .null), (25, .iinc 2 1, 3, 0, 0, 0, .int 1), (28, .goto (-18), 3, 10, 0, 0, .null), (31, .aload_n 0, 1, 0, 0, 0, .null)]),
  (2, [(32, .iconst 1, 1, 0, 0, 0, .int 1), (33, .invokevirtual 158, 3, 167, 10301, 1434, .null), (36, .ifCond .eq 135, 3, 171, 0, 0, .null), (39, .aload_n 0, 1, 0, 0, 0, .null), (40, .iconst 0, 1, 0, 0, 0, .int 0), (41, .iconst 5, 1, 0, 0, 0, .int 5), (42, .invokevirtual 202, 3, 177, 10302, 1438, .null), (45, .ifCond .ne 4, 3, 49, 0, 0, .null)]),
  (3, [(48, .return_, 1, 0, 0, 0, .null), (49, .aload_n 0, 1, 0, 0, 0, .null), (50, .getfield 54, 3, 10, 18, 1246, .null), (53, .iload_n 1, 1, 0, 0, 0, .null), (54, .iconst 1, 1, 0, 0, 0, .int 1), (55, .iadd, 1, 0, 0, 0, .null), (56, .aload_n 0, 1, 0, 0, 0, .null), (57, .getfield 196, 3, 10, 20, 1248, .null), (60, .iastore, 1, 0, 0, 0, .null), (61, .aload_n 0, 1, 0, 0, 0, .null), (62, .iconst 2, 1, 0, 0, 0, .int 2), (63, .invokevirtual 181, 3, 168, 10001, 1442, .null)]),
  (4, [(66, .iconst 1, 1, 0, 0, 0, .int 1), (67, .istore_n 2, 1, 0, 0, 0, .null), (68, .iload_n 2, 1, 0, 0, 0, .null), (69, .ifCond .eq 99, 3, 168, 0, 0, .null), (72, .aload_n 0, 1, 0, 0, 0, .null), (73, .iconst 0, 1, 0, 0, 0, .int 0), (74, .bipush 15, 2, 0, 0, 0, .int 15), (76, .invokevirtual 202, 3, 177, 10302, 1438, .null), (79, .ifCond .eq 89, 3, 168, 0, 0, .null)]),
  (5, [(82, .aload_n 0, 1, 0, 0, 0, .null), (83, .getfield 54, 3, 10, 18, 1246, .null), (86, .iload_n 1, 1, 0, 0, 0, .null), (87, .iconst 3, 1, 0, 0, 0, .int 3), (88, .iadd, 1, 0, 0, 0, .null), (89, .aload_n 0, 1, 0, 0, 0, .null), (90, .getfield 54, 3, 10, 18, 1246, .null), (93, .iload_n 1, 1, 0, 0, 0, .null), (94, .iconst 2, 1, 0, 0, 0, .int 2), (95, .iadd, 1, 0, 0, 0, .null)]),
  (6, [(96, .iaload, 1, 0, 0, 0, .null), (97, .iadd, 1, 0, 0, 0, .null), (98, .aload_n 0, 1, 0, 0, 0, .null), (99, .getfield 196, 3, 10, 20, 1248, .null), (102, .iastore, 1, 0, 0, 0, .null), (103, .aload_n 0, 1, 0, 0, 0, .null), (104, .getfield 54, 3, 10, 18, 1246, .null), (107, .iload_n 1, 1, 0, 0, 0, .null), (108, .iconst 2, 1, 0, 0, 0, .int 2), (109, .iadd, 1, 0, 0, 0, .null), (110, .dup2, 1, 0, 0, 0, .null), (111, .iaload, 1, 0, 0, 0, .null)]),
  (7, [(112, .iconst 1, 1, 0, 0, 0, .int 1), (113, .iadd, 1, 0, 0, 0, .null), (114, .iastore, 1, 0, 0, 0, .null), (115, .aload_n 0, 1, 0, 0, 0, .null), (116, .getfield 54, 3, 10, 18, 1246, .null), (119, .iload_n 1, 1, 0, 0, 0, .null), (120, .iconst 2, 1, 0, 0, 0, .int 2), (121, .iadd, 1, 0, 0, 0, .null), (122, .iaload, 1, 0, 0, 0, .null), (123, .iconst 3, 1, 0, 0, 0, .int 3), (124, .if_icmp .ne 31, 3, 155, 0, 0, .null), (127, .aload_n 0, 1, 0, 0, 0, .null)]),
  (8, [(128, .invokevirtual 151, 3, 165, 10300, 1426, .null), (131, .ifCond .eq 24, 3, 155, 0, 0, .null), (134, .aload_n 0, 1, 0, 0, 0, .null), (135, .getfield 45, 3, 10, 11, 1239, .null), (138, .aload_n 0, 1, 0, 0, 0, .null), (139, .getfield 155, 3, 10, 15, 1243, .null), (142, .iaload, 1, 0, 0, 0, .null), (143, .bipush 44, 2, 0, 0, 0, .int 44)]),
  (9, [(145, .invokestatic 174, 3, 170, 101, 1446, .null), (148, .if_icmp .ne 7, 3, 155, 0, 0, .null), (151, .aload_n 0, 1, 0, 0, 0, .null), (152, .invokevirtual 161, 3, 166, 10000, 1422, .null), (155, .aload_n 0, 1, 0, 0, 0, .null), (156, .bipush 44, 2, 0, 0, 0, .int 44), (158, .invokestatic 174, 3, 170, 101, 1446, .null)]),
  (10, [(161, .invokevirtual 158, 3, 167, 10301, 1434, .null), (164, .istore_n 2, 1, 0, 0, 0, .null), (165, .goto (-97), 3, 68, 0, 0, .null), (168, .goto 314, 3, 482, 0, 0, .null), (171, .aload_n 0, 1, 0, 0, 0, .null), (172, .iconst 3, 1, 0, 0, 0, .int 3), (173, .invokevirtual 158, 3, 167, 10301, 1434, .null)]),
  (11, [(176, .ifCond .eq 183, 3, 359, 0, 0, .null), (179, .aload_n 0, 1, 0, 0, 0, .null), (180, .getfield 54, 3, 10, 18, 1246, .null), (183, .iload_n 1, 1, 0, 0, 0, .null), (184, .iconst 1, 1, 0, 0, 0, .int 1), (185, .iastore, 1, 0, 0, 0, .null), (186, .iconst 0, 1, 0, 0, 0, .int 0), (187, .istore_n 2, 1, 0, 0, 0, .null), (188, .iconst 1, 1, 0, 0, 0, .int 1), (189, .istore_n 3, 1, 0, 0, 0, .null), (190, .iload_n 3, 1, 0, 0, 0, .null), (191, .ifCond .eq 155, 3, 346, 0, 0, .null)]),
  (12, [(194, .aload_n 0, 1, 0, 0, 0, .null), (195, .iconst 0, 1, 0, 0, 0, .int 0), (196, .bipush 15, 2, 0, 0, 0, .int 15), (198, .invokevirtual 202, 3, 177, 10302, 1438, .null), (201, .ifCond .eq 145, 3, 346, 0, 0, .null), (204, .aload_n 0, 1, 0, 0, 0, .null), (205, .getfield 54, 3, 10, 18, 1246, .null)]),
  (13, [(208, .iload_n 1, 1, 0, 0, 0, .null), (209, .iconst 2, 1, 0, 0, 0, .int 2), (210, .iadd, 1, 0, 0, 0, .null), (211, .iaload, 1, 0, 0, 0, .null), (212, .istore 4, 2, 0, 0, 0, .null), (214, .aload_n 0, 1, 0, 0, 0, .null), (215, .getfield 54, 3, 10, 18, 1246, .null), (218, .iload_n 1, 1, 0, 0, 0, .null), (219, .iconst 3, 1, 0, 0, 0, .int 3), (220, .iadd, 1, 0, 0, 0, .null), (221, .iload 4, 2, 0, 0, 0, .null), (223, .iadd, 1, 0, 0, 0, .null)]),
  (14, [(224, .aload_n 0, 1, 0, 0, 0, .null), (225, .getfield 196, 3, 10, 20, 1248, .null), (228, .iastore, 1, 0, 0, 0, .null), (229, .aload_n 0, 1, 0, 0, 0, .null), (230, .iconst 4, 1, 0, 0, 0, .int 4), (231, .invokevirtual 181, 3, 168, 10001, 1442, .null), (234, .aload_n 0, 1, 0, 0, 0, .null), (235, .iconst 1, 1, 0, 0, 0, .int 1), (236, .bipush 10, 2, 0, 0, 0, .int 10), (238, .iload_n 2, 1, 0, 0, 0, .null), (239, .isub, 1, 0, 0, 0, .null)]),
  (15, [(240, .ifCond .le 10, 3, 250, 0, 0, .null), (243, .bipush 10, 2, 0, 0, 0, .int 10), (245, .iload_n 2, 1, 0, 0, 0, .null), (246, .isub, 1, 0, 0, 0, .null), (247, .goto 4, 3, 251, 0, 0, .null), (250, .iconst 0, 1, 0, 0, 0, .int 0), (251, .invokevirtual 202, 3, 177, 10302, 1438, .null), (254, .ifCond .ne 4, 3, 258, 0, 0, .null)]),
  (16, [(257, .return_, 1, 0, 0, 0, .null), (258, .iload_n 2, 1, 0, 0, 0, .null), (259, .aload_n 0, 1, 0, 0, 0, .null), (260, .getfield 196, 3, 10, 20, 1248, .null), (263, .iadd, 1, 0, 0, 0, .null), (264, .istore_n 2, 1, 0, 0, 0, .null), (265, .aload_n 0, 1, 0, 0, 0, .null), (266, .getfield 54, 3, 10, 18, 1246, .null), (269, .iload_n 1, 1, 0, 0, 0, .null), (270, .bipush 6, 2, 0, 0, 0, .int 6)]),
  (17, [(272, .iadd, 1, 0, 0, 0, .null), (273, .iload 4, 2, 0, 0, 0, .null), (275, .iadd, 1, 0, 0, 0, .null), (276, .aload_n 0, 1, 0, 0, 0, .null), (277, .getfield 196, 3, 10, 20, 1248, .null), (280, .iastore, 1, 0, 0, 0, .null), (281, .aload_n 0, 1, 0, 0, 0, .null), (282, .getfield 54, 3, 10, 18, 1246, .null), (285, .iload_n 1, 1, 0, 0, 0, .null), (286, .iconst 2, 1, 0, 0, 0, .int 2), (287, .iadd, 1, 0, 0, 0, .null)]),
  (18, [(288, .dup2, 1, 0, 0, 0, .null), (289, .iaload, 1, 0, 0, 0, .null), (290, .iconst 1, 1, 0, 0, 0, .int 1), (291, .iadd, 1, 0, 0, 0, .null), (292, .iastore, 1, 0, 0, 0, .null), (293, .aload_n 0, 1, 0, 0, 0, .null), (294, .getfield 54, 3, 10, 18, 1246, .null), (297, .iload_n 1, 1, 0, 0, 0, .null), (298, .iconst 2, 1, 0, 0, 0, .int 2), (299, .iadd, 1, 0, 0, 0, .null), (300, .iaload, 1, 0, 0, 0, .null), (301, .iconst 3, 1, 0, 0, 0, .int 3), (302, .if_icmp .ne 31, 3, 333, 0, 0, .null)]),
  (19, [(305, .aload_n 0, 1, 0, 0, 0, .null), (306, .invokevirtual 151, 3, 165, 10300, 1426, .null), (309, .ifCond .eq 24, 3, 333, 0, 0, .null), (312, .aload_n 0, 1, 0, 0, 0, .null), (313, .getfield 45, 3, 10, 11, 1239, .null), (316, .aload_n 0, 1, 0, 0, 0, .null), (317, .getfield 155, 3, 10, 15, 1243, .null)]),
  (20, [(320, .iaload, 1, 0, 0, 0, .null), (321, .bipush 44, 2, 0, 0, 0, .int 44), (323, .invokestatic 174, 3, 170, 101, 1446, .null), (326, .if_icmp .ne 7, 3, 333, 0, 0, .null), (329, .aload_n 0, 1, 0, 0, 0, .null), (330, .invokevirtual 161, 3, 166, 10000, 1422, .null), (333, .aload_n 0, 1, 0, 0, 0, .null), (334, .bipush 44, 2, 0, 0, 0, .int 44)]),
  (21, [(336, .invokestatic 174, 3, 170, 101, 1446, .null), (339, .invokevirtual 158, 3, 167, 10301, 1434, .null), (342, .istore_n 3, 1, 0, 0, 0, .null), (343, .goto (-153), 3, 190, 0, 0, .null), (346, .iload_n 2, 1, 0, 0, 0, .null), (347, .bipush 10, 2, 0, 0, 0, .int 10), (349, .if_icmp .ge 7, 3, 356, 0, 0, .null)]),
  (22, [(352, .aload_n 0, 1, 0, 0, 0, .null), (353, .invokevirtual 161, 3, 166, 10000, 1422, .null), (356, .goto 126, 3, 482, 0, 0, .null), (359, .aload_n 0, 1, 0, 0, 0, .null), (360, .iconst 5, 1, 0, 0, 0, .int 5), (361, .invokevirtual 158, 3, 167, 10301, 1434, .null), (364, .ifCond .eq 73, 3, 437, 0, 0, .null), (367, .aload_n 0, 1, 0, 0, 0, .null)]),
  (23, [(368, .getfield 54, 3, 10, 18, 1246, .null), (371, .iload_n 1, 1, 0, 0, 0, .null), (372, .iconst 2, 1, 0, 0, 0, .int 2), (373, .iastore, 1, 0, 0, 0, .null), (374, .aload_n 0, 1, 0, 0, 0, .null), (375, .iconst 0, 1, 0, 0, 0, .int 0), (376, .bipush 99, 2, 0, 0, 0, .int 99), (378, .invokevirtual 202, 3, 177, 10302, 1438, .null), (381, .ifCond .ne 4, 3, 385, 0, 0, .null)]),
  (24, [(384, .return_, 1, 0, 0, 0, .null), (385, .aload_n 0, 1, 0, 0, 0, .null), (386, .getfield 54, 3, 10, 18, 1246, .null), (389, .iload_n 1, 1, 0, 0, 0, .null), (390, .iconst 1, 1, 0, 0, 0, .int 1), (391, .iadd, 1, 0, 0, 0, .null), (392, .aload_n 0, 1, 0, 0, 0, .null), (393, .getfield 196, 3, 10, 20, 1248, .null), (396, .iastore, 1, 0, 0, 0, .null), (397, .aload_n 0, 1, 0, 0, 0, .null), (398, .iconst 2, 1, 0, 0, 0, .int 2), (399, .invokevirtual 181, 3, 168, 10001, 1442, .null)]),
  (25, [(402, .aload_n 0, 1, 0, 0, 0, .null), (403, .iconst 0, 1, 0, 0, 0, .int 0), (404, .bipush 15, 2, 0, 0, 0, .int 15), (406, .invokevirtual 202, 3, 177, 10302, 1438, .null), (409, .ifCond .ne 4, 3, 413, 0, 0, .null), (412, .return_, 1, 0, 0, 0, .null), (413, .aload_n 0, 1, 0, 0, 0, .null), (414, .getfield 54, 3, 10, 18, 1246, .null)]),
  (26, [(417, .iload_n 1, 1, 0, 0, 0, .null), (418, .iconst 2, 1, 0, 0, 0, .int 2), (419, .iadd, 1, 0, 0, 0, .null), (420, .iconst 1, 1, 0, 0, 0, .int 1), (421, .iastore, 1, 0, 0, 0, .null), (422, .aload_n 0, 1, 0, 0, 0, .null), (423, .getfield 54, 3, 10, 18, 1246, .null), (426, .iload_n 1, 1, 0, 0, 0, .null), (427, .iconst 3, 1, 0, 0, 0, .int 3), (428, .iadd, 1, 0, 0, 0, .null), (429, .aload_n 0, 1, 0, 0, 0, .null), (430, .getfield 196, 3, 10, 20, 1248, .null)]),
  (27, [(433, .iastore, 1, 0, 0, 0, .null), (434, .goto 48, 3, 482, 0, 0, .null), (437, .aload_n 0, 1, 0, 0, 0, .null), (438, .bipush 6, 2, 0, 0, 0, .int 6), (440, .invokevirtual 181, 3, 168, 10001, 1442, .null), (443, .aload_n 0, 1, 0, 0, 0, .null), (444, .getfield 54, 3, 10, 18, 1246, .null), (447, .iload_n 1, 1, 0, 0, 0, .null)]),
  (28, [(448, .iconst 3, 1, 0, 0, 0, .int 3), (449, .iastore, 1, 0, 0, 0, .null), (450, .aload_n 0, 1, 0, 0, 0, .null), (451, .getfield 54, 3, 10, 18, 1246, .null), (454, .iload_n 1, 1, 0, 0, 0, .null), (455, .bipush 9, 2, 0, 0, 0, .int 9), (457, .iadd, 1, 0, 0, 0, .null), (458, .aload_n 0, 1, 0, 0, 0, .null), (459, .getfield 155, 3, 10, 15, 1243, .null), (462, .iastore, 1, 0, 0, 0, .null), (463, .aload_n 0, 1, 0, 0, 0, .null)]),
  (29, [(464, .iconst 0, 1, 0, 0, 0, .int 0), (465, .invokevirtual 184, 3, 174, 10001, 1449, .null), (468, .aload_n 0, 1, 0, 0, 0, .null), (469, .bipush 7, 2, 0, 0, 0, .int 7), (471, .invokevirtual 158, 3, 167, 10301, 1434, .null), (474, .ifCond .eq 8, 3, 482, 0, 0, .null), (477, .aload_n 0, 1, 0, 0, 0, .null), (478, .iconst 0, 1, 0, 0, 0, .int 0), (479, .invokevirtual 178, 3, 171, 10001, 1465, .null)]),
  (30, [(482, .return_, 1, 0, 0, 0, .null)])]
def uX10_readPlace : List (Nat × List Nat) := [(10, [0, 1, 2]), (68, [0, 1, 2]), (155, [0, 1]), (190, [0, 1, 2, 3]), (333, [0, 1, 2])]
def qX10_country : CD := [(0, [(0, .aload_n 0, 1, 0, 0, 0, .null), (1, .aload_n 0, 1, 0, 0, 0, .null), (2, .getfield 132, 3, 10, 9, 1237, .null), (5, .invokevirtual 206, 3, 164, 10001, 1407, .null), (8, .aload_n 0, 1, 0, 0, 0, .null), (9, .iconst 0, 1, 0, 0, 0, .int 0), (10, .putfield 132, 3, 10, 9, 1237, .null), (13, .aload_n 0, 1, 0, 0, 0, .null), (14, .iconst 0, 1, 0, 0, 0, .int 0), (15, .putfield 155, 3, 10, 15, 1243, .null)]),
  (1, [(18, .aload_n 0, 1, 0, 0, 0, .null), (19, .iconst 0, 1, 0, 0, 0, .int 0), (20, .putfield 164, 3, 10, 16, 1244, .null), (23, .aload_n 0, 1, 0, 0, 0, .null), (24, .iconst (-1), 1, 0, 0, 0, .int (-1)), (25, .putfield 148, 3, 10, 17, 1245, .null), (28, .aload_n 0, 1, 0, 0, 0, .null), (29, .iconst 0, 1, 0, 0, 0, .int 0), (30, .putfield 199, 3, 10, 19, 1247, .null)]),
  (2, [(33, .iconst 1, 1, 0, 0, 0, .int 1), (34, .istore_n 1, 1, 0, 0, 0, .null), (35, .iload_n 1, 1, 0, 0, 0, .null), (36, .ifCond .eq 50, 3, 86, 0, 0, .null), (39, .aload_n 0, 1, 0, 0, 0, .null), (40, .getfield 199, 3, 10, 19, 1247, .null), (43, .bipush 16, 2, 0, 0, 0, .int 16), (45, .if_icmp .ne 7, 3, 52, 0, 0, .null)]),
  (3, [(48, .aload_n 0, 1, 0, 0, 0, .null), (49, .invokevirtual 161, 3, 166, 10000, 1422, .null), (52, .aload_n 0, 1, 0, 0, 0, .null), (53, .invokevirtual 151, 3, 165, 10300, 1426, .null), (56, .ifCond .eq 7, 3, 63, 0, 0, .null), (59, .aload_n 0, 1, 0, 0, 0, .null), (60, .invokevirtual 209, 3, 178, 10000, 1430, .null), (63, .aload_n 0, 1, 0, 0, 0, .null)]),
  (4, [(64, .dup, 1, 0, 0, 0, .null), (65, .getfield 199, 3, 10, 19, 1247, .null), (68, .iconst 1, 1, 0, 0, 0, .int 1), (69, .iadd, 1, 0, 0, 0, .null), (70, .putfield 199, 3, 10, 19, 1247, .null), (73, .aload_n 0, 1, 0, 0, 0, .null), (74, .bipush 59, 2, 0, 0, 0, .int 59), (76, .invokestatic 174, 3, 170, 101, 1446, .null), (79, .invokevirtual 158, 3, 167, 10301, 1434, .null)]),
  (5, [(82, .istore_n 1, 1, 0, 0, 0, .null), (83, .goto (-48), 3, 35, 0, 0, .null), (86, .aload_n 0, 1, 0, 0, 0, .null), (87, .invokevirtual 151, 3, 165, 10300, 1426, .null), (90, .ifCond .eq 18, 3, 108, 0, 0, .null), (93, .aload_n 0, 1, 0, 0, 0, .null), (94, .getfield 155, 3, 10, 15, 1243, .null)]),
  (6, [(97, .aload_n 0, 1, 0, 0, 0, .null), (98, .getfield 135, 3, 10, 14, 1242, .null), (101, .if_icmp .ge 7, 3, 108, 0, 0, .null), (104, .aload_n 0, 1, 0, 0, 0, .null), (105, .invokevirtual 161, 3, 166, 10000, 1422, .null), (108, .aload_n 0, 1, 0, 0, 0, .null), (109, .aload_n 0, 1, 0, 0, 0, .null), (110, .getfield 148, 3, 10, 17, 1245, .null)]),
  (7, [(113, .putfield 42, 3, 10, 10, 1238, .null), (116, .aload_n 0, 1, 0, 0, 0, .null), (117, .invokevirtual 151, 3, 165, 10300, 1426, .null), (120, .ifCond .ne 10, 3, 130, 0, 0, .null), (123, .aload_n 0, 1, 0, 0, 0, .null), (124, .bipush (-6), 2, 0, 0, 0, .int (-6)), (126, .invokevirtual 113, 3, 145, 10101, 1383, .null)]),
  (8, [(129, .ireturn, 1, 0, 0, 0, .null), (130, .iconst 0, 1, 0, 0, 0, .int 0), (131, .istore_n 2, 1, 0, 0, 0, .null), (132, .iload_n 2, 1, 0, 0, 0, .null), (133, .bipush 10, 2, 0, 0, 0, .int 10), (135, .aload_n 0, 1, 0, 0, 0, .null), (136, .getfield 199, 3, 10, 19, 1247, .null), (139, .imul, 1, 0, 0, 0, .null), (140, .if_icmp .ge 23, 3, 163, 0, 0, .null), (143, .aload_n 0, 1, 0, 0, 0, .null)]),
  (9, [(144, .getfield 22, 3, 10, 3, 1231, .null), (147, .iconst 0, 1, 0, 0, 0, .int 0), (148, .iload_n 2, 1, 0, 0, 0, .null), (149, .iadd, 1, 0, 0, 0, .null), (150, .aload_n 0, 1, 0, 0, 0, .null), (151, .getfield 54, 3, 10, 18, 1246, .null), (154, .iload_n 2, 1, 0, 0, 0, .null), (155, .iaload, 1, 0, 0, 0, .null), (156, .iastore, 1, 0, 0, 0, .null), (157, .iinc 2 1, 3, 0, 0, 0, .int 1)]),
  (10, [(160, .goto (-28), 3, 132, 0, 0, .null), (163, .aload_n 0, 1, 0, 0, 0, .null), (164, .getfield 22, 3, 10, 3, 1231, .null), (167, .sipush 182, 3, 0, 0, 0, .int 182), (170, .aload_n 0, 1, 0, 0, 0, .null), (171, .getfield 199, 3, 10, 19, 1247, .null), (174, .iastore, 1, 0, 0, 0, .null), (175, .aload_n 0, 1, 0, 0, 0, .null)]),
  (11, [(176, .getfield 22, 3, 10, 3, 1231, .null), (179, .sipush 183, 3, 0, 0, 0, .int 183), (182, .aload_n 0, 1, 0, 0, 0, .null), (183, .getfield 135, 3, 10, 14, 1242, .null), (186, .iastore, 1, 0, 0, 0, .null), (187, .iconst 0, 1, 0, 0, 0, .int 0), (188, .istore_n 2, 1, 0, 0, 0, .null), (189, .iload_n 2, 1, 0, 0, 0, .null), (190, .aload_n 0, 1, 0, 0, 0, .null), (191, .getfield 135, 3, 10, 14, 1242, .null)]),
  (12, [(194, .if_icmp .ge 41, 3, 235, 0, 0, .null), (197, .aload_n 0, 1, 0, 0, 0, .null), (198, .getfield 22, 3, 10, 3, 1231, .null), (201, .sipush 184, 3, 0, 0, 0, .int 184), (204, .iload_n 2, 1, 0, 0, 0, .null), (205, .iadd, 1, 0, 0, 0, .null), (206, .aload_n 0, 1, 0, 0, 0, .null), (207, .getfield 45, 3, 10, 11, 1239, .null)]),
  (13, [(210, .iload_n 2, 1, 0, 0, 0, .null), (211, .iaload, 1, 0, 0, 0, .null), (212, .iastore, 1, 0, 0, 0, .null), (213, .aload_n 0, 1, 0, 0, 0, .null), (214, .getfield 22, 3, 10, 3, 1231, .null), (217, .sipush 584, 3, 0, 0, 0, .int 584), (220, .iload_n 2, 1, 0, 0, 0, .null), (221, .iadd, 1, 0, 0, 0, .null), (222, .aload_n 0, 1, 0, 0, 0, .null), (223, .getfield 48, 3, 10, 12, 1240, .null)]),
  (14, [(226, .iload_n 2, 1, 0, 0, 0, .null), (227, .iaload, 1, 0, 0, 0, .null), (228, .iastore, 1, 0, 0, 0, .null), (229, .iinc 2 1, 3, 0, 0, 0, .int 1), (232, .goto (-43), 3, 189, 0, 0, .null), (235, .aload_n 0, 1, 0, 0, 0, .null), (236, .aload_n 0, 1, 0, 0, 0, .null), (237, .getfield 199, 3, 10, 19, 1247, .null)]),
  (15, [(240, .invokevirtual 117, 3, 146, 10101, 1387, .null), (243, .ireturn, 1, 0, 0, 0, .null)])]
def uX10_country : List (Nat × List Nat) := [(35, [0, 1]), (52, [0]), (108, [0]), (132, [0, 2]), (189, [0, 2])]
def qX10_fault : CD := [(0, [(0, .aload_n 0, 1, 0, 0, 0, .null), (1, .getfield 42, 3, 10, 10, 1238, .null), (4, .ireturn, 1, 0, 0, 0, .null)])]
def uX10_fault : List (Nat × List Nat) := []
def qX10_codeAt : CD := [(0, [(0, .iload_n 1, 1, 0, 0, 0, .null), (1, .aload_n 0, 1, 0, 0, 0, .null), (2, .getfield 212, 3, 10, 22, 1250, .null), (5, .if_icmp .ge 16, 3, 21, 0, 0, .null), (8, .aload_n 0, 1, 0, 0, 0, .null), (9, .getfield 22, 3, 10, 3, 1231, .null), (12, .sipush 184, 3, 0, 0, 0, .int 184), (15, .iload_n 1, 1, 0, 0, 0, .null)]),
  (1, [(16, .iadd, 1, 0, 0, 0, .null), (17, .iaload, 1, 0, 0, 0, .null), (18, .goto 4, 3, 22, 0, 0, .null), (21, .iconst 0, 1, 0, 0, 0, .int 0), (22, .ireturn, 1, 0, 0, 0, .null)])]
def uX10_codeAt : List (Nat × List Nat) := []
def qX10_passes0 : CD := [(0, [(0, .aload_n 0, 1, 0, 0, 0, .null), (1, .aload_n 0, 1, 0, 0, 0, .null), (2, .getfield 215, 3, 10, 21, 1249, .null), (5, .invokevirtual 218, 3, 181, 10101, 1534, .null), (8, .iload_n 1, 1, 0, 0, 0, .null), (9, .if_icmp .ne 7, 3, 16, 0, 0, .null), (12, .iconst 1, 1, 0, 0, 0, .int 1), (13, .goto 4, 3, 17, 0, 0, .null)]),
  (1, [(16, .iconst 0, 1, 0, 0, 0, .int 0), (17, .istore_n 2, 1, 0, 0, 0, .null), (18, .iload_n 2, 1, 0, 0, 0, .null), (19, .ifCond .eq 13, 3, 32, 0, 0, .null), (22, .aload_n 0, 1, 0, 0, 0, .null), (23, .dup, 1, 0, 0, 0, .null), (24, .getfield 215, 3, 10, 21, 1249, .null), (27, .iconst 1, 1, 0, 0, 0, .int 1), (28, .iadd, 1, 0, 0, 0, .null), (29, .putfield 215, 3, 10, 21, 1249, .null)]),
  (2, [(32, .iload_n 2, 1, 0, 0, 0, .null), (33, .ireturn, 1, 0, 0, 0, .null)])]
def uX10_passes0 : List (Nat × List Nat) := []
def qX10_bounded : CD := [(0, [(0, .iload_n 3, 1, 0, 0, 0, .null), (1, .ifCond .eq 24, 3, 25, 0, 0, .null), (4, .lload_n 1, 1, 0, 0, 0, .null), (5, .ldc2_w 221, 3, 0, 0, 1542, .long 1000000000), (8, .lcmp, 1, 0, 0, 0, .null), (9, .ifCond .gt 11, 3, 20, 0, 0, .null), (12, .lload_n 1, 1, 0, 0, 0, .null), (13, .ldc2_w 223, 3, 0, 0, 1543, .long (-1000000000))]),
  (1, [(16, .lcmp, 1, 0, 0, 0, .null), (17, .ifCond .ge 8, 3, 25, 0, 0, .null), (20, .aload_n 0, 1, 0, 0, 0, .null), (21, .iconst 1, 1, 0, 0, 0, .int 1), (22, .putfield 225, 3, 10, 23, 1251, .null), (25, .aload_n 0, 1, 0, 0, 0, .null), (26, .getfield 225, 3, 10, 23, 1251, .null), (29, .ifCond .eq 7, 3, 36, 0, 0, .null)]),
  (2, [(32, .lconst 0, 1, 0, 0, 0, .long 0), (33, .goto 4, 3, 37, 0, 0, .null), (36, .lload_n 1, 1, 0, 0, 0, .null), (37, .lreturn, 1, 0, 0, 0, .null)])]
def uX10_bounded : List (Nat × List Nat) := [(25, [0, 1])]
def qX10_sumOf : CD := [(0, [(0, .aload_n 0, 1, 0, 0, 0, .null), (1, .iload_n 1, 1, 0, 0, 0, .null), (2, .invokevirtual 229, 3, 185, 10201, 1522, .null), (5, .lstore_n 2, 1, 0, 0, 0, .null), (6, .aload_n 0, 1, 0, 0, 0, .null), (7, .aload_n 0, 1, 0, 0, 0, .null), (8, .getfield 215, 3, 10, 21, 1249, .null), (11, .invokevirtual 218, 3, 181, 10101, 1534, .null), (14, .bipush 43, 2, 0, 0, 0, .int 43)]),
  (1, [(16, .invokestatic 174, 3, 170, 101, 1446, .null), (19, .if_icmp .eq 19, 3, 38, 0, 0, .null), (22, .aload_n 0, 1, 0, 0, 0, .null), (23, .aload_n 0, 1, 0, 0, 0, .null), (24, .getfield 215, 3, 10, 21, 1249, .null), (27, .invokevirtual 218, 3, 181, 10101, 1534, .null), (30, .bipush 45, 2, 0, 0, 0, .int 45)]),
  (2, [(32, .invokestatic 174, 3, 170, 101, 1446, .null), (35, .if_icmp .ne 68, 3, 103, 0, 0, .null), (38, .aload_n 0, 1, 0, 0, 0, .null), (39, .aload_n 0, 1, 0, 0, 0, .null), (40, .getfield 215, 3, 10, 21, 1249, .null), (43, .invokevirtual 218, 3, 181, 10101, 1534, .null), (46, .bipush 43, 2, 0, 0, 0, .int 43)]),
  (3, [(48, .invokestatic 174, 3, 170, 101, 1446, .null), (51, .if_icmp .ne 7, 3, 58, 0, 0, .null), (54, .iconst 1, 1, 0, 0, 0, .int 1), (55, .goto 4, 3, 59, 0, 0, .null), (58, .iconst 0, 1, 0, 0, 0, .int 0), (59, .istore 4, 2, 0, 0, 0, .null), (61, .aload_n 0, 1, 0, 0, 0, .null), (62, .dup, 1, 0, 0, 0, .null), (63, .getfield 215, 3, 10, 21, 1249, .null)]),
  (4, [(66, .iconst 1, 1, 0, 0, 0, .int 1), (67, .iadd, 1, 0, 0, 0, .null), (68, .putfield 215, 3, 10, 21, 1249, .null), (71, .aload_n 0, 1, 0, 0, 0, .null), (72, .iload_n 1, 1, 0, 0, 0, .null), (73, .invokevirtual 229, 3, 185, 10201, 1522, .null), (76, .lstore 5, 2, 0, 0, 0, .null), (78, .aload_n 0, 1, 0, 0, 0, .null), (79, .iload 4, 2, 0, 0, 0, .null)]),
  (5, [(81, .ifCond .eq 10, 3, 91, 0, 0, .null), (84, .lload_n 2, 1, 0, 0, 0, .null), (85, .lload 5, 2, 0, 0, 0, .null), (87, .ladd, 1, 0, 0, 0, .null), (88, .goto 7, 3, 95, 0, 0, .null), (91, .lload_n 2, 1, 0, 0, 0, .null), (92, .lload 5, 2, 0, 0, 0, .null), (94, .lsub, 1, 0, 0, 0, .null), (95, .iload_n 1, 1, 0, 0, 0, .null)]),
  (6, [(96, .invokevirtual 233, 3, 183, 10202, 1538, .null), (99, .lstore_n 2, 1, 0, 0, 0, .null), (100, .goto (-94), 3, 6, 0, 0, .null), (103, .lload_n 2, 1, 0, 0, 0, .null), (104, .lreturn, 1, 0, 0, 0, .null)])]
def uX10_sumOf : List (Nat × List Nat) := [(6, [0, 1, 2]), (61, [0, 1, 2, 4])]
def qX10_termOf : CD := [(0, [(0, .aload_n 0, 1, 0, 0, 0, .null), (1, .iload_n 1, 1, 0, 0, 0, .null), (2, .invokevirtual 237, 3, 186, 10201, 1526, .null), (5, .lstore_n 2, 1, 0, 0, 0, .null), (6, .aload_n 0, 1, 0, 0, 0, .null), (7, .aload_n 0, 1, 0, 0, 0, .null), (8, .getfield 215, 3, 10, 21, 1249, .null), (11, .invokevirtual 218, 3, 181, 10101, 1534, .null), (14, .bipush 42, 2, 0, 0, 0, .int 42)]),
  (1, [(16, .invokestatic 174, 3, 170, 101, 1446, .null), (19, .if_icmp .eq 19, 3, 38, 0, 0, .null), (22, .aload_n 0, 1, 0, 0, 0, .null), (23, .aload_n 0, 1, 0, 0, 0, .null), (24, .getfield 215, 3, 10, 21, 1249, .null), (27, .invokevirtual 218, 3, 181, 10101, 1534, .null), (30, .bipush 47, 2, 0, 0, 0, .int 47)]),
  (2, [(32, .invokestatic 174, 3, 170, 101, 1446, .null), (35, .if_icmp .ne 103, 3, 138, 0, 0, .null), (38, .aload_n 0, 1, 0, 0, 0, .null), (39, .aload_n 0, 1, 0, 0, 0, .null), (40, .getfield 215, 3, 10, 21, 1249, .null), (43, .invokevirtual 218, 3, 181, 10101, 1534, .null), (46, .bipush 42, 2, 0, 0, 0, .int 42)]),
  (3, [(48, .invokestatic 174, 3, 170, 101, 1446, .null), (51, .if_icmp .ne 7, 3, 58, 0, 0, .null), (54, .iconst 1, 1, 0, 0, 0, .int 1), (55, .goto 4, 3, 59, 0, 0, .null), (58, .iconst 0, 1, 0, 0, 0, .int 0), (59, .istore 4, 2, 0, 0, 0, .null), (61, .aload_n 0, 1, 0, 0, 0, .null), (62, .dup, 1, 0, 0, 0, .null), (63, .getfield 215, 3, 10, 21, 1249, .null)]),
  (4, [(66, .iconst 1, 1, 0, 0, 0, .int 1), (67, .iadd, 1, 0, 0, 0, .null), (68, .putfield 215, 3, 10, 21, 1249, .null), (71, .aload_n 0, 1, 0, 0, 0, .null), (72, .iload_n 1, 1, 0, 0, 0, .null), (73, .invokevirtual 237, 3, 186, 10201, 1526, .null), (76, .lstore 5, 2, 0, 0, 0, .null), (78, .iload 4, 2, 0, 0, 0, .null)]),
  (5, [(80, .ifCond .ne 33, 3, 113, 0, 0, .null), (83, .lload 5, 2, 0, 0, 0, .null), (85, .lconst 0, 1, 0, 0, 0, .long 0), (86, .lcmp, 1, 0, 0, 0, .null), (87, .ifCond .ne 26, 3, 113, 0, 0, .null), (90, .aload_n 0, 1, 0, 0, 0, .null), (91, .aload_n 0, 1, 0, 0, 0, .null), (92, .getfield 225, 3, 10, 23, 1251, .null), (95, .ifCond .ne 7, 3, 102, 0, 0, .null)]),
  (6, [(98, .iload_n 1, 1, 0, 0, 0, .null), (99, .ifCond .eq 7, 3, 106, 0, 0, .null), (102, .iconst 1, 1, 0, 0, 0, .int 1), (103, .goto 4, 3, 107, 0, 0, .null), (106, .iconst 0, 1, 0, 0, 0, .int 0), (107, .putfield 225, 3, 10, 23, 1251, .null), (110, .lconst 1, 1, 0, 0, 0, .long 1), (111, .lstore 5, 2, 0, 0, 0, .null)]),
  (7, [(113, .aload_n 0, 1, 0, 0, 0, .null), (114, .iload 4, 2, 0, 0, 0, .null), (116, .ifCond .eq 10, 3, 126, 0, 0, .null), (119, .lload_n 2, 1, 0, 0, 0, .null), (120, .lload 5, 2, 0, 0, 0, .null), (122, .lmul, 1, 0, 0, 0, .null), (123, .goto 7, 3, 130, 0, 0, .null), (126, .lload_n 2, 1, 0, 0, 0, .null), (127, .lload 5, 2, 0, 0, 0, .null)]),
  (8, [(129, .ldiv, 1, 0, 0, 0, .null), (130, .iload_n 1, 1, 0, 0, 0, .null), (131, .invokevirtual 233, 3, 183, 10202, 1538, .null), (134, .lstore_n 2, 1, 0, 0, 0, .null), (135, .goto (-129), 3, 6, 0, 0, .null), (138, .lload_n 2, 1, 0, 0, 0, .null), (139, .lreturn, 1, 0, 0, 0, .null)])]
def uX10_termOf : List (Nat × List Nat) := [(6, [0, 1, 2]), (61, [0, 1, 2, 4]), (113, [0, 1, 2, 4, 5])]
def qX10_partOf : CD := [(0, [(0, .aload_n 0, 1, 0, 0, 0, .null), (1, .bipush 91, 2, 0, 0, 0, .int 91), (3, .invokestatic 174, 3, 170, 101, 1446, .null), (6, .invokevirtual 240, 3, 182, 10301, 1530, .null), (9, .ifCond .eq 21, 3, 30, 0, 0, .null), (12, .aload_n 0, 1, 0, 0, 0, .null), (13, .iload_n 1, 1, 0, 0, 0, .null), (14, .invokevirtual 243, 3, 184, 10201, 1518, .null)]),
  (1, [(17, .lstore_n 2, 1, 0, 0, 0, .null), (18, .aload_n 0, 1, 0, 0, 0, .null), (19, .dup, 1, 0, 0, 0, .null), (20, .getfield 215, 3, 10, 21, 1249, .null), (23, .iconst 1, 1, 0, 0, 0, .int 1), (24, .iadd, 1, 0, 0, 0, .null), (25, .putfield 215, 3, 10, 21, 1249, .null), (28, .lload_n 2, 1, 0, 0, 0, .null), (29, .lreturn, 1, 0, 0, 0, .null), (30, .aload_n 0, 1, 0, 0, 0, .null), (31, .aload_n 0, 1, 0, 0, 0, .null)]),
  (2, [(32, .getfield 215, 3, 10, 21, 1249, .null), (35, .invokevirtual 218, 3, 181, 10101, 1534, .null), (38, .istore_n 2, 1, 0, 0, 0, .null), (39, .aload_n 0, 1, 0, 0, 0, .null), (40, .dup, 1, 0, 0, 0, .null), (41, .getfield 215, 3, 10, 21, 1249, .null), (44, .iconst 1, 1, 0, 0, 0, .int 1), (45, .iadd, 1, 0, 0, 0, .null), (46, .putfield 215, 3, 10, 21, 1249, .null)]),
  (3, [(49, .iload_n 1, 1, 0, 0, 0, .null), (50, .ifCond .eq 10, 3, 60, 0, 0, .null), (53, .aload_n 0, 1, 0, 0, 0, .null), (54, .getfield 225, 3, 10, 23, 1251, .null), (57, .ifCond .eq 5, 3, 62, 0, 0, .null), (60, .lconst 0, 1, 0, 0, 0, .long 0), (61, .lreturn, 1, 0, 0, 0, .null), (62, .iload_n 2, 1, 0, 0, 0, .null), (63, .bipush 50, 2, 0, 0, 0, .int 50)]),
  (4, [(65, .if_icmp .ne 22, 3, 87, 0, 0, .null), (68, .aload_n 0, 1, 0, 0, 0, .null), (69, .getfield 22, 3, 10, 3, 1231, .null), (72, .sipush 584, 3, 0, 0, 0, .int 584), (75, .aload_n 0, 1, 0, 0, 0, .null), (76, .getfield 215, 3, 10, 21, 1249, .null), (79, .iadd, 1, 0, 0, 0, .null)]),
  (5, [(80, .iconst 1, 1, 0, 0, 0, .int 1), (81, .isub, 1, 0, 0, 0, .null), (82, .iaload, 1, 0, 0, 0, .null), (83, .i2l, 1, 0, 0, 0, .null), (84, .goto 13, 3, 97, 0, 0, .null), (87, .aload_n 0, 1, 0, 0, 0, .null), (88, .getfield 57, 3, 10, 24, 1252, .null), (91, .iload_n 2, 1, 0, 0, 0, .null), (92, .bipush 11, 2, 0, 0, 0, .int 11), (94, .isub, 1, 0, 0, 0, .null), (95, .iaload, 1, 0, 0, 0, .null)]),
  (6, [(96, .i2l, 1, 0, 0, 0, .null), (97, .lreturn, 1, 0, 0, 0, .null)])]
def uX10_partOf : List (Nat × List Nat) := []
def qX10_testOf : CD := [(0, [(0, .aload_n 0, 1, 0, 0, 0, .null), (1, .iload_n 1, 1, 0, 0, 0, .null), (2, .invokevirtual 246, 3, 188, 10301, 1548, .null), (5, .istore_n 2, 1, 0, 0, 0, .null), (6, .aload_n 0, 1, 0, 0, 0, .null), (7, .bipush 8, 2, 0, 0, 0, .int 8), (9, .invokevirtual 240, 3, 182, 10301, 1530, .null), (12, .ifCond .eq 38, 3, 50, 0, 0, .null), (15, .aload_n 0, 1, 0, 0, 0, .null)]),
  (1, [(16, .iload_n 1, 1, 0, 0, 0, .null), (17, .ifCond .eq 11, 3, 28, 0, 0, .null), (20, .iload_n 2, 1, 0, 0, 0, .null), (21, .ifCond .ne 7, 3, 28, 0, 0, .null), (24, .iconst 1, 1, 0, 0, 0, .int 1), (25, .goto 4, 3, 29, 0, 0, .null), (28, .iconst 0, 1, 0, 0, 0, .int 0), (29, .invokevirtual 246, 3, 188, 10301, 1548, .null)]),
  (2, [(32, .istore_n 3, 1, 0, 0, 0, .null), (33, .iload_n 2, 1, 0, 0, 0, .null), (34, .ifCond .ne 7, 3, 41, 0, 0, .null), (37, .iload_n 3, 1, 0, 0, 0, .null), (38, .ifCond .eq 7, 3, 45, 0, 0, .null), (41, .iconst 1, 1, 0, 0, 0, .int 1), (42, .goto 4, 3, 46, 0, 0, .null), (45, .iconst 0, 1, 0, 0, 0, .int 0), (46, .istore_n 2, 1, 0, 0, 0, .null), (47, .goto (-41), 3, 6, 0, 0, .null)]),
  (3, [(50, .iload_n 2, 1, 0, 0, 0, .null), (51, .ireturn, 1, 0, 0, 0, .null)])]
def uX10_testOf : List (Nat × List Nat) := [(6, [0, 1, 2]), (33, [0, 1, 2, 3])]
def qX10_bothOf : CD := [(0, [(0, .aload_n 0, 1, 0, 0, 0, .null), (1, .iload_n 1, 1, 0, 0, 0, .null), (2, .invokevirtual 250, 3, 189, 10301, 1552, .null), (5, .istore_n 2, 1, 0, 0, 0, .null), (6, .aload_n 0, 1, 0, 0, 0, .null), (7, .bipush 9, 2, 0, 0, 0, .int 9), (9, .invokevirtual 240, 3, 182, 10301, 1530, .null), (12, .ifCond .eq 38, 3, 50, 0, 0, .null), (15, .aload_n 0, 1, 0, 0, 0, .null)]),
  (1, [(16, .iload_n 1, 1, 0, 0, 0, .null), (17, .ifCond .eq 11, 3, 28, 0, 0, .null), (20, .iload_n 2, 1, 0, 0, 0, .null), (21, .ifCond .eq 7, 3, 28, 0, 0, .null), (24, .iconst 1, 1, 0, 0, 0, .int 1), (25, .goto 4, 3, 29, 0, 0, .null), (28, .iconst 0, 1, 0, 0, 0, .int 0), (29, .invokevirtual 250, 3, 189, 10301, 1552, .null)]),
  (2, [(32, .istore_n 3, 1, 0, 0, 0, .null), (33, .iload_n 2, 1, 0, 0, 0, .null), (34, .ifCond .eq 11, 3, 45, 0, 0, .null), (37, .iload_n 3, 1, 0, 0, 0, .null), (38, .ifCond .eq 7, 3, 45, 0, 0, .null), (41, .iconst 1, 1, 0, 0, 0, .int 1), (42, .goto 4, 3, 46, 0, 0, .null), (45, .iconst 0, 1, 0, 0, 0, .int 0), (46, .istore_n 2, 1, 0, 0, 0, .null), (47, .goto (-41), 3, 6, 0, 0, .null)]),
  (3, [(50, .iload_n 2, 1, 0, 0, 0, .null), (51, .ireturn, 1, 0, 0, 0, .null)])]
def uX10_bothOf : List (Nat × List Nat) := [(6, [0, 1, 2]), (33, [0, 1, 2, 3])]
def qX10_plainOf : CD := [(0, [(0, .iconst 0, 1, 0, 0, 0, .int 0), (1, .istore_n 2, 1, 0, 0, 0, .null), (2, .aload_n 0, 1, 0, 0, 0, .null), (3, .bipush 10, 2, 0, 0, 0, .int 10), (5, .invokevirtual 240, 3, 182, 10301, 1530, .null), (8, .ifCond .eq 16, 3, 24, 0, 0, .null), (11, .iload_n 2, 1, 0, 0, 0, .null), (12, .ifCond .ne 7, 3, 19, 0, 0, .null), (15, .iconst 1, 1, 0, 0, 0, .int 1)]),
  (1, [(16, .goto 4, 3, 20, 0, 0, .null), (19, .iconst 0, 1, 0, 0, 0, .int 0), (20, .istore_n 2, 1, 0, 0, 0, .null), (21, .goto (-19), 3, 2, 0, 0, .null), (24, .aload_n 0, 1, 0, 0, 0, .null), (25, .iload_n 1, 1, 0, 0, 0, .null), (26, .invokevirtual 253, 3, 190, 10301, 1556, .null), (29, .iload_n 2, 1, 0, 0, 0, .null), (30, .if_icmp .eq 7, 3, 37, 0, 0, .null)]),
  (2, [(33, .iconst 1, 1, 0, 0, 0, .int 1), (34, .goto 4, 3, 38, 0, 0, .null), (37, .iconst 0, 1, 0, 0, 0, .int 0), (38, .ireturn, 1, 0, 0, 0, .null)])]
def uX10_plainOf : List (Nat × List Nat) := [(2, [0, 1, 2])]
def qX10_positiveOf : CD := [(0, [(0, .aload_n 0, 1, 0, 0, 0, .null), (1, .bipush 40, 2, 0, 0, 0, .int 40), (3, .invokestatic 174, 3, 170, 101, 1446, .null), (6, .invokevirtual 240, 3, 182, 10301, 1530, .null), (9, .ifCond .eq 21, 3, 30, 0, 0, .null), (12, .aload_n 0, 1, 0, 0, 0, .null), (13, .iload_n 1, 1, 0, 0, 0, .null), (14, .invokevirtual 256, 3, 187, 10301, 1544, .null)]),
  (1, [(17, .istore_n 2, 1, 0, 0, 0, .null), (18, .aload_n 0, 1, 0, 0, 0, .null), (19, .dup, 1, 0, 0, 0, .null), (20, .getfield 215, 3, 10, 21, 1249, .null), (23, .iconst 1, 1, 0, 0, 0, .int 1), (24, .iadd, 1, 0, 0, 0, .null), (25, .putfield 215, 3, 10, 21, 1249, .null), (28, .iload_n 2, 1, 0, 0, 0, .null), (29, .ireturn, 1, 0, 0, 0, .null), (30, .aload_n 0, 1, 0, 0, 0, .null), (31, .iload_n 1, 1, 0, 0, 0, .null)]),
  (2, [(32, .invokevirtual 243, 3, 184, 10201, 1518, .null), (35, .lstore_n 2, 1, 0, 0, 0, .null), (36, .aload_n 0, 1, 0, 0, 0, .null), (37, .aload_n 0, 1, 0, 0, 0, .null), (38, .getfield 215, 3, 10, 21, 1249, .null), (41, .invokevirtual 218, 3, 181, 10101, 1534, .null), (44, .istore 4, 2, 0, 0, 0, .null), (46, .aload_n 0, 1, 0, 0, 0, .null), (47, .dup, 1, 0, 0, 0, .null)]),
  (3, [(48, .getfield 215, 3, 10, 21, 1249, .null), (51, .iconst 1, 1, 0, 0, 0, .int 1), (52, .iadd, 1, 0, 0, 0, .null), (53, .putfield 215, 3, 10, 21, 1249, .null), (56, .aload_n 0, 1, 0, 0, 0, .null), (57, .iload_n 1, 1, 0, 0, 0, .null), (58, .invokevirtual 243, 3, 184, 10201, 1518, .null), (61, .lstore 5, 2, 0, 0, 0, .null), (63, .iload_n 1, 1, 0, 0, 0, .null)]),
  (4, [(64, .ifCond .eq 61, 3, 125, 0, 0, .null), (67, .aload_n 0, 1, 0, 0, 0, .null), (68, .getfield 225, 3, 10, 23, 1251, .null), (71, .ifCond .ne 54, 3, 125, 0, 0, .null), (74, .iload 4, 2, 0, 0, 0, .null), (76, .bipush 60, 2, 0, 0, 0, .int 60), (78, .invokestatic 174, 3, 170, 101, 1446, .null)]),
  (5, [(81, .if_icmp .ne 13, 3, 94, 0, 0, .null), (84, .lload_n 2, 1, 0, 0, 0, .null), (85, .lload 5, 2, 0, 0, 0, .null), (87, .lcmp, 1, 0, 0, 0, .null), (88, .ifCond .ge 37, 3, 125, 0, 0, .null), (91, .goto 30, 3, 121, 0, 0, .null), (94, .iload 4, 2, 0, 0, 0, .null)]),
  (6, [(96, .bipush 62, 2, 0, 0, 0, .int 62), (98, .invokestatic 174, 3, 170, 101, 1446, .null), (101, .if_icmp .ne 13, 3, 114, 0, 0, .null), (104, .lload_n 2, 1, 0, 0, 0, .null), (105, .lload 5, 2, 0, 0, 0, .null), (107, .lcmp, 1, 0, 0, 0, .null), (108, .ifCond .le 17, 3, 125, 0, 0, .null), (111, .goto 10, 3, 121, 0, 0, .null)]),
  (7, [(114, .lload_n 2, 1, 0, 0, 0, .null), (115, .lload 5, 2, 0, 0, 0, .null), (117, .lcmp, 1, 0, 0, 0, .null), (118, .ifCond .ne 7, 3, 125, 0, 0, .null), (121, .iconst 1, 1, 0, 0, 0, .int 1), (122, .goto 4, 3, 126, 0, 0, .null), (125, .iconst 0, 1, 0, 0, 0, .int 0), (126, .ireturn, 1, 0, 0, 0, .null)])]
def uX10_positiveOf : List (Nat × List Nat) := []
def qX10_worthOf : CD := [(0, [(0, .aload_n 0, 1, 0, 0, 0, .null), (1, .getfield 57, 3, 10, 24, 1252, .null), (4, .iconst 0, 1, 0, 0, 0, .int 0), (5, .iload_n 2, 1, 0, 0, 0, .null), (6, .iastore, 1, 0, 0, 0, .null), (7, .aload_n 0, 1, 0, 0, 0, .null), (8, .getfield 57, 3, 10, 24, 1252, .null), (11, .iconst 1, 1, 0, 0, 0, .int 1), (12, .iload_n 1, 1, 0, 0, 0, .null), (13, .iastore, 1, 0, 0, 0, .null), (14, .aload_n 0, 1, 0, 0, 0, .null), (15, .getfield 57, 3, 10, 24, 1252, .null)]),
  (1, [(18, .iconst 2, 1, 0, 0, 0, .int 2), (19, .aload_n 0, 1, 0, 0, 0, .null), (20, .invokevirtual 259, 3, 154, 10100, 1514, .null), (23, .iastore, 1, 0, 0, 0, .null), (24, .aload_n 0, 1, 0, 0, 0, .null), (25, .aload_n 0, 1, 0, 0, 0, .null), (26, .iload_n 1, 1, 0, 0, 0, .null), (27, .bipush 9, 2, 0, 0, 0, .int 9), (29, .invokevirtual 128, 3, 156, 10102, 1497, .null)]),
  (2, [(32, .putfield 215, 3, 10, 21, 1249, .null), (35, .aload_n 0, 1, 0, 0, 0, .null), (36, .aload_n 0, 1, 0, 0, 0, .null), (37, .getfield 22, 3, 10, 3, 1231, .null), (40, .sipush 183, 3, 0, 0, 0, .int 183), (43, .iaload, 1, 0, 0, 0, .null), (44, .putfield 212, 3, 10, 22, 1250, .null), (47, .aload_n 0, 1, 0, 0, 0, .null)]),
  (3, [(48, .iconst 0, 1, 0, 0, 0, .int 0), (49, .putfield 225, 3, 10, 23, 1251, .null), (52, .aload_n 0, 1, 0, 0, 0, .null), (53, .iconst 1, 1, 0, 0, 0, .int 1), (54, .invokevirtual 243, 3, 184, 10201, 1518, .null), (57, .lstore_n 3, 1, 0, 0, 0, .null), (58, .aload_n 0, 1, 0, 0, 0, .null), (59, .getfield 225, 3, 10, 23, 1251, .null), (62, .istore 5, 2, 0, 0, 0, .null)]),
  (4, [(64, .aload_n 0, 1, 0, 0, 0, .null), (65, .iconst 0, 1, 0, 0, 0, .int 0), (66, .putfield 225, 3, 10, 23, 1251, .null), (69, .aload_n 0, 1, 0, 0, 0, .null), (70, .bipush 7, 2, 0, 0, 0, .int 7), (72, .invokevirtual 240, 3, 182, 10301, 1530, .null), (75, .ifCond .eq 11, 3, 86, 0, 0, .null), (78, .aload_n 0, 1, 0, 0, 0, .null), (79, .iconst 1, 1, 0, 0, 0, .int 1)]),
  (5, [(80, .invokevirtual 256, 3, 187, 10301, 1544, .null), (83, .ifCond .eq 7, 3, 90, 0, 0, .null), (86, .iconst 1, 1, 0, 0, 0, .int 1), (87, .goto 4, 3, 91, 0, 0, .null), (90, .iconst 0, 1, 0, 0, 0, .int 0), (91, .istore 6, 2, 0, 0, 0, .null), (93, .iload 6, 2, 0, 0, 0, .null), (95, .ifCond .eq 15, 3, 110, 0, 0, .null)]),
  (6, [(98, .aload_n 0, 1, 0, 0, 0, .null), (99, .getfield 225, 3, 10, 23, 1251, .null), (102, .ifCond .ne 8, 3, 110, 0, 0, .null), (105, .iload 5, 2, 0, 0, 0, .null), (107, .ifCond .eq 7, 3, 114, 0, 0, .null), (110, .iconst 0, 1, 0, 0, 0, .int 0), (111, .goto 33, 3, 144, 0, 0, .null)]),
  (7, [(114, .lload_n 3, 1, 0, 0, 0, .null), (115, .ldc2_w 262, 3, 0, 0, 1560, .long (-999)), (118, .lcmp, 1, 0, 0, 0, .null), (119, .ifCond .ge 9, 3, 128, 0, 0, .null), (122, .sipush (-999), 3, 0, 0, 0, .int (-999)), (125, .goto 19, 3, 144, 0, 0, .null)]),
  (8, [(128, .lload_n 3, 1, 0, 0, 0, .null), (129, .ldc2_w 264, 3, 0, 0, 1561, .long 999), (132, .lcmp, 1, 0, 0, 0, .null), (133, .ifCond .le 9, 3, 142, 0, 0, .null), (136, .sipush 999, 3, 0, 0, 0, .int 999), (139, .goto 5, 3, 144, 0, 0, .null), (142, .lload_n 3, 1, 0, 0, 0, .null), (143, .l2i, 1, 0, 0, 0, .null)]),
  (9, [(144, .ireturn, 1, 0, 0, 0, .null)])]
def uX10_worthOf : List (Nat × List Nat) := [(93, [0, 3, 5, 6])]
def qX10_looks : CD := [(0, [(0, .aload_n 0, 1, 0, 0, 0, .null), (1, .getfield 63, 3, 10, 26, 1254, .null), (4, .aload_n 0, 1, 0, 0, 0, .null), (5, .getfield 11, 3, 10, 1, 1229, .null), (8, .if_icmp .ne 4, 3, 12, 0, 0, .null), (11, .return_, 1, 0, 0, 0, .null), (12, .aload_n 0, 1, 0, 0, 0, .null), (13, .aload_n 0, 1, 0, 0, 0, .null), (14, .getfield 11, 3, 10, 1, 1229, .null)]),
  (1, [(17, .putfield 63, 3, 10, 26, 1254, .null), (20, .iconst 0, 1, 0, 0, 0, .int 0), (21, .istore_n 1, 1, 0, 0, 0, .null), (22, .iload_n 1, 1, 0, 0, 0, .null), (23, .aload_n 0, 1, 0, 0, 0, .null), (24, .invokevirtual 120, 3, 153, 10100, 1493, .null), (27, .if_icmp .ge 54, 3, 81, 0, 0, .null), (30, .iconst 0, 1, 0, 0, 0, .int 0), (31, .istore_n 2, 1, 0, 0, 0, .null)]),
  (2, [(32, .iload_n 2, 1, 0, 0, 0, .null), (33, .bipush 11, 2, 0, 0, 0, .int 11), (35, .if_icmp .ge 40, 3, 75, 0, 0, .null), (38, .aload_n 0, 1, 0, 0, 0, .null), (39, .getfield 60, 3, 10, 25, 1253, .null), (42, .bipush 11, 2, 0, 0, 0, .int 11), (44, .iload_n 1, 1, 0, 0, 0, .null), (45, .imul, 1, 0, 0, 0, .null), (46, .iload_n 2, 1, 0, 0, 0, .null), (47, .iadd, 1, 0, 0, 0, .null)]),
  (3, [(48, .aload_n 0, 1, 0, 0, 0, .null), (49, .iload_n 1, 1, 0, 0, 0, .null), (50, .iconst 0, 1, 0, 0, 0, .int 0), (51, .invokevirtual 128, 3, 156, 10102, 1497, .null), (54, .iconst 3, 1, 0, 0, 0, .int 3), (55, .if_icmp .ne 12, 3, 67, 0, 0, .null), (58, .aload_n 0, 1, 0, 0, 0, .null), (59, .iload_n 1, 1, 0, 0, 0, .null), (60, .iload_n 2, 1, 0, 0, 0, .null), (61, .invokevirtual 266, 3, 191, 10102, 1510, .null)]),
  (4, [(64, .goto 4, 3, 68, 0, 0, .null), (67, .iconst 0, 1, 0, 0, 0, .int 0), (68, .iastore, 1, 0, 0, 0, .null), (69, .iinc 2 1, 3, 0, 0, 0, .int 1), (72, .goto (-40), 3, 32, 0, 0, .null), (75, .iinc 1 1, 3, 0, 0, 0, .int 1), (78, .goto (-56), 3, 22, 0, 0, .null)]),
  (5, [(81, .return_, 1, 0, 0, 0, .null)])]
def uX10_looks : List (Nat × List Nat) := [(22, [0, 1]), (32, [0, 1, 2])]
def qX10_terms : CD := [(0, [(0, .iload_n 1, 1, 0, 0, 0, .null), (1, .iconst 0, 1, 0, 0, 0, .int 0), (2, .iconst 3, 1, 0, 0, 0, .int 3), (3, .invokestatic 109, 3, 144, 303, 1380, .null), (6, .ifCond .eq 51, 3, 57, 0, 0, .null), (9, .iload_n 1, 1, 0, 0, 0, .null), (10, .ifCond .ne 16, 3, 26, 0, 0, .null), (13, .iload_n 2, 1, 0, 0, 0, .null), (14, .iconst 0, 1, 0, 0, 0, .int 0), (15, .bipush 15, 2, 0, 0, 0, .int 15)]),
  (1, [(17, .invokestatic 109, 3, 144, 303, 1380, .null), (20, .ifCond .eq 37, 3, 57, 0, 0, .null), (23, .goto 40, 3, 63, 0, 0, .null), (26, .iload_n 1, 1, 0, 0, 0, .null), (27, .iconst 1, 1, 0, 0, 0, .int 1), (28, .if_icmp .ne 16, 3, 44, 0, 0, .null), (31, .iload_n 2, 1, 0, 0, 0, .null)]),
  (2, [(32, .iconst 1, 1, 0, 0, 0, .int 1), (33, .bipush 10, 2, 0, 0, 0, .int 10), (35, .invokestatic 109, 3, 144, 303, 1380, .null), (38, .ifCond .eq 19, 3, 57, 0, 0, .null), (41, .goto 22, 3, 63, 0, 0, .null), (44, .iload_n 2, 1, 0, 0, 0, .null), (45, .sipush (-999), 3, 0, 0, 0, .int (-999))]),
  (3, [(48, .sipush 999, 3, 0, 0, 0, .int 999), (51, .invokestatic 109, 3, 144, 303, 1380, .null), (54, .ifCond .ne 9, 3, 63, 0, 0, .null), (57, .aload_n 0, 1, 0, 0, 0, .null), (58, .iconst (-1), 1, 0, 0, 0, .int (-1)), (59, .invokevirtual 113, 3, 145, 10101, 1383, .null), (62, .ireturn, 1, 0, 0, 0, .null), (63, .aload_n 0, 1, 0, 0, 0, .null)]),
  (4, [(64, .getfield 22, 3, 10, 3, 1231, .null), (67, .sipush 178, 3, 0, 0, 0, .int 178), (70, .iload_n 1, 1, 0, 0, 0, .null), (71, .iadd, 1, 0, 0, 0, .null), (72, .iaload, 1, 0, 0, 0, .null), (73, .istore_n 3, 1, 0, 0, 0, .null), (74, .aload_n 0, 1, 0, 0, 0, .null), (75, .getfield 22, 3, 10, 3, 1231, .null), (78, .sipush 178, 3, 0, 0, 0, .int 178)]),
  (5, [(81, .iload_n 1, 1, 0, 0, 0, .null), (82, .iadd, 1, 0, 0, 0, .null), (83, .iload_n 2, 1, 0, 0, 0, .null), (84, .iastore, 1, 0, 0, 0, .null), (85, .aload_n 0, 1, 0, 0, 0, .null), (86, .iload_n 3, 1, 0, 0, 0, .null), (87, .invokevirtual 117, 3, 146, 10101, 1387, .null), (90, .ireturn, 1, 0, 0, 0, .null)])]
def uX10_terms : List (Nat × List Nat) := [(63, [0, 1, 2])]
def qX10_of : CD := [(0, [(0, .aload_n 0, 1, 0, 0, 0, .null), (1, .iload_n 1, 1, 0, 0, 0, .null), (2, .invokevirtual 124, 3, 155, 10301, 1489, .null), (5, .ifCond .eq 13, 3, 18, 0, 0, .null), (8, .iload_n 2, 1, 0, 0, 0, .null), (9, .iconst 0, 1, 0, 0, 0, .int 0), (10, .bipush 9, 2, 0, 0, 0, .int 9), (12, .invokestatic 109, 3, 144, 303, 1380, .null), (15, .ifCond .ne 5, 3, 20, 0, 0, .null)]),
  (1, [(18, .iconst (-1), 1, 0, 0, 0, .int (-1)), (19, .ireturn, 1, 0, 0, 0, .null), (20, .aload_n 0, 1, 0, 0, 0, .null), (21, .iload_n 1, 1, 0, 0, 0, .null), (22, .iconst 0, 1, 0, 0, 0, .int 0), (23, .invokevirtual 128, 3, 156, 10102, 1497, .null), (26, .istore_n 3, 1, 0, 0, 0, .null), (27, .iload_n 2, 1, 0, 0, 0, .null), (28, .ifCond .ne 5, 3, 33, 0, 0, .null), (31, .iload_n 3, 1, 0, 0, 0, .null)]),
  (2, [(32, .ireturn, 1, 0, 0, 0, .null), (33, .iload_n 2, 1, 0, 0, 0, .null), (34, .iconst 1, 1, 0, 0, 0, .int 1), (35, .if_icmp .ne 18, 3, 53, 0, 0, .null), (38, .iload_n 3, 1, 0, 0, 0, .null), (39, .ifCond .ne 12, 3, 51, 0, 0, .null), (42, .aload_n 0, 1, 0, 0, 0, .null), (43, .iload_n 1, 1, 0, 0, 0, .null), (44, .iconst 1, 1, 0, 0, 0, .int 1), (45, .invokevirtual 128, 3, 156, 10102, 1497, .null)]),
  (3, [(48, .goto 4, 3, 52, 0, 0, .null), (51, .iconst (-1), 1, 0, 0, 0, .int (-1)), (52, .ireturn, 1, 0, 0, 0, .null), (53, .iload_n 2, 1, 0, 0, 0, .null), (54, .iconst 2, 1, 0, 0, 0, .int 2), (55, .if_icmp .ne 19, 3, 74, 0, 0, .null), (58, .iload_n 3, 1, 0, 0, 0, .null), (59, .iconst 2, 1, 0, 0, 0, .int 2), (60, .if_icmp .ne 12, 3, 72, 0, 0, .null), (63, .aload_n 0, 1, 0, 0, 0, .null)]),
  (4, [(64, .iload_n 1, 1, 0, 0, 0, .null), (65, .iconst 1, 1, 0, 0, 0, .int 1), (66, .invokevirtual 128, 3, 156, 10102, 1497, .null), (69, .goto 4, 3, 73, 0, 0, .null), (72, .iconst (-1), 1, 0, 0, 0, .int (-1)), (73, .ireturn, 1, 0, 0, 0, .null), (74, .iload_n 2, 1, 0, 0, 0, .null), (75, .iconst 3, 1, 0, 0, 0, .int 3), (76, .if_icmp .ne 10, 3, 86, 0, 0, .null), (79, .aload_n 0, 1, 0, 0, 0, .null)]),
  (5, [(80, .iload_n 1, 1, 0, 0, 0, .null), (81, .iconst 2, 1, 0, 0, 0, .int 2), (82, .invokevirtual 128, 3, 156, 10102, 1497, .null), (85, .ireturn, 1, 0, 0, 0, .null), (86, .iload_n 2, 1, 0, 0, 0, .null), (87, .bipush 7, 2, 0, 0, 0, .int 7), (89, .if_icmp .ge 9, 3, 98, 0, 0, .null), (92, .iload_n 2, 1, 0, 0, 0, .null), (93, .iconst 4, 1, 0, 0, 0, .int 4), (94, .isub, 1, 0, 0, 0, .null), (95, .goto 7, 3, 102, 0, 0, .null)]),
  (6, [(98, .iload_n 2, 1, 0, 0, 0, .null), (99, .bipush 7, 2, 0, 0, 0, .int 7), (101, .isub, 1, 0, 0, 0, .null), (102, .istore 4, 2, 0, 0, 0, .null), (104, .iload_n 3, 1, 0, 0, 0, .null), (105, .iconst 3, 1, 0, 0, 0, .int 3), (106, .if_icmp .eq 25, 3, 131, 0, 0, .null), (109, .iload 4, 2, 0, 0, 0, .null), (111, .aload_n 0, 1, 0, 0, 0, .null)]),
  (7, [(112, .iload_n 1, 1, 0, 0, 0, .null), (113, .iconst 2, 1, 0, 0, 0, .int 2), (114, .invokevirtual 128, 3, 156, 10102, 1497, .null), (117, .if_icmp .ge 14, 3, 131, 0, 0, .null), (120, .iload_n 2, 1, 0, 0, 0, .null), (121, .bipush 6, 2, 0, 0, 0, .int 6), (123, .if_icmp .le 10, 3, 133, 0, 0, .null), (126, .iload_n 3, 1, 0, 0, 0, .null), (127, .iconst 1, 1, 0, 0, 0, .int 1)]),
  (8, [(128, .if_icmp .eq 5, 3, 133, 0, 0, .null), (131, .iconst (-1), 1, 0, 0, 0, .int (-1)), (132, .ireturn, 1, 0, 0, 0, .null), (133, .aload_n 0, 1, 0, 0, 0, .null), (134, .iload_n 1, 1, 0, 0, 0, .null), (135, .iload_n 2, 1, 0, 0, 0, .null), (136, .bipush 7, 2, 0, 0, 0, .int 7), (138, .if_icmp .ge 10, 3, 148, 0, 0, .null), (141, .iconst 3, 1, 0, 0, 0, .int 3), (142, .iload 4, 2, 0, 0, 0, .null)]),
  (9, [(144, .iadd, 1, 0, 0, 0, .null), (145, .goto 8, 3, 153, 0, 0, .null), (148, .bipush 6, 2, 0, 0, 0, .int 6), (150, .iload 4, 2, 0, 0, 0, .null), (152, .iadd, 1, 0, 0, 0, .null), (153, .invokevirtual 128, 3, 156, 10102, 1497, .null), (156, .ireturn, 1, 0, 0, 0, .null)])]
def uX10_of : List (Nat × List Nat) := [(104, [0, 1, 2, 3, 4]), (133, [0, 1, 2, 4])]
def qX10_pays : CD := [(0, [(0, .aload_n 0, 1, 0, 0, 0, .null), (1, .iload_n 1, 1, 0, 0, 0, .null), (2, .invokevirtual 124, 3, 155, 10301, 1489, .null), (5, .ifCond .eq 23, 3, 28, 0, 0, .null), (8, .aload_n 0, 1, 0, 0, 0, .null), (9, .iload_n 1, 1, 0, 0, 0, .null), (10, .iconst 0, 1, 0, 0, 0, .int 0), (11, .invokevirtual 128, 3, 156, 10102, 1497, .null), (14, .iconst 3, 1, 0, 0, 0, .int 3), (15, .if_icmp .ne 13, 3, 28, 0, 0, .null)]),
  (1, [(18, .iload_n 2, 1, 0, 0, 0, .null), (19, .iconst 0, 1, 0, 0, 0, .int 0), (20, .bipush 10, 2, 0, 0, 0, .int 10), (22, .invokestatic 109, 3, 144, 303, 1380, .null), (25, .ifCond .ne 7, 3, 32, 0, 0, .null), (28, .ldc2_w 269, 3, 0, 0, 1505, .long (-1000000000000000000)), (31, .lreturn, 1, 0, 0, 0, .null)]),
  (2, [(32, .aload_n 0, 1, 0, 0, 0, .null), (33, .invokevirtual 271, 3, 192, 10000, 1506, .null), (36, .aload_n 0, 1, 0, 0, 0, .null), (37, .getfield 60, 3, 10, 25, 1253, .null), (40, .bipush 11, 2, 0, 0, 0, .int 11), (42, .iload_n 1, 1, 0, 0, 0, .null), (43, .imul, 1, 0, 0, 0, .null), (44, .iload_n 2, 1, 0, 0, 0, .null), (45, .iadd, 1, 0, 0, 0, .null), (46, .iaload, 1, 0, 0, 0, .null), (47, .i2l, 1, 0, 0, 0, .null)]),
  (3, [(48, .lreturn, 1, 0, 0, 0, .null)])]
def uX10_pays : List (Nat × List Nat) := []
def qX10_paint : CD := [(0, [(0, .iload_n 2, 1, 0, 0, 0, .null), (1, .invokestatic 274, 3, 158, 301, 1566, .null), (4, .ifCond .ne 9, 3, 13, 0, 0, .null), (7, .aload_n 0, 1, 0, 0, 0, .null), (8, .iconst (-1), 1, 0, 0, 0, .int (-1)), (9, .invokevirtual 113, 3, 145, 10101, 1383, .null), (12, .ireturn, 1, 0, 0, 0, .null), (13, .aload_n 0, 1, 0, 0, 0, .null), (14, .iload_n 1, 1, 0, 0, 0, .null), (15, .invokevirtual 124, 3, 155, 10301, 1489, .null)]),
  (1, [(18, .ifCond .ne 10, 3, 28, 0, 0, .null), (21, .aload_n 0, 1, 0, 0, 0, .null), (22, .bipush (-2), 2, 0, 0, 0, .int (-2)), (24, .invokevirtual 113, 3, 145, 10101, 1383, .null), (27, .ireturn, 1, 0, 0, 0, .null), (28, .aload_n 0, 1, 0, 0, 0, .null), (29, .iload_n 1, 1, 0, 0, 0, .null), (30, .invokevirtual 277, 3, 157, 10301, 1569, .null)]),
  (2, [(33, .ifCond .ne 10, 3, 43, 0, 0, .null), (36, .aload_n 0, 1, 0, 0, 0, .null), (37, .bipush (-3), 2, 0, 0, 0, .int (-3)), (39, .invokevirtual 113, 3, 145, 10101, 1383, .null), (42, .ireturn, 1, 0, 0, 0, .null), (43, .aload_n 0, 1, 0, 0, 0, .null), (44, .iload_n 1, 1, 0, 0, 0, .null), (45, .iconst 1, 1, 0, 0, 0, .int 1), (46, .invokevirtual 128, 3, 156, 10102, 1497, .null)]),
  (3, [(49, .istore_n 3, 1, 0, 0, 0, .null), (50, .aload_n 0, 1, 0, 0, 0, .null), (51, .getfield 22, 3, 10, 3, 1231, .null), (54, .iconst 0, 1, 0, 0, 0, .int 0), (55, .bipush 10, 2, 0, 0, 0, .int 10), (57, .iload_n 1, 1, 0, 0, 0, .null), (58, .imul, 1, 0, 0, 0, .null), (59, .iadd, 1, 0, 0, 0, .null), (60, .iconst 1, 1, 0, 0, 0, .int 1), (61, .iadd, 1, 0, 0, 0, .null), (62, .iload_n 2, 1, 0, 0, 0, .null), (63, .iastore, 1, 0, 0, 0, .null)]),
  (4, [(64, .aload_n 0, 1, 0, 0, 0, .null), (65, .iload_n 3, 1, 0, 0, 0, .null), (66, .invokevirtual 117, 3, 146, 10101, 1387, .null), (69, .ireturn, 1, 0, 0, 0, .null)])]
def uX10_paint : List (Nat × List Nat) := []
def qX10_used : CD := [(0, [(0, .iconst 0, 1, 0, 0, 0, .int 0), (1, .istore_n 1, 1, 0, 0, 0, .null), (2, .iconst 0, 1, 0, 0, 0, .int 0), (3, .istore_n 2, 1, 0, 0, 0, .null), (4, .iload_n 2, 1, 0, 0, 0, .null), (5, .aload_n 0, 1, 0, 0, 0, .null), (6, .invokevirtual 120, 3, 153, 10100, 1493, .null), (9, .if_icmp .ge 32, 3, 41, 0, 0, .null), (12, .iload_n 1, 1, 0, 0, 0, .null), (13, .aload_n 0, 1, 0, 0, 0, .null), (14, .iload_n 2, 1, 0, 0, 0, .null), (15, .invokevirtual 277, 3, 157, 10301, 1569, .null)]),
  (1, [(18, .ifCond .eq 14, 3, 32, 0, 0, .null), (21, .iconst 1, 1, 0, 0, 0, .int 1), (22, .aload_n 0, 1, 0, 0, 0, .null), (23, .iload_n 2, 1, 0, 0, 0, .null), (24, .iconst 1, 1, 0, 0, 0, .int 1), (25, .invokevirtual 128, 3, 156, 10102, 1497, .null), (28, .ishl, 1, 0, 0, 0, .null), (29, .goto 4, 3, 33, 0, 0, .null)]),
  (2, [(32, .iconst 0, 1, 0, 0, 0, .int 0), (33, .ior, 1, 0, 0, 0, .null), (34, .istore_n 1, 1, 0, 0, 0, .null), (35, .iinc 2 1, 3, 0, 0, 0, .int 1), (38, .goto (-34), 3, 4, 0, 0, .null), (41, .iload_n 1, 1, 0, 0, 0, .null), (42, .ireturn, 1, 0, 0, 0, .null)])]
def uX10_used : List (Nat × List Nat) := [(4, [0, 1, 2])]
def qX10_rule : CD := [(0, [(0, .iload_n 1, 1, 0, 0, 0, .null), (1, .invokestatic 274, 3, 158, 301, 1566, .null), (4, .ifCond .eq 25, 3, 29, 0, 0, .null), (7, .iload_n 2, 1, 0, 0, 0, .null), (8, .iconst 0, 1, 0, 0, 0, .int 0), (9, .bipush 10, 2, 0, 0, 0, .int 10), (11, .invokestatic 109, 3, 144, 303, 1380, .null), (14, .ifCond .eq 15, 3, 29, 0, 0, .null)]),
  (1, [(17, .iload_n 3, 1, 0, 0, 0, .null), (18, .iconst 0, 1, 0, 0, 0, .int 0), (19, .bipush 10, 2, 0, 0, 0, .int 10), (21, .iload_n 2, 1, 0, 0, 0, .null), (22, .isub, 1, 0, 0, 0, .null), (23, .invokestatic 109, 3, 144, 303, 1380, .null), (26, .ifCond .ne 9, 3, 35, 0, 0, .null), (29, .aload_n 0, 1, 0, 0, 0, .null), (30, .iconst (-1), 1, 0, 0, 0, .int (-1)), (31, .invokevirtual 113, 3, 145, 10101, 1383, .null)]),
  (2, [(34, .ireturn, 1, 0, 0, 0, .null), (35, .aload_n 0, 1, 0, 0, 0, .null), (36, .getfield 22, 3, 10, 3, 1231, .null), (39, .sipush 160, 3, 0, 0, 0, .int 160), (42, .iconst 3, 1, 0, 0, 0, .int 3), (43, .iload_n 1, 1, 0, 0, 0, .null), (44, .imul, 1, 0, 0, 0, .null), (45, .iadd, 1, 0, 0, 0, .null), (46, .iload_n 2, 1, 0, 0, 0, .null), (47, .iastore, 1, 0, 0, 0, .null)]),
  (3, [(48, .aload_n 0, 1, 0, 0, 0, .null), (49, .getfield 22, 3, 10, 3, 1231, .null), (52, .sipush 160, 3, 0, 0, 0, .int 160), (55, .iconst 3, 1, 0, 0, 0, .int 3), (56, .iload_n 1, 1, 0, 0, 0, .null), (57, .imul, 1, 0, 0, 0, .null), (58, .iadd, 1, 0, 0, 0, .null), (59, .iconst 1, 1, 0, 0, 0, .int 1), (60, .iadd, 1, 0, 0, 0, .null), (61, .iload_n 3, 1, 0, 0, 0, .null), (62, .iastore, 1, 0, 0, 0, .null), (63, .aload_n 0, 1, 0, 0, 0, .null)]),
  (4, [(64, .getfield 22, 3, 10, 3, 1231, .null), (67, .sipush 160, 3, 0, 0, 0, .int 160), (70, .iconst 3, 1, 0, 0, 0, .int 3), (71, .iload_n 1, 1, 0, 0, 0, .null), (72, .imul, 1, 0, 0, 0, .null), (73, .iadd, 1, 0, 0, 0, .null), (74, .iconst 2, 1, 0, 0, 0, .int 2), (75, .iadd, 1, 0, 0, 0, .null), (76, .bipush 10, 2, 0, 0, 0, .int 10), (78, .iload_n 2, 1, 0, 0, 0, .null), (79, .isub, 1, 0, 0, 0, .null)]),
  (5, [(80, .iload_n 3, 1, 0, 0, 0, .null), (81, .isub, 1, 0, 0, 0, .null), (82, .iastore, 1, 0, 0, 0, .null), (83, .aload_n 0, 1, 0, 0, 0, .null), (84, .iconst 0, 1, 0, 0, 0, .int 0), (85, .invokevirtual 117, 3, 146, 10101, 1387, .null), (88, .ireturn, 1, 0, 0, 0, .null)])]
def uX10_rule : List (Nat × List Nat) := []
def qX10_tenths : CD := [(0, [(0, .iload_n 1, 1, 0, 0, 0, .null), (1, .invokestatic 274, 3, 158, 301, 1566, .null), (4, .ifCond .eq 29, 3, 33, 0, 0, .null), (7, .iload_n 2, 1, 0, 0, 0, .null), (8, .iconst 0, 1, 0, 0, 0, .int 0), (9, .iconst 2, 1, 0, 0, 0, .int 2), (10, .invokestatic 109, 3, 144, 303, 1380, .null), (13, .ifCond .eq 20, 3, 33, 0, 0, .null)]),
  (1, [(16, .aload_n 0, 1, 0, 0, 0, .null), (17, .getfield 22, 3, 10, 3, 1231, .null), (20, .sipush 160, 3, 0, 0, 0, .int 160), (23, .iconst 3, 1, 0, 0, 0, .int 3), (24, .iload_n 1, 1, 0, 0, 0, .null), (25, .imul, 1, 0, 0, 0, .null), (26, .iadd, 1, 0, 0, 0, .null), (27, .iload_n 2, 1, 0, 0, 0, .null), (28, .iadd, 1, 0, 0, 0, .null), (29, .iaload, 1, 0, 0, 0, .null), (30, .goto 4, 3, 34, 0, 0, .null)]),
  (2, [(33, .iconst (-1), 1, 0, 0, 0, .int (-1)), (34, .ireturn, 1, 0, 0, 0, .null)])]
def uX10_tenths : List (Nat × List Nat) := []
def qX10_takesRule : CD := [(0, [(0, .iconst 0, 1, 0, 0, 0, .int 0), (1, .istore_n 1, 1, 0, 0, 0, .null), (2, .iload_n 1, 1, 0, 0, 0, .null), (3, .bipush 18, 2, 0, 0, 0, .int 18), (5, .if_icmp .ge 25, 3, 30, 0, 0, .null), (8, .aload_n 0, 1, 0, 0, 0, .null), (9, .getfield 66, 3, 10, 27, 1255, .null), (12, .iload_n 1, 1, 0, 0, 0, .null), (13, .aload_n 0, 1, 0, 0, 0, .null), (14, .getfield 22, 3, 10, 3, 1231, .null)]),
  (1, [(17, .sipush 160, 3, 0, 0, 0, .int 160), (20, .iload_n 1, 1, 0, 0, 0, .null), (21, .iadd, 1, 0, 0, 0, .null), (22, .iaload, 1, 0, 0, 0, .null), (23, .iastore, 1, 0, 0, 0, .null), (24, .iinc 1 1, 3, 0, 0, 0, .int 1), (27, .goto (-25), 3, 2, 0, 0, .null), (30, .return_, 1, 0, 0, 0, .null)])]
def uX10_takesRule : List (Nat × List Nat) := [(2, [0, 1])]
def qX10_next : CD := [(0, [(0, .iload_n 1, 1, 0, 0, 0, .null), (1, .aload_n 0, 1, 0, 0, 0, .null), (2, .invokevirtual 120, 3, 153, 10100, 1493, .null), (5, .if_icmp .ge 17, 3, 22, 0, 0, .null), (8, .aload_n 0, 1, 0, 0, 0, .null), (9, .getfield 69, 3, 10, 28, 1256, .null), (12, .bipush 16, 2, 0, 0, 0, .int 16), (14, .iload_n 2, 1, 0, 0, 0, .null), (15, .imul, 1, 0, 0, 0, .null)]),
  (1, [(16, .iload_n 1, 1, 0, 0, 0, .null), (17, .iadd, 1, 0, 0, 0, .null), (18, .laload, 1, 0, 0, 0, .null), (19, .goto 22, 3, 41, 0, 0, .null), (22, .aload_n 0, 1, 0, 0, 0, .null), (23, .getfield 22, 3, 10, 3, 1231, .null), (26, .sipush 181, 3, 0, 0, 0, .int 181), (29, .iaload, 1, 0, 0, 0, .null), (30, .i2l, 1, 0, 0, 0, .null), (31, .aload_n 0, 1, 0, 0, 0, .null)]),
  (2, [(32, .invokevirtual 259, 3, 154, 10100, 1514, .null), (35, .iload_n 2, 1, 0, 0, 0, .null), (36, .isub, 1, 0, 0, 0, .null), (37, .invokestatic 280, 3, 149, 201, 1601, .null), (40, .lmul, 1, 0, 0, 0, .null), (41, .lreturn, 1, 0, 0, 0, .null)])]
def uX10_next : List (Nat × List Nat) := []
def qX10_weighs : CD := [(0, [(0, .aload_n 0, 1, 0, 0, 0, .null), (1, .invokevirtual 271, 3, 192, 10000, 1506, .null), (4, .aload_n 0, 1, 0, 0, 0, .null), (5, .invokevirtual 259, 3, 154, 10100, 1514, .null), (8, .istore_n 1, 1, 0, 0, 0, .null), (9, .iload_n 1, 1, 0, 0, 0, .null), (10, .ifCond .lt 42, 3, 52, 0, 0, .null), (13, .iconst 0, 1, 0, 0, 0, .int 0), (14, .istore_n 2, 1, 0, 0, 0, .null), (15, .iload_n 2, 1, 0, 0, 0, .null)]),
  (1, [(16, .aload_n 0, 1, 0, 0, 0, .null), (17, .invokevirtual 120, 3, 153, 10100, 1493, .null), (20, .if_icmp .ge 26, 3, 46, 0, 0, .null), (23, .aload_n 0, 1, 0, 0, 0, .null), (24, .getfield 69, 3, 10, 28, 1256, .null), (27, .bipush 16, 2, 0, 0, 0, .int 16), (29, .iload_n 1, 1, 0, 0, 0, .null), (30, .imul, 1, 0, 0, 0, .null), (31, .iload_n 2, 1, 0, 0, 0, .null)]),
  (2, [(32, .iadd, 1, 0, 0, 0, .null), (33, .aload_n 0, 1, 0, 0, 0, .null), (34, .iload_n 2, 1, 0, 0, 0, .null), (35, .iload_n 1, 1, 0, 0, 0, .null), (36, .invokevirtual 284, 3, 203, 10202, 1597, .null), (39, .lastore, 1, 0, 0, 0, .null), (40, .iinc 2 1, 3, 0, 0, 0, .int 1), (43, .goto (-28), 3, 15, 0, 0, .null), (46, .iinc 1 (-1), 3, 0, 0, 0, .int (-1))]),
  (3, [(49, .goto (-40), 3, 9, 0, 0, .null), (52, .return_, 1, 0, 0, 0, .null)])]
def uX10_weighs : List (Nat × List Nat) := [(9, [0, 1]), (15, [0, 1, 2])]
def qX10_weigh : CD := [(0, [(0, .aload_n 0, 1, 0, 0, 0, .null), (1, .iload_n 1, 1, 0, 0, 0, .null), (2, .iconst 0, 1, 0, 0, 0, .int 0), (3, .invokevirtual 128, 3, 156, 10102, 1497, .null), (6, .istore_n 3, 1, 0, 0, 0, .null), (7, .aload_n 0, 1, 0, 0, 0, .null), (8, .invokevirtual 259, 3, 154, 10100, 1514, .null), (11, .iload_n 2, 1, 0, 0, 0, .null), (12, .isub, 1, 0, 0, 0, .null), (13, .invokestatic 280, 3, 149, 201, 1601, .null)]),
  (1, [(16, .lstore 4, 2, 0, 0, 0, .null), (18, .iload_n 3, 1, 0, 0, 0, .null), (19, .iconst 3, 1, 0, 0, 0, .int 3), (20, .if_icmp .ne 19, 3, 39, 0, 0, .null), (23, .aload_n 0, 1, 0, 0, 0, .null), (24, .getfield 60, 3, 10, 25, 1253, .null), (27, .bipush 11, 2, 0, 0, 0, .int 11), (29, .iload_n 1, 1, 0, 0, 0, .null), (30, .imul, 1, 0, 0, 0, .null), (31, .iload_n 2, 1, 0, 0, 0, .null)]),
  (2, [(32, .iadd, 1, 0, 0, 0, .null), (33, .iaload, 1, 0, 0, 0, .null), (34, .i2l, 1, 0, 0, 0, .null), (35, .lload 4, 2, 0, 0, 0, .null), (37, .lmul, 1, 0, 0, 0, .null), (38, .lreturn, 1, 0, 0, 0, .null), (39, .iload_n 2, 1, 0, 0, 0, .null), (40, .aload_n 0, 1, 0, 0, 0, .null), (41, .invokevirtual 259, 3, 154, 10100, 1514, .null), (44, .if_icmp .ne 13, 3, 57, 0, 0, .null), (47, .aload_n 0, 1, 0, 0, 0, .null)]),
  (3, [(48, .getfield 22, 3, 10, 3, 1231, .null), (51, .sipush 180, 3, 0, 0, 0, .int 180), (54, .iaload, 1, 0, 0, 0, .null), (55, .i2l, 1, 0, 0, 0, .null), (56, .lreturn, 1, 0, 0, 0, .null), (57, .iload_n 3, 1, 0, 0, 0, .null), (58, .iconst 2, 1, 0, 0, 0, .int 2), (59, .if_icmp .ne 32, 3, 91, 0, 0, .null), (62, .ldc2_w 14, 3, 0, 0, 1604, .long 10)]),
  (4, [(65, .aload_n 0, 1, 0, 0, 0, .null), (66, .aload_n 0, 1, 0, 0, 0, .null), (67, .iload_n 1, 1, 0, 0, 0, .null), (68, .iconst 3, 1, 0, 0, 0, .int 3), (69, .invokevirtual 128, 3, 156, 10102, 1497, .null), (72, .iload_n 2, 1, 0, 0, 0, .null), (73, .iconst 1, 1, 0, 0, 0, .int 1), (74, .iadd, 1, 0, 0, 0, .null), (75, .invokevirtual 288, 3, 201, 10202, 1605, .null), (78, .lmul, 1, 0, 0, 0, .null), (79, .aload_n 0, 1, 0, 0, 0, .null)]),
  (5, [(80, .iload_n 1, 1, 0, 0, 0, .null), (81, .iconst 1, 1, 0, 0, 0, .int 1), (82, .invokevirtual 128, 3, 156, 10102, 1497, .null), (85, .i2l, 1, 0, 0, 0, .null), (86, .lload 4, 2, 0, 0, 0, .null), (88, .lmul, 1, 0, 0, 0, .null), (89, .lsub, 1, 0, 0, 0, .null), (90, .lreturn, 1, 0, 0, 0, .null), (91, .aload_n 0, 1, 0, 0, 0, .null), (92, .iload_n 1, 1, 0, 0, 0, .null), (93, .iconst 2, 1, 0, 0, 0, .int 2), (94, .invokevirtual 128, 3, 156, 10102, 1497, .null)]),
  (6, [(97, .istore 6, 2, 0, 0, 0, .null), (99, .lconst 0, 1, 0, 0, 0, .long 0), (100, .lstore 7, 2, 0, 0, 0, .null), (102, .iload_n 3, 1, 0, 0, 0, .null), (103, .iconst 1, 1, 0, 0, 0, .int 1), (104, .if_icmp .ne 55, 3, 159, 0, 0, .null), (107, .iconst 0, 1, 0, 0, 0, .int 0), (108, .istore 9, 2, 0, 0, 0, .null), (110, .iload 9, 2, 0, 0, 0, .null)]),
  (7, [(112, .iload 6, 2, 0, 0, 0, .null), (114, .if_icmp .ge 42, 3, 156, 0, 0, .null), (117, .lload 7, 2, 0, 0, 0, .null), (119, .aload_n 0, 1, 0, 0, 0, .null), (120, .iload_n 1, 1, 0, 0, 0, .null), (121, .bipush 6, 2, 0, 0, 0, .int 6), (123, .iload 9, 2, 0, 0, 0, .null), (125, .iadd, 1, 0, 0, 0, .null), (126, .invokevirtual 128, 3, 156, 10102, 1497, .null)]),
  (8, [(129, .i2l, 1, 0, 0, 0, .null), (130, .aload_n 0, 1, 0, 0, 0, .null), (131, .aload_n 0, 1, 0, 0, 0, .null), (132, .iload_n 1, 1, 0, 0, 0, .null), (133, .iconst 3, 1, 0, 0, 0, .int 3), (134, .iload 9, 2, 0, 0, 0, .null), (136, .iadd, 1, 0, 0, 0, .null), (137, .invokevirtual 128, 3, 156, 10102, 1497, .null), (140, .iload_n 2, 1, 0, 0, 0, .null), (141, .iconst 1, 1, 0, 0, 0, .int 1), (142, .iadd, 1, 0, 0, 0, .null), (143, .invokevirtual 288, 3, 201, 10202, 1605, .null)]),
  (9, [(146, .lmul, 1, 0, 0, 0, .null), (147, .ladd, 1, 0, 0, 0, .null), (148, .lstore 7, 2, 0, 0, 0, .null), (150, .iinc 9 1, 3, 0, 0, 0, .int 1), (153, .goto (-43), 3, 110, 0, 0, .null), (156, .lload 7, 2, 0, 0, 0, .null), (158, .lreturn, 1, 0, 0, 0, .null), (159, .ldc2_w 269, 3, 0, 0, 1505, .long (-1000000000000000000))]),
  (10, [(162, .lstore 9, 2, 0, 0, 0, .null), (164, .iconst 0, 1, 0, 0, 0, .int 0), (165, .istore 11, 2, 0, 0, 0, .null), (167, .iload 11, 2, 0, 0, 0, .null), (169, .iconst 3, 1, 0, 0, 0, .int 3), (170, .if_icmp .ge 83, 3, 253, 0, 0, .null), (173, .aload_n 0, 1, 0, 0, 0, .null), (174, .aload_n 0, 1, 0, 0, 0, .null), (175, .iload_n 1, 1, 0, 0, 0, .null)]),
  (11, [(176, .iconst 3, 1, 0, 0, 0, .int 3), (177, .iload 11, 2, 0, 0, 0, .null), (179, .iload 6, 2, 0, 0, 0, .null), (181, .if_icmp .ge 8, 3, 189, 0, 0, .null), (184, .iload 11, 2, 0, 0, 0, .null), (186, .goto 7, 3, 193, 0, 0, .null), (189, .iload 6, 2, 0, 0, 0, .null), (191, .iconst 1, 1, 0, 0, 0, .int 1)]),
  (12, [(192, .isub, 1, 0, 0, 0, .null), (193, .iadd, 1, 0, 0, 0, .null), (194, .invokevirtual 128, 3, 156, 10102, 1497, .null), (197, .iload_n 2, 1, 0, 0, 0, .null), (198, .iconst 1, 1, 0, 0, 0, .int 1), (199, .iadd, 1, 0, 0, 0, .null), (200, .invokevirtual 288, 3, 201, 10202, 1605, .null), (203, .lstore 12, 2, 0, 0, 0, .null), (205, .lload 7, 2, 0, 0, 0, .null), (207, .aload_n 0, 1, 0, 0, 0, .null)]),
  (13, [(208, .getfield 66, 3, 10, 27, 1255, .null), (211, .iconst 3, 1, 0, 0, 0, .int 3), (212, .aload_n 0, 1, 0, 0, 0, .null), (213, .iload_n 1, 1, 0, 0, 0, .null), (214, .iconst 1, 1, 0, 0, 0, .int 1), (215, .invokevirtual 128, 3, 156, 10102, 1497, .null), (218, .imul, 1, 0, 0, 0, .null), (219, .iload 11, 2, 0, 0, 0, .null), (221, .iadd, 1, 0, 0, 0, .null), (222, .iaload, 1, 0, 0, 0, .null), (223, .i2l, 1, 0, 0, 0, .null)]),
  (14, [(224, .lload 12, 2, 0, 0, 0, .null), (226, .lmul, 1, 0, 0, 0, .null), (227, .ladd, 1, 0, 0, 0, .null), (228, .lstore 7, 2, 0, 0, 0, .null), (230, .lload 12, 2, 0, 0, 0, .null), (232, .lload 9, 2, 0, 0, 0, .null), (234, .lcmp, 1, 0, 0, 0, .null), (235, .ifCond .le 8, 3, 243, 0, 0, .null), (238, .lload 12, 2, 0, 0, 0, .null)]),
  (15, [(240, .goto 5, 3, 245, 0, 0, .null), (243, .lload 9, 2, 0, 0, 0, .null), (245, .lstore 9, 2, 0, 0, 0, .null), (247, .iinc 11 1, 3, 0, 0, 0, .int 1), (250, .goto (-83), 3, 167, 0, 0, .null), (253, .aload_n 0, 1, 0, 0, 0, .null), (254, .getfield 291, 3, 10, 29, 1257, .null)]),
  (16, [(257, .ifCond .eq 12, 3, 269, 0, 0, .null), (260, .ldc2_w 14, 3, 0, 0, 1604, .long 10), (263, .lload 9, 2, 0, 0, 0, .null), (265, .lmul, 1, 0, 0, 0, .null), (266, .goto 5, 3, 271, 0, 0, .null), (269, .lload 7, 2, 0, 0, 0, .null), (271, .lreturn, 1, 0, 0, 0, .null)])]
def uX10_weigh : List (Nat × List Nat) := [(110, [0, 1, 2, 6, 7, 9]), (167, [0, 1, 2, 6, 7, 9, 11]), (205, [0, 1, 2, 6, 7, 9, 11, 12])]
def qX10_atStart : CD := [(0, [(0, .aload_n 0, 1, 0, 0, 0, .null), (1, .aload_n 0, 1, 0, 0, 0, .null), (2, .getfield 22, 3, 10, 3, 1231, .null), (5, .sipush 178, 3, 0, 0, 0, .int 178), (8, .iaload, 1, 0, 0, 0, .null), (9, .iconst 0, 1, 0, 0, 0, .int 0), (10, .invokevirtual 288, 3, 201, 10202, 1605, .null), (13, .bipush 10, 2, 0, 0, 0, .int 10), (15, .aload_n 0, 1, 0, 0, 0, .null)]),
  (1, [(16, .invokevirtual 259, 3, 154, 10100, 1514, .null), (19, .isub, 1, 0, 0, 0, .null), (20, .invokestatic 280, 3, 149, 201, 1601, .null), (23, .lmul, 1, 0, 0, 0, .null), (24, .lreturn, 1, 0, 0, 0, .null)])]
def uX10_atStart : List (Nat × List Nat) := []
def qX10_worth : CD := [(0, [(0, .aload_n 0, 1, 0, 0, 0, .null), (1, .invokevirtual 120, 3, 153, 10100, 1493, .null), (4, .ifCond .ne 7, 3, 11, 0, 0, .null), (7, .ldc2_w 269, 3, 0, 0, 1505, .long (-1000000000000000000)), (10, .lreturn, 1, 0, 0, 0, .null), (11, .aload_n 0, 1, 0, 0, 0, .null), (12, .invokevirtual 294, 3, 200, 10000, 1589, .null), (15, .aload_n 0, 1, 0, 0, 0, .null)]),
  (1, [(16, .invokevirtual 297, 3, 202, 10000, 1593, .null), (19, .aload_n 0, 1, 0, 0, 0, .null), (20, .invokevirtual 300, 3, 204, 10200, 1609, .null), (23, .lreturn, 1, 0, 0, 0, .null)])]
def uX10_worth : List (Nat × List Nat) := []
def qX10_from : CD := [(0, [(0, .aload_n 0, 1, 0, 0, 0, .null), (1, .iload_n 1, 1, 0, 0, 0, .null), (2, .invokevirtual 124, 3, 155, 10301, 1489, .null), (5, .ifCond .eq 15, 3, 20, 0, 0, .null), (8, .iload_n 2, 1, 0, 0, 0, .null), (9, .iconst 0, 1, 0, 0, 0, .int 0), (10, .aload_n 0, 1, 0, 0, 0, .null), (11, .invokevirtual 259, 3, 154, 10100, 1514, .null), (14, .invokestatic 109, 3, 144, 303, 1380, .null)]),
  (1, [(17, .ifCond .ne 7, 3, 24, 0, 0, .null), (20, .ldc2_w 269, 3, 0, 0, 1505, .long (-1000000000000000000)), (23, .lreturn, 1, 0, 0, 0, .null), (24, .aload_n 0, 1, 0, 0, 0, .null), (25, .invokevirtual 294, 3, 200, 10000, 1589, .null), (28, .aload_n 0, 1, 0, 0, 0, .null), (29, .invokevirtual 297, 3, 202, 10000, 1593, .null)]),
  (2, [(32, .aload_n 0, 1, 0, 0, 0, .null), (33, .getfield 69, 3, 10, 28, 1256, .null), (36, .bipush 16, 2, 0, 0, 0, .int 16), (38, .iload_n 2, 1, 0, 0, 0, .null), (39, .imul, 1, 0, 0, 0, .null), (40, .iload_n 1, 1, 0, 0, 0, .null), (41, .iadd, 1, 0, 0, 0, .null), (42, .laload, 1, 0, 0, 0, .null), (43, .bipush 10, 2, 0, 0, 0, .int 10), (45, .aload_n 0, 1, 0, 0, 0, .null), (46, .invokevirtual 259, 3, 154, 10100, 1514, .null)]),
  (3, [(49, .isub, 1, 0, 0, 0, .null), (50, .iload_n 2, 1, 0, 0, 0, .null), (51, .iadd, 1, 0, 0, 0, .null), (52, .invokestatic 280, 3, 149, 201, 1601, .null), (55, .lmul, 1, 0, 0, 0, .null), (56, .lreturn, 1, 0, 0, 0, .null)])]
def uX10_from : List (Nat × List Nat) := []
def qX10_knowing : CD := [(0, [(0, .aload_n 0, 1, 0, 0, 0, .null), (1, .invokevirtual 120, 3, 153, 10100, 1493, .null), (4, .ifCond .ne 7, 3, 11, 0, 0, .null), (7, .ldc2_w 269, 3, 0, 0, 1505, .long (-1000000000000000000)), (10, .lreturn, 1, 0, 0, 0, .null), (11, .aload_n 0, 1, 0, 0, 0, .null), (12, .invokevirtual 294, 3, 200, 10000, 1589, .null), (15, .aload_n 0, 1, 0, 0, 0, .null)]),
  (1, [(16, .iconst 1, 1, 0, 0, 0, .int 1), (17, .putfield 291, 3, 10, 29, 1257, .null), (20, .aload_n 0, 1, 0, 0, 0, .null), (21, .invokevirtual 297, 3, 202, 10000, 1593, .null), (24, .aload_n 0, 1, 0, 0, 0, .null), (25, .iconst 0, 1, 0, 0, 0, .int 0), (26, .putfield 291, 3, 10, 29, 1257, .null), (29, .aload_n 0, 1, 0, 0, 0, .null), (30, .invokevirtual 300, 3, 204, 10200, 1609, .null)]),
  (2, [(33, .lreturn, 1, 0, 0, 0, .null)])]
def uX10_knowing : List (Nat × List Nat) := []
def qX10_knows : CD := [(0, [(0, .aload_n 0, 1, 0, 0, 0, .null), (1, .iload_n 1, 1, 0, 0, 0, .null), (2, .invokevirtual 277, 3, 157, 10301, 1569, .null), (5, .ifCond .eq 17, 3, 22, 0, 0, .null), (8, .iload_n 2, 1, 0, 0, 0, .null), (9, .iconst 0, 1, 0, 0, 0, .int 0), (10, .aload_n 0, 1, 0, 0, 0, .null), (11, .invokevirtual 259, 3, 154, 10100, 1514, .null), (14, .iconst 1, 1, 0, 0, 0, .int 1), (15, .isub, 1, 0, 0, 0, .null)]),
  (1, [(16, .invokestatic 109, 3, 144, 303, 1380, .null), (19, .ifCond .ne 5, 3, 24, 0, 0, .null), (22, .iconst (-1), 1, 0, 0, 0, .int (-1)), (23, .ireturn, 1, 0, 0, 0, .null), (24, .aload_n 0, 1, 0, 0, 0, .null), (25, .invokevirtual 304, 3, 207, 10200, 1625, .null), (28, .pop2, 1, 0, 0, 0, .null), (29, .iconst 0, 1, 0, 0, 0, .int 0), (30, .istore_n 3, 1, 0, 0, 0, .null), (31, .iconst 1, 1, 0, 0, 0, .int 1)]),
  (2, [(32, .istore 4, 2, 0, 0, 0, .null), (34, .iload 4, 2, 0, 0, 0, .null), (36, .aload_n 0, 1, 0, 0, 0, .null), (37, .iload_n 1, 1, 0, 0, 0, .null), (38, .iconst 2, 1, 0, 0, 0, .int 2), (39, .invokevirtual 128, 3, 156, 10102, 1497, .null), (42, .if_icmp .ge 47, 3, 89, 0, 0, .null), (45, .aload_n 0, 1, 0, 0, 0, .null), (46, .aload_n 0, 1, 0, 0, 0, .null), (47, .iload_n 1, 1, 0, 0, 0, .null)]),
  (3, [(48, .iconst 3, 1, 0, 0, 0, .int 3), (49, .iload 4, 2, 0, 0, 0, .null), (51, .iadd, 1, 0, 0, 0, .null), (52, .invokevirtual 128, 3, 156, 10102, 1497, .null), (55, .iload_n 2, 1, 0, 0, 0, .null), (56, .iconst 1, 1, 0, 0, 0, .int 1), (57, .iadd, 1, 0, 0, 0, .null), (58, .invokevirtual 288, 3, 201, 10202, 1605, .null), (61, .aload_n 0, 1, 0, 0, 0, .null), (62, .aload_n 0, 1, 0, 0, 0, .null), (63, .iload_n 1, 1, 0, 0, 0, .null)]),
  (4, [(64, .iconst 3, 1, 0, 0, 0, .int 3), (65, .iload_n 3, 1, 0, 0, 0, .null), (66, .iadd, 1, 0, 0, 0, .null), (67, .invokevirtual 128, 3, 156, 10102, 1497, .null), (70, .iload_n 2, 1, 0, 0, 0, .null), (71, .iconst 1, 1, 0, 0, 0, .int 1), (72, .iadd, 1, 0, 0, 0, .null), (73, .invokevirtual 288, 3, 201, 10202, 1605, .null), (76, .lcmp, 1, 0, 0, 0, .null), (77, .ifCond .le 6, 3, 83, 0, 0, .null)]),
  (5, [(80, .iload 4, 2, 0, 0, 0, .null), (82, .istore_n 3, 1, 0, 0, 0, .null), (83, .iinc 4 1, 3, 0, 0, 0, .int 1), (86, .goto (-52), 3, 34, 0, 0, .null), (89, .iload_n 3, 1, 0, 0, 0, .null), (90, .ireturn, 1, 0, 0, 0, .null)])]
def uX10_knows : List (Nat × List Nat) := [(34, [0, 1, 2, 3, 4])]
def qX10_most : CD := [(0, [(0, .iconst 1, 1, 0, 0, 0, .int 1), (1, .istore_n 2, 1, 0, 0, 0, .null), (2, .iconst 0, 1, 0, 0, 0, .int 0), (3, .istore_n 3, 1, 0, 0, 0, .null), (4, .iload_n 3, 1, 0, 0, 0, .null), (5, .aload_n 0, 1, 0, 0, 0, .null), (6, .invokevirtual 120, 3, 153, 10100, 1493, .null), (9, .if_icmp .ge 44, 3, 53, 0, 0, .null), (12, .aload_n 0, 1, 0, 0, 0, .null), (13, .iload_n 3, 1, 0, 0, 0, .null), (14, .invokevirtual 277, 3, 157, 10301, 1569, .null)]),
  (1, [(17, .ifCond .eq 30, 3, 47, 0, 0, .null), (20, .aload_n 0, 1, 0, 0, 0, .null), (21, .iload_n 3, 1, 0, 0, 0, .null), (22, .iconst 1, 1, 0, 0, 0, .int 1), (23, .invokevirtual 128, 3, 156, 10102, 1497, .null), (26, .iload_n 1, 1, 0, 0, 0, .null), (27, .if_icmp .ne 20, 3, 47, 0, 0, .null), (30, .aload_n 0, 1, 0, 0, 0, .null), (31, .iload_n 3, 1, 0, 0, 0, .null)]),
  (2, [(32, .iconst 2, 1, 0, 0, 0, .int 2), (33, .invokevirtual 128, 3, 156, 10102, 1497, .null), (36, .iload_n 2, 1, 0, 0, 0, .null), (37, .if_icmp .le 10, 3, 47, 0, 0, .null), (40, .aload_n 0, 1, 0, 0, 0, .null), (41, .iload_n 3, 1, 0, 0, 0, .null), (42, .iconst 2, 1, 0, 0, 0, .int 2), (43, .invokevirtual 128, 3, 156, 10102, 1497, .null), (46, .istore_n 2, 1, 0, 0, 0, .null), (47, .iinc 3 1, 3, 0, 0, 0, .int 1)]),
  (3, [(50, .goto (-46), 3, 4, 0, 0, .null), (53, .iload_n 2, 1, 0, 0, 0, .null), (54, .ireturn, 1, 0, 0, 0, .null)])]
def uX10_most : List (Nat × List Nat) := [(4, [0, 1, 2, 3])]
def qX10_plains : CD := [(0, [(0, .iconst 1, 1, 0, 0, 0, .int 1), (1, .istore_n 1, 1, 0, 0, 0, .null), (2, .iconst 0, 1, 0, 0, 0, .int 0), (3, .istore_n 2, 1, 0, 0, 0, .null), (4, .iload_n 2, 1, 0, 0, 0, .null), (5, .bipush 6, 2, 0, 0, 0, .int 6), (7, .if_icmp .ge 17, 3, 24, 0, 0, .null), (10, .iload_n 1, 1, 0, 0, 0, .null), (11, .aload_n 0, 1, 0, 0, 0, .null), (12, .iload_n 2, 1, 0, 0, 0, .null), (13, .invokevirtual 307, 3, 209, 10101, 1634, .null)]),
  (1, [(16, .imul, 1, 0, 0, 0, .null), (17, .istore_n 1, 1, 0, 0, 0, .null), (18, .iinc 2 1, 3, 0, 0, 0, .int 1), (21, .goto (-17), 3, 4, 0, 0, .null), (24, .aload_n 0, 1, 0, 0, 0, .null), (25, .ldc2_w 269, 3, 0, 0, 1505, .long (-1000000000000000000)), (28, .putfield 310, 3, 10, 32, 1260, .null), (31, .aload_n 0, 1, 0, 0, 0, .null)]),
  (2, [(32, .iconst 0, 1, 0, 0, 0, .int 0), (33, .putfield 314, 3, 10, 33, 1261, .null), (36, .aload_n 0, 1, 0, 0, 0, .null), (37, .iload_n 1, 1, 0, 0, 0, .null), (38, .putfield 317, 3, 10, 34, 1262, .null), (41, .iconst 0, 1, 0, 0, 0, .int 0), (42, .istore_n 2, 1, 0, 0, 0, .null), (43, .iload_n 2, 1, 0, 0, 0, .null), (44, .iload_n 1, 1, 0, 0, 0, .null), (45, .if_icmp .ge 179, 3, 224, 0, 0, .null)]),
  (3, [(48, .iload_n 2, 1, 0, 0, 0, .null), (49, .istore_n 3, 1, 0, 0, 0, .null), (50, .iconst 5, 1, 0, 0, 0, .int 5), (51, .istore 4, 2, 0, 0, 0, .null), (53, .iload 4, 2, 0, 0, 0, .null), (55, .ifCond .lt 78, 3, 133, 0, 0, .null), (58, .aload_n 0, 1, 0, 0, 0, .null), (59, .getfield 73, 3, 10, 30, 1258, .null), (62, .iload 4, 2, 0, 0, 0, .null)]),
  (4, [(64, .iload_n 3, 1, 0, 0, 0, .null), (65, .aload_n 0, 1, 0, 0, 0, .null), (66, .iload 4, 2, 0, 0, 0, .null), (68, .invokevirtual 307, 3, 209, 10101, 1634, .null), (71, .irem, 1, 0, 0, 0, .null), (72, .iastore, 1, 0, 0, 0, .null), (73, .iload_n 3, 1, 0, 0, 0, .null), (74, .aload_n 0, 1, 0, 0, 0, .null), (75, .iload 4, 2, 0, 0, 0, .null), (77, .invokevirtual 307, 3, 209, 10101, 1634, .null)]),
  (5, [(80, .idiv, 1, 0, 0, 0, .null), (81, .istore_n 3, 1, 0, 0, 0, .null), (82, .iconst 0, 1, 0, 0, 0, .int 0), (83, .istore 5, 2, 0, 0, 0, .null), (85, .iload 5, 2, 0, 0, 0, .null), (87, .iconst 3, 1, 0, 0, 0, .int 3), (88, .if_icmp .ge 39, 3, 127, 0, 0, .null), (91, .aload_n 0, 1, 0, 0, 0, .null), (92, .getfield 66, 3, 10, 27, 1255, .null), (95, .iconst 3, 1, 0, 0, 0, .int 3)]),
  (6, [(96, .iload 4, 2, 0, 0, 0, .null), (98, .imul, 1, 0, 0, 0, .null), (99, .iload 5, 2, 0, 0, 0, .null), (101, .iadd, 1, 0, 0, 0, .null), (102, .aload_n 0, 1, 0, 0, 0, .null), (103, .getfield 73, 3, 10, 30, 1258, .null), (106, .iload 4, 2, 0, 0, 0, .null), (108, .iaload, 1, 0, 0, 0, .null), (109, .iload 5, 2, 0, 0, 0, .null), (111, .if_icmp .ne 8, 3, 119, 0, 0, .null)]),
  (7, [(114, .bipush 10, 2, 0, 0, 0, .int 10), (116, .goto 4, 3, 120, 0, 0, .null), (119, .iconst 0, 1, 0, 0, 0, .int 0), (120, .iastore, 1, 0, 0, 0, .null), (121, .iinc 5 1, 3, 0, 0, 0, .int 1), (124, .goto (-39), 3, 85, 0, 0, .null), (127, .iinc 4 (-1), 3, 0, 0, 0, .int (-1))]),
  (8, [(130, .goto (-77), 3, 53, 0, 0, .null), (133, .aload_n 0, 1, 0, 0, 0, .null), (134, .invokevirtual 297, 3, 202, 10000, 1593, .null), (137, .aload_n 0, 1, 0, 0, 0, .null), (138, .invokevirtual 300, 3, 204, 10200, 1609, .null), (141, .lstore 4, 2, 0, 0, 0, .null), (143, .lload 4, 2, 0, 0, 0, .null)]),
  (9, [(145, .aload_n 0, 1, 0, 0, 0, .null), (146, .getfield 310, 3, 10, 32, 1260, .null), (149, .lcmp, 1, 0, 0, 0, .null), (150, .ifCond .le 44, 3, 194, 0, 0, .null), (153, .aload_n 0, 1, 0, 0, 0, .null), (154, .lload 4, 2, 0, 0, 0, .null), (156, .putfield 310, 3, 10, 32, 1260, .null), (159, .aload_n 0, 1, 0, 0, 0, .null)]),
  (10, [(160, .iconst 0, 1, 0, 0, 0, .int 0), (161, .putfield 314, 3, 10, 33, 1261, .null), (164, .iconst 0, 1, 0, 0, 0, .int 0), (165, .istore 6, 2, 0, 0, 0, .null), (167, .iload 6, 2, 0, 0, 0, .null), (169, .bipush 6, 2, 0, 0, 0, .int 6), (171, .if_icmp .ge 23, 3, 194, 0, 0, .null), (174, .aload_n 0, 1, 0, 0, 0, .null), (175, .getfield 76, 3, 10, 31, 1259, .null)]),
  (11, [(178, .iload 6, 2, 0, 0, 0, .null), (180, .aload_n 0, 1, 0, 0, 0, .null), (181, .getfield 73, 3, 10, 30, 1258, .null), (184, .iload 6, 2, 0, 0, 0, .null), (186, .iaload, 1, 0, 0, 0, .null), (187, .iastore, 1, 0, 0, 0, .null), (188, .iinc 6 1, 3, 0, 0, 0, .int 1), (191, .goto (-24), 3, 167, 0, 0, .null)]),
  (12, [(194, .aload_n 0, 1, 0, 0, 0, .null), (195, .dup, 1, 0, 0, 0, .null), (196, .getfield 314, 3, 10, 33, 1261, .null), (199, .lload 4, 2, 0, 0, 0, .null), (201, .aload_n 0, 1, 0, 0, 0, .null), (202, .getfield 310, 3, 10, 32, 1260, .null), (205, .lcmp, 1, 0, 0, 0, .null), (206, .ifCond .ne 7, 3, 213, 0, 0, .null)]),
  (13, [(209, .iconst 1, 1, 0, 0, 0, .int 1), (210, .goto 4, 3, 214, 0, 0, .null), (213, .iconst 0, 1, 0, 0, 0, .int 0), (214, .iadd, 1, 0, 0, 0, .null), (215, .putfield 314, 3, 10, 33, 1261, .null), (218, .iinc 2 1, 3, 0, 0, 0, .int 1), (221, .goto (-178), 3, 43, 0, 0, .null)]),
  (14, [(224, .return_, 1, 0, 0, 0, .null)])]
def uX10_plains : List (Nat × List Nat) := [(4, [0, 1, 2]), (43, [0, 1, 2]), (53, [0, 1, 2, 3, 4]), (85, [0, 1, 2, 3, 4, 5]), (167, [0, 1, 2, 4, 6]), (194, [0, 1, 2, 4])]
def qX10_plain : CD := [(0, [(0, .aload_n 0, 1, 0, 0, 0, .null), (1, .invokevirtual 120, 3, 153, 10100, 1493, .null), (4, .ifCond .eq 12, 3, 16, 0, 0, .null), (7, .iload_n 1, 1, 0, 0, 0, .null), (8, .iconst 0, 1, 0, 0, 0, .int 0), (9, .iconst 2, 1, 0, 0, 0, .int 2), (10, .invokestatic 109, 3, 144, 303, 1380, .null), (13, .ifCond .ne 7, 3, 20, 0, 0, .null)]),
  (1, [(16, .ldc2_w 269, 3, 0, 0, 1505, .long (-1000000000000000000)), (19, .lreturn, 1, 0, 0, 0, .null), (20, .aload_n 0, 1, 0, 0, 0, .null), (21, .invokevirtual 320, 3, 210, 10000, 1630, .null), (24, .iload_n 1, 1, 0, 0, 0, .null), (25, .ifCond .ne 10, 3, 35, 0, 0, .null), (28, .aload_n 0, 1, 0, 0, 0, .null), (29, .getfield 310, 3, 10, 32, 1260, .null)]),
  (2, [(32, .goto 21, 3, 53, 0, 0, .null), (35, .iload_n 1, 1, 0, 0, 0, .null), (36, .iconst 1, 1, 0, 0, 0, .int 1), (37, .if_icmp .ne 11, 3, 48, 0, 0, .null), (40, .aload_n 0, 1, 0, 0, 0, .null), (41, .getfield 314, 3, 10, 33, 1261, .null), (44, .i2l, 1, 0, 0, 0, .null), (45, .goto 8, 3, 53, 0, 0, .null)]),
  (3, [(48, .aload_n 0, 1, 0, 0, 0, .null), (49, .getfield 317, 3, 10, 34, 1262, .null), (52, .i2l, 1, 0, 0, 0, .null), (53, .lreturn, 1, 0, 0, 0, .null)])]
def uX10_plain : List (Nat × List Nat) := []
def qX10_road : CD := [(0, [(0, .aload_n 0, 1, 0, 0, 0, .null), (1, .invokevirtual 120, 3, 153, 10100, 1493, .null), (4, .ifCond .eq 10, 3, 14, 0, 0, .null), (7, .iload_n 1, 1, 0, 0, 0, .null), (8, .invokestatic 274, 3, 158, 301, 1566, .null), (11, .ifCond .ne 5, 3, 16, 0, 0, .null), (14, .iconst (-1), 1, 0, 0, 0, .int (-1)), (15, .ireturn, 1, 0, 0, 0, .null)]),
  (1, [(16, .aload_n 0, 1, 0, 0, 0, .null), (17, .invokevirtual 320, 3, 210, 10000, 1630, .null), (20, .aload_n 0, 1, 0, 0, 0, .null), (21, .getfield 76, 3, 10, 31, 1259, .null), (24, .iload_n 1, 1, 0, 0, 0, .null), (25, .iaload, 1, 0, 0, 0, .null), (26, .ireturn, 1, 0, 0, 0, .null)])]
def uX10_road : List (Nat × List Nat) := []
def qX10_follow : CD := [(0, [(0, .aload_n 0, 1, 0, 0, 0, .null), (1, .invokevirtual 120, 3, 153, 10100, 1493, .null), (4, .ifCond .ne 10, 3, 14, 0, 0, .null), (7, .aload_n 0, 1, 0, 0, 0, .null), (8, .bipush (-3), 2, 0, 0, 0, .int (-3)), (10, .invokevirtual 113, 3, 145, 10101, 1383, .null), (13, .ireturn, 1, 0, 0, 0, .null), (14, .aload_n 0, 1, 0, 0, 0, .null), (15, .invokevirtual 320, 3, 210, 10000, 1630, .null)]),
  (1, [(18, .iconst 0, 1, 0, 0, 0, .int 0), (19, .istore_n 1, 1, 0, 0, 0, .null), (20, .iload_n 1, 1, 0, 0, 0, .null), (21, .bipush 6, 2, 0, 0, 0, .int 6), (23, .if_icmp .ge 52, 3, 75, 0, 0, .null), (26, .iconst 0, 1, 0, 0, 0, .int 0), (27, .istore_n 2, 1, 0, 0, 0, .null), (28, .iload_n 2, 1, 0, 0, 0, .null), (29, .iconst 3, 1, 0, 0, 0, .int 3), (30, .if_icmp .ge 39, 3, 69, 0, 0, .null)]),
  (2, [(33, .aload_n 0, 1, 0, 0, 0, .null), (34, .getfield 22, 3, 10, 3, 1231, .null), (37, .sipush 160, 3, 0, 0, 0, .int 160), (40, .iconst 3, 1, 0, 0, 0, .int 3), (41, .iload_n 1, 1, 0, 0, 0, .null), (42, .imul, 1, 0, 0, 0, .null), (43, .iadd, 1, 0, 0, 0, .null), (44, .iload_n 2, 1, 0, 0, 0, .null), (45, .iadd, 1, 0, 0, 0, .null), (46, .aload_n 0, 1, 0, 0, 0, .null), (47, .getfield 76, 3, 10, 31, 1259, .null)]),
  (3, [(50, .iload_n 1, 1, 0, 0, 0, .null), (51, .iaload, 1, 0, 0, 0, .null), (52, .iload_n 2, 1, 0, 0, 0, .null), (53, .if_icmp .ne 8, 3, 61, 0, 0, .null), (56, .bipush 10, 2, 0, 0, 0, .int 10), (58, .goto 4, 3, 62, 0, 0, .null), (61, .iconst 0, 1, 0, 0, 0, .int 0), (62, .iastore, 1, 0, 0, 0, .null), (63, .iinc 2 1, 3, 0, 0, 0, .int 1)]),
  (4, [(66, .goto (-38), 3, 28, 0, 0, .null), (69, .iinc 1 1, 3, 0, 0, 0, .int 1), (72, .goto (-52), 3, 20, 0, 0, .null), (75, .aload_n 0, 1, 0, 0, 0, .null), (76, .iconst 0, 1, 0, 0, 0, .int 0), (77, .invokevirtual 117, 3, 146, 10101, 1387, .null)]),
  (5, [(80, .ireturn, 1, 0, 0, 0, .null)])]
def uX10_follow : List (Nat × List Nat) := [(20, [0, 1]), (28, [0, 1, 2])]
def qX10_dices : CD := [(0, [(0, .iload_n 1, 1, 0, 0, 0, .null), (1, .aload_n 0, 1, 0, 0, 0, .null), (2, .invokevirtual 323, 3, 197, 10100, 1654, .null), (5, .iand, 1, 0, 0, 0, .null), (6, .istore_n 2, 1, 0, 0, 0, .null), (7, .iload_n 2, 1, 0, 0, 0, .null), (8, .invokestatic 326, 3, 148, 101, 1655, .null), (11, .iconst 3, 1, 0, 0, 0, .int 3), (12, .if_icmp .le 5, 3, 17, 0, 0, .null), (15, .iconst 0, 1, 0, 0, 0, .int 0)]),
  (1, [(16, .ireturn, 1, 0, 0, 0, .null), (17, .iconst 1, 1, 0, 0, 0, .int 1), (18, .istore_n 3, 1, 0, 0, 0, .null), (19, .iconst 0, 1, 0, 0, 0, .int 0), (20, .istore 4, 2, 0, 0, 0, .null), (22, .iload 4, 2, 0, 0, 0, .null), (24, .bipush 6, 2, 0, 0, 0, .int 6), (26, .if_icmp .ge 31, 3, 57, 0, 0, .null), (29, .iload_n 3, 1, 0, 0, 0, .null), (30, .iload_n 2, 1, 0, 0, 0, .null), (31, .iload 4, 2, 0, 0, 0, .null)]),
  (2, [(33, .invokestatic 329, 3, 147, 302, 1658, .null), (36, .ifCond .eq 12, 3, 48, 0, 0, .null), (39, .aload_n 0, 1, 0, 0, 0, .null), (40, .iload 4, 2, 0, 0, 0, .null), (42, .invokevirtual 332, 3, 215, 10101, 1661, .null), (45, .goto 4, 3, 49, 0, 0, .null)]),
  (3, [(48, .iconst 1, 1, 0, 0, 0, .int 1), (49, .imul, 1, 0, 0, 0, .null), (50, .istore_n 3, 1, 0, 0, 0, .null), (51, .iinc 4 1, 3, 0, 0, 0, .int 1), (54, .goto (-32), 3, 22, 0, 0, .null), (57, .iload_n 3, 1, 0, 0, 0, .null), (58, .sipush 5000, 3, 0, 0, 0, .int 5000), (61, .if_icmp .le 5, 3, 66, 0, 0, .null)]),
  (4, [(64, .iconst 0, 1, 0, 0, 0, .int 0), (65, .ireturn, 1, 0, 0, 0, .null), (66, .aload_n 0, 1, 0, 0, 0, .null), (67, .iload_n 3, 1, 0, 0, 0, .null), (68, .putfield 317, 3, 10, 34, 1262, .null), (71, .aload_n 0, 1, 0, 0, 0, .null), (72, .ldc2_w 269, 3, 0, 0, 1505, .long (-1000000000000000000)), (75, .putfield 310, 3, 10, 32, 1260, .null), (78, .aload_n 0, 1, 0, 0, 0, .null), (79, .iconst 0, 1, 0, 0, 0, .int 0)]),
  (5, [(80, .putfield 314, 3, 10, 33, 1261, .null), (83, .iconst 0, 1, 0, 0, 0, .int 0), (84, .istore 4, 2, 0, 0, 0, .null), (86, .iload 4, 2, 0, 0, 0, .null), (88, .iload_n 3, 1, 0, 0, 0, .null), (89, .if_icmp .ge 154, 3, 243, 0, 0, .null), (92, .aload_n 0, 1, 0, 0, 0, .null), (93, .invokevirtual 294, 3, 200, 10000, 1589, .null)]),
  (6, [(96, .iload 4, 2, 0, 0, 0, .null), (98, .istore 5, 2, 0, 0, 0, .null), (100, .iconst 5, 1, 0, 0, 0, .int 5), (101, .istore 6, 2, 0, 0, 0, .null), (103, .iload 6, 2, 0, 0, 0, .null), (105, .ifCond .lt 47, 3, 152, 0, 0, .null), (108, .iload_n 2, 1, 0, 0, 0, .null), (109, .iload 6, 2, 0, 0, 0, .null), (111, .invokestatic 329, 3, 147, 302, 1658, .null)]),
  (7, [(114, .ifCond .ne 6, 3, 120, 0, 0, .null), (117, .goto 29, 3, 146, 0, 0, .null), (120, .aload_n 0, 1, 0, 0, 0, .null), (121, .iload 6, 2, 0, 0, 0, .null), (123, .iload 5, 2, 0, 0, 0, .null), (125, .aload_n 0, 1, 0, 0, 0, .null), (126, .iload 6, 2, 0, 0, 0, .null)]),
  (8, [(128, .invokevirtual 332, 3, 215, 10101, 1661, .null), (131, .irem, 1, 0, 0, 0, .null), (132, .invokevirtual 335, 3, 216, 10002, 1665, .null), (135, .iload 5, 2, 0, 0, 0, .null), (137, .aload_n 0, 1, 0, 0, 0, .null), (138, .iload 6, 2, 0, 0, 0, .null), (140, .invokevirtual 332, 3, 215, 10101, 1661, .null), (143, .idiv, 1, 0, 0, 0, .null)]),
  (9, [(144, .istore 5, 2, 0, 0, 0, .null), (146, .iinc 6 (-1), 3, 0, 0, 0, .int (-1)), (149, .goto (-46), 3, 103, 0, 0, .null), (152, .aload_n 0, 1, 0, 0, 0, .null), (153, .invokevirtual 297, 3, 202, 10000, 1593, .null), (156, .aload_n 0, 1, 0, 0, 0, .null), (157, .invokevirtual 300, 3, 204, 10200, 1609, .null)]),
  (10, [(160, .lstore 6, 2, 0, 0, 0, .null), (162, .lload 6, 2, 0, 0, 0, .null), (164, .aload_n 0, 1, 0, 0, 0, .null), (165, .getfield 310, 3, 10, 32, 1260, .null), (168, .lcmp, 1, 0, 0, 0, .null), (169, .ifCond .le 44, 3, 213, 0, 0, .null), (172, .aload_n 0, 1, 0, 0, 0, .null), (173, .lload 6, 2, 0, 0, 0, .null), (175, .putfield 310, 3, 10, 32, 1260, .null)]),
  (11, [(178, .aload_n 0, 1, 0, 0, 0, .null), (179, .iconst 0, 1, 0, 0, 0, .int 0), (180, .putfield 314, 3, 10, 33, 1261, .null), (183, .iconst 0, 1, 0, 0, 0, .int 0), (184, .istore 8, 2, 0, 0, 0, .null), (186, .iload 8, 2, 0, 0, 0, .null), (188, .bipush 18, 2, 0, 0, 0, .int 18), (190, .if_icmp .ge 23, 3, 213, 0, 0, .null)]),
  (12, [(193, .aload_n 0, 1, 0, 0, 0, .null), (194, .getfield 79, 3, 10, 35, 1263, .null), (197, .iload 8, 2, 0, 0, 0, .null), (199, .aload_n 0, 1, 0, 0, 0, .null), (200, .getfield 66, 3, 10, 27, 1255, .null), (203, .iload 8, 2, 0, 0, 0, .null), (205, .iaload, 1, 0, 0, 0, .null), (206, .iastore, 1, 0, 0, 0, .null), (207, .iinc 8 1, 3, 0, 0, 0, .int 1)]),
  (13, [(210, .goto (-24), 3, 186, 0, 0, .null), (213, .aload_n 0, 1, 0, 0, 0, .null), (214, .dup, 1, 0, 0, 0, .null), (215, .getfield 314, 3, 10, 33, 1261, .null), (218, .lload 6, 2, 0, 0, 0, .null), (220, .aload_n 0, 1, 0, 0, 0, .null), (221, .getfield 310, 3, 10, 32, 1260, .null)]),
  (14, [(224, .lcmp, 1, 0, 0, 0, .null), (225, .ifCond .ne 7, 3, 232, 0, 0, .null), (228, .iconst 1, 1, 0, 0, 0, .int 1), (229, .goto 4, 3, 233, 0, 0, .null), (232, .iconst 0, 1, 0, 0, 0, .int 0), (233, .iadd, 1, 0, 0, 0, .null), (234, .putfield 314, 3, 10, 33, 1261, .null), (237, .iinc 4 1, 3, 0, 0, 0, .int 1)]),
  (15, [(240, .goto (-154), 3, 86, 0, 0, .null), (243, .iconst 1, 1, 0, 0, 0, .int 1), (244, .ireturn, 1, 0, 0, 0, .null)])]
def uX10_dices : List (Nat × List Nat) := [(22, [0, 2, 3, 4]), (86, [0, 2, 3, 4]), (103, [0, 2, 3, 4, 5, 6]), (186, [0, 2, 3, 4, 6, 8]), (213, [0, 2, 3, 4, 6])]
def qX10_shares : CD := [(0, [(0, .aload_n 0, 1, 0, 0, 0, .null), (1, .iload_n 1, 1, 0, 0, 0, .null), (2, .invokevirtual 307, 3, 209, 10101, 1634, .null), (5, .iconst 1, 1, 0, 0, 0, .int 1), (6, .if_icmp .ne 7, 3, 13, 0, 0, .null), (9, .iconst 1, 1, 0, 0, 0, .int 1), (10, .goto 19, 3, 29, 0, 0, .null), (13, .aload_n 0, 1, 0, 0, 0, .null), (14, .iload_n 1, 1, 0, 0, 0, .null), (15, .invokevirtual 307, 3, 209, 10101, 1634, .null)]),
  (1, [(18, .iconst 2, 1, 0, 0, 0, .int 2), (19, .if_icmp .ne 8, 3, 27, 0, 0, .null), (22, .bipush 11, 2, 0, 0, 0, .int 11), (24, .goto 5, 3, 29, 0, 0, .null), (27, .bipush 66, 2, 0, 0, 0, .int 66), (29, .ireturn, 1, 0, 0, 0, .null)])]
def uX10_shares : List (Nat × List Nat) := []
def qX10_laysShare : CD := [(0, [(0, .iconst 3, 1, 0, 0, 0, .int 3), (1, .iload_n 1, 1, 0, 0, 0, .null), (2, .imul, 1, 0, 0, 0, .null), (3, .istore_n 3, 1, 0, 0, 0, .null), (4, .aload_n 0, 1, 0, 0, 0, .null), (5, .iload_n 1, 1, 0, 0, 0, .null), (6, .invokevirtual 307, 3, 209, 10101, 1634, .null), (9, .iconst 3, 1, 0, 0, 0, .int 3), (10, .if_icmp .ge 51, 3, 61, 0, 0, .null), (13, .aload_n 0, 1, 0, 0, 0, .null), (14, .getfield 66, 3, 10, 27, 1255, .null)]),
  (1, [(17, .iload_n 3, 1, 0, 0, 0, .null), (18, .aload_n 0, 1, 0, 0, 0, .null), (19, .iload_n 1, 1, 0, 0, 0, .null), (20, .invokevirtual 307, 3, 209, 10101, 1634, .null), (23, .iconst 1, 1, 0, 0, 0, .int 1), (24, .if_icmp .ne 8, 3, 32, 0, 0, .null), (27, .bipush 10, 2, 0, 0, 0, .int 10), (29, .goto 4, 3, 33, 0, 0, .null)]),
  (2, [(32, .iload_n 2, 1, 0, 0, 0, .null), (33, .iastore, 1, 0, 0, 0, .null), (34, .aload_n 0, 1, 0, 0, 0, .null), (35, .getfield 66, 3, 10, 27, 1255, .null), (38, .iload_n 3, 1, 0, 0, 0, .null), (39, .iconst 1, 1, 0, 0, 0, .int 1), (40, .iadd, 1, 0, 0, 0, .null), (41, .bipush 10, 2, 0, 0, 0, .int 10), (43, .aload_n 0, 1, 0, 0, 0, .null), (44, .getfield 66, 3, 10, 27, 1255, .null), (47, .iload_n 3, 1, 0, 0, 0, .null)]),
  (3, [(48, .iaload, 1, 0, 0, 0, .null), (49, .isub, 1, 0, 0, 0, .null), (50, .iastore, 1, 0, 0, 0, .null), (51, .aload_n 0, 1, 0, 0, 0, .null), (52, .getfield 66, 3, 10, 27, 1255, .null), (55, .iload_n 3, 1, 0, 0, 0, .null), (56, .iconst 2, 1, 0, 0, 0, .int 2), (57, .iadd, 1, 0, 0, 0, .null), (58, .iconst 0, 1, 0, 0, 0, .int 0), (59, .iastore, 1, 0, 0, 0, .null), (60, .return_, 1, 0, 0, 0, .null), (61, .iload_n 2, 1, 0, 0, 0, .null), (62, .istore 4, 2, 0, 0, 0, .null)]),
  (4, [(64, .iconst 0, 1, 0, 0, 0, .int 0), (65, .istore 5, 2, 0, 0, 0, .null), (67, .iload 4, 2, 0, 0, 0, .null), (69, .bipush 11, 2, 0, 0, 0, .int 11), (71, .iload 5, 2, 0, 0, 0, .null), (73, .isub, 1, 0, 0, 0, .null), (74, .if_icmp .lt 19, 3, 93, 0, 0, .null), (77, .iload 4, 2, 0, 0, 0, .null), (79, .bipush 11, 2, 0, 0, 0, .int 11)]),
  (5, [(81, .iload 5, 2, 0, 0, 0, .null), (83, .isub, 1, 0, 0, 0, .null), (84, .isub, 1, 0, 0, 0, .null), (85, .istore 4, 2, 0, 0, 0, .null), (87, .iinc 5 1, 3, 0, 0, 0, .int 1), (90, .goto (-23), 3, 67, 0, 0, .null), (93, .aload_n 0, 1, 0, 0, 0, .null), (94, .getfield 66, 3, 10, 27, 1255, .null)]),
  (6, [(97, .iload_n 3, 1, 0, 0, 0, .null), (98, .iload 5, 2, 0, 0, 0, .null), (100, .iastore, 1, 0, 0, 0, .null), (101, .aload_n 0, 1, 0, 0, 0, .null), (102, .getfield 66, 3, 10, 27, 1255, .null), (105, .iload_n 3, 1, 0, 0, 0, .null), (106, .iconst 1, 1, 0, 0, 0, .int 1), (107, .iadd, 1, 0, 0, 0, .null), (108, .iload 4, 2, 0, 0, 0, .null), (110, .iastore, 1, 0, 0, 0, .null), (111, .aload_n 0, 1, 0, 0, 0, .null)]),
  (7, [(112, .getfield 66, 3, 10, 27, 1255, .null), (115, .iload_n 3, 1, 0, 0, 0, .null), (116, .iconst 2, 1, 0, 0, 0, .int 2), (117, .iadd, 1, 0, 0, 0, .null), (118, .bipush 10, 2, 0, 0, 0, .int 10), (120, .iload 5, 2, 0, 0, 0, .null), (122, .isub, 1, 0, 0, 0, .null), (123, .iload 4, 2, 0, 0, 0, .null), (125, .isub, 1, 0, 0, 0, .null), (126, .iastore, 1, 0, 0, 0, .null), (127, .return_, 1, 0, 0, 0, .null)])]
def uX10_laysShare : List (Nat × List Nat) := [(34, [0, 3]), (67, [0, 3, 4, 5])]
def qX10_die : CD := [(0, [(0, .iload_n 1, 1, 0, 0, 0, .null), (1, .iconst 0, 1, 0, 0, 0, .int 0), (2, .bipush 63, 2, 0, 0, 0, .int 63), (4, .invokestatic 109, 3, 144, 303, 1380, .null), (7, .ifCond .eq 27, 3, 34, 0, 0, .null), (10, .iload_n 2, 1, 0, 0, 0, .null), (11, .iconst 0, 1, 0, 0, 0, .int 0), (12, .iconst 2, 1, 0, 0, 0, .int 2), (13, .invokestatic 109, 3, 144, 303, 1380, .null)]),
  (1, [(16, .ifCond .eq 18, 3, 34, 0, 0, .null), (19, .aload_n 0, 1, 0, 0, 0, .null), (20, .invokevirtual 120, 3, 153, 10100, 1493, .null), (23, .ifCond .eq 11, 3, 34, 0, 0, .null), (26, .aload_n 0, 1, 0, 0, 0, .null), (27, .iload_n 1, 1, 0, 0, 0, .null), (28, .invokevirtual 339, 3, 214, 10301, 1650, .null), (31, .ifCond .ne 7, 3, 38, 0, 0, .null)]),
  (2, [(34, .ldc2_w 269, 3, 0, 0, 1505, .long (-1000000000000000000)), (37, .lreturn, 1, 0, 0, 0, .null), (38, .iload_n 2, 1, 0, 0, 0, .null), (39, .ifCond .ne 10, 3, 49, 0, 0, .null), (42, .aload_n 0, 1, 0, 0, 0, .null), (43, .getfield 310, 3, 10, 32, 1260, .null), (46, .goto 21, 3, 67, 0, 0, .null)]),
  (3, [(49, .iload_n 2, 1, 0, 0, 0, .null), (50, .iconst 1, 1, 0, 0, 0, .int 1), (51, .if_icmp .ne 11, 3, 62, 0, 0, .null), (54, .aload_n 0, 1, 0, 0, 0, .null), (55, .getfield 314, 3, 10, 33, 1261, .null), (58, .i2l, 1, 0, 0, 0, .null), (59, .goto 8, 3, 67, 0, 0, .null), (62, .aload_n 0, 1, 0, 0, 0, .null), (63, .getfield 317, 3, 10, 34, 1262, .null)]),
  (4, [(66, .i2l, 1, 0, 0, 0, .null), (67, .lreturn, 1, 0, 0, 0, .null)])]
def uX10_die : List (Nat × List Nat) := []
def qX10_cast : CD := [(0, [(0, .iload_n 1, 1, 0, 0, 0, .null), (1, .iconst 0, 1, 0, 0, 0, .int 0), (2, .bipush 63, 2, 0, 0, 0, .int 63), (4, .invokestatic 109, 3, 144, 303, 1380, .null), (7, .ifCond .ne 9, 3, 16, 0, 0, .null), (10, .aload_n 0, 1, 0, 0, 0, .null), (11, .iconst (-1), 1, 0, 0, 0, .int (-1)), (12, .invokevirtual 113, 3, 145, 10101, 1383, .null), (15, .ireturn, 1, 0, 0, 0, .null)]),
  (1, [(16, .aload_n 0, 1, 0, 0, 0, .null), (17, .invokevirtual 120, 3, 153, 10100, 1493, .null), (20, .ifCond .eq 11, 3, 31, 0, 0, .null), (23, .aload_n 0, 1, 0, 0, 0, .null), (24, .iload_n 1, 1, 0, 0, 0, .null), (25, .invokevirtual 339, 3, 214, 10301, 1650, .null), (28, .ifCond .ne 10, 3, 38, 0, 0, .null), (31, .aload_n 0, 1, 0, 0, 0, .null)]),
  (2, [(32, .bipush (-3), 2, 0, 0, 0, .int (-3)), (34, .invokevirtual 113, 3, 145, 10101, 1383, .null), (37, .ireturn, 1, 0, 0, 0, .null), (38, .iconst 0, 1, 0, 0, 0, .int 0), (39, .istore_n 2, 1, 0, 0, 0, .null), (40, .iload_n 2, 1, 0, 0, 0, .null), (41, .bipush 18, 2, 0, 0, 0, .int 18), (43, .if_icmp .ge 25, 3, 68, 0, 0, .null), (46, .aload_n 0, 1, 0, 0, 0, .null), (47, .getfield 22, 3, 10, 3, 1231, .null)]),
  (3, [(50, .sipush 160, 3, 0, 0, 0, .int 160), (53, .iload_n 2, 1, 0, 0, 0, .null), (54, .iadd, 1, 0, 0, 0, .null), (55, .aload_n 0, 1, 0, 0, 0, .null), (56, .getfield 79, 3, 10, 35, 1263, .null), (59, .iload_n 2, 1, 0, 0, 0, .null), (60, .iaload, 1, 0, 0, 0, .null), (61, .iastore, 1, 0, 0, 0, .null), (62, .iinc 2 1, 3, 0, 0, 0, .int 1)]),
  (4, [(65, .goto (-25), 3, 40, 0, 0, .null), (68, .aload_n 0, 1, 0, 0, 0, .null), (69, .iconst 0, 1, 0, 0, 0, .int 0), (70, .invokevirtual 117, 3, 146, 10101, 1387, .null), (73, .ireturn, 1, 0, 0, 0, .null)])]
def uX10_cast : List (Nat × List Nat) := [(40, [0, 2])]
def qX10_powerAt : CD := [(0, [(0, .iload_n 3, 1, 0, 0, 0, .null), (1, .ifCond .ge 7, 3, 8, 0, 0, .null), (4, .lconst 0, 1, 0, 0, 0, .long 0), (5, .goto 57, 3, 62, 0, 0, .null), (8, .iload_n 1, 1, 0, 0, 0, .null), (9, .aload_n 0, 1, 0, 0, 0, .null), (10, .invokevirtual 120, 3, 153, 10100, 1493, .null), (13, .if_icmp .ge 22, 3, 35, 0, 0, .null)]),
  (1, [(16, .aload_n 0, 1, 0, 0, 0, .null), (17, .getfield 82, 3, 10, 36, 1264, .null), (20, .bipush 16, 2, 0, 0, 0, .int 16), (22, .iload_n 2, 1, 0, 0, 0, .null), (23, .imul, 1, 0, 0, 0, .null), (24, .iload_n 1, 1, 0, 0, 0, .null), (25, .iadd, 1, 0, 0, 0, .null), (26, .bipush 11, 2, 0, 0, 0, .int 11), (28, .imul, 1, 0, 0, 0, .null), (29, .iload_n 3, 1, 0, 0, 0, .null), (30, .iadd, 1, 0, 0, 0, .null), (31, .laload, 1, 0, 0, 0, .null)]),
  (2, [(32, .goto 30, 3, 62, 0, 0, .null), (35, .iload_n 3, 1, 0, 0, 0, .null), (36, .ifCond .ne 25, 3, 61, 0, 0, .null), (39, .aload_n 0, 1, 0, 0, 0, .null), (40, .getfield 22, 3, 10, 3, 1231, .null), (43, .sipush 181, 3, 0, 0, 0, .int 181), (46, .iaload, 1, 0, 0, 0, .null), (47, .i2l, 1, 0, 0, 0, .null)]),
  (3, [(48, .aload_n 0, 1, 0, 0, 0, .null), (49, .invokevirtual 259, 3, 154, 10100, 1514, .null), (52, .iload_n 2, 1, 0, 0, 0, .null), (53, .isub, 1, 0, 0, 0, .null), (54, .invokestatic 280, 3, 149, 201, 1601, .null), (57, .lmul, 1, 0, 0, 0, .null), (58, .goto 4, 3, 62, 0, 0, .null), (61, .lconst 0, 1, 0, 0, 0, .long 0), (62, .lreturn, 1, 0, 0, 0, .null)])]
def uX10_powerAt : List (Nat × List Nat) := []
def qX10_power0 : CD := [(0, [(0, .aload_n 0, 1, 0, 0, 0, .null), (1, .iload_n 1, 1, 0, 0, 0, .null), (2, .iconst 0, 1, 0, 0, 0, .int 0), (3, .invokevirtual 128, 3, 156, 10102, 1497, .null), (6, .istore 5, 2, 0, 0, 0, .null), (8, .aload_n 0, 1, 0, 0, 0, .null), (9, .invokevirtual 259, 3, 154, 10100, 1514, .null), (12, .iload_n 2, 1, 0, 0, 0, .null), (13, .isub, 1, 0, 0, 0, .null), (14, .invokestatic 280, 3, 149, 201, 1601, .null)]),
  (1, [(17, .lstore 6, 2, 0, 0, 0, .null), (19, .iload 5, 2, 0, 0, 0, .null), (21, .iconst 3, 1, 0, 0, 0, .int 3), (22, .if_icmp .ne 27, 3, 49, 0, 0, .null), (25, .iload_n 3, 1, 0, 0, 0, .null), (26, .ifCond .ne 21, 3, 47, 0, 0, .null), (29, .aload_n 0, 1, 0, 0, 0, .null), (30, .getfield 60, 3, 10, 25, 1253, .null)]),
  (2, [(33, .bipush 11, 2, 0, 0, 0, .int 11), (35, .iload_n 1, 1, 0, 0, 0, .null), (36, .imul, 1, 0, 0, 0, .null), (37, .iload_n 2, 1, 0, 0, 0, .null), (38, .iadd, 1, 0, 0, 0, .null), (39, .iaload, 1, 0, 0, 0, .null), (40, .i2l, 1, 0, 0, 0, .null), (41, .lload 6, 2, 0, 0, 0, .null), (43, .lmul, 1, 0, 0, 0, .null), (44, .goto 4, 3, 48, 0, 0, .null), (47, .lconst 0, 1, 0, 0, 0, .long 0)]),
  (3, [(48, .lreturn, 1, 0, 0, 0, .null), (49, .iload_n 2, 1, 0, 0, 0, .null), (50, .aload_n 0, 1, 0, 0, 0, .null), (51, .invokevirtual 259, 3, 154, 10100, 1514, .null), (54, .if_icmp .ne 21, 3, 75, 0, 0, .null), (57, .iload_n 3, 1, 0, 0, 0, .null), (58, .ifCond .ne 15, 3, 73, 0, 0, .null), (61, .aload_n 0, 1, 0, 0, 0, .null), (62, .getfield 22, 3, 10, 3, 1231, .null)]),
  (4, [(65, .sipush 180, 3, 0, 0, 0, .int 180), (68, .iaload, 1, 0, 0, 0, .null), (69, .i2l, 1, 0, 0, 0, .null), (70, .goto 4, 3, 74, 0, 0, .null), (73, .lconst 0, 1, 0, 0, 0, .long 0), (74, .lreturn, 1, 0, 0, 0, .null), (75, .iload 5, 2, 0, 0, 0, .null), (77, .iconst 2, 1, 0, 0, 0, .int 2), (78, .if_icmp .ne 41, 3, 119, 0, 0, .null)]),
  (5, [(81, .ldc2_w 14, 3, 0, 0, 1604, .long 10), (84, .aload_n 0, 1, 0, 0, 0, .null), (85, .aload_n 0, 1, 0, 0, 0, .null), (86, .iload_n 1, 1, 0, 0, 0, .null), (87, .iconst 3, 1, 0, 0, 0, .int 3), (88, .invokevirtual 128, 3, 156, 10102, 1497, .null), (91, .iload_n 2, 1, 0, 0, 0, .null), (92, .iconst 1, 1, 0, 0, 0, .int 1), (93, .iadd, 1, 0, 0, 0, .null), (94, .iload_n 3, 1, 0, 0, 0, .null), (95, .invokevirtual 342, 3, 219, 10203, 1681, .null)]),
  (6, [(98, .lmul, 1, 0, 0, 0, .null), (99, .iload_n 3, 1, 0, 0, 0, .null), (100, .ifCond .ne 16, 3, 116, 0, 0, .null), (103, .aload_n 0, 1, 0, 0, 0, .null), (104, .iload_n 1, 1, 0, 0, 0, .null), (105, .iconst 1, 1, 0, 0, 0, .int 1), (106, .invokevirtual 128, 3, 156, 10102, 1497, .null), (109, .i2l, 1, 0, 0, 0, .null), (110, .lload 6, 2, 0, 0, 0, .null)]),
  (7, [(112, .lmul, 1, 0, 0, 0, .null), (113, .goto 4, 3, 117, 0, 0, .null), (116, .lconst 0, 1, 0, 0, 0, .long 0), (117, .lsub, 1, 0, 0, 0, .null), (118, .lreturn, 1, 0, 0, 0, .null), (119, .aload_n 0, 1, 0, 0, 0, .null), (120, .iload_n 1, 1, 0, 0, 0, .null), (121, .iconst 2, 1, 0, 0, 0, .int 2), (122, .invokevirtual 128, 3, 156, 10102, 1497, .null), (125, .istore 8, 2, 0, 0, 0, .null), (127, .lconst 0, 1, 0, 0, 0, .long 0)]),
  (8, [(128, .lstore 9, 2, 0, 0, 0, .null), (130, .iload 5, 2, 0, 0, 0, .null), (132, .ifCond .ne 81, 3, 213, 0, 0, .null), (135, .aload_n 0, 1, 0, 0, 0, .null), (136, .iload_n 1, 1, 0, 0, 0, .null), (137, .iconst 1, 1, 0, 0, 0, .int 1), (138, .invokevirtual 128, 3, 156, 10102, 1497, .null), (141, .iload 4, 2, 0, 0, 0, .null), (143, .if_icmp .ne 70, 3, 213, 0, 0, .null)]),
  (9, [(146, .aload_n 0, 1, 0, 0, 0, .null), (147, .iload_n 1, 1, 0, 0, 0, .null), (148, .iconst 3, 1, 0, 0, 0, .int 3), (149, .invokevirtual 128, 3, 156, 10102, 1497, .null), (152, .istore 11, 2, 0, 0, 0, .null), (154, .aload_n 0, 1, 0, 0, 0, .null), (155, .iload_n 1, 1, 0, 0, 0, .null), (156, .iload 8, 2, 0, 0, 0, .null), (158, .iconst 1, 1, 0, 0, 0, .int 1), (159, .if_icmp .le 7, 3, 166, 0, 0, .null)]),
  (10, [(162, .iconst 4, 1, 0, 0, 0, .int 4), (163, .goto 4, 3, 167, 0, 0, .null), (166, .iconst 3, 1, 0, 0, 0, .int 3), (167, .invokevirtual 128, 3, 156, 10102, 1497, .null), (170, .istore 12, 2, 0, 0, 0, .null), (172, .ldc2_w 14, 3, 0, 0, 1604, .long 10), (175, .aload_n 0, 1, 0, 0, 0, .null)]),
  (11, [(176, .iload 11, 2, 0, 0, 0, .null), (178, .iload_n 2, 1, 0, 0, 0, .null), (179, .iconst 1, 1, 0, 0, 0, .int 1), (180, .iadd, 1, 0, 0, 0, .null), (181, .iload_n 3, 1, 0, 0, 0, .null), (182, .iconst 1, 1, 0, 0, 0, .int 1), (183, .isub, 1, 0, 0, 0, .null), (184, .invokevirtual 342, 3, 219, 10203, 1681, .null), (187, .aload_n 0, 1, 0, 0, 0, .null), (188, .iload 12, 2, 0, 0, 0, .null), (190, .iload_n 2, 1, 0, 0, 0, .null), (191, .iconst 1, 1, 0, 0, 0, .int 1)]),
  (12, [(192, .iadd, 1, 0, 0, 0, .null), (193, .iload_n 3, 1, 0, 0, 0, .null), (194, .invokevirtual 342, 3, 219, 10203, 1681, .null), (197, .ladd, 1, 0, 0, 0, .null), (198, .aload_n 0, 1, 0, 0, 0, .null), (199, .iload 12, 2, 0, 0, 0, .null), (201, .iload_n 2, 1, 0, 0, 0, .null), (202, .iconst 1, 1, 0, 0, 0, .int 1), (203, .iadd, 1, 0, 0, 0, .null), (204, .iload_n 3, 1, 0, 0, 0, .null), (205, .iconst 1, 1, 0, 0, 0, .int 1), (206, .isub, 1, 0, 0, 0, .null), (207, .invokevirtual 342, 3, 219, 10203, 1681, .null)]),
  (13, [(210, .lsub, 1, 0, 0, 0, .null), (211, .lmul, 1, 0, 0, 0, .null), (212, .lreturn, 1, 0, 0, 0, .null), (213, .iconst 0, 1, 0, 0, 0, .int 0), (214, .istore 11, 2, 0, 0, 0, .null), (216, .iload 11, 2, 0, 0, 0, .null), (218, .iload 5, 2, 0, 0, 0, .null), (220, .iconst 1, 1, 0, 0, 0, .int 1), (221, .if_icmp .ne 8, 3, 229, 0, 0, .null)]),
  (14, [(224, .iload 8, 2, 0, 0, 0, .null), (226, .goto 4, 3, 230, 0, 0, .null), (229, .iconst 3, 1, 0, 0, 0, .int 3), (230, .if_icmp .ge 86, 3, 316, 0, 0, .null), (233, .lload 9, 2, 0, 0, 0, .null), (235, .iload 5, 2, 0, 0, 0, .null), (237, .iconst 1, 1, 0, 0, 0, .int 1), (238, .if_icmp .ne 16, 3, 254, 0, 0, .null)]),
  (15, [(241, .aload_n 0, 1, 0, 0, 0, .null), (242, .iload_n 1, 1, 0, 0, 0, .null), (243, .bipush 6, 2, 0, 0, 0, .int 6), (245, .iload 11, 2, 0, 0, 0, .null), (247, .iadd, 1, 0, 0, 0, .null), (248, .invokevirtual 128, 3, 156, 10102, 1497, .null), (251, .goto 23, 3, 274, 0, 0, .null), (254, .aload_n 0, 1, 0, 0, 0, .null), (255, .getfield 22, 3, 10, 3, 1231, .null)]),
  (16, [(258, .sipush 160, 3, 0, 0, 0, .int 160), (261, .iconst 3, 1, 0, 0, 0, .int 3), (262, .aload_n 0, 1, 0, 0, 0, .null), (263, .iload_n 1, 1, 0, 0, 0, .null), (264, .iconst 1, 1, 0, 0, 0, .int 1), (265, .invokevirtual 128, 3, 156, 10102, 1497, .null), (268, .imul, 1, 0, 0, 0, .null), (269, .iadd, 1, 0, 0, 0, .null), (270, .iload 11, 2, 0, 0, 0, .null)]),
  (17, [(272, .iadd, 1, 0, 0, 0, .null), (273, .iaload, 1, 0, 0, 0, .null), (274, .i2l, 1, 0, 0, 0, .null), (275, .aload_n 0, 1, 0, 0, 0, .null), (276, .aload_n 0, 1, 0, 0, 0, .null), (277, .iload_n 1, 1, 0, 0, 0, .null), (278, .iconst 3, 1, 0, 0, 0, .int 3), (279, .iload 11, 2, 0, 0, 0, .null), (281, .iload 8, 2, 0, 0, 0, .null), (283, .if_icmp .ge 8, 3, 291, 0, 0, .null), (286, .iload 11, 2, 0, 0, 0, .null)]),
  (18, [(288, .goto 7, 3, 295, 0, 0, .null), (291, .iload 8, 2, 0, 0, 0, .null), (293, .iconst 1, 1, 0, 0, 0, .int 1), (294, .isub, 1, 0, 0, 0, .null), (295, .iadd, 1, 0, 0, 0, .null), (296, .invokevirtual 128, 3, 156, 10102, 1497, .null), (299, .iload_n 2, 1, 0, 0, 0, .null), (300, .iconst 1, 1, 0, 0, 0, .int 1), (301, .iadd, 1, 0, 0, 0, .null), (302, .iload_n 3, 1, 0, 0, 0, .null), (303, .invokevirtual 342, 3, 219, 10203, 1681, .null)]),
  (19, [(306, .lmul, 1, 0, 0, 0, .null), (307, .ladd, 1, 0, 0, 0, .null), (308, .lstore 9, 2, 0, 0, 0, .null), (310, .iinc 11 1, 3, 0, 0, 0, .int 1), (313, .goto (-97), 3, 216, 0, 0, .null), (316, .lload 9, 2, 0, 0, 0, .null), (318, .lreturn, 1, 0, 0, 0, .null)])]
def uX10_power0 : List (Nat × List Nat) := [(172, [0, 2, 3, 11, 12]), (216, [0, 1, 2, 3, 5, 8, 9, 11])]
def qX10_power : CD := [(0, [(0, .iload_n 1, 1, 0, 0, 0, .null), (1, .invokestatic 274, 3, 158, 301, 1566, .null), (4, .ifCond .eq 20, 3, 24, 0, 0, .null), (7, .iload_n 2, 1, 0, 0, 0, .null), (8, .iconst 0, 1, 0, 0, 0, .int 0), (9, .bipush 10, 2, 0, 0, 0, .int 10), (11, .invokestatic 109, 3, 144, 303, 1380, .null), (14, .ifCond .eq 10, 3, 24, 0, 0, .null)]),
  (1, [(17, .aload_n 0, 1, 0, 0, 0, .null), (18, .invokevirtual 120, 3, 153, 10100, 1493, .null), (21, .ifCond .ne 7, 3, 28, 0, 0, .null), (24, .ldc2_w 269, 3, 0, 0, 1505, .long (-1000000000000000000)), (27, .lreturn, 1, 0, 0, 0, .null), (28, .aload_n 0, 1, 0, 0, 0, .null), (29, .invokevirtual 271, 3, 192, 10000, 1506, .null)]),
  (2, [(32, .aload_n 0, 1, 0, 0, 0, .null), (33, .invokevirtual 259, 3, 154, 10100, 1514, .null), (36, .istore_n 3, 1, 0, 0, 0, .null), (37, .iload_n 3, 1, 0, 0, 0, .null), (38, .ifCond .lt 71, 3, 109, 0, 0, .null), (41, .iconst 0, 1, 0, 0, 0, .int 0), (42, .istore 4, 2, 0, 0, 0, .null), (44, .iload 4, 2, 0, 0, 0, .null), (46, .aload_n 0, 1, 0, 0, 0, .null), (47, .invokevirtual 120, 3, 153, 10100, 1493, .null)]),
  (3, [(50, .if_icmp .ge 53, 3, 103, 0, 0, .null), (53, .iconst 0, 1, 0, 0, 0, .int 0), (54, .istore 5, 2, 0, 0, 0, .null), (56, .iload 5, 2, 0, 0, 0, .null), (58, .bipush 11, 2, 0, 0, 0, .int 11), (60, .if_icmp .ge 37, 3, 97, 0, 0, .null), (63, .aload_n 0, 1, 0, 0, 0, .null)]),
  (4, [(64, .getfield 82, 3, 10, 36, 1264, .null), (67, .bipush 16, 2, 0, 0, 0, .int 16), (69, .iload_n 3, 1, 0, 0, 0, .null), (70, .imul, 1, 0, 0, 0, .null), (71, .iload 4, 2, 0, 0, 0, .null), (73, .iadd, 1, 0, 0, 0, .null), (74, .bipush 11, 2, 0, 0, 0, .int 11), (76, .imul, 1, 0, 0, 0, .null), (77, .iload 5, 2, 0, 0, 0, .null), (79, .iadd, 1, 0, 0, 0, .null)]),
  (5, [(80, .aload_n 0, 1, 0, 0, 0, .null), (81, .iload 4, 2, 0, 0, 0, .null), (83, .iload_n 3, 1, 0, 0, 0, .null), (84, .iload 5, 2, 0, 0, 0, .null), (86, .iload_n 1, 1, 0, 0, 0, .null), (87, .invokevirtual 346, 3, 220, 10204, 1677, .null), (90, .lastore, 1, 0, 0, 0, .null), (91, .iinc 5 1, 3, 0, 0, 0, .int 1), (94, .goto (-38), 3, 56, 0, 0, .null)]),
  (6, [(97, .iinc 4 1, 3, 0, 0, 0, .int 1), (100, .goto (-56), 3, 44, 0, 0, .null), (103, .iinc 3 (-1), 3, 0, 0, 0, .int (-1)), (106, .goto (-69), 3, 37, 0, 0, .null), (109, .aload_n 0, 1, 0, 0, 0, .null), (110, .aload_n 0, 1, 0, 0, 0, .null), (111, .getfield 22, 3, 10, 3, 1231, .null)]),
  (7, [(114, .sipush 178, 3, 0, 0, 0, .int 178), (117, .iaload, 1, 0, 0, 0, .null), (118, .iconst 0, 1, 0, 0, 0, .int 0), (119, .iload_n 2, 1, 0, 0, 0, .null), (120, .invokevirtual 342, 3, 219, 10203, 1681, .null), (123, .bipush 10, 2, 0, 0, 0, .int 10), (125, .aload_n 0, 1, 0, 0, 0, .null), (126, .invokevirtual 259, 3, 154, 10100, 1514, .null)]),
  (8, [(129, .isub, 1, 0, 0, 0, .null), (130, .invokestatic 280, 3, 149, 201, 1601, .null), (133, .lmul, 1, 0, 0, 0, .null), (134, .lreturn, 1, 0, 0, 0, .null)])]
def uX10_power : List (Nat × List Nat) := [(37, [0, 1, 2, 3]), (44, [0, 1, 2, 3, 4]), (56, [0, 1, 2, 3, 4, 5])]
def qX10_pocketAt : CD := [(0, [(0, .iload_n 1, 1, 0, 0, 0, .null), (1, .aload_n 0, 1, 0, 0, 0, .null), (2, .invokevirtual 120, 3, 153, 10100, 1493, .null), (5, .if_icmp .ge 21, 3, 26, 0, 0, .null), (8, .aload_n 0, 1, 0, 0, 0, .null), (9, .getfield 88, 3, 10, 38, 1266, .null), (12, .bipush 16, 2, 0, 0, 0, .int 16), (14, .iload_n 2, 1, 0, 0, 0, .null), (15, .imul, 1, 0, 0, 0, .null)]),
  (1, [(16, .iload_n 1, 1, 0, 0, 0, .null), (17, .iadd, 1, 0, 0, 0, .null), (18, .iconst 2, 1, 0, 0, 0, .int 2), (19, .imul, 1, 0, 0, 0, .null), (20, .iload_n 3, 1, 0, 0, 0, .null), (21, .iadd, 1, 0, 0, 0, .null), (22, .laload, 1, 0, 0, 0, .null), (23, .goto 22, 3, 45, 0, 0, .null), (26, .aload_n 0, 1, 0, 0, 0, .null), (27, .getfield 22, 3, 10, 3, 1231, .null), (30, .sipush 181, 3, 0, 0, 0, .int 181)]),
  (2, [(33, .iaload, 1, 0, 0, 0, .null), (34, .i2l, 1, 0, 0, 0, .null), (35, .aload_n 0, 1, 0, 0, 0, .null), (36, .invokevirtual 259, 3, 154, 10100, 1514, .null), (39, .iload_n 2, 1, 0, 0, 0, .null), (40, .isub, 1, 0, 0, 0, .null), (41, .invokestatic 280, 3, 149, 201, 1601, .null), (44, .lmul, 1, 0, 0, 0, .null), (45, .lreturn, 1, 0, 0, 0, .null)])]
def uX10_pocketAt : List (Nat × List Nat) := []
def qX10_pocket0 : CD := [(0, [(0, .aload_n 0, 1, 0, 0, 0, .null), (1, .iload_n 1, 1, 0, 0, 0, .null), (2, .iconst 0, 1, 0, 0, 0, .int 0), (3, .invokevirtual 128, 3, 156, 10102, 1497, .null), (6, .istore 4, 2, 0, 0, 0, .null), (8, .aload_n 0, 1, 0, 0, 0, .null), (9, .invokevirtual 259, 3, 154, 10100, 1514, .null), (12, .iload_n 2, 1, 0, 0, 0, .null), (13, .isub, 1, 0, 0, 0, .null), (14, .invokestatic 280, 3, 149, 201, 1601, .null)]),
  (1, [(17, .lstore 5, 2, 0, 0, 0, .null), (19, .iload 4, 2, 0, 0, 0, .null), (21, .iconst 3, 1, 0, 0, 0, .int 3), (22, .if_icmp .ne 19, 3, 41, 0, 0, .null), (25, .aload_n 0, 1, 0, 0, 0, .null), (26, .getfield 60, 3, 10, 25, 1253, .null), (29, .bipush 11, 2, 0, 0, 0, .int 11), (31, .iload_n 1, 1, 0, 0, 0, .null)]),
  (2, [(32, .imul, 1, 0, 0, 0, .null), (33, .iload_n 2, 1, 0, 0, 0, .null), (34, .iadd, 1, 0, 0, 0, .null), (35, .iaload, 1, 0, 0, 0, .null), (36, .i2l, 1, 0, 0, 0, .null), (37, .lload 5, 2, 0, 0, 0, .null), (39, .lmul, 1, 0, 0, 0, .null), (40, .lreturn, 1, 0, 0, 0, .null), (41, .iload_n 2, 1, 0, 0, 0, .null), (42, .aload_n 0, 1, 0, 0, 0, .null), (43, .invokevirtual 259, 3, 154, 10100, 1514, .null), (46, .if_icmp .ne 13, 3, 59, 0, 0, .null)]),
  (3, [(49, .aload_n 0, 1, 0, 0, 0, .null), (50, .getfield 22, 3, 10, 3, 1231, .null), (53, .sipush 180, 3, 0, 0, 0, .int 180), (56, .iaload, 1, 0, 0, 0, .null), (57, .i2l, 1, 0, 0, 0, .null), (58, .lreturn, 1, 0, 0, 0, .null), (59, .iload 4, 2, 0, 0, 0, .null), (61, .iconst 2, 1, 0, 0, 0, .int 2), (62, .if_icmp .ne 33, 3, 95, 0, 0, .null)]),
  (4, [(65, .ldc2_w 14, 3, 0, 0, 1604, .long 10), (68, .aload_n 0, 1, 0, 0, 0, .null), (69, .aload_n 0, 1, 0, 0, 0, .null), (70, .iload_n 1, 1, 0, 0, 0, .null), (71, .iconst 3, 1, 0, 0, 0, .int 3), (72, .invokevirtual 128, 3, 156, 10102, 1497, .null), (75, .iload_n 2, 1, 0, 0, 0, .null), (76, .iconst 1, 1, 0, 0, 0, .int 1), (77, .iadd, 1, 0, 0, 0, .null), (78, .iload_n 3, 1, 0, 0, 0, .null), (79, .invokevirtual 350, 3, 222, 10203, 1693, .null)]),
  (5, [(82, .lmul, 1, 0, 0, 0, .null), (83, .aload_n 0, 1, 0, 0, 0, .null), (84, .iload_n 1, 1, 0, 0, 0, .null), (85, .iconst 1, 1, 0, 0, 0, .int 1), (86, .invokevirtual 128, 3, 156, 10102, 1497, .null), (89, .i2l, 1, 0, 0, 0, .null), (90, .lload 5, 2, 0, 0, 0, .null), (92, .lmul, 1, 0, 0, 0, .null), (93, .lsub, 1, 0, 0, 0, .null), (94, .lreturn, 1, 0, 0, 0, .null), (95, .aload_n 0, 1, 0, 0, 0, .null)]),
  (6, [(96, .iload_n 1, 1, 0, 0, 0, .null), (97, .iconst 2, 1, 0, 0, 0, .int 2), (98, .invokevirtual 128, 3, 156, 10102, 1497, .null), (101, .istore 7, 2, 0, 0, 0, .null), (103, .iload 4, 2, 0, 0, 0, .null), (105, .ifCond .ne 67, 3, 172, 0, 0, .null), (108, .aload_n 0, 1, 0, 0, 0, .null), (109, .getfield 85, 3, 10, 37, 1265, .null)]),
  (7, [(112, .iconst 2, 1, 0, 0, 0, .int 2), (113, .aload_n 0, 1, 0, 0, 0, .null), (114, .iload_n 1, 1, 0, 0, 0, .null), (115, .iconst 1, 1, 0, 0, 0, .int 1), (116, .invokevirtual 128, 3, 156, 10102, 1497, .null), (119, .imul, 1, 0, 0, 0, .null), (120, .iload_n 3, 1, 0, 0, 0, .null), (121, .iadd, 1, 0, 0, 0, .null), (122, .iaload, 1, 0, 0, 0, .null), (123, .istore 8, 2, 0, 0, 0, .null), (125, .iload 8, 2, 0, 0, 0, .null), (127, .iconst 2, 1, 0, 0, 0, .int 2)]),
  (8, [(128, .idiv, 1, 0, 0, 0, .null), (129, .iload 7, 2, 0, 0, 0, .null), (131, .if_icmp .ge 10, 3, 141, 0, 0, .null), (134, .iload 8, 2, 0, 0, 0, .null), (136, .iconst 2, 1, 0, 0, 0, .int 2), (137, .idiv, 1, 0, 0, 0, .null), (138, .goto 7, 3, 145, 0, 0, .null), (141, .iload 7, 2, 0, 0, 0, .null), (143, .iconst 1, 1, 0, 0, 0, .int 1)]),
  (9, [(144, .isub, 1, 0, 0, 0, .null), (145, .istore 9, 2, 0, 0, 0, .null), (147, .ldc2_w 14, 3, 0, 0, 1604, .long 10), (150, .aload_n 0, 1, 0, 0, 0, .null), (151, .aload_n 0, 1, 0, 0, 0, .null), (152, .iload_n 1, 1, 0, 0, 0, .null), (153, .iconst 3, 1, 0, 0, 0, .int 3), (154, .iload 9, 2, 0, 0, 0, .null), (156, .iadd, 1, 0, 0, 0, .null), (157, .invokevirtual 128, 3, 156, 10102, 1497, .null)]),
  (10, [(160, .iload_n 2, 1, 0, 0, 0, .null), (161, .iconst 1, 1, 0, 0, 0, .int 1), (162, .iadd, 1, 0, 0, 0, .null), (163, .iload 8, 2, 0, 0, 0, .null), (165, .iconst 2, 1, 0, 0, 0, .int 2), (166, .irem, 1, 0, 0, 0, .null), (167, .invokevirtual 350, 3, 222, 10203, 1693, .null), (170, .lmul, 1, 0, 0, 0, .null), (171, .lreturn, 1, 0, 0, 0, .null), (172, .lconst 0, 1, 0, 0, 0, .long 0), (173, .lstore 8, 2, 0, 0, 0, .null), (175, .iconst 0, 1, 0, 0, 0, .int 0)]),
  (11, [(176, .istore 10, 2, 0, 0, 0, .null), (178, .iload 10, 2, 0, 0, 0, .null), (180, .iload 7, 2, 0, 0, 0, .null), (182, .if_icmp .ge 43, 3, 225, 0, 0, .null), (185, .lload 8, 2, 0, 0, 0, .null), (187, .aload_n 0, 1, 0, 0, 0, .null), (188, .iload_n 1, 1, 0, 0, 0, .null), (189, .bipush 6, 2, 0, 0, 0, .int 6), (191, .iload 10, 2, 0, 0, 0, .null)]),
  (12, [(193, .iadd, 1, 0, 0, 0, .null), (194, .invokevirtual 128, 3, 156, 10102, 1497, .null), (197, .i2l, 1, 0, 0, 0, .null), (198, .aload_n 0, 1, 0, 0, 0, .null), (199, .aload_n 0, 1, 0, 0, 0, .null), (200, .iload_n 1, 1, 0, 0, 0, .null), (201, .iconst 3, 1, 0, 0, 0, .int 3), (202, .iload 10, 2, 0, 0, 0, .null), (204, .iadd, 1, 0, 0, 0, .null), (205, .invokevirtual 128, 3, 156, 10102, 1497, .null)]),
  (13, [(208, .iload_n 2, 1, 0, 0, 0, .null), (209, .iconst 1, 1, 0, 0, 0, .int 1), (210, .iadd, 1, 0, 0, 0, .null), (211, .iload_n 3, 1, 0, 0, 0, .null), (212, .invokevirtual 350, 3, 222, 10203, 1693, .null), (215, .lmul, 1, 0, 0, 0, .null), (216, .ladd, 1, 0, 0, 0, .null), (217, .lstore 8, 2, 0, 0, 0, .null), (219, .iinc 10 1, 3, 0, 0, 0, .int 1), (222, .goto (-44), 3, 178, 0, 0, .null)]),
  (14, [(225, .lload 8, 2, 0, 0, 0, .null), (227, .lreturn, 1, 0, 0, 0, .null)])]
def uX10_pocket0 : List (Nat × List Nat) := [(147, [0, 1, 2, 8, 9]), (178, [0, 1, 2, 3, 7, 8, 10])]
def qX10_pocket : CD := [(0, [(0, .aload_n 0, 1, 0, 0, 0, .null), (1, .invokevirtual 120, 3, 153, 10100, 1493, .null), (4, .ifCond .eq 14, 3, 18, 0, 0, .null), (7, .aload_n 0, 1, 0, 0, 0, .null), (8, .invokevirtual 323, 3, 197, 10100, 1654, .null), (11, .invokestatic 326, 3, 148, 101, 1655, .null), (14, .iconst 3, 1, 0, 0, 0, .int 3), (15, .if_icmp .le 7, 3, 22, 0, 0, .null)]),
  (1, [(18, .ldc2_w 269, 3, 0, 0, 1505, .long (-1000000000000000000)), (21, .lreturn, 1, 0, 0, 0, .null), (22, .aload_n 0, 1, 0, 0, 0, .null), (23, .invokevirtual 271, 3, 192, 10000, 1506, .null), (26, .iconst 1, 1, 0, 0, 0, .int 1), (27, .istore_n 1, 1, 0, 0, 0, .null), (28, .aload_n 0, 1, 0, 0, 0, .null), (29, .invokevirtual 323, 3, 197, 10100, 1654, .null)]),
  (2, [(32, .istore_n 2, 1, 0, 0, 0, .null), (33, .iconst 0, 1, 0, 0, 0, .int 0), (34, .istore_n 3, 1, 0, 0, 0, .null), (35, .iload_n 3, 1, 0, 0, 0, .null), (36, .bipush 6, 2, 0, 0, 0, .int 6), (38, .if_icmp .ge 37, 3, 75, 0, 0, .null), (41, .iload_n 1, 1, 0, 0, 0, .null), (42, .iload_n 2, 1, 0, 0, 0, .null), (43, .iload_n 3, 1, 0, 0, 0, .null), (44, .invokestatic 329, 3, 147, 302, 1658, .null), (47, .ifCond .eq 19, 3, 66, 0, 0, .null)]),
  (3, [(50, .iconst 4, 1, 0, 0, 0, .int 4), (51, .aload_n 0, 1, 0, 0, 0, .null), (52, .iload_n 3, 1, 0, 0, 0, .null), (53, .invokevirtual 307, 3, 209, 10101, 1634, .null), (56, .imul, 1, 0, 0, 0, .null), (57, .aload_n 0, 1, 0, 0, 0, .null), (58, .iload_n 3, 1, 0, 0, 0, .null), (59, .invokevirtual 307, 3, 209, 10101, 1634, .null), (62, .imul, 1, 0, 0, 0, .null), (63, .goto 4, 3, 67, 0, 0, .null)]),
  (4, [(66, .iconst 1, 1, 0, 0, 0, .int 1), (67, .imul, 1, 0, 0, 0, .null), (68, .istore_n 1, 1, 0, 0, 0, .null), (69, .iinc 3 1, 3, 0, 0, 0, .int 1), (72, .goto (-37), 3, 35, 0, 0, .null), (75, .ldc2_w 269, 3, 0, 0, 1505, .long (-1000000000000000000)), (78, .lstore_n 3, 1, 0, 0, 0, .null), (79, .iconst 0, 1, 0, 0, 0, .int 0)]),
  (5, [(80, .istore 5, 2, 0, 0, 0, .null), (82, .iload 5, 2, 0, 0, 0, .null), (84, .iload_n 1, 1, 0, 0, 0, .null), (85, .if_icmp .ge 197, 3, 282, 0, 0, .null), (88, .iload 5, 2, 0, 0, 0, .null), (90, .istore 6, 2, 0, 0, 0, .null), (92, .iconst 0, 1, 0, 0, 0, .int 0), (93, .istore 7, 2, 0, 0, 0, .null), (95, .iload 7, 2, 0, 0, 0, .null)]),
  (6, [(97, .bipush 6, 2, 0, 0, 0, .int 6), (99, .if_icmp .ge 69, 3, 168, 0, 0, .null), (102, .iconst 0, 1, 0, 0, 0, .int 0), (103, .istore 8, 2, 0, 0, 0, .null), (105, .iload 8, 2, 0, 0, 0, .null), (107, .iconst 2, 1, 0, 0, 0, .int 2), (108, .if_icmp .ge 54, 3, 162, 0, 0, .null), (111, .iload_n 2, 1, 0, 0, 0, .null)]),
  (7, [(112, .iload 7, 2, 0, 0, 0, .null), (114, .invokestatic 329, 3, 147, 302, 1658, .null), (117, .ifCond .eq 45, 3, 162, 0, 0, .null), (120, .aload_n 0, 1, 0, 0, 0, .null), (121, .getfield 85, 3, 10, 37, 1265, .null), (124, .iconst 2, 1, 0, 0, 0, .int 2), (125, .iload 7, 2, 0, 0, 0, .null), (127, .imul, 1, 0, 0, 0, .null)]),
  (8, [(128, .iload 8, 2, 0, 0, 0, .null), (130, .iadd, 1, 0, 0, 0, .null), (131, .iload 6, 2, 0, 0, 0, .null), (133, .iconst 2, 1, 0, 0, 0, .int 2), (134, .aload_n 0, 1, 0, 0, 0, .null), (135, .iload 7, 2, 0, 0, 0, .null), (137, .invokevirtual 307, 3, 209, 10101, 1634, .null), (140, .imul, 1, 0, 0, 0, .null), (141, .irem, 1, 0, 0, 0, .null), (142, .iastore, 1, 0, 0, 0, .null), (143, .iload 6, 2, 0, 0, 0, .null)]),
  (9, [(145, .iconst 2, 1, 0, 0, 0, .int 2), (146, .aload_n 0, 1, 0, 0, 0, .null), (147, .iload 7, 2, 0, 0, 0, .null), (149, .invokevirtual 307, 3, 209, 10101, 1634, .null), (152, .imul, 1, 0, 0, 0, .null), (153, .idiv, 1, 0, 0, 0, .null), (154, .istore 6, 2, 0, 0, 0, .null), (156, .iinc 8 1, 3, 0, 0, 0, .int 1), (159, .goto (-54), 3, 105, 0, 0, .null)]),
  (10, [(162, .iinc 7 1, 3, 0, 0, 0, .int 1), (165, .goto (-70), 3, 95, 0, 0, .null), (168, .aload_n 0, 1, 0, 0, 0, .null), (169, .invokevirtual 259, 3, 154, 10100, 1514, .null), (172, .istore 7, 2, 0, 0, 0, .null), (174, .iload 7, 2, 0, 0, 0, .null)]),
  (11, [(176, .ifCond .lt 70, 3, 246, 0, 0, .null), (179, .iconst 0, 1, 0, 0, 0, .int 0), (180, .istore 8, 2, 0, 0, 0, .null), (182, .iload 8, 2, 0, 0, 0, .null), (184, .aload_n 0, 1, 0, 0, 0, .null), (185, .invokevirtual 120, 3, 153, 10100, 1493, .null), (188, .if_icmp .ge 52, 3, 240, 0, 0, .null), (191, .iconst 0, 1, 0, 0, 0, .int 0)]),
  (12, [(192, .istore 9, 2, 0, 0, 0, .null), (194, .iload 9, 2, 0, 0, 0, .null), (196, .iconst 2, 1, 0, 0, 0, .int 2), (197, .if_icmp .ge 37, 3, 234, 0, 0, .null), (200, .aload_n 0, 1, 0, 0, 0, .null), (201, .getfield 88, 3, 10, 38, 1266, .null), (204, .bipush 16, 2, 0, 0, 0, .int 16), (206, .iload 7, 2, 0, 0, 0, .null)]),
  (13, [(208, .imul, 1, 0, 0, 0, .null), (209, .iload 8, 2, 0, 0, 0, .null), (211, .iadd, 1, 0, 0, 0, .null), (212, .iconst 2, 1, 0, 0, 0, .int 2), (213, .imul, 1, 0, 0, 0, .null), (214, .iload 9, 2, 0, 0, 0, .null), (216, .iadd, 1, 0, 0, 0, .null), (217, .aload_n 0, 1, 0, 0, 0, .null), (218, .iload 8, 2, 0, 0, 0, .null), (220, .iload 7, 2, 0, 0, 0, .null), (222, .iload 9, 2, 0, 0, 0, .null)]),
  (14, [(224, .invokevirtual 353, 3, 223, 10203, 1689, .null), (227, .lastore, 1, 0, 0, 0, .null), (228, .iinc 9 1, 3, 0, 0, 0, .int 1), (231, .goto (-37), 3, 194, 0, 0, .null), (234, .iinc 8 1, 3, 0, 0, 0, .int 1), (237, .goto (-55), 3, 182, 0, 0, .null)]),
  (15, [(240, .iinc 7 (-1), 3, 0, 0, 0, .int (-1)), (243, .goto (-69), 3, 174, 0, 0, .null), (246, .aload_n 0, 1, 0, 0, 0, .null), (247, .aload_n 0, 1, 0, 0, 0, .null), (248, .getfield 22, 3, 10, 3, 1231, .null), (251, .sipush 178, 3, 0, 0, 0, .int 178), (254, .iaload, 1, 0, 0, 0, .null), (255, .iconst 0, 1, 0, 0, 0, .int 0)]),
  (16, [(256, .iconst 0, 1, 0, 0, 0, .int 0), (257, .invokevirtual 350, 3, 222, 10203, 1693, .null), (260, .lstore 7, 2, 0, 0, 0, .null), (262, .lload 7, 2, 0, 0, 0, .null), (264, .lload_n 3, 1, 0, 0, 0, .null), (265, .lcmp, 1, 0, 0, 0, .null), (266, .ifCond .le 8, 3, 274, 0, 0, .null), (269, .lload 7, 2, 0, 0, 0, .null), (271, .goto 4, 3, 275, 0, 0, .null)]),
  (17, [(274, .lload_n 3, 1, 0, 0, 0, .null), (275, .lstore_n 3, 1, 0, 0, 0, .null), (276, .iinc 5 1, 3, 0, 0, 0, .int 1), (279, .goto (-197), 3, 82, 0, 0, .null), (282, .lload_n 3, 1, 0, 0, 0, .null), (283, .bipush 10, 2, 0, 0, 0, .int 10), (285, .aload_n 0, 1, 0, 0, 0, .null), (286, .invokevirtual 259, 3, 154, 10100, 1514, .null)]),
  (18, [(289, .isub, 1, 0, 0, 0, .null), (290, .invokestatic 280, 3, 149, 201, 1601, .null), (293, .lmul, 1, 0, 0, 0, .null), (294, .lreturn, 1, 0, 0, 0, .null)])]
def uX10_pocket : List (Nat × List Nat) := [(35, [0, 1, 2, 3]), (82, [0, 1, 2, 3, 5]), (95, [0, 1, 2, 3, 5, 6, 7]), (105, [0, 1, 2, 3, 5, 6, 7, 8]), (174, [0, 1, 2, 3, 5, 7]), (182, [0, 1, 2, 3, 5, 7, 8]), (194, [0, 1, 2, 3, 5, 7, 8, 9])]
def qX10_forksOf : CD := [(0, [(0, .iconst 0, 1, 0, 0, 0, .int 0), (1, .istore_n 2, 1, 0, 0, 0, .null), (2, .iconst 0, 1, 0, 0, 0, .int 0), (3, .istore_n 3, 1, 0, 0, 0, .null), (4, .iload_n 3, 1, 0, 0, 0, .null), (5, .aload_n 0, 1, 0, 0, 0, .null), (6, .invokevirtual 120, 3, 153, 10100, 1493, .null), (9, .if_icmp .ge 37, 3, 46, 0, 0, .null), (12, .iload_n 2, 1, 0, 0, 0, .null), (13, .aload_n 0, 1, 0, 0, 0, .null), (14, .iload_n 3, 1, 0, 0, 0, .null), (15, .invokevirtual 277, 3, 157, 10301, 1569, .null)]),
  (1, [(18, .ifCond .eq 19, 3, 37, 0, 0, .null), (21, .aload_n 0, 1, 0, 0, 0, .null), (22, .iload_n 3, 1, 0, 0, 0, .null), (23, .iconst 1, 1, 0, 0, 0, .int 1), (24, .invokevirtual 128, 3, 156, 10102, 1497, .null), (27, .iload_n 1, 1, 0, 0, 0, .null), (28, .if_icmp .ne 9, 3, 37, 0, 0, .null), (31, .iconst 1, 1, 0, 0, 0, .int 1)]),
  (2, [(32, .iload_n 3, 1, 0, 0, 0, .null), (33, .ishl, 1, 0, 0, 0, .null), (34, .goto 4, 3, 38, 0, 0, .null), (37, .iconst 0, 1, 0, 0, 0, .int 0), (38, .ior, 1, 0, 0, 0, .null), (39, .istore_n 2, 1, 0, 0, 0, .null), (40, .iinc 3 1, 3, 0, 0, 0, .int 1), (43, .goto (-39), 3, 4, 0, 0, .null), (46, .iload_n 2, 1, 0, 0, 0, .null), (47, .ireturn, 1, 0, 0, 0, .null)])]
def uX10_forksOf : List (Nat × List Nat) := [(4, [0, 1, 2, 3])]
def qX10_canSign : CD := [(0, [(0, .iload_n 1, 1, 0, 0, 0, .null), (1, .iconst 0, 1, 0, 0, 0, .int 0), (2, .iconst 4, 1, 0, 0, 0, .int 4), (3, .invokestatic 109, 3, 144, 303, 1380, .null), (6, .ifCond .eq 43, 3, 49, 0, 0, .null), (9, .aload_n 0, 1, 0, 0, 0, .null), (10, .invokevirtual 120, 3, 153, 10100, 1493, .null), (13, .ifCond .le 36, 3, 49, 0, 0, .null)]),
  (1, [(16, .aload_n 0, 1, 0, 0, 0, .null), (17, .iload_n 1, 1, 0, 0, 0, .null), (18, .invokevirtual 356, 3, 225, 10101, 1705, .null), (21, .ifCond .eq 28, 3, 49, 0, 0, .null), (24, .aload_n 0, 1, 0, 0, 0, .null), (25, .iload_n 1, 1, 0, 0, 0, .null), (26, .invokevirtual 356, 3, 225, 10101, 1705, .null), (29, .invokestatic 326, 3, 148, 101, 1655, .null)]),
  (2, [(32, .bipush 6, 2, 0, 0, 0, .int 6), (34, .if_icmp .gt 15, 3, 49, 0, 0, .null), (37, .aload_n 0, 1, 0, 0, 0, .null), (38, .iconst 5, 1, 0, 0, 0, .int 5), (39, .invokevirtual 356, 3, 225, 10101, 1705, .null), (42, .ifCond .ne 7, 3, 49, 0, 0, .null), (45, .iconst 1, 1, 0, 0, 0, .int 1), (46, .goto 4, 3, 50, 0, 0, .null)]),
  (3, [(49, .iconst 0, 1, 0, 0, 0, .int 0), (50, .ireturn, 1, 0, 0, 0, .null)])]
def uX10_canSign : List (Nat × List Nat) := []
def qX10_painted : CD := [(0, [(0, .iconst (-1), 1, 0, 0, 0, .int (-1)), (1, .istore_n 2, 1, 0, 0, 0, .null), (2, .iconst 0, 1, 0, 0, 0, .int 0), (3, .istore_n 3, 1, 0, 0, 0, .null), (4, .iload_n 3, 1, 0, 0, 0, .null), (5, .aload_n 0, 1, 0, 0, 0, .null), (6, .invokevirtual 120, 3, 153, 10100, 1493, .null), (9, .if_icmp .ge 41, 3, 50, 0, 0, .null), (12, .iload_n 1, 1, 0, 0, 0, .null), (13, .iload_n 3, 1, 0, 0, 0, .null), (14, .invokestatic 329, 3, 147, 302, 1658, .null)]),
  (1, [(17, .ifCond .ne 6, 3, 23, 0, 0, .null), (20, .goto 24, 3, 44, 0, 0, .null), (23, .aload_n 0, 1, 0, 0, 0, .null), (24, .iload_n 3, 1, 0, 0, 0, .null), (25, .iconst 1, 1, 0, 0, 0, .int 1), (26, .invokevirtual 128, 3, 156, 10102, 1497, .null), (29, .istore_n 2, 1, 0, 0, 0, .null), (30, .aload_n 0, 1, 0, 0, 0, .null), (31, .getfield 22, 3, 10, 3, 1231, .null)]),
  (2, [(34, .iconst 0, 1, 0, 0, 0, .int 0), (35, .bipush 10, 2, 0, 0, 0, .int 10), (37, .iload_n 3, 1, 0, 0, 0, .null), (38, .imul, 1, 0, 0, 0, .null), (39, .iadd, 1, 0, 0, 0, .null), (40, .iconst 1, 1, 0, 0, 0, .int 1), (41, .iadd, 1, 0, 0, 0, .null), (42, .iconst 5, 1, 0, 0, 0, .int 5), (43, .iastore, 1, 0, 0, 0, .null), (44, .iinc 3 1, 3, 0, 0, 0, .int 1), (47, .goto (-43), 3, 4, 0, 0, .null)]),
  (3, [(50, .aload_n 0, 1, 0, 0, 0, .null), (51, .invokevirtual 320, 3, 210, 10000, 1630, .null), (54, .iconst 0, 1, 0, 0, 0, .int 0), (55, .istore_n 3, 1, 0, 0, 0, .null), (56, .iload_n 3, 1, 0, 0, 0, .null), (57, .aload_n 0, 1, 0, 0, 0, .null), (58, .invokevirtual 120, 3, 153, 10100, 1493, .null), (61, .if_icmp .ge 31, 3, 92, 0, 0, .null)]),
  (4, [(64, .iload_n 1, 1, 0, 0, 0, .null), (65, .iload_n 3, 1, 0, 0, 0, .null), (66, .invokestatic 329, 3, 147, 302, 1658, .null), (69, .ifCond .eq 17, 3, 86, 0, 0, .null), (72, .aload_n 0, 1, 0, 0, 0, .null), (73, .getfield 22, 3, 10, 3, 1231, .null), (76, .iconst 0, 1, 0, 0, 0, .int 0), (77, .bipush 10, 2, 0, 0, 0, .int 10), (79, .iload_n 3, 1, 0, 0, 0, .null)]),
  (5, [(80, .imul, 1, 0, 0, 0, .null), (81, .iadd, 1, 0, 0, 0, .null), (82, .iconst 1, 1, 0, 0, 0, .int 1), (83, .iadd, 1, 0, 0, 0, .null), (84, .iload_n 2, 1, 0, 0, 0, .null), (85, .iastore, 1, 0, 0, 0, .null), (86, .iinc 3 1, 3, 0, 0, 0, .int 1), (89, .goto (-33), 3, 56, 0, 0, .null), (92, .aload_n 0, 1, 0, 0, 0, .null), (93, .getfield 310, 3, 10, 32, 1260, .null)]),
  (6, [(96, .lreturn, 1, 0, 0, 0, .null)])]
def uX10_painted : List (Nat × List Nat) := [(4, [0, 1, 2, 3]), (56, [0, 1, 2, 3])]
def qX10_signs : CD := [(0, [(0, .aload_n 0, 1, 0, 0, 0, .null), (1, .iload_n 1, 1, 0, 0, 0, .null), (2, .invokevirtual 359, 3, 226, 10301, 1701, .null), (5, .ifCond .eq 13, 3, 18, 0, 0, .null), (8, .iload 4, 2, 0, 0, 0, .null), (10, .iconst 0, 1, 0, 0, 0, .int 0), (11, .iconst 1, 1, 0, 0, 0, .int 1), (12, .invokestatic 109, 3, 144, 303, 1380, .null), (15, .ifCond .ne 5, 3, 20, 0, 0, .null)]),
  (1, [(18, .iconst (-1), 1, 0, 0, 0, .int (-1)), (19, .ireturn, 1, 0, 0, 0, .null), (20, .aload_n 0, 1, 0, 0, 0, .null), (21, .iload_n 1, 1, 0, 0, 0, .null), (22, .invokevirtual 356, 3, 225, 10101, 1705, .null), (25, .istore 5, 2, 0, 0, 0, .null), (27, .iconst (-1), 1, 0, 0, 0, .int (-1)), (28, .istore 6, 2, 0, 0, 0, .null), (30, .iconst 0, 1, 0, 0, 0, .int 0), (31, .istore 7, 2, 0, 0, 0, .null)]),
  (2, [(33, .iload 7, 2, 0, 0, 0, .null), (35, .ldc_w 362, 3, 0, 0, 1709, .int 65536), (38, .if_icmp .ge 56, 3, 94, 0, 0, .null), (41, .iload 7, 2, 0, 0, 0, .null), (43, .iload 5, 2, 0, 0, 0, .null), (45, .iconst (-1), 1, 0, 0, 0, .int (-1)), (46, .ixor, 1, 0, 0, 0, .null), (47, .iand, 1, 0, 0, 0, .null)]),
  (3, [(48, .ifCond .ne 40, 3, 88, 0, 0, .null), (51, .iload 6, 2, 0, 0, 0, .null), (53, .iconst (-1), 1, 0, 0, 0, .int (-1)), (54, .if_icmp .eq 19, 3, 73, 0, 0, .null), (57, .iload 7, 2, 0, 0, 0, .null), (59, .invokestatic 326, 3, 148, 101, 1655, .null), (62, .iload 6, 2, 0, 0, 0, .null)]),
  (4, [(64, .invokestatic 326, 3, 148, 101, 1655, .null), (67, .if_icmp .lt 6, 3, 73, 0, 0, .null), (70, .goto 18, 3, 88, 0, 0, .null), (73, .aload_n 0, 1, 0, 0, 0, .null), (74, .iload 7, 2, 0, 0, 0, .null), (76, .invokevirtual 363, 3, 227, 10201, 1710, .null), (79, .lload_n 2, 1, 0, 0, 0, .null)]),
  (5, [(80, .lcmp, 1, 0, 0, 0, .null), (81, .ifCond .lt 7, 3, 88, 0, 0, .null), (84, .iload 7, 2, 0, 0, 0, .null), (86, .istore 6, 2, 0, 0, 0, .null), (88, .iinc 7 1, 3, 0, 0, 0, .int 1), (91, .goto (-58), 3, 33, 0, 0, .null), (94, .iload 6, 2, 0, 0, 0, .null)]),
  (6, [(96, .iconst (-1), 1, 0, 0, 0, .int (-1)), (97, .if_icmp .ne 7, 3, 104, 0, 0, .null), (100, .iconst (-1), 1, 0, 0, 0, .int (-1)), (101, .goto 18, 3, 119, 0, 0, .null), (104, .iload 4, 2, 0, 0, 0, .null), (106, .ifCond .ne 11, 3, 117, 0, 0, .null), (109, .iload 6, 2, 0, 0, 0, .null), (111, .invokestatic 326, 3, 148, 101, 1655, .null)]),
  (7, [(114, .goto 5, 3, 119, 0, 0, .null), (117, .iload 6, 2, 0, 0, 0, .null), (119, .ireturn, 1, 0, 0, 0, .null)])]
def uX10_signs : List (Nat × List Nat) := [(33, [0, 2, 4, 5, 6, 7])]
def qX10_signed : CD := [(0, [(0, .aload_n 0, 1, 0, 0, 0, .null), (1, .iload_n 1, 1, 0, 0, 0, .null), (2, .invokevirtual 359, 3, 226, 10301, 1701, .null), (5, .ifCond .ne 7, 3, 12, 0, 0, .null), (8, .ldc2_w 269, 3, 0, 0, 1505, .long (-1000000000000000000)), (11, .lreturn, 1, 0, 0, 0, .null), (12, .aload_n 0, 1, 0, 0, 0, .null), (13, .iload_n 1, 1, 0, 0, 0, .null), (14, .invokevirtual 356, 3, 225, 10101, 1705, .null)]),
  (1, [(17, .istore_n 2, 1, 0, 0, 0, .null), (18, .ldc2_w 269, 3, 0, 0, 1505, .long (-1000000000000000000)), (21, .lstore_n 3, 1, 0, 0, 0, .null), (22, .iconst 0, 1, 0, 0, 0, .int 0), (23, .istore 5, 2, 0, 0, 0, .null), (25, .iload 5, 2, 0, 0, 0, .null), (27, .ldc_w 362, 3, 0, 0, 1709, .int 65536), (30, .if_icmp .ge 43, 3, 73, 0, 0, .null)]),
  (2, [(33, .iload 5, 2, 0, 0, 0, .null), (35, .iload_n 2, 1, 0, 0, 0, .null), (36, .iconst (-1), 1, 0, 0, 0, .int (-1)), (37, .ixor, 1, 0, 0, 0, .null), (38, .iand, 1, 0, 0, 0, .null), (39, .ifCond .eq 6, 3, 45, 0, 0, .null), (42, .goto 25, 3, 67, 0, 0, .null), (45, .aload_n 0, 1, 0, 0, 0, .null), (46, .iload 5, 2, 0, 0, 0, .null)]),
  (3, [(48, .invokevirtual 363, 3, 227, 10201, 1710, .null), (51, .lstore 6, 2, 0, 0, 0, .null), (53, .lload 6, 2, 0, 0, 0, .null), (55, .lload_n 3, 1, 0, 0, 0, .null), (56, .lcmp, 1, 0, 0, 0, .null), (57, .ifCond .le 8, 3, 65, 0, 0, .null), (60, .lload 6, 2, 0, 0, 0, .null), (62, .goto 4, 3, 66, 0, 0, .null)]),
  (4, [(65, .lload_n 3, 1, 0, 0, 0, .null), (66, .lstore_n 3, 1, 0, 0, 0, .null), (67, .iinc 5 1, 3, 0, 0, 0, .int 1), (70, .goto (-45), 3, 25, 0, 0, .null), (73, .lload_n 3, 1, 0, 0, 0, .null), (74, .lreturn, 1, 0, 0, 0, .null)])]
def uX10_signed : List (Nat × List Nat) := [(25, [0, 2, 3, 5])]
def qX10_comes : CD := [(0, [(0, .iload_n 1, 1, 0, 0, 0, .null), (1, .aload_n 0, 1, 0, 0, 0, .null), (2, .invokevirtual 120, 3, 153, 10100, 1493, .null), (5, .if_icmp .ge 21, 3, 26, 0, 0, .null), (8, .aload_n 0, 1, 0, 0, 0, .null), (9, .getfield 91, 3, 10, 39, 1267, .null), (12, .bipush 16, 2, 0, 0, 0, .int 16), (14, .iload_n 2, 1, 0, 0, 0, .null), (15, .imul, 1, 0, 0, 0, .null)]),
  (1, [(16, .iload_n 1, 1, 0, 0, 0, .null), (17, .iadd, 1, 0, 0, 0, .null), (18, .dup2, 1, 0, 0, 0, .null), (19, .laload, 1, 0, 0, 0, .null), (20, .lload_n 3, 1, 0, 0, 0, .null), (21, .ladd, 1, 0, 0, 0, .null), (22, .lastore, 1, 0, 0, 0, .null), (23, .goto 22, 3, 45, 0, 0, .null), (26, .aload_n 0, 1, 0, 0, 0, .null), (27, .getfield 94, 3, 10, 40, 1268, .null), (30, .bipush 17, 2, 0, 0, 0, .int 17)]),
  (2, [(32, .dup2, 1, 0, 0, 0, .null), (33, .laload, 1, 0, 0, 0, .null), (34, .lload_n 3, 1, 0, 0, 0, .null), (35, .bipush 10, 2, 0, 0, 0, .int 10), (37, .iload_n 2, 1, 0, 0, 0, .null), (38, .isub, 1, 0, 0, 0, .null), (39, .invokestatic 280, 3, 149, 201, 1601, .null), (42, .lmul, 1, 0, 0, 0, .null), (43, .ladd, 1, 0, 0, 0, .null), (44, .lastore, 1, 0, 0, 0, .null), (45, .return_, 1, 0, 0, 0, .null)])]
def uX10_comes : List (Nat × List Nat) := []
def qX10_spreads : CD := [(0, [(0, .iconst 0, 1, 0, 0, 0, .int 0), (1, .istore_n 1, 1, 0, 0, 0, .null), (2, .iload_n 1, 1, 0, 0, 0, .null), (3, .sipush 176, 3, 0, 0, 0, .int 176), (6, .if_icmp .ge 16, 3, 22, 0, 0, .null), (9, .aload_n 0, 1, 0, 0, 0, .null), (10, .getfield 91, 3, 10, 39, 1267, .null), (13, .iload_n 1, 1, 0, 0, 0, .null), (14, .lconst 0, 1, 0, 0, 0, .long 0), (15, .lastore, 1, 0, 0, 0, .null)]),
  (1, [(16, .iinc 1 1, 3, 0, 0, 0, .int 1), (19, .goto (-17), 3, 2, 0, 0, .null), (22, .iconst 0, 1, 0, 0, 0, .int 0), (23, .istore_n 1, 1, 0, 0, 0, .null), (24, .iload_n 1, 1, 0, 0, 0, .null), (25, .bipush 18, 2, 0, 0, 0, .int 18), (27, .if_icmp .ge 16, 3, 43, 0, 0, .null), (30, .aload_n 0, 1, 0, 0, 0, .null), (31, .getfield 94, 3, 10, 40, 1268, .null)]),
  (2, [(34, .iload_n 1, 1, 0, 0, 0, .null), (35, .lconst 0, 1, 0, 0, 0, .long 0), (36, .lastore, 1, 0, 0, 0, .null), (37, .iinc 1 1, 3, 0, 0, 0, .int 1), (40, .goto (-16), 3, 24, 0, 0, .null), (43, .aload_n 0, 1, 0, 0, 0, .null), (44, .aload_n 0, 1, 0, 0, 0, .null), (45, .getfield 22, 3, 10, 3, 1231, .null)]),
  (3, [(48, .sipush 178, 3, 0, 0, 0, .int 178), (51, .iaload, 1, 0, 0, 0, .null), (52, .iconst 0, 1, 0, 0, 0, .int 0), (53, .lconst 1, 1, 0, 0, 0, .long 1), (54, .invokevirtual 366, 3, 230, 10003, 1726, .null), (57, .iconst 0, 1, 0, 0, 0, .int 0), (58, .istore_n 1, 1, 0, 0, 0, .null), (59, .iload_n 1, 1, 0, 0, 0, .null), (60, .aload_n 0, 1, 0, 0, 0, .null), (61, .invokevirtual 259, 3, 154, 10100, 1514, .null)]),
  (4, [(64, .if_icmp .gt 120, 3, 184, 0, 0, .null), (67, .iconst 0, 1, 0, 0, 0, .int 0), (68, .istore_n 2, 1, 0, 0, 0, .null), (69, .iload_n 2, 1, 0, 0, 0, .null), (70, .aload_n 0, 1, 0, 0, 0, .null), (71, .invokevirtual 120, 3, 153, 10100, 1493, .null), (74, .if_icmp .ge 104, 3, 178, 0, 0, .null), (77, .aload_n 0, 1, 0, 0, 0, .null), (78, .getfield 91, 3, 10, 39, 1267, .null)]),
  (5, [(81, .bipush 16, 2, 0, 0, 0, .int 16), (83, .iload_n 1, 1, 0, 0, 0, .null), (84, .imul, 1, 0, 0, 0, .null), (85, .iload_n 2, 1, 0, 0, 0, .null), (86, .iadd, 1, 0, 0, 0, .null), (87, .laload, 1, 0, 0, 0, .null), (88, .lstore_n 3, 1, 0, 0, 0, .null), (89, .lload_n 3, 1, 0, 0, 0, .null), (90, .lconst 0, 1, 0, 0, 0, .long 0), (91, .lcmp, 1, 0, 0, 0, .null), (92, .ifCond .ne 6, 3, 98, 0, 0, .null), (95, .goto 77, 3, 172, 0, 0, .null)]),
  (6, [(98, .aload_n 0, 1, 0, 0, 0, .null), (99, .iload_n 2, 1, 0, 0, 0, .null), (100, .iconst 0, 1, 0, 0, 0, .int 0), (101, .invokevirtual 128, 3, 156, 10102, 1497, .null), (104, .istore 5, 2, 0, 0, 0, .null), (106, .iload 5, 2, 0, 0, 0, .null), (108, .iconst 3, 1, 0, 0, 0, .int 3), (109, .if_icmp .ne 24, 3, 133, 0, 0, .null)]),
  (7, [(112, .aload_n 0, 1, 0, 0, 0, .null), (113, .getfield 94, 3, 10, 40, 1268, .null), (116, .iload_n 2, 1, 0, 0, 0, .null), (117, .dup2, 1, 0, 0, 0, .null), (118, .laload, 1, 0, 0, 0, .null), (119, .lload_n 3, 1, 0, 0, 0, .null), (120, .bipush 10, 2, 0, 0, 0, .int 10), (122, .iload_n 1, 1, 0, 0, 0, .null), (123, .isub, 1, 0, 0, 0, .null), (124, .invokestatic 280, 3, 149, 201, 1601, .null), (127, .lmul, 1, 0, 0, 0, .null)]),
  (8, [(128, .ladd, 1, 0, 0, 0, .null), (129, .lastore, 1, 0, 0, 0, .null), (130, .goto 42, 3, 172, 0, 0, .null), (133, .iload_n 1, 1, 0, 0, 0, .null), (134, .aload_n 0, 1, 0, 0, 0, .null), (135, .invokevirtual 259, 3, 154, 10100, 1514, .null), (138, .if_icmp .ne 25, 3, 163, 0, 0, .null), (141, .aload_n 0, 1, 0, 0, 0, .null), (142, .getfield 94, 3, 10, 40, 1268, .null)]),
  (9, [(145, .bipush 16, 2, 0, 0, 0, .int 16), (147, .dup2, 1, 0, 0, 0, .null), (148, .laload, 1, 0, 0, 0, .null), (149, .lload_n 3, 1, 0, 0, 0, .null), (150, .bipush 10, 2, 0, 0, 0, .int 10), (152, .iload_n 1, 1, 0, 0, 0, .null), (153, .isub, 1, 0, 0, 0, .null), (154, .invokestatic 280, 3, 149, 201, 1601, .null), (157, .lmul, 1, 0, 0, 0, .null), (158, .ladd, 1, 0, 0, 0, .null), (159, .lastore, 1, 0, 0, 0, .null)]),
  (10, [(160, .goto 12, 3, 172, 0, 0, .null), (163, .aload_n 0, 1, 0, 0, 0, .null), (164, .iload_n 2, 1, 0, 0, 0, .null), (165, .iload 5, 2, 0, 0, 0, .null), (167, .iload_n 1, 1, 0, 0, 0, .null), (168, .lload_n 3, 1, 0, 0, 0, .null), (169, .invokevirtual 370, 3, 234, 10004, 1730, .null), (172, .iinc 2 1, 3, 0, 0, 0, .int 1), (175, .goto (-106), 3, 69, 0, 0, .null)]),
  (11, [(178, .iinc 1 1, 3, 0, 0, 0, .int 1), (181, .goto (-122), 3, 59, 0, 0, .null), (184, .return_, 1, 0, 0, 0, .null)])]
def uX10_spreads : List (Nat × List Nat) := [(2, [0, 1]), (24, [0, 1]), (59, [0, 1]), (69, [0, 1, 2])]
def qX10_tenthsOf : CD := [(0, [(0, .aload_n 0, 1, 0, 0, 0, .null), (1, .iload_n 1, 1, 0, 0, 0, .null), (2, .iconst 0, 1, 0, 0, 0, .int 0), (3, .invokevirtual 128, 3, 156, 10102, 1497, .null), (6, .iconst 2, 1, 0, 0, 0, .int 2), (7, .if_icmp .ne 16, 3, 23, 0, 0, .null), (10, .iload_n 2, 1, 0, 0, 0, .null), (11, .ifCond .ne 8, 3, 19, 0, 0, .null), (14, .bipush 10, 2, 0, 0, 0, .int 10)]),
  (1, [(16, .goto 48, 3, 64, 0, 0, .null), (19, .iconst 0, 1, 0, 0, 0, .int 0), (20, .goto 44, 3, 64, 0, 0, .null), (23, .aload_n 0, 1, 0, 0, 0, .null), (24, .iload_n 1, 1, 0, 0, 0, .null), (25, .iconst 0, 1, 0, 0, 0, .int 0), (26, .invokevirtual 128, 3, 156, 10102, 1497, .null), (29, .iconst 1, 1, 0, 0, 0, .int 1), (30, .if_icmp .ne 15, 3, 45, 0, 0, .null)]),
  (2, [(33, .aload_n 0, 1, 0, 0, 0, .null), (34, .iload_n 1, 1, 0, 0, 0, .null), (35, .bipush 6, 2, 0, 0, 0, .int 6), (37, .iload_n 2, 1, 0, 0, 0, .null), (38, .iadd, 1, 0, 0, 0, .null), (39, .invokevirtual 128, 3, 156, 10102, 1497, .null), (42, .goto 22, 3, 64, 0, 0, .null), (45, .aload_n 0, 1, 0, 0, 0, .null), (46, .getfield 22, 3, 10, 3, 1231, .null)]),
  (3, [(49, .sipush 160, 3, 0, 0, 0, .int 160), (52, .iconst 3, 1, 0, 0, 0, .int 3), (53, .aload_n 0, 1, 0, 0, 0, .null), (54, .iload_n 1, 1, 0, 0, 0, .null), (55, .iconst 1, 1, 0, 0, 0, .int 1), (56, .invokevirtual 128, 3, 156, 10102, 1497, .null), (59, .imul, 1, 0, 0, 0, .null), (60, .iadd, 1, 0, 0, 0, .null), (61, .iload_n 2, 1, 0, 0, 0, .null), (62, .iadd, 1, 0, 0, 0, .null), (63, .iaload, 1, 0, 0, 0, .null)]),
  (4, [(64, .ireturn, 1, 0, 0, 0, .null)])]
def uX10_tenthsOf : List (Nat × List Nat) := []
def qX10_roadOf : CD := [(0, [(0, .aload_n 0, 1, 0, 0, 0, .null), (1, .iload_n 1, 1, 0, 0, 0, .null), (2, .iconst 3, 1, 0, 0, 0, .int 3), (3, .iload_n 2, 1, 0, 0, 0, .null), (4, .aload_n 0, 1, 0, 0, 0, .null), (5, .iload_n 1, 1, 0, 0, 0, .null), (6, .iconst 2, 1, 0, 0, 0, .int 2), (7, .invokevirtual 128, 3, 156, 10102, 1497, .null), (10, .if_icmp .ge 7, 3, 17, 0, 0, .null), (13, .iload_n 2, 1, 0, 0, 0, .null), (14, .goto 11, 3, 25, 0, 0, .null)]),
  (1, [(17, .aload_n 0, 1, 0, 0, 0, .null), (18, .iload_n 1, 1, 0, 0, 0, .null), (19, .iconst 2, 1, 0, 0, 0, .int 2), (20, .invokevirtual 128, 3, 156, 10102, 1497, .null), (23, .iconst 1, 1, 0, 0, 0, .int 1), (24, .isub, 1, 0, 0, 0, .null), (25, .iadd, 1, 0, 0, 0, .null), (26, .invokevirtual 128, 3, 156, 10102, 1497, .null), (29, .ireturn, 1, 0, 0, 0, .null)])]
def uX10_roadOf : List (Nat × List Nat) := []
def qX10_goesOn : CD := [(0, [(0, .iconst 0, 1, 0, 0, 0, .int 0), (1, .istore 6, 2, 0, 0, 0, .null), (3, .iload 6, 2, 0, 0, 0, .null), (5, .iload_n 2, 1, 0, 0, 0, .null), (6, .ifCond .ne 7, 3, 13, 0, 0, .null), (9, .iconst 3, 1, 0, 0, 0, .int 3), (10, .goto 9, 3, 19, 0, 0, .null), (13, .aload_n 0, 1, 0, 0, 0, .null), (14, .iload_n 1, 1, 0, 0, 0, .null), (15, .iconst 2, 1, 0, 0, 0, .int 2)]),
  (1, [(16, .invokevirtual 128, 3, 156, 10102, 1497, .null), (19, .if_icmp .ge 44, 3, 63, 0, 0, .null), (22, .aload_n 0, 1, 0, 0, 0, .null), (23, .iload_n 1, 1, 0, 0, 0, .null), (24, .iload 6, 2, 0, 0, 0, .null), (26, .invokevirtual 374, 3, 232, 10102, 1734, .null), (29, .ifCond .le 28, 3, 57, 0, 0, .null)]),
  (2, [(32, .aload_n 0, 1, 0, 0, 0, .null), (33, .aload_n 0, 1, 0, 0, 0, .null), (34, .iload_n 1, 1, 0, 0, 0, .null), (35, .iload 6, 2, 0, 0, 0, .null), (37, .invokevirtual 377, 3, 233, 10102, 1738, .null), (40, .iload_n 3, 1, 0, 0, 0, .null), (41, .iconst 1, 1, 0, 0, 0, .int 1), (42, .iadd, 1, 0, 0, 0, .null), (43, .lload 4, 2, 0, 0, 0, .null), (45, .aload_n 0, 1, 0, 0, 0, .null), (46, .iload_n 1, 1, 0, 0, 0, .null), (47, .iload 6, 2, 0, 0, 0, .null)]),
  (3, [(49, .invokevirtual 374, 3, 232, 10102, 1734, .null), (52, .i2l, 1, 0, 0, 0, .null), (53, .lmul, 1, 0, 0, 0, .null), (54, .invokevirtual 366, 3, 230, 10003, 1726, .null), (57, .iinc 6 1, 3, 0, 0, 0, .int 1), (60, .goto (-57), 3, 3, 0, 0, .null), (63, .return_, 1, 0, 0, 0, .null)])]
def uX10_goesOn : List (Nat × List Nat) := [(3, [0, 1, 2, 3, 4, 6])]
def qX10_visitsOf : CD := [(0, [(0, .lconst 0, 1, 0, 0, 0, .long 0), (1, .lstore_n 2, 1, 0, 0, 0, .null), (2, .iconst 0, 1, 0, 0, 0, .int 0), (3, .istore 4, 2, 0, 0, 0, .null), (5, .iload 4, 2, 0, 0, 0, .null), (7, .aload_n 0, 1, 0, 0, 0, .null), (8, .invokevirtual 259, 3, 154, 10100, 1514, .null), (11, .if_icmp .gt 33, 3, 44, 0, 0, .null), (14, .lload_n 2, 1, 0, 0, 0, .null), (15, .aload_n 0, 1, 0, 0, 0, .null)]),
  (1, [(16, .getfield 91, 3, 10, 39, 1267, .null), (19, .bipush 16, 2, 0, 0, 0, .int 16), (21, .iload 4, 2, 0, 0, 0, .null), (23, .imul, 1, 0, 0, 0, .null), (24, .iload_n 1, 1, 0, 0, 0, .null), (25, .iadd, 1, 0, 0, 0, .null), (26, .laload, 1, 0, 0, 0, .null), (27, .bipush 10, 2, 0, 0, 0, .int 10), (29, .iload 4, 2, 0, 0, 0, .null), (31, .isub, 1, 0, 0, 0, .null)]),
  (2, [(32, .invokestatic 280, 3, 149, 201, 1601, .null), (35, .lmul, 1, 0, 0, 0, .null), (36, .ladd, 1, 0, 0, 0, .null), (37, .lstore_n 2, 1, 0, 0, 0, .null), (38, .iinc 4 1, 3, 0, 0, 0, .int 1), (41, .goto (-36), 3, 5, 0, 0, .null), (44, .lload_n 2, 1, 0, 0, 0, .null), (45, .lreturn, 1, 0, 0, 0, .null)])]
def uX10_visitsOf : List (Nat × List Nat) := [(5, [0, 1, 2, 4])]
def qX10_visits : CD := [(0, [(0, .aload_n 0, 1, 0, 0, 0, .null), (1, .iload_n 1, 1, 0, 0, 0, .null), (2, .invokevirtual 124, 3, 155, 10301, 1489, .null), (5, .ifCond .ne 7, 3, 12, 0, 0, .null), (8, .ldc2_w 269, 3, 0, 0, 1505, .long (-1000000000000000000)), (11, .lreturn, 1, 0, 0, 0, .null), (12, .aload_n 0, 1, 0, 0, 0, .null), (13, .invokevirtual 380, 3, 231, 10000, 1722, .null)]),
  (1, [(16, .aload_n 0, 1, 0, 0, 0, .null), (17, .iload_n 1, 1, 0, 0, 0, .null), (18, .invokevirtual 383, 3, 235, 10201, 1742, .null), (21, .lreturn, 1, 0, 0, 0, .null)])]
def uX10_visits : List (Nat × List Nat) := []
def qX10_ends : CD := [(0, [(0, .aload_n 0, 1, 0, 0, 0, .null), (1, .invokevirtual 120, 3, 153, 10100, 1493, .null), (4, .ifCond .eq 37, 3, 41, 0, 0, .null), (7, .iload_n 1, 1, 0, 0, 0, .null), (8, .iconst 0, 1, 0, 0, 0, .int 0), (9, .bipush 17, 2, 0, 0, 0, .int 17), (11, .invokestatic 109, 3, 144, 303, 1380, .null), (14, .ifCond .eq 27, 3, 41, 0, 0, .null)]),
  (1, [(17, .iload_n 1, 1, 0, 0, 0, .null), (18, .bipush 16, 2, 0, 0, 0, .int 16), (20, .if_icmp .ge 25, 3, 45, 0, 0, .null), (23, .aload_n 0, 1, 0, 0, 0, .null), (24, .iload_n 1, 1, 0, 0, 0, .null), (25, .invokevirtual 124, 3, 155, 10301, 1489, .null), (28, .ifCond .eq 13, 3, 41, 0, 0, .null), (31, .aload_n 0, 1, 0, 0, 0, .null)]),
  (2, [(32, .iload_n 1, 1, 0, 0, 0, .null), (33, .iconst 0, 1, 0, 0, 0, .int 0), (34, .invokevirtual 128, 3, 156, 10102, 1497, .null), (37, .iconst 3, 1, 0, 0, 0, .int 3), (38, .if_icmp .eq 7, 3, 45, 0, 0, .null), (41, .ldc2_w 269, 3, 0, 0, 1505, .long (-1000000000000000000)), (44, .lreturn, 1, 0, 0, 0, .null), (45, .aload_n 0, 1, 0, 0, 0, .null), (46, .invokevirtual 380, 3, 231, 10000, 1722, .null)]),
  (3, [(49, .aload_n 0, 1, 0, 0, 0, .null), (50, .getfield 94, 3, 10, 40, 1268, .null), (53, .iload_n 1, 1, 0, 0, 0, .null), (54, .laload, 1, 0, 0, 0, .null), (55, .lreturn, 1, 0, 0, 0, .null)])]
def uX10_ends : List (Nat × List Nat) := []
def qX10_visitsOfLook : CD := [(0, [(0, .lconst 0, 1, 0, 0, 0, .long 0), (1, .lstore_n 2, 1, 0, 0, 0, .null), (2, .iconst 0, 1, 0, 0, 0, .int 0), (3, .istore 4, 2, 0, 0, 0, .null), (5, .iload 4, 2, 0, 0, 0, .null), (7, .aload_n 0, 1, 0, 0, 0, .null), (8, .invokevirtual 120, 3, 153, 10100, 1493, .null), (11, .if_icmp .ge 42, 3, 53, 0, 0, .null), (14, .lload_n 2, 1, 0, 0, 0, .null), (15, .aload_n 0, 1, 0, 0, 0, .null)]),
  (1, [(16, .iload 4, 2, 0, 0, 0, .null), (18, .invokevirtual 277, 3, 157, 10301, 1569, .null), (21, .ifCond .eq 23, 3, 44, 0, 0, .null), (24, .aload_n 0, 1, 0, 0, 0, .null), (25, .iload 4, 2, 0, 0, 0, .null), (27, .iconst 1, 1, 0, 0, 0, .int 1), (28, .invokevirtual 128, 3, 156, 10102, 1497, .null), (31, .iload_n 1, 1, 0, 0, 0, .null)]),
  (2, [(32, .if_icmp .ne 12, 3, 44, 0, 0, .null), (35, .aload_n 0, 1, 0, 0, 0, .null), (36, .iload 4, 2, 0, 0, 0, .null), (38, .invokevirtual 383, 3, 235, 10201, 1742, .null), (41, .goto 4, 3, 45, 0, 0, .null), (44, .lconst 0, 1, 0, 0, 0, .long 0), (45, .ladd, 1, 0, 0, 0, .null), (46, .lstore_n 2, 1, 0, 0, 0, .null), (47, .iinc 4 1, 3, 0, 0, 0, .int 1)]),
  (3, [(50, .goto (-45), 3, 5, 0, 0, .null), (53, .lload_n 2, 1, 0, 0, 0, .null), (54, .lreturn, 1, 0, 0, 0, .null)])]
def uX10_visitsOfLook : List (Nat × List Nat) := [(5, [0, 1, 2, 4])]
def qX10_millionths : CD := [(0, [(0, .lload_n 0, 1, 0, 0, 0, .null), (1, .lload_n 2, 1, 0, 0, 0, .null), (2, .ldiv, 1, 0, 0, 0, .null), (3, .lstore 4, 2, 0, 0, 0, .null), (5, .lload_n 0, 1, 0, 0, 0, .null), (6, .lload_n 2, 1, 0, 0, 0, .null), (7, .lrem, 1, 0, 0, 0, .null), (8, .lstore 6, 2, 0, 0, 0, .null), (10, .iconst 0, 1, 0, 0, 0, .int 0), (11, .istore 8, 2, 0, 0, 0, .null), (13, .iload 8, 2, 0, 0, 0, .null), (15, .bipush 6, 2, 0, 0, 0, .int 6)]),
  (1, [(17, .if_icmp .ge 72, 3, 89, 0, 0, .null), (20, .lconst 0, 1, 0, 0, 0, .long 0), (21, .lstore 9, 2, 0, 0, 0, .null), (23, .lconst 0, 1, 0, 0, 0, .long 0), (24, .lstore 11, 2, 0, 0, 0, .null), (26, .iconst 0, 1, 0, 0, 0, .int 0), (27, .istore 13, 2, 0, 0, 0, .null), (29, .iload 13, 2, 0, 0, 0, .null), (31, .bipush 10, 2, 0, 0, 0, .int 10)]),
  (2, [(33, .if_icmp .ge 35, 3, 68, 0, 0, .null), (36, .lload 11, 2, 0, 0, 0, .null), (38, .lload 6, 2, 0, 0, 0, .null), (40, .ladd, 1, 0, 0, 0, .null), (41, .lstore 11, 2, 0, 0, 0, .null), (43, .lload 11, 2, 0, 0, 0, .null), (45, .lload_n 2, 1, 0, 0, 0, .null), (46, .lcmp, 1, 0, 0, 0, .null), (47, .ifCond .lt 15, 3, 62, 0, 0, .null)]),
  (3, [(50, .lload 11, 2, 0, 0, 0, .null), (52, .lload_n 2, 1, 0, 0, 0, .null), (53, .lsub, 1, 0, 0, 0, .null), (54, .lstore 11, 2, 0, 0, 0, .null), (56, .lload 9, 2, 0, 0, 0, .null), (58, .lconst 1, 1, 0, 0, 0, .long 1), (59, .ladd, 1, 0, 0, 0, .null), (60, .lstore 9, 2, 0, 0, 0, .null), (62, .iinc 13 1, 3, 0, 0, 0, .int 1)]),
  (4, [(65, .goto (-36), 3, 29, 0, 0, .null), (68, .lload 4, 2, 0, 0, 0, .null), (70, .ldc2_w 14, 3, 0, 0, 1604, .long 10), (73, .lmul, 1, 0, 0, 0, .null), (74, .lload 9, 2, 0, 0, 0, .null), (76, .ladd, 1, 0, 0, 0, .null), (77, .lstore 4, 2, 0, 0, 0, .null), (79, .lload 11, 2, 0, 0, 0, .null)]),
  (5, [(81, .lstore 6, 2, 0, 0, 0, .null), (83, .iinc 8 1, 3, 0, 0, 0, .int 1), (86, .goto (-73), 3, 13, 0, 0, .null), (89, .lload 4, 2, 0, 0, 0, .null), (91, .l2i, 1, 0, 0, 0, .null), (92, .ireturn, 1, 0, 0, 0, .null)])]
def uX10_millionths : List (Nat × List Nat) := [(13, [2, 4, 6, 8]), (29, [2, 4, 6, 8, 9, 11, 13])]
def qX10_at : CD := [(0, [(0, .iload_n 1, 1, 0, 0, 0, .null), (1, .bipush 12, 2, 0, 0, 0, .int 12), (3, .imul, 1, 0, 0, 0, .null), (4, .iload_n 2, 1, 0, 0, 0, .null), (5, .iadd, 1, 0, 0, 0, .null), (6, .bipush 12, 2, 0, 0, 0, .int 12), (8, .imul, 1, 0, 0, 0, .null), (9, .iload_n 3, 1, 0, 0, 0, .null), (10, .iadd, 1, 0, 0, 0, .null), (11, .ireturn, 1, 0, 0, 0, .null)])]
def uX10_at : List (Nat × List Nat) := []
def qX10_over : CD := [(0, [(0, .iload_n 2, 1, 0, 0, 0, .null), (1, .ifCond .ne 4, 3, 5, 0, 0, .null), (4, .return_, 1, 0, 0, 0, .null), (5, .aload_n 0, 1, 0, 0, 0, .null), (6, .dup, 1, 0, 0, 0, .null), (7, .getfield 386, 3, 10, 44, 1272, .null), (10, .lload_n 3, 1, 0, 0, 0, .null), (11, .ladd, 1, 0, 0, 0, .null), (12, .putfield 386, 3, 10, 44, 1272, .null), (15, .aload_n 0, 1, 0, 0, 0, .null)]),
  (1, [(16, .dup, 1, 0, 0, 0, .null), (17, .getfield 389, 3, 10, 43, 1271, .null), (20, .lload_n 3, 1, 0, 0, 0, .null), (21, .sipush 27720, 3, 0, 0, 0, .int 27720), (24, .iload_n 2, 1, 0, 0, 0, .null), (25, .idiv, 1, 0, 0, 0, .null), (26, .iload_n 1, 1, 0, 0, 0, .null), (27, .imul, 1, 0, 0, 0, .null), (28, .i2l, 1, 0, 0, 0, .null), (29, .lmul, 1, 0, 0, 0, .null), (30, .ladd, 1, 0, 0, 0, .null), (31, .putfield 389, 3, 10, 43, 1271, .null)]),
  (2, [(34, .return_, 1, 0, 0, 0, .null)])]
def uX10_over : List (Nat × List Nat) := []
def qX10_comesSeeing : CD := [(0, [(0, .iload_n 1, 1, 0, 0, 0, .null), (1, .aload_n 0, 1, 0, 0, 0, .null), (2, .invokevirtual 120, 3, 153, 10100, 1493, .null), (5, .if_icmp .lt 22, 3, 27, 0, 0, .null), (8, .aload_n 0, 1, 0, 0, 0, .null), (9, .iload 4, 2, 0, 0, 0, .null), (11, .iload 5, 2, 0, 0, 0, .null), (13, .lload 6, 2, 0, 0, 0, .null), (15, .bipush 10, 2, 0, 0, 0, .int 10)]),
  (1, [(17, .iload_n 3, 1, 0, 0, 0, .null), (18, .isub, 1, 0, 0, 0, .null), (19, .invokestatic 280, 3, 149, 201, 1601, .null), (22, .lmul, 1, 0, 0, 0, .null), (23, .invokevirtual 392, 3, 241, 10003, 1762, .null), (26, .return_, 1, 0, 0, 0, .null), (27, .aload_n 0, 1, 0, 0, 0, .null), (28, .iload_n 1, 1, 0, 0, 0, .null), (29, .invokevirtual 277, 3, 157, 10301, 1569, .null)]),
  (2, [(32, .ifCond .eq 22, 3, 54, 0, 0, .null), (35, .aload_n 0, 1, 0, 0, 0, .null), (36, .iload_n 1, 1, 0, 0, 0, .null), (37, .iconst 1, 1, 0, 0, 0, .int 1), (38, .invokevirtual 128, 3, 156, 10102, 1497, .null), (41, .aload_n 0, 1, 0, 0, 0, .null), (42, .iload_n 2, 1, 0, 0, 0, .null), (43, .iconst 1, 1, 0, 0, 0, .int 1), (44, .invokevirtual 128, 3, 156, 10102, 1497, .null), (47, .if_icmp .ne 7, 3, 54, 0, 0, .null)]),
  (3, [(50, .iconst 1, 1, 0, 0, 0, .int 1), (51, .goto 4, 3, 55, 0, 0, .null), (54, .iconst 0, 1, 0, 0, 0, .int 0), (55, .istore 8, 2, 0, 0, 0, .null), (57, .aload_n 0, 1, 0, 0, 0, .null), (58, .getfield 100, 3, 10, 42, 1270, .null), (61, .aload_n 0, 1, 0, 0, 0, .null), (62, .iload_n 1, 1, 0, 0, 0, .null), (63, .iload 4, 2, 0, 0, 0, .null)]),
  (4, [(65, .iload_n 1, 1, 0, 0, 0, .null), (66, .iload_n 2, 1, 0, 0, 0, .null), (67, .if_icmp .ne 7, 3, 74, 0, 0, .null), (70, .iconst 1, 1, 0, 0, 0, .int 1), (71, .goto 4, 3, 75, 0, 0, .null), (74, .iconst 0, 1, 0, 0, 0, .int 0), (75, .iadd, 1, 0, 0, 0, .null), (76, .iload 5, 2, 0, 0, 0, .null), (78, .iload 8, 2, 0, 0, 0, .null)]),
  (5, [(80, .ifCond .eq 7, 3, 87, 0, 0, .null), (83, .iconst 1, 1, 0, 0, 0, .int 1), (84, .goto 4, 3, 88, 0, 0, .null), (87, .iconst 0, 1, 0, 0, 0, .int 0), (88, .iadd, 1, 0, 0, 0, .null), (89, .invokevirtual 395, 3, 240, 10103, 1766, .null), (92, .dup2, 1, 0, 0, 0, .null), (93, .laload, 1, 0, 0, 0, .null), (94, .lload 6, 2, 0, 0, 0, .null)]),
  (6, [(96, .ladd, 1, 0, 0, 0, .null), (97, .lastore, 1, 0, 0, 0, .null), (98, .return_, 1, 0, 0, 0, .null)])]
def uX10_comesSeeing : List (Nat × List Nat) := [(57, [0, 1, 2, 4, 5, 6, 8])]
def qX10_second : CD := [(0, [(0, .aload_n 0, 1, 0, 0, 0, .null), (1, .lconst 0, 1, 0, 0, 0, .long 0), (2, .putfield 389, 3, 10, 43, 1271, .null), (5, .aload_n 0, 1, 0, 0, 0, .null), (6, .lconst 0, 1, 0, 0, 0, .long 0), (7, .putfield 386, 3, 10, 44, 1272, .null), (10, .iconst 0, 1, 0, 0, 0, .int 0), (11, .istore_n 2, 1, 0, 0, 0, .null), (12, .iload_n 2, 1, 0, 0, 0, .null), (13, .sipush 2304, 3, 0, 0, 0, .int 2304)]),
  (1, [(16, .if_icmp .ge 16, 3, 32, 0, 0, .null), (19, .aload_n 0, 1, 0, 0, 0, .null), (20, .getfield 100, 3, 10, 42, 1270, .null), (23, .iload_n 2, 1, 0, 0, 0, .null), (24, .lconst 0, 1, 0, 0, 0, .long 0), (25, .lastore, 1, 0, 0, 0, .null), (26, .iinc 2 1, 3, 0, 0, 0, .int 1), (29, .goto (-17), 3, 12, 0, 0, .null)]),
  (2, [(32, .aload_n 0, 1, 0, 0, 0, .null), (33, .aload_n 0, 1, 0, 0, 0, .null), (34, .getfield 22, 3, 10, 3, 1231, .null), (37, .sipush 178, 3, 0, 0, 0, .int 178), (40, .iaload, 1, 0, 0, 0, .null), (41, .iload_n 1, 1, 0, 0, 0, .null), (42, .iconst 0, 1, 0, 0, 0, .int 0), (43, .iconst 0, 1, 0, 0, 0, .int 0), (44, .iconst 0, 1, 0, 0, 0, .int 0), (45, .lconst 1, 1, 0, 0, 0, .long 1), (46, .invokevirtual 399, 3, 242, 10006, 1758, .null)]),
  (3, [(49, .iconst 0, 1, 0, 0, 0, .int 0), (50, .istore_n 2, 1, 0, 0, 0, .null), (51, .iload_n 2, 1, 0, 0, 0, .null), (52, .aload_n 0, 1, 0, 0, 0, .null), (53, .invokevirtual 259, 3, 154, 10100, 1514, .null), (56, .if_icmp .gt 230, 3, 286, 0, 0, .null), (59, .iconst 0, 1, 0, 0, 0, .int 0), (60, .istore_n 3, 1, 0, 0, 0, .null), (61, .iload_n 3, 1, 0, 0, 0, .null), (62, .sipush 2304, 3, 0, 0, 0, .int 2304)]),
  (4, [(65, .if_icmp .ge 28, 3, 93, 0, 0, .null), (68, .aload_n 0, 1, 0, 0, 0, .null), (69, .getfield 97, 3, 10, 41, 1269, .null), (72, .iload_n 3, 1, 0, 0, 0, .null), (73, .aload_n 0, 1, 0, 0, 0, .null), (74, .getfield 100, 3, 10, 42, 1270, .null), (77, .iload_n 3, 1, 0, 0, 0, .null), (78, .laload, 1, 0, 0, 0, .null), (79, .lastore, 1, 0, 0, 0, .null)]),
  (5, [(80, .aload_n 0, 1, 0, 0, 0, .null), (81, .getfield 100, 3, 10, 42, 1270, .null), (84, .iload_n 3, 1, 0, 0, 0, .null), (85, .lconst 0, 1, 0, 0, 0, .long 0), (86, .lastore, 1, 0, 0, 0, .null), (87, .iinc 3 1, 3, 0, 0, 0, .int 1), (90, .goto (-29), 3, 61, 0, 0, .null), (93, .iconst 0, 1, 0, 0, 0, .int 0), (94, .istore_n 3, 1, 0, 0, 0, .null), (95, .iload_n 3, 1, 0, 0, 0, .null)]),
  (6, [(96, .aload_n 0, 1, 0, 0, 0, .null), (97, .invokevirtual 120, 3, 153, 10100, 1493, .null), (100, .if_icmp .ge 180, 3, 280, 0, 0, .null), (103, .iconst 0, 1, 0, 0, 0, .int 0), (104, .istore 4, 2, 0, 0, 0, .null), (106, .iload 4, 2, 0, 0, 0, .null), (108, .bipush 12, 2, 0, 0, 0, .int 12), (110, .if_icmp .ge 164, 3, 274, 0, 0, .null)]),
  (7, [(113, .iload 4, 2, 0, 0, 0, .null), (115, .istore 5, 2, 0, 0, 0, .null), (117, .iload 5, 2, 0, 0, 0, .null), (119, .bipush 12, 2, 0, 0, 0, .int 12), (121, .if_icmp .ge 147, 3, 268, 0, 0, .null), (124, .aload_n 0, 1, 0, 0, 0, .null), (125, .getfield 97, 3, 10, 41, 1269, .null)]),
  (8, [(128, .aload_n 0, 1, 0, 0, 0, .null), (129, .iload_n 3, 1, 0, 0, 0, .null), (130, .iload 4, 2, 0, 0, 0, .null), (132, .iload 5, 2, 0, 0, 0, .null), (134, .invokevirtual 395, 3, 240, 10103, 1766, .null), (137, .laload, 1, 0, 0, 0, .null), (138, .lstore 6, 2, 0, 0, 0, .null), (140, .lload 6, 2, 0, 0, 0, .null), (142, .lconst 0, 1, 0, 0, 0, .long 0), (143, .lcmp, 1, 0, 0, 0, .null)]),
  (9, [(144, .ifCond .ne 6, 3, 150, 0, 0, .null), (147, .goto 115, 3, 262, 0, 0, .null), (150, .aload_n 0, 1, 0, 0, 0, .null), (151, .iload_n 3, 1, 0, 0, 0, .null), (152, .iconst 0, 1, 0, 0, 0, .int 0), (153, .invokevirtual 128, 3, 156, 10102, 1497, .null), (156, .istore 8, 2, 0, 0, 0, .null), (158, .iload 8, 2, 0, 0, 0, .null)]),
  (10, [(160, .iconst 3, 1, 0, 0, 0, .int 3), (161, .if_icmp .eq 11, 3, 172, 0, 0, .null), (164, .iload_n 2, 1, 0, 0, 0, .null), (165, .aload_n 0, 1, 0, 0, 0, .null), (166, .invokevirtual 259, 3, 154, 10100, 1514, .null), (169, .if_icmp .ne 24, 3, 193, 0, 0, .null), (172, .aload_n 0, 1, 0, 0, 0, .null), (173, .iload 4, 2, 0, 0, 0, .null), (175, .iload 5, 2, 0, 0, 0, .null)]),
  (11, [(177, .lload 6, 2, 0, 0, 0, .null), (179, .bipush 10, 2, 0, 0, 0, .int 10), (181, .iload_n 2, 1, 0, 0, 0, .null), (182, .isub, 1, 0, 0, 0, .null), (183, .invokestatic 280, 3, 149, 201, 1601, .null), (186, .lmul, 1, 0, 0, 0, .null), (187, .invokevirtual 392, 3, 241, 10003, 1762, .null), (190, .goto 72, 3, 262, 0, 0, .null)]),
  (12, [(193, .iconst 0, 1, 0, 0, 0, .int 0), (194, .istore 9, 2, 0, 0, 0, .null), (196, .iload 9, 2, 0, 0, 0, .null), (198, .iload 8, 2, 0, 0, 0, .null), (200, .ifCond .ne 7, 3, 207, 0, 0, .null), (203, .iconst 3, 1, 0, 0, 0, .int 3), (204, .goto 9, 3, 213, 0, 0, .null), (207, .aload_n 0, 1, 0, 0, 0, .null)]),
  (13, [(208, .iload_n 3, 1, 0, 0, 0, .null), (209, .iconst 2, 1, 0, 0, 0, .int 2), (210, .invokevirtual 128, 3, 156, 10102, 1497, .null), (213, .if_icmp .ge 49, 3, 262, 0, 0, .null), (216, .aload_n 0, 1, 0, 0, 0, .null), (217, .iload_n 3, 1, 0, 0, 0, .null), (218, .iload 9, 2, 0, 0, 0, .null), (220, .invokevirtual 374, 3, 232, 10102, 1734, .null), (223, .ifCond .le 33, 3, 256, 0, 0, .null)]),
  (14, [(226, .aload_n 0, 1, 0, 0, 0, .null), (227, .aload_n 0, 1, 0, 0, 0, .null), (228, .iload_n 3, 1, 0, 0, 0, .null), (229, .iload 9, 2, 0, 0, 0, .null), (231, .invokevirtual 377, 3, 233, 10102, 1738, .null), (234, .iload_n 1, 1, 0, 0, 0, .null), (235, .iload_n 2, 1, 0, 0, 0, .null), (236, .iconst 1, 1, 0, 0, 0, .int 1), (237, .iadd, 1, 0, 0, 0, .null), (238, .iload 4, 2, 0, 0, 0, .null)]),
  (15, [(240, .iload 5, 2, 0, 0, 0, .null), (242, .lload 6, 2, 0, 0, 0, .null), (244, .aload_n 0, 1, 0, 0, 0, .null), (245, .iload_n 3, 1, 0, 0, 0, .null), (246, .iload 9, 2, 0, 0, 0, .null), (248, .invokevirtual 374, 3, 232, 10102, 1734, .null), (251, .i2l, 1, 0, 0, 0, .null), (252, .lmul, 1, 0, 0, 0, .null), (253, .invokevirtual 399, 3, 242, 10006, 1758, .null)]),
  (16, [(256, .iinc 9 1, 3, 0, 0, 0, .int 1), (259, .goto (-63), 3, 196, 0, 0, .null), (262, .iinc 5 1, 3, 0, 0, 0, .int 1), (265, .goto (-148), 3, 117, 0, 0, .null), (268, .iinc 4 1, 3, 0, 0, 0, .int 1), (271, .goto (-165), 3, 106, 0, 0, .null)]),
  (17, [(274, .iinc 3 1, 3, 0, 0, 0, .int 1), (277, .goto (-182), 3, 95, 0, 0, .null), (280, .iinc 2 1, 3, 0, 0, 0, .int 1), (283, .goto (-232), 3, 51, 0, 0, .null), (286, .aload_n 0, 1, 0, 0, 0, .null), (287, .getfield 386, 3, 10, 44, 1272, .null)]),
  (18, [(290, .lconst 0, 1, 0, 0, 0, .long 0), (291, .lcmp, 1, 0, 0, 0, .null), (292, .ifCond .ne 7, 3, 299, 0, 0, .null), (295, .iconst (-1), 1, 0, 0, 0, .int (-1)), (296, .goto 18, 3, 314, 0, 0, .null), (299, .aload_n 0, 1, 0, 0, 0, .null), (300, .getfield 389, 3, 10, 43, 1271, .null), (303, .aload_n 0, 1, 0, 0, 0, .null)]),
  (19, [(304, .getfield 386, 3, 10, 44, 1272, .null), (307, .ldc2_w 403, 3, 0, 0, 1770, .long 27720), (310, .lmul, 1, 0, 0, 0, .null), (311, .invokestatic 405, 3, 239, 102, 1771, .null), (314, .ireturn, 1, 0, 0, 0, .null)])]
def uX10_second : List (Nat × List Nat) := [(12, [0, 1, 2]), (51, [0, 1, 2]), (61, [0, 1, 2, 3]), (95, [0, 1, 2, 3]), (106, [0, 1, 2, 3, 4]), (117, [0, 1, 2, 3, 4, 5]), (196, [0, 1, 2, 3, 4, 5, 6, 8, 9])]
def qX10_belief : CD := [(0, [(0, .aload_n 0, 1, 0, 0, 0, .null), (1, .iload_n 1, 1, 0, 0, 0, .null), (2, .invokevirtual 277, 3, 157, 10301, 1569, .null), (5, .ifCond .eq 12, 3, 17, 0, 0, .null), (8, .iload_n 2, 1, 0, 0, 0, .null), (9, .iconst 0, 1, 0, 0, 0, .int 0), (10, .iconst 1, 1, 0, 0, 0, .int 1), (11, .invokestatic 109, 3, 144, 303, 1380, .null), (14, .ifCond .ne 5, 3, 19, 0, 0, .null)]),
  (1, [(17, .iconst (-1), 1, 0, 0, 0, .int (-1)), (18, .ireturn, 1, 0, 0, 0, .null), (19, .iload_n 2, 1, 0, 0, 0, .null), (20, .iconst 1, 1, 0, 0, 0, .int 1), (21, .if_icmp .ne 9, 3, 30, 0, 0, .null), (24, .aload_n 0, 1, 0, 0, 0, .null), (25, .iload_n 1, 1, 0, 0, 0, .null), (26, .invokevirtual 409, 3, 243, 10101, 1754, .null), (29, .ireturn, 1, 0, 0, 0, .null), (30, .aload_n 0, 1, 0, 0, 0, .null), (31, .invokevirtual 380, 3, 231, 10000, 1722, .null)]),
  (2, [(34, .aload_n 0, 1, 0, 0, 0, .null), (35, .aload_n 0, 1, 0, 0, 0, .null), (36, .iload_n 1, 1, 0, 0, 0, .null), (37, .iconst 1, 1, 0, 0, 0, .int 1), (38, .invokevirtual 128, 3, 156, 10102, 1497, .null), (41, .invokevirtual 412, 3, 238, 10201, 1774, .null), (44, .lstore_n 3, 1, 0, 0, 0, .null), (45, .lload_n 3, 1, 0, 0, 0, .null), (46, .lconst 0, 1, 0, 0, 0, .long 0), (47, .lcmp, 1, 0, 0, 0, .null)]),
  (3, [(48, .ifCond .ne 7, 3, 55, 0, 0, .null), (51, .iconst (-1), 1, 0, 0, 0, .int (-1)), (52, .goto 12, 3, 64, 0, 0, .null), (55, .aload_n 0, 1, 0, 0, 0, .null), (56, .iload_n 1, 1, 0, 0, 0, .null), (57, .invokevirtual 383, 3, 235, 10201, 1742, .null), (60, .lload_n 3, 1, 0, 0, 0, .null), (61, .invokestatic 405, 3, 239, 102, 1771, .null)]),
  (4, [(64, .ireturn, 1, 0, 0, 0, .null)])]
def uX10_belief : List (Nat × List Nat) := []
def qX10_bet : CD := [(0, [(0, .aload_n 0, 1, 0, 0, 0, .null), (1, .iload_n 1, 1, 0, 0, 0, .null), (2, .invokevirtual 277, 3, 157, 10301, 1569, .null), (5, .ifCond .eq 13, 3, 18, 0, 0, .null), (8, .iload_n 2, 1, 0, 0, 0, .null), (9, .iconst 0, 1, 0, 0, 0, .int 0), (10, .bipush 100, 2, 0, 0, 0, .int 100), (12, .invokestatic 109, 3, 144, 303, 1380, .null), (15, .ifCond .ne 7, 3, 22, 0, 0, .null)]),
  (1, [(18, .ldc2_w 269, 3, 0, 0, 1505, .long (-1000000000000000000)), (21, .lreturn, 1, 0, 0, 0, .null), (22, .aload_n 0, 1, 0, 0, 0, .null), (23, .invokevirtual 380, 3, 231, 10000, 1722, .null), (26, .ldc2_w 415, 3, 0, 0, 1782, .long 100), (29, .aload_n 0, 1, 0, 0, 0, .null), (30, .iload_n 1, 1, 0, 0, 0, .null), (31, .invokevirtual 383, 3, 235, 10201, 1742, .null)]),
  (2, [(34, .lmul, 1, 0, 0, 0, .null), (35, .iload_n 2, 1, 0, 0, 0, .null), (36, .i2l, 1, 0, 0, 0, .null), (37, .aload_n 0, 1, 0, 0, 0, .null), (38, .aload_n 0, 1, 0, 0, 0, .null), (39, .iload_n 1, 1, 0, 0, 0, .null), (40, .iconst 1, 1, 0, 0, 0, .int 1), (41, .invokevirtual 128, 3, 156, 10102, 1497, .null), (44, .invokevirtual 412, 3, 238, 10201, 1774, .null), (47, .lmul, 1, 0, 0, 0, .null)]),
  (3, [(48, .lsub, 1, 0, 0, 0, .null), (49, .lreturn, 1, 0, 0, 0, .null)])]
def uX10_bet : List (Nat × List Nat) := []
def qX10_price : CD := [(0, [(0, .aload_n 0, 1, 0, 0, 0, .null), (1, .iload_n 1, 1, 0, 0, 0, .null), (2, .invokevirtual 277, 3, 157, 10301, 1569, .null), (5, .ifCond .ne 5, 3, 10, 0, 0, .null), (8, .iconst (-1), 1, 0, 0, 0, .int (-1)), (9, .ireturn, 1, 0, 0, 0, .null), (10, .bipush 100, 2, 0, 0, 0, .int 100), (12, .istore_n 2, 1, 0, 0, 0, .null), (13, .aload_n 0, 1, 0, 0, 0, .null), (14, .iload_n 1, 1, 0, 0, 0, .null), (15, .iload_n 2, 1, 0, 0, 0, .null)]),
  (1, [(16, .invokevirtual 417, 3, 245, 10202, 1787, .null), (19, .lconst 0, 1, 0, 0, 0, .long 0), (20, .lcmp, 1, 0, 0, 0, .null), (21, .ifCond .ge 9, 3, 30, 0, 0, .null), (24, .iinc 2 (-1), 3, 0, 0, 0, .int (-1)), (27, .goto (-14), 3, 13, 0, 0, .null), (30, .iload_n 2, 1, 0, 0, 0, .null), (31, .ireturn, 1, 0, 0, 0, .null)])]
def uX10_price : List (Nat × List Nat) := [(13, [0, 1, 2])]
def qX10_draws : CD := [(0, [(0, .aload_n 0, 1, 0, 0, 0, .null), (1, .ldc2_w 420, 3, 0, 0, 1796, .long 1103), (4, .aload_n 0, 1, 0, 0, 0, .null), (5, .getfield 422, 3, 10, 48, 1276, .null), (8, .i2l, 1, 0, 0, 0, .null), (9, .lmul, 1, 0, 0, 0, .null), (10, .ldc2_w 425, 3, 0, 0, 1797, .long 12345), (13, .ladd, 1, 0, 0, 0, .null), (14, .ldc2_w 427, 3, 0, 0, 1798, .long 1000003)]),
  (1, [(17, .lrem, 1, 0, 0, 0, .null), (18, .l2i, 1, 0, 0, 0, .null), (19, .putfield 422, 3, 10, 48, 1276, .null), (22, .aload_n 0, 1, 0, 0, 0, .null), (23, .getfield 422, 3, 10, 48, 1276, .null), (26, .bipush 10, 2, 0, 0, 0, .int 10), (28, .irem, 1, 0, 0, 0, .null), (29, .ireturn, 1, 0, 0, 0, .null)])]
def uX10_draws : List (Nat × List Nat) := []
def qX10_ride : CD := [(0, [(0, .iload_n 1, 1, 0, 0, 0, .null), (1, .iconst 0, 1, 0, 0, 0, .int 0), (2, .ldc 147, 2, 0, 0, 1421, .int 1000000), (4, .invokestatic 109, 3, 144, 303, 1380, .null), (7, .ifCond .ne 9, 3, 16, 0, 0, .null), (10, .aload_n 0, 1, 0, 0, 0, .null), (11, .iconst (-1), 1, 0, 0, 0, .int (-1)), (12, .invokevirtual 113, 3, 145, 10101, 1383, .null), (15, .ireturn, 1, 0, 0, 0, .null)]),
  (1, [(16, .aload_n 0, 1, 0, 0, 0, .null), (17, .invokevirtual 120, 3, 153, 10100, 1493, .null), (20, .ifCond .ne 10, 3, 30, 0, 0, .null), (23, .aload_n 0, 1, 0, 0, 0, .null), (24, .bipush (-3), 2, 0, 0, 0, .int (-3)), (26, .invokevirtual 113, 3, 145, 10101, 1383, .null), (29, .ireturn, 1, 0, 0, 0, .null), (30, .aload_n 0, 1, 0, 0, 0, .null), (31, .invokevirtual 271, 3, 192, 10000, 1506, .null)]),
  (2, [(34, .aload_n 0, 1, 0, 0, 0, .null), (35, .iload_n 1, 1, 0, 0, 0, .null), (36, .putfield 422, 3, 10, 48, 1276, .null), (39, .aload_n 0, 1, 0, 0, 0, .null), (40, .getfield 22, 3, 10, 3, 1231, .null), (43, .sipush 178, 3, 0, 0, 0, .int 178), (46, .iaload, 1, 0, 0, 0, .null), (47, .istore_n 2, 1, 0, 0, 0, .null)]),
  (3, [(48, .iconst 0, 1, 0, 0, 0, .int 0), (49, .istore_n 3, 1, 0, 0, 0, .null), (50, .iconst 0, 1, 0, 0, 0, .int 0), (51, .istore 4, 2, 0, 0, 0, .null), (53, .aload_n 0, 1, 0, 0, 0, .null), (54, .getfield 103, 3, 10, 45, 1273, .null), (57, .iconst 0, 1, 0, 0, 0, .int 0), (58, .iload_n 2, 1, 0, 0, 0, .null), (59, .iastore, 1, 0, 0, 0, .null), (60, .iload_n 2, 1, 0, 0, 0, .null), (61, .aload_n 0, 1, 0, 0, 0, .null), (62, .invokevirtual 120, 3, 153, 10100, 1493, .null)]),
  (4, [(65, .if_icmp .ge 108, 3, 173, 0, 0, .null), (68, .aload_n 0, 1, 0, 0, 0, .null), (69, .iload_n 2, 1, 0, 0, 0, .null), (70, .iconst 0, 1, 0, 0, 0, .int 0), (71, .invokevirtual 128, 3, 156, 10102, 1497, .null), (74, .iconst 3, 1, 0, 0, 0, .int 3), (75, .if_icmp .eq 98, 3, 173, 0, 0, .null), (78, .iload 4, 2, 0, 0, 0, .null)]),
  (5, [(80, .aload_n 0, 1, 0, 0, 0, .null), (81, .invokevirtual 259, 3, 154, 10100, 1514, .null), (84, .if_icmp .ge 89, 3, 173, 0, 0, .null), (87, .iconst 0, 1, 0, 0, 0, .int 0), (88, .istore 5, 2, 0, 0, 0, .null), (90, .aload_n 0, 1, 0, 0, 0, .null), (91, .iload_n 2, 1, 0, 0, 0, .null), (92, .iconst 0, 1, 0, 0, 0, .int 0), (93, .invokevirtual 128, 3, 156, 10102, 1497, .null)]),
  (6, [(96, .iconst 2, 1, 0, 0, 0, .int 2), (97, .if_icmp .ne 15, 3, 112, 0, 0, .null), (100, .iload_n 3, 1, 0, 0, 0, .null), (101, .aload_n 0, 1, 0, 0, 0, .null), (102, .iload_n 2, 1, 0, 0, 0, .null), (103, .iconst 1, 1, 0, 0, 0, .int 1), (104, .invokevirtual 128, 3, 156, 10102, 1497, .null), (107, .iadd, 1, 0, 0, 0, .null), (108, .istore_n 3, 1, 0, 0, 0, .null), (109, .goto 42, 3, 151, 0, 0, .null)]),
  (7, [(112, .aload_n 0, 1, 0, 0, 0, .null), (113, .invokevirtual 429, 3, 247, 10100, 1792, .null), (116, .istore 6, 2, 0, 0, 0, .null), (118, .aload_n 0, 1, 0, 0, 0, .null), (119, .iload_n 2, 1, 0, 0, 0, .null), (120, .iconst 0, 1, 0, 0, 0, .int 0), (121, .invokevirtual 374, 3, 232, 10102, 1734, .null), (124, .istore 7, 2, 0, 0, 0, .null), (126, .iload 6, 2, 0, 0, 0, .null)]),
  (8, [(128, .iload 7, 2, 0, 0, 0, .null), (130, .if_icmp .lt 21, 3, 151, 0, 0, .null), (133, .iinc 5 1, 3, 0, 0, 0, .int 1), (136, .iload 7, 2, 0, 0, 0, .null), (138, .aload_n 0, 1, 0, 0, 0, .null), (139, .iload_n 2, 1, 0, 0, 0, .null), (140, .iload 5, 2, 0, 0, 0, .null), (142, .invokevirtual 374, 3, 232, 10102, 1734, .null)]),
  (9, [(145, .iadd, 1, 0, 0, 0, .null), (146, .istore 7, 2, 0, 0, 0, .null), (148, .goto (-22), 3, 126, 0, 0, .null), (151, .aload_n 0, 1, 0, 0, 0, .null), (152, .iload_n 2, 1, 0, 0, 0, .null), (153, .iload 5, 2, 0, 0, 0, .null), (155, .invokevirtual 377, 3, 233, 10102, 1738, .null), (158, .istore_n 2, 1, 0, 0, 0, .null), (159, .iinc 4 1, 3, 0, 0, 0, .int 1)]),
  (10, [(162, .aload_n 0, 1, 0, 0, 0, .null), (163, .getfield 103, 3, 10, 45, 1273, .null), (166, .iload 4, 2, 0, 0, 0, .null), (168, .iload_n 2, 1, 0, 0, 0, .null), (169, .iastore, 1, 0, 0, 0, .null), (170, .goto (-110), 3, 60, 0, 0, .null), (173, .aload_n 0, 1, 0, 0, 0, .null), (174, .iload 4, 2, 0, 0, 0, .null)]),
  (11, [(176, .putfield 106, 3, 10, 46, 1274, .null), (179, .aload_n 0, 1, 0, 0, 0, .null), (180, .iload_n 2, 1, 0, 0, 0, .null), (181, .aload_n 0, 1, 0, 0, 0, .null), (182, .invokevirtual 120, 3, 153, 10100, 1493, .null), (185, .if_icmp .lt 14, 3, 199, 0, 0, .null), (188, .aload_n 0, 1, 0, 0, 0, .null), (189, .getfield 22, 3, 10, 3, 1231, .null)]),
  (12, [(192, .sipush 181, 3, 0, 0, 0, .int 181), (195, .iaload, 1, 0, 0, 0, .null), (196, .goto 36, 3, 232, 0, 0, .null), (199, .aload_n 0, 1, 0, 0, 0, .null), (200, .iload_n 2, 1, 0, 0, 0, .null), (201, .iconst 0, 1, 0, 0, 0, .int 0), (202, .invokevirtual 128, 3, 156, 10102, 1497, .null), (205, .iconst 3, 1, 0, 0, 0, .int 3), (206, .if_icmp .ne 18, 3, 224, 0, 0, .null)]),
  (13, [(209, .aload_n 0, 1, 0, 0, 0, .null), (210, .getfield 60, 3, 10, 25, 1253, .null), (213, .bipush 11, 2, 0, 0, 0, .int 11), (215, .iload_n 2, 1, 0, 0, 0, .null), (216, .imul, 1, 0, 0, 0, .null), (217, .iload 4, 2, 0, 0, 0, .null), (219, .iadd, 1, 0, 0, 0, .null), (220, .iaload, 1, 0, 0, 0, .null), (221, .goto 11, 3, 232, 0, 0, .null)]),
  (14, [(224, .aload_n 0, 1, 0, 0, 0, .null), (225, .getfield 22, 3, 10, 3, 1231, .null), (228, .sipush 180, 3, 0, 0, 0, .int 180), (231, .iaload, 1, 0, 0, 0, .null), (232, .iload_n 3, 1, 0, 0, 0, .null), (233, .isub, 1, 0, 0, 0, .null), (234, .putfield 432, 3, 10, 47, 1275, .null), (237, .aload_n 0, 1, 0, 0, 0, .null), (238, .iload 4, 2, 0, 0, 0, .null)]),
  (15, [(240, .invokevirtual 117, 3, 146, 10101, 1387, .null), (243, .ireturn, 1, 0, 0, 0, .null)])]
def uX10_ride : List (Nat × List Nat) := [(60, [0, 2, 3, 4]), (126, [0, 2, 3, 4, 5, 6, 7]), (173, [0, 2, 3, 4])]
def qX10_rode : CD := [(0, [(0, .aload_n 0, 1, 0, 0, 0, .null), (1, .getfield 106, 3, 10, 46, 1274, .null), (4, .iconst (-1), 1, 0, 0, 0, .int (-1)), (5, .if_icmp .eq 15, 3, 20, 0, 0, .null), (8, .iload_n 1, 1, 0, 0, 0, .null), (9, .iconst (-1), 1, 0, 0, 0, .int (-1)), (10, .aload_n 0, 1, 0, 0, 0, .null), (11, .getfield 106, 3, 10, 46, 1274, .null), (14, .invokestatic 109, 3, 144, 303, 1380, .null)]),
  (1, [(17, .ifCond .ne 7, 3, 24, 0, 0, .null), (20, .ldc2_w 269, 3, 0, 0, 1505, .long (-1000000000000000000)), (23, .lreturn, 1, 0, 0, 0, .null), (24, .iload_n 1, 1, 0, 0, 0, .null), (25, .iconst (-1), 1, 0, 0, 0, .int (-1)), (26, .if_icmp .ne 11, 3, 37, 0, 0, .null), (29, .aload_n 0, 1, 0, 0, 0, .null), (30, .getfield 432, 3, 10, 47, 1275, .null)]),
  (2, [(33, .i2l, 1, 0, 0, 0, .null), (34, .goto 10, 3, 44, 0, 0, .null), (37, .aload_n 0, 1, 0, 0, 0, .null), (38, .getfield 103, 3, 10, 45, 1273, .null), (41, .iload_n 1, 1, 0, 0, 0, .null), (42, .iaload, 1, 0, 0, 0, .null), (43, .i2l, 1, 0, 0, 0, .null), (44, .lreturn, 1, 0, 0, 0, .null)])]
def uX10_rode : List (Nat × List Nat) := []
def qX10_count : CD := [(0, [(0, .iconst 0, 1, 0, 0, 0, .int 0), (1, .istore_n 2, 1, 0, 0, 0, .null), (2, .iconst 0, 1, 0, 0, 0, .int 0), (3, .istore_n 3, 1, 0, 0, 0, .null), (4, .iload_n 3, 1, 0, 0, 0, .null), (5, .aload_n 0, 1, 0, 0, 0, .null), (6, .invokevirtual 120, 3, 153, 10100, 1493, .null), (9, .if_icmp .ge 25, 3, 34, 0, 0, .null), (12, .iload_n 2, 1, 0, 0, 0, .null), (13, .aload_n 0, 1, 0, 0, 0, .null), (14, .iload_n 3, 1, 0, 0, 0, .null), (15, .invokevirtual 277, 3, 157, 10301, 1569, .null)]),
  (1, [(18, .ifCond .eq 7, 3, 25, 0, 0, .null), (21, .iconst 1, 1, 0, 0, 0, .int 1), (22, .goto 4, 3, 26, 0, 0, .null), (25, .iconst 0, 1, 0, 0, 0, .int 0), (26, .iadd, 1, 0, 0, 0, .null), (27, .istore_n 2, 1, 0, 0, 0, .null), (28, .iinc 3 1, 3, 0, 0, 0, .int 1), (31, .goto (-27), 3, 4, 0, 0, .null)]),
  (2, [(34, .iload_n 1, 1, 0, 0, 0, .null), (35, .tableswitch 112 0 11 #[61, 66, 68, 76, 81, 81, 81, 90, 98, 98, 98, 98], 61, 0, 0, 0, .null)]),
  (6, [(96, .aload_n 0, 1, 0, 0, 0, .null), (97, .invokevirtual 120, 3, 153, 10100, 1493, .null), (100, .ireturn, 1, 0, 0, 0, .null), (101, .iload_n 2, 1, 0, 0, 0, .null), (102, .ireturn, 1, 0, 0, 0, .null), (103, .aload_n 0, 1, 0, 0, 0, .null), (104, .invokevirtual 323, 3, 197, 10100, 1654, .null), (107, .invokestatic 326, 3, 148, 101, 1655, .null), (110, .ireturn, 1, 0, 0, 0, .null), (111, .aload_n 0, 1, 0, 0, 0, .null)]),
  (7, [(112, .getfield 132, 3, 10, 9, 1237, .null), (115, .ireturn, 1, 0, 0, 0, .null), (116, .aload_n 0, 1, 0, 0, 0, .null), (117, .getfield 7, 3, 10, 2, 1230, .null), (120, .iload_n 1, 1, 0, 0, 0, .null), (121, .iconst 3, 1, 0, 0, 0, .int 3), (122, .isub, 1, 0, 0, 0, .null), (123, .iaload, 1, 0, 0, 0, .null), (124, .ireturn, 1, 0, 0, 0, .null), (125, .aload_n 0, 1, 0, 0, 0, .null), (126, .getfield 7, 3, 10, 2, 1230, .null)]),
  (8, [(129, .bipush 6, 2, 0, 0, 0, .int 6), (131, .iaload, 1, 0, 0, 0, .null), (132, .ireturn, 1, 0, 0, 0, .null), (133, .aload_n 0, 1, 0, 0, 0, .null), (134, .getfield 22, 3, 10, 3, 1231, .null), (137, .sipush 178, 3, 0, 0, 0, .int 178), (140, .iload_n 1, 1, 0, 0, 0, .null), (141, .iadd, 1, 0, 0, 0, .null), (142, .bipush 8, 2, 0, 0, 0, .int 8)]),
  (9, [(144, .isub, 1, 0, 0, 0, .null), (145, .iaload, 1, 0, 0, 0, .null), (146, .ireturn, 1, 0, 0, 0, .null), (147, .sipush (-1000), 3, 0, 0, 0, .int (-1000)), (150, .ireturn, 1, 0, 0, 0, .null)])]
def uX10_count : List (Nat × List Nat) := [(4, [0, 1, 2, 3])]
def qX10_status : CD := [(0, [(0, .aload_n 0, 1, 0, 0, 0, .null), (1, .getfield 3, 3, 10, 0, 1228, .null), (4, .ireturn, 1, 0, 0, 0, .null)])]
def uX10_status : List (Nat × List Nat) := []
def qJ6_bitCount_0f7a4 : CD := [(0, [(0, .iload_n 0, 1, 0, 0, 0, .null), (1, .iload_n 0, 1, 0, 0, 0, .null), (2, .iconst 1, 1, 0, 0, 0, .int 1), (3, .iushr, 1, 0, 0, 0, .null), (4, .ldc_w 265, 3, 0, 0, 984, .int 1431655765), (7, .iand, 1, 0, 0, 0, .null), (8, .isub, 1, 0, 0, 0, .null), (9, .istore_n 0, 1, 0, 0, 0, .null), (10, .iload_n 0, 1, 0, 0, 0, .null), (11, .ldc_w 266, 3, 0, 0, 985, .int 858993459), (14, .iand, 1, 0, 0, 0, .null), (15, .iload_n 0, 1, 0, 0, 0, .null)]),
  (1, [(16, .iconst 2, 1, 0, 0, 0, .int 2), (17, .iushr, 1, 0, 0, 0, .null), (18, .ldc_w 266, 3, 0, 0, 985, .int 858993459), (21, .iand, 1, 0, 0, 0, .null), (22, .iadd, 1, 0, 0, 0, .null), (23, .istore_n 0, 1, 0, 0, 0, .null), (24, .iload_n 0, 1, 0, 0, 0, .null), (25, .iload_n 0, 1, 0, 0, 0, .null), (26, .iconst 4, 1, 0, 0, 0, .int 4), (27, .iushr, 1, 0, 0, 0, .null), (28, .iadd, 1, 0, 0, 0, .null), (29, .ldc_w 267, 3, 0, 0, 986, .int 252645135)]),
  (2, [(32, .iand, 1, 0, 0, 0, .null), (33, .istore_n 0, 1, 0, 0, 0, .null), (34, .iload_n 0, 1, 0, 0, 0, .null), (35, .iload_n 0, 1, 0, 0, 0, .null), (36, .bipush 8, 2, 0, 0, 0, .int 8), (38, .iushr, 1, 0, 0, 0, .null), (39, .iadd, 1, 0, 0, 0, .null), (40, .istore_n 0, 1, 0, 0, 0, .null), (41, .iload_n 0, 1, 0, 0, 0, .null), (42, .iload_n 0, 1, 0, 0, 0, .null), (43, .bipush 16, 2, 0, 0, 0, .int 16), (45, .iushr, 1, 0, 0, 0, .null), (46, .iadd, 1, 0, 0, 0, .null), (47, .istore_n 0, 1, 0, 0, 0, .null)]),
  (3, [(48, .iload_n 0, 1, 0, 0, 0, .null), (49, .bipush 63, 2, 0, 0, 0, .int 63), (51, .iand, 1, 0, 0, 0, .null), (52, .ireturn, 1, 0, 0, 0, .null)])]
def uJ6_bitCount_0f7a4 : List (Nat × List Nat) := []
def qJ0_length_8abf5 : CD := [(0, [(0, .aload_n 0, 1, 0, 0, 0, .null), (1, .getfield 9, 3, 11, 0, 1812, .null), (4, .arraylength, 1, 0, 0, 0, .null), (5, .aload_n 0, 1, 0, 0, 0, .null), (6, .invokevirtual 335, 3, 255, 11400, 602, .null), (9, .ishr, 1, 0, 0, 0, .null), (10, .ireturn, 1, 0, 0, 0, .null)])]
def uJ0_length_8abf5 : List (Nat × List Nat) := []
def qJ0_charAt_5068e : CD := [(0, [(0, .aload_n 0, 1, 0, 0, 0, .null), (1, .invokevirtual 492, 3, 256, 11300, 612, .null), (4, .ifCond .eq 12, 3, 16, 0, 0, .null), (7, .aload_n 0, 1, 0, 0, 0, .null), (8, .getfield 9, 3, 11, 0, 1812, .null), (11, .iload_n 1, 1, 0, 0, 0, .null), (12, .invokestatic 495, 3, 257, 502, 616, .null), (15, .ireturn, 1, 0, 0, 0, .null)]),
  (1, [(16, .aload_n 0, 1, 0, 0, 0, .null), (17, .getfield 9, 3, 11, 0, 1812, .null), (20, .iload_n 1, 1, 0, 0, 0, .null)])]
def uJ0_charAt_5068e : List (Nat × List Nat) := []
def qJ0_coder_7d493 : CD := [(0, [(0, .getstatic 38, 3, 2, 0, 606, .int 1), (3, .ifCond .eq 10, 3, 13, 0, 0, .null), (6, .aload_n 0, 1, 0, 0, 0, .null), (7, .getfield 15, 3, 11, 1, 1813, .null), (10, .goto 4, 3, 14, 0, 0, .null), (13, .iconst 1, 1, 0, 0, 0, .int 1), (14, .ireturn, 1, 0, 0, 0, .null)])]
def uJ0_coder_7d493 : List (Nat × List Nat) := []
def qJ0_isLatin1_aae02 : CD := [(0, [(0, .getstatic 38, 3, 2, 0, 606, .int 1), (3, .ifCond .eq 14, 3, 17, 0, 0, .null), (6, .aload_n 0, 1, 0, 0, 0, .null), (7, .getfield 15, 3, 11, 1, 1813, .null), (10, .ifCond .ne 7, 3, 17, 0, 0, .null), (13, .iconst 1, 1, 0, 0, 0, .int 1), (14, .goto 4, 3, 18, 0, 0, .null)]),
  (1, [(17, .iconst 0, 1, 0, 0, 0, .int 0), (18, .ireturn, 1, 0, 0, 0, .null)])]
def uJ0_isLatin1_aae02 : List (Nat × List Nat) := []
def qJ1_charAt_3b067 : CD := [(0, [(0, .iload_n 1, 1, 0, 0, 0, .null), (1, .aload_n 0, 1, 0, 0, 0, .null), (2, .arraylength, 1, 0, 0, 0, .null), (3, .invokestatic 9, 3, 260, 2, 619, .null), (6, .aload_n 0, 1, 0, 0, 0, .null), (7, .iload_n 1, 1, 0, 0, 0, .null), (8, .baload, 1, 0, 0, 0, .null), (9, .sipush 255, 3, 0, 0, 0, .int 255), (12, .iand, 1, 0, 0, 0, .null), (13, .i2c, 1, 0, 0, 0, .null), (14, .ireturn, 1, 0, 0, 0, .null)])]
def uJ1_charAt_3b067 : List (Nat × List Nat) := []
def qJ7_fill_d0a16 : CD := [(0, [(0, .iconst 0, 1, 0, 0, 0, .int 0), (1, .istore_n 3, 1, 0, 0, 0, .null), (2, .aload_n 0, 1, 0, 0, 0, .null), (3, .arraylength, 1, 0, 0, 0, .null), (4, .istore 4, 2, 0, 0, 0, .null), (6, .iload_n 3, 1, 0, 0, 0, .null), (7, .iload 4, 2, 0, 0, 0, .null), (9, .if_icmp .ge 13, 3, 22, 0, 0, .null), (12, .aload_n 0, 1, 0, 0, 0, .null), (13, .iload_n 3, 1, 0, 0, 0, .null), (14, .lload_n 1, 1, 0, 0, 0, .null), (15, .lastore, 1, 0, 0, 0, .null)]),
  (1, [(16, .iinc 3 1, 3, 0, 0, 0, .int 1), (19, .goto (-13), 3, 6, 0, 0, .null), (22, .return_, 1, 0, 0, 0, .null)])]
def uJ7_fill_d0a16 : List (Nat × List Nat) := [(6, [0, 1, 3, 4])]
def qJ7_fill_53178 : CD := [(0, [(0, .iconst 0, 1, 0, 0, 0, .int 0), (1, .istore_n 2, 1, 0, 0, 0, .null), (2, .aload_n 0, 1, 0, 0, 0, .null), (3, .arraylength, 1, 0, 0, 0, .null), (4, .istore_n 3, 1, 0, 0, 0, .null), (5, .iload_n 2, 1, 0, 0, 0, .null), (6, .iload_n 3, 1, 0, 0, 0, .null), (7, .if_icmp .ge 13, 3, 20, 0, 0, .null), (10, .aload_n 0, 1, 0, 0, 0, .null), (11, .iload_n 2, 1, 0, 0, 0, .null), (12, .iload_n 1, 1, 0, 0, 0, .null), (13, .iastore, 1, 0, 0, 0, .null), (14, .iinc 2 1, 3, 0, 0, 0, .int 1)]),
  (1, [(17, .goto (-12), 3, 5, 0, 0, .null), (20, .return_, 1, 0, 0, 0, .null)])]
def uJ7_fill_53178 : List (Nat × List Nat) := [(5, [0, 1, 2, 3])]
def qL_law : CD := [(0, [(0, .new 7, 3, 9, 16, 141, .null), (3, .dup, 1, 0, 0, 0, .null), (4, .invokespecial 9, 3, 101, 0, 143, .null), (7, .astore_n 1, 1, 0, 0, 0, .null), (8, .new 10, 3, 10, 49, 1222, .null), (11, .dup, 1, 0, 0, 0, .null), (12, .invokespecial 12, 3, 150, 0, 1224, .null), (15, .astore_n 2, 1, 0, 0, 0, .null)]),
  (1, [(16, .iconst 0, 1, 0, 0, 0, .int 0), (17, .istore_n 3, 1, 0, 0, 0, .null), (18, .iload_n 3, 1, 0, 0, 0, .null), (19, .aload_n 0, 1, 0, 0, 0, .null), (20, .arraylength, 1, 0, 0, 0, .null), (21, .bipush 6, 2, 0, 0, 0, .int 6), (23, .isub, 1, 0, 0, 0, .null), (24, .if_icmp .gt 1128, 3, 1152, 0, 0, .null), (27, .aload_n 0, 1, 0, 0, 0, .null), (28, .iload_n 3, 1, 0, 0, 0, .null), (29, .iaload, 1, 0, 0, 0, .null), (30, .bipush 63, 2, 0, 0, 0, .int 63)]),
  (2, [(32, .iand, 1, 0, 0, 0, .null), (33, .tableswitch 1113 0 34 #[155, 218, 241, 254, 267, 300, 333, 367, 400, 413, 456, 489, 503, 537, 561, 584, 597, 631, 654, 688, 702, 716, 749, 822, 846, 870, 894, 927, 961, 984, 1007, 1031, 1054, 1077, 1100], 155, 0, 0, 0, .null)]),
  (11, [(188, .aload_n 1, 1, 0, 0, 0, .null), (189, .aload_n 0, 1, 0, 0, 0, .null), (190, .iload_n 3, 1, 0, 0, 0, .null), (191, .iconst 1, 1, 0, 0, 0, .int 1)]),
  (12, [(192, .iadd, 1, 0, 0, 0, .null), (193, .iaload, 1, 0, 0, 0, .null), (194, .aload_n 0, 1, 0, 0, 0, .null), (195, .iload_n 3, 1, 0, 0, 0, .null), (196, .iconst 2, 1, 0, 0, 0, .int 2), (197, .iadd, 1, 0, 0, 0, .null), (198, .iaload, 1, 0, 0, 0, .null), (199, .aload_n 0, 1, 0, 0, 0, .null), (200, .iload_n 3, 1, 0, 0, 0, .null), (201, .iconst 3, 1, 0, 0, 0, .int 3), (202, .iadd, 1, 0, 0, 0, .null), (203, .iaload, 1, 0, 0, 0, .null), (204, .aload_n 0, 1, 0, 0, 0, .null), (205, .iload_n 3, 1, 0, 0, 0, .null), (206, .iconst 4, 1, 0, 0, 0, .int 4), (207, .iadd, 1, 0, 0, 0, .null)]),
  (13, [(208, .iaload, 1, 0, 0, 0, .null), (209, .aload_n 0, 1, 0, 0, 0, .null), (210, .iload_n 3, 1, 0, 0, 0, .null), (211, .iconst 5, 1, 0, 0, 0, .int 5), (212, .iadd, 1, 0, 0, 0, .null), (213, .iaload, 1, 0, 0, 0, .null), (214, .invokevirtual 13, 3, 102, 9105, 549, .null), (217, .aload_n 2, 1, 0, 0, 0, .null), (218, .aload_n 0, 1, 0, 0, 0, .null), (219, .iload_n 3, 1, 0, 0, 0, .null), (220, .iconst 1, 1, 0, 0, 0, .int 1), (221, .iadd, 1, 0, 0, 0, .null), (222, .iaload, 1, 0, 0, 0, .null), (223, .aload_n 0, 1, 0, 0, 0, .null)]),
  (14, [(224, .iload_n 3, 1, 0, 0, 0, .null), (225, .iconst 2, 1, 0, 0, 0, .int 2), (226, .iadd, 1, 0, 0, 0, .null), (227, .iaload, 1, 0, 0, 0, .null), (228, .aload_n 0, 1, 0, 0, 0, .null), (229, .iload_n 3, 1, 0, 0, 0, .null), (230, .iconst 3, 1, 0, 0, 0, .int 3), (231, .iadd, 1, 0, 0, 0, .null), (232, .iaload, 1, 0, 0, 0, .null), (233, .aload_n 0, 1, 0, 0, 0, .null), (234, .iload_n 3, 1, 0, 0, 0, .null), (235, .iconst 4, 1, 0, 0, 0, .int 4), (236, .iadd, 1, 0, 0, 0, .null), (237, .iaload, 1, 0, 0, 0, .null), (238, .aload_n 0, 1, 0, 0, 0, .null), (239, .iload_n 3, 1, 0, 0, 0, .null)]),
  (15, [(240, .iconst 5, 1, 0, 0, 0, .int 5), (241, .iadd, 1, 0, 0, 0, .null), (242, .iaload, 1, 0, 0, 0, .null), (243, .invokevirtual 17, 3, 159, 10105, 1395, .null), (246, .if_icmp .eq 900, 3, 1146, 0, 0, .null), (249, .iconst 0, 1, 0, 0, 0, .int 0), (250, .ireturn, 1, 0, 0, 0, .null), (251, .aload_n 1, 1, 0, 0, 0, .null), (252, .aload_n 0, 1, 0, 0, 0, .null), (253, .iload_n 3, 1, 0, 0, 0, .null), (254, .iconst 1, 1, 0, 0, 0, .int 1), (255, .iadd, 1, 0, 0, 0, .null)]),
  (16, [(256, .iaload, 1, 0, 0, 0, .null), (257, .invokevirtual 18, 3, 104, 9101, 557, .null), (260, .aload_n 2, 1, 0, 0, 0, .null), (261, .aload_n 0, 1, 0, 0, 0, .null), (262, .iload_n 3, 1, 0, 0, 0, .null), (263, .iconst 1, 1, 0, 0, 0, .int 1), (264, .iadd, 1, 0, 0, 0, .null), (265, .iaload, 1, 0, 0, 0, .null), (266, .invokevirtual 22, 3, 160, 10101, 1399, .null), (269, .if_icmp .eq 877, 3, 1146, 0, 0, .null)]),
  (17, [(272, .iconst 0, 1, 0, 0, 0, .int 0), (273, .ireturn, 1, 0, 0, 0, .null), (274, .aload_n 1, 1, 0, 0, 0, .null), (275, .invokevirtual 23, 3, 105, 9100, 561, .null), (278, .aload_n 2, 1, 0, 0, 0, .null), (279, .invokevirtual 27, 3, 179, 10100, 1403, .null), (282, .if_icmp .eq 864, 3, 1146, 0, 0, .null), (285, .iconst 0, 1, 0, 0, 0, .int 0), (286, .ireturn, 1, 0, 0, 0, .null), (287, .aload_n 1, 1, 0, 0, 0, .null)]),
  (18, [(288, .invokevirtual 28, 3, 106, 9100, 749, .null), (291, .aload_n 2, 1, 0, 0, 0, .null), (292, .invokevirtual 31, 3, 180, 10100, 1477, .null), (295, .if_icmp .eq 851, 3, 1146, 0, 0, .null), (298, .iconst 0, 1, 0, 0, 0, .int 0), (299, .ireturn, 1, 0, 0, 0, .null), (300, .aload_n 1, 1, 0, 0, 0, .null), (301, .aload_n 0, 1, 0, 0, 0, .null), (302, .iload_n 3, 1, 0, 0, 0, .null), (303, .iconst 1, 1, 0, 0, 0, .int 1)]),
  (19, [(304, .iadd, 1, 0, 0, 0, .null), (305, .iaload, 1, 0, 0, 0, .null), (306, .aload_n 0, 1, 0, 0, 0, .null), (307, .iload_n 3, 1, 0, 0, 0, .null), (308, .iconst 2, 1, 0, 0, 0, .int 2), (309, .iadd, 1, 0, 0, 0, .null), (310, .iaload, 1, 0, 0, 0, .null), (311, .invokevirtual 32, 3, 107, 9102, 753, .null), (314, .aload_n 2, 1, 0, 0, 0, .null), (315, .aload_n 0, 1, 0, 0, 0, .null), (316, .iload_n 3, 1, 0, 0, 0, .null), (317, .iconst 1, 1, 0, 0, 0, .int 1), (318, .iadd, 1, 0, 0, 0, .null), (319, .iaload, 1, 0, 0, 0, .null)]),
  (20, [(320, .aload_n 0, 1, 0, 0, 0, .null), (321, .iload_n 3, 1, 0, 0, 0, .null), (322, .iconst 2, 1, 0, 0, 0, .int 2), (323, .iadd, 1, 0, 0, 0, .null), (324, .iaload, 1, 0, 0, 0, .null), (325, .invokevirtual 36, 3, 193, 10102, 1481, .null), (328, .if_icmp .eq 818, 3, 1146, 0, 0, .null), (331, .iconst 0, 1, 0, 0, 0, .int 0), (332, .ireturn, 1, 0, 0, 0, .null), (333, .aload_n 1, 1, 0, 0, 0, .null), (334, .aload_n 0, 1, 0, 0, 0, .null), (335, .iload_n 3, 1, 0, 0, 0, .null)]),
  (21, [(336, .iconst 1, 1, 0, 0, 0, .int 1), (337, .iadd, 1, 0, 0, 0, .null), (338, .iaload, 1, 0, 0, 0, .null), (339, .aload_n 0, 1, 0, 0, 0, .null), (340, .iload_n 3, 1, 0, 0, 0, .null), (341, .iconst 2, 1, 0, 0, 0, .int 2), (342, .iadd, 1, 0, 0, 0, .null), (343, .iaload, 1, 0, 0, 0, .null), (344, .invokevirtual 37, 3, 108, 9102, 761, .null), (347, .aload_n 2, 1, 0, 0, 0, .null), (348, .aload_n 0, 1, 0, 0, 0, .null), (349, .iload_n 3, 1, 0, 0, 0, .null), (350, .iconst 1, 1, 0, 0, 0, .int 1), (351, .iadd, 1, 0, 0, 0, .null)]),
  (22, [(352, .iaload, 1, 0, 0, 0, .null), (353, .aload_n 0, 1, 0, 0, 0, .null), (354, .iload_n 3, 1, 0, 0, 0, .null), (355, .iconst 2, 1, 0, 0, 0, .int 2), (356, .iadd, 1, 0, 0, 0, .null), (357, .iaload, 1, 0, 0, 0, .null), (358, .invokevirtual 40, 3, 194, 10102, 1485, .null), (361, .if_icmp .eq 785, 3, 1146, 0, 0, .null), (364, .iconst 0, 1, 0, 0, 0, .int 0), (365, .ireturn, 1, 0, 0, 0, .null), (366, .aload_n 1, 1, 0, 0, 0, .null), (367, .aload_n 0, 1, 0, 0, 0, .null)]),
  (23, [(368, .iload_n 3, 1, 0, 0, 0, .null), (369, .iconst 1, 1, 0, 0, 0, .int 1), (370, .iadd, 1, 0, 0, 0, .null), (371, .iaload, 1, 0, 0, 0, .null), (372, .aload_n 0, 1, 0, 0, 0, .null), (373, .iload_n 3, 1, 0, 0, 0, .null), (374, .iconst 2, 1, 0, 0, 0, .int 2), (375, .iadd, 1, 0, 0, 0, .null), (376, .iaload, 1, 0, 0, 0, .null), (377, .invokevirtual 41, 3, 109, 9202, 773, .null), (380, .aload_n 2, 1, 0, 0, 0, .null), (381, .aload_n 0, 1, 0, 0, 0, .null), (382, .iload_n 3, 1, 0, 0, 0, .null), (383, .iconst 1, 1, 0, 0, 0, .int 1)]),
  (24, [(384, .iadd, 1, 0, 0, 0, .null), (385, .iaload, 1, 0, 0, 0, .null), (386, .aload_n 0, 1, 0, 0, 0, .null), (387, .iload_n 3, 1, 0, 0, 0, .null), (388, .iconst 2, 1, 0, 0, 0, .int 2), (389, .iadd, 1, 0, 0, 0, .null), (390, .iaload, 1, 0, 0, 0, .null), (391, .invokevirtual 45, 3, 195, 10202, 1501, .null), (394, .lcmp, 1, 0, 0, 0, .null), (395, .ifCond .eq 751, 3, 1146, 0, 0, .null), (398, .iconst 0, 1, 0, 0, 0, .int 0), (399, .ireturn, 1, 0, 0, 0, .null)]),
  (25, [(400, .aload_n 1, 1, 0, 0, 0, .null), (401, .aload_n 0, 1, 0, 0, 0, .null), (402, .iload_n 3, 1, 0, 0, 0, .null), (403, .iconst 1, 1, 0, 0, 0, .int 1), (404, .iadd, 1, 0, 0, 0, .null), (405, .iaload, 1, 0, 0, 0, .null), (406, .aload_n 0, 1, 0, 0, 0, .null), (407, .iload_n 3, 1, 0, 0, 0, .null), (408, .iconst 2, 1, 0, 0, 0, .int 2), (409, .iadd, 1, 0, 0, 0, .null), (410, .iaload, 1, 0, 0, 0, .null), (411, .invokevirtual 46, 3, 110, 9102, 816, .null), (414, .aload_n 2, 1, 0, 0, 0, .null), (415, .aload_n 0, 1, 0, 0, 0, .null)]),
  (26, [(416, .iload_n 3, 1, 0, 0, 0, .null), (417, .iconst 1, 1, 0, 0, 0, .int 1), (418, .iadd, 1, 0, 0, 0, .null), (419, .iaload, 1, 0, 0, 0, .null), (420, .aload_n 0, 1, 0, 0, 0, .null), (421, .iload_n 3, 1, 0, 0, 0, .null), (422, .iconst 2, 1, 0, 0, 0, .int 2), (423, .iadd, 1, 0, 0, 0, .null), (424, .iaload, 1, 0, 0, 0, .null), (425, .invokevirtual 49, 3, 196, 10102, 1562, .null), (428, .if_icmp .eq 718, 3, 1146, 0, 0, .null), (431, .iconst 0, 1, 0, 0, 0, .int 0)]),
  (27, [(432, .ireturn, 1, 0, 0, 0, .null), (433, .aload_n 1, 1, 0, 0, 0, .null), (434, .invokevirtual 50, 3, 111, 9100, 823, .null), (437, .aload_n 2, 1, 0, 0, 0, .null), (438, .invokevirtual 53, 3, 197, 10100, 1573, .null), (441, .if_icmp .eq 705, 3, 1146, 0, 0, .null), (444, .iconst 0, 1, 0, 0, 0, .int 0), (445, .ireturn, 1, 0, 0, 0, .null), (446, .aload_n 1, 1, 0, 0, 0, .null), (447, .aload_n 0, 1, 0, 0, 0, .null)]),
  (28, [(448, .iload_n 3, 1, 0, 0, 0, .null), (449, .iconst 1, 1, 0, 0, 0, .int 1), (450, .iadd, 1, 0, 0, 0, .null), (451, .iaload, 1, 0, 0, 0, .null), (452, .aload_n 0, 1, 0, 0, 0, .null), (453, .iload_n 3, 1, 0, 0, 0, .null), (454, .iconst 2, 1, 0, 0, 0, .int 2), (455, .iadd, 1, 0, 0, 0, .null), (456, .iaload, 1, 0, 0, 0, .null), (457, .aload_n 0, 1, 0, 0, 0, .null), (458, .iload_n 3, 1, 0, 0, 0, .null), (459, .iconst 3, 1, 0, 0, 0, .int 3), (460, .iadd, 1, 0, 0, 0, .null), (461, .iaload, 1, 0, 0, 0, .null), (462, .invokevirtual 54, 3, 112, 9103, 831, .null)]),
  (29, [(465, .aload_n 2, 1, 0, 0, 0, .null), (466, .aload_n 0, 1, 0, 0, 0, .null), (467, .iload_n 3, 1, 0, 0, 0, .null), (468, .iconst 1, 1, 0, 0, 0, .int 1), (469, .iadd, 1, 0, 0, 0, .null), (470, .iaload, 1, 0, 0, 0, .null), (471, .aload_n 0, 1, 0, 0, 0, .null), (472, .iload_n 3, 1, 0, 0, 0, .null), (473, .iconst 2, 1, 0, 0, 0, .int 2), (474, .iadd, 1, 0, 0, 0, .null), (475, .iaload, 1, 0, 0, 0, .null), (476, .aload_n 0, 1, 0, 0, 0, .null), (477, .iload_n 3, 1, 0, 0, 0, .null), (478, .iconst 3, 1, 0, 0, 0, .int 3), (479, .iadd, 1, 0, 0, 0, .null)]),
  (30, [(480, .iaload, 1, 0, 0, 0, .null), (481, .invokevirtual 58, 3, 198, 10103, 1577, .null), (484, .if_icmp .eq 662, 3, 1146, 0, 0, .null), (487, .iconst 0, 1, 0, 0, 0, .int 0), (488, .ireturn, 1, 0, 0, 0, .null), (489, .aload_n 1, 1, 0, 0, 0, .null), (490, .aload_n 0, 1, 0, 0, 0, .null), (491, .iload_n 3, 1, 0, 0, 0, .null), (492, .iconst 1, 1, 0, 0, 0, .int 1), (493, .iadd, 1, 0, 0, 0, .null), (494, .iaload, 1, 0, 0, 0, .null), (495, .aload_n 0, 1, 0, 0, 0, .null)]),
  (31, [(496, .iload_n 3, 1, 0, 0, 0, .null), (497, .iconst 2, 1, 0, 0, 0, .int 2), (498, .iadd, 1, 0, 0, 0, .null), (499, .iaload, 1, 0, 0, 0, .null), (500, .invokevirtual 59, 3, 113, 9102, 835, .null), (503, .aload_n 2, 1, 0, 0, 0, .null), (504, .aload_n 0, 1, 0, 0, 0, .null), (505, .iload_n 3, 1, 0, 0, 0, .null), (506, .iconst 1, 1, 0, 0, 0, .int 1), (507, .iadd, 1, 0, 0, 0, .null), (508, .iaload, 1, 0, 0, 0, .null), (509, .aload_n 0, 1, 0, 0, 0, .null), (510, .iload_n 3, 1, 0, 0, 0, .null), (511, .iconst 2, 1, 0, 0, 0, .int 2)]),
  (32, [(512, .iadd, 1, 0, 0, 0, .null), (513, .iaload, 1, 0, 0, 0, .null), (514, .invokevirtual 62, 3, 199, 10102, 1581, .null), (517, .if_icmp .eq 629, 3, 1146, 0, 0, .null), (520, .iconst 0, 1, 0, 0, 0, .int 0), (521, .ireturn, 1, 0, 0, 0, .null), (522, .aload_n 1, 1, 0, 0, 0, .null), (523, .invokevirtual 63, 3, 114, 9200, 839, .null), (526, .aload_n 2, 1, 0, 0, 0, .null), (527, .invokevirtual 67, 3, 205, 10200, 1585, .null)]),
  (33, [(530, .lcmp, 1, 0, 0, 0, .null), (531, .ifCond .eq 615, 3, 1146, 0, 0, .null), (534, .iconst 0, 1, 0, 0, 0, .int 0), (535, .ireturn, 1, 0, 0, 0, .null), (536, .aload_n 1, 1, 0, 0, 0, .null), (537, .aload_n 0, 1, 0, 0, 0, .null), (538, .iload_n 3, 1, 0, 0, 0, .null), (539, .iconst 1, 1, 0, 0, 0, .int 1), (540, .iadd, 1, 0, 0, 0, .null), (541, .iaload, 1, 0, 0, 0, .null), (542, .aload_n 0, 1, 0, 0, 0, .null), (543, .iload_n 3, 1, 0, 0, 0, .null)]),
  (34, [(544, .iconst 2, 1, 0, 0, 0, .int 2), (545, .iadd, 1, 0, 0, 0, .null), (546, .iaload, 1, 0, 0, 0, .null), (547, .invokevirtual 68, 3, 115, 9202, 889, .null), (550, .aload_n 2, 1, 0, 0, 0, .null), (551, .aload_n 0, 1, 0, 0, 0, .null), (552, .iload_n 3, 1, 0, 0, 0, .null), (553, .iconst 1, 1, 0, 0, 0, .int 1), (554, .iadd, 1, 0, 0, 0, .null), (555, .iaload, 1, 0, 0, 0, .null), (556, .aload_n 0, 1, 0, 0, 0, .null), (557, .iload_n 3, 1, 0, 0, 0, .null), (558, .iconst 2, 1, 0, 0, 0, .int 2), (559, .iadd, 1, 0, 0, 0, .null)]),
  (35, [(560, .iaload, 1, 0, 0, 0, .null), (561, .invokevirtual 71, 3, 206, 10202, 1613, .null), (564, .lcmp, 1, 0, 0, 0, .null), (565, .ifCond .eq 581, 3, 1146, 0, 0, .null), (568, .iconst 0, 1, 0, 0, 0, .int 0), (569, .ireturn, 1, 0, 0, 0, .null), (570, .aload_n 1, 1, 0, 0, 0, .null), (571, .aload_n 0, 1, 0, 0, 0, .null), (572, .iload_n 3, 1, 0, 0, 0, .null), (573, .iconst 1, 1, 0, 0, 0, .int 1), (574, .iadd, 1, 0, 0, 0, .null), (575, .iaload, 1, 0, 0, 0, .null)]),
  (36, [(576, .invokevirtual 72, 3, 116, 9201, 893, .null), (579, .aload_n 2, 1, 0, 0, 0, .null), (580, .aload_n 0, 1, 0, 0, 0, .null), (581, .iload_n 3, 1, 0, 0, 0, .null), (582, .iconst 1, 1, 0, 0, 0, .int 1), (583, .iadd, 1, 0, 0, 0, .null), (584, .iaload, 1, 0, 0, 0, .null), (585, .invokevirtual 76, 3, 211, 10201, 1626, .null), (588, .lcmp, 1, 0, 0, 0, .null), (589, .ifCond .eq 557, 3, 1146, 0, 0, .null)]),
  (37, [(592, .iconst 0, 1, 0, 0, 0, .int 0), (593, .ireturn, 1, 0, 0, 0, .null), (594, .aload_n 1, 1, 0, 0, 0, .null), (595, .aload_n 0, 1, 0, 0, 0, .null), (596, .iload_n 3, 1, 0, 0, 0, .null), (597, .iconst 1, 1, 0, 0, 0, .int 1), (598, .iadd, 1, 0, 0, 0, .null), (599, .iaload, 1, 0, 0, 0, .null), (600, .invokevirtual 77, 3, 117, 9101, 954, .null), (603, .aload_n 2, 1, 0, 0, 0, .null), (604, .aload_n 0, 1, 0, 0, 0, .null), (605, .iload_n 3, 1, 0, 0, 0, .null), (606, .iconst 1, 1, 0, 0, 0, .int 1), (607, .iadd, 1, 0, 0, 0, .null)]),
  (38, [(608, .iaload, 1, 0, 0, 0, .null), (609, .invokevirtual 80, 3, 212, 10101, 1638, .null), (612, .if_icmp .eq 534, 3, 1146, 0, 0, .null), (615, .iconst 0, 1, 0, 0, 0, .int 0), (616, .ireturn, 1, 0, 0, 0, .null), (617, .aload_n 1, 1, 0, 0, 0, .null), (618, .invokevirtual 81, 3, 118, 9100, 962, .null), (621, .aload_n 2, 1, 0, 0, 0, .null), (622, .invokevirtual 84, 3, 213, 10100, 1642, .null)]),
  (39, [(625, .if_icmp .eq 521, 3, 1146, 0, 0, .null), (628, .iconst 0, 1, 0, 0, 0, .int 0), (629, .ireturn, 1, 0, 0, 0, .null), (630, .aload_n 1, 1, 0, 0, 0, .null), (631, .aload_n 0, 1, 0, 0, 0, .null), (632, .iload_n 3, 1, 0, 0, 0, .null), (633, .iconst 1, 1, 0, 0, 0, .int 1), (634, .iadd, 1, 0, 0, 0, .null), (635, .iaload, 1, 0, 0, 0, .null), (636, .aload_n 0, 1, 0, 0, 0, .null), (637, .iload_n 3, 1, 0, 0, 0, .null), (638, .iconst 2, 1, 0, 0, 0, .int 2), (639, .iadd, 1, 0, 0, 0, .null)]),
  (40, [(640, .iaload, 1, 0, 0, 0, .null), (641, .invokevirtual 85, 3, 119, 9202, 970, .null), (644, .aload_n 2, 1, 0, 0, 0, .null), (645, .aload_n 0, 1, 0, 0, 0, .null), (646, .iload_n 3, 1, 0, 0, 0, .null), (647, .iconst 1, 1, 0, 0, 0, .int 1), (648, .iadd, 1, 0, 0, 0, .null), (649, .iaload, 1, 0, 0, 0, .null), (650, .aload_n 0, 1, 0, 0, 0, .null), (651, .iload_n 3, 1, 0, 0, 0, .null), (652, .iconst 2, 1, 0, 0, 0, .int 2), (653, .iadd, 1, 0, 0, 0, .null), (654, .iaload, 1, 0, 0, 0, .null), (655, .invokevirtual 88, 3, 217, 10202, 1646, .null)]),
  (41, [(658, .lcmp, 1, 0, 0, 0, .null), (659, .ifCond .eq 487, 3, 1146, 0, 0, .null), (662, .iconst 0, 1, 0, 0, 0, .int 0), (663, .ireturn, 1, 0, 0, 0, .null), (664, .aload_n 1, 1, 0, 0, 0, .null), (665, .aload_n 0, 1, 0, 0, 0, .null), (666, .iload_n 3, 1, 0, 0, 0, .null), (667, .iconst 1, 1, 0, 0, 0, .int 1), (668, .iadd, 1, 0, 0, 0, .null), (669, .iaload, 1, 0, 0, 0, .null), (670, .invokevirtual 89, 3, 120, 9101, 990, .null)]),
  (42, [(673, .aload_n 2, 1, 0, 0, 0, .null), (674, .aload_n 0, 1, 0, 0, 0, .null), (675, .iload_n 3, 1, 0, 0, 0, .null), (676, .iconst 1, 1, 0, 0, 0, .int 1), (677, .iadd, 1, 0, 0, 0, .null), (678, .iaload, 1, 0, 0, 0, .null), (679, .invokevirtual 92, 3, 218, 10101, 1669, .null), (682, .if_icmp .eq 464, 3, 1146, 0, 0, .null), (685, .iconst 0, 1, 0, 0, 0, .int 0), (686, .ireturn, 1, 0, 0, 0, .null), (687, .aload_n 1, 1, 0, 0, 0, .null)]),
  (43, [(688, .aload_n 0, 1, 0, 0, 0, .null), (689, .iload_n 3, 1, 0, 0, 0, .null), (690, .iconst 1, 1, 0, 0, 0, .int 1), (691, .iadd, 1, 0, 0, 0, .null), (692, .iaload, 1, 0, 0, 0, .null), (693, .aload_n 0, 1, 0, 0, 0, .null), (694, .iload_n 3, 1, 0, 0, 0, .null), (695, .iconst 2, 1, 0, 0, 0, .int 2), (696, .iadd, 1, 0, 0, 0, .null), (697, .iaload, 1, 0, 0, 0, .null), (698, .invokevirtual 93, 3, 121, 9202, 994, .null), (701, .aload_n 2, 1, 0, 0, 0, .null), (702, .aload_n 0, 1, 0, 0, 0, .null), (703, .iload_n 3, 1, 0, 0, 0, .null)]),
  (44, [(704, .iconst 1, 1, 0, 0, 0, .int 1), (705, .iadd, 1, 0, 0, 0, .null), (706, .iaload, 1, 0, 0, 0, .null), (707, .aload_n 0, 1, 0, 0, 0, .null), (708, .iload_n 3, 1, 0, 0, 0, .null), (709, .iconst 2, 1, 0, 0, 0, .int 2), (710, .iadd, 1, 0, 0, 0, .null), (711, .iaload, 1, 0, 0, 0, .null), (712, .invokevirtual 96, 3, 221, 10202, 1673, .null), (715, .lcmp, 1, 0, 0, 0, .null), (716, .ifCond .eq 430, 3, 1146, 0, 0, .null), (719, .iconst 0, 1, 0, 0, 0, .int 0)]),
  (45, [(720, .ireturn, 1, 0, 0, 0, .null), (721, .aload_n 1, 1, 0, 0, 0, .null), (722, .invokevirtual 97, 3, 122, 9200, 1028, .null), (725, .aload_n 2, 1, 0, 0, 0, .null), (726, .invokevirtual 100, 3, 224, 10200, 1685, .null), (729, .lcmp, 1, 0, 0, 0, .null), (730, .ifCond .eq 416, 3, 1146, 0, 0, .null), (733, .iconst 0, 1, 0, 0, 0, .int 0), (734, .ireturn, 1, 0, 0, 0, .null), (735, .aload_n 1, 1, 0, 0, 0, .null)]),
  (46, [(736, .invokevirtual 101, 3, 123, 9200, 1069, .null), (739, .aload_n 2, 1, 0, 0, 0, .null), (740, .invokevirtual 104, 3, 207, 10200, 1617, .null), (743, .lcmp, 1, 0, 0, 0, .null), (744, .ifCond .eq 402, 3, 1146, 0, 0, .null), (747, .iconst 0, 1, 0, 0, 0, .int 0), (748, .ireturn, 1, 0, 0, 0, .null), (749, .aload_n 1, 1, 0, 0, 0, .null), (750, .aload_n 0, 1, 0, 0, 0, .null), (751, .iload_n 3, 1, 0, 0, 0, .null)]),
  (47, [(752, .iconst 1, 1, 0, 0, 0, .int 1), (753, .iadd, 1, 0, 0, 0, .null), (754, .iaload, 1, 0, 0, 0, .null), (755, .aload_n 0, 1, 0, 0, 0, .null), (756, .iload_n 3, 1, 0, 0, 0, .null), (757, .iconst 2, 1, 0, 0, 0, .int 2), (758, .iadd, 1, 0, 0, 0, .null), (759, .iaload, 1, 0, 0, 0, .null), (760, .invokevirtual 105, 3, 124, 9102, 1077, .null), (763, .aload_n 2, 1, 0, 0, 0, .null), (764, .aload_n 0, 1, 0, 0, 0, .null), (765, .iload_n 3, 1, 0, 0, 0, .null), (766, .iconst 1, 1, 0, 0, 0, .int 1), (767, .iadd, 1, 0, 0, 0, .null)]),
  (48, [(768, .iaload, 1, 0, 0, 0, .null), (769, .aload_n 0, 1, 0, 0, 0, .null), (770, .iload_n 3, 1, 0, 0, 0, .null), (771, .iconst 2, 1, 0, 0, 0, .int 2), (772, .iadd, 1, 0, 0, 0, .null), (773, .iaload, 1, 0, 0, 0, .null), (774, .invokevirtual 108, 3, 208, 10102, 1621, .null), (777, .if_icmp .eq 369, 3, 1146, 0, 0, .null), (780, .iconst 0, 1, 0, 0, 0, .int 0), (781, .ireturn, 1, 0, 0, 0, .null), (782, .aload_n 1, 1, 0, 0, 0, .null), (783, .aload_n 0, 1, 0, 0, 0, .null)]),
  (49, [(784, .iload_n 3, 1, 0, 0, 0, .null), (785, .iconst 1, 1, 0, 0, 0, .int 1), (786, .iadd, 1, 0, 0, 0, .null), (787, .iaload, 1, 0, 0, 0, .null), (788, .aload_n 0, 1, 0, 0, 0, .null), (789, .iload_n 3, 1, 0, 0, 0, .null), (790, .iconst 2, 1, 0, 0, 0, .int 2), (791, .iadd, 1, 0, 0, 0, .null), (792, .iaload, 1, 0, 0, 0, .null), (793, .i2l, 1, 0, 0, 0, .null), (794, .bipush 32, 2, 0, 0, 0, .int 32), (796, .lshl, 1, 0, 0, 0, .null), (797, .aload_n 0, 1, 0, 0, 0, .null), (798, .iload_n 3, 1, 0, 0, 0, .null), (799, .iconst 3, 1, 0, 0, 0, .int 3)]),
  (50, [(800, .iadd, 1, 0, 0, 0, .null), (801, .iaload, 1, 0, 0, 0, .null), (802, .i2l, 1, 0, 0, 0, .null), (803, .ldc2_w 109, 3, 0, 0, 1811, .long 4294967295), (806, .land, 1, 0, 0, 0, .null), (807, .lor, 1, 0, 0, 0, .null), (808, .aload_n 0, 1, 0, 0, 0, .null), (809, .iload_n 3, 1, 0, 0, 0, .null), (810, .iconst 4, 1, 0, 0, 0, .int 4), (811, .iadd, 1, 0, 0, 0, .null), (812, .iaload, 1, 0, 0, 0, .null), (813, .invokevirtual 111, 3, 125, 9103, 1085, .null)]),
  (51, [(816, .aload_n 2, 1, 0, 0, 0, .null), (817, .aload_n 0, 1, 0, 0, 0, .null), (818, .iload_n 3, 1, 0, 0, 0, .null), (819, .iconst 1, 1, 0, 0, 0, .int 1), (820, .iadd, 1, 0, 0, 0, .null), (821, .iaload, 1, 0, 0, 0, .null), (822, .aload_n 0, 1, 0, 0, 0, .null), (823, .iload_n 3, 1, 0, 0, 0, .null), (824, .iconst 2, 1, 0, 0, 0, .int 2), (825, .iadd, 1, 0, 0, 0, .null), (826, .iaload, 1, 0, 0, 0, .null), (827, .i2l, 1, 0, 0, 0, .null), (828, .bipush 32, 2, 0, 0, 0, .int 32), (830, .lshl, 1, 0, 0, 0, .null), (831, .aload_n 0, 1, 0, 0, 0, .null)]),
  (52, [(832, .iload_n 3, 1, 0, 0, 0, .null), (833, .iconst 3, 1, 0, 0, 0, .int 3), (834, .iadd, 1, 0, 0, 0, .null), (835, .iaload, 1, 0, 0, 0, .null), (836, .i2l, 1, 0, 0, 0, .null), (837, .ldc2_w 109, 3, 0, 0, 1811, .long 4294967295), (840, .land, 1, 0, 0, 0, .null), (841, .lor, 1, 0, 0, 0, .null), (842, .aload_n 0, 1, 0, 0, 0, .null), (843, .iload_n 3, 1, 0, 0, 0, .null), (844, .iconst 4, 1, 0, 0, 0, .int 4), (845, .iadd, 1, 0, 0, 0, .null), (846, .iaload, 1, 0, 0, 0, .null), (847, .invokevirtual 115, 3, 228, 10103, 1697, .null)]),
  (53, [(850, .if_icmp .eq 296, 3, 1146, 0, 0, .null), (853, .iconst 0, 1, 0, 0, 0, .int 0), (854, .ireturn, 1, 0, 0, 0, .null), (855, .aload_n 1, 1, 0, 0, 0, .null), (856, .aload_n 0, 1, 0, 0, 0, .null), (857, .iload_n 3, 1, 0, 0, 0, .null), (858, .iconst 1, 1, 0, 0, 0, .int 1), (859, .iadd, 1, 0, 0, 0, .null), (860, .iaload, 1, 0, 0, 0, .null), (861, .invokevirtual 116, 3, 126, 9201, 1118, .null)]),
  (54, [(864, .aload_n 2, 1, 0, 0, 0, .null), (865, .aload_n 0, 1, 0, 0, 0, .null), (866, .iload_n 3, 1, 0, 0, 0, .null), (867, .iconst 1, 1, 0, 0, 0, .int 1), (868, .iadd, 1, 0, 0, 0, .null), (869, .iaload, 1, 0, 0, 0, .null), (870, .invokevirtual 119, 3, 229, 10201, 1714, .null), (873, .lcmp, 1, 0, 0, 0, .null), (874, .ifCond .eq 272, 3, 1146, 0, 0, .null), (877, .iconst 0, 1, 0, 0, 0, .int 0), (878, .ireturn, 1, 0, 0, 0, .null), (879, .aload_n 1, 1, 0, 0, 0, .null)]),
  (55, [(880, .aload_n 0, 1, 0, 0, 0, .null), (881, .iload_n 3, 1, 0, 0, 0, .null), (882, .iconst 1, 1, 0, 0, 0, .int 1), (883, .iadd, 1, 0, 0, 0, .null), (884, .iaload, 1, 0, 0, 0, .null), (885, .invokevirtual 120, 3, 128, 9201, 1126, .null), (888, .aload_n 2, 1, 0, 0, 0, .null), (889, .aload_n 0, 1, 0, 0, 0, .null), (890, .iload_n 3, 1, 0, 0, 0, .null), (891, .iconst 1, 1, 0, 0, 0, .int 1), (892, .iadd, 1, 0, 0, 0, .null), (893, .iaload, 1, 0, 0, 0, .null), (894, .invokevirtual 123, 3, 236, 10201, 1718, .null)]),
  (56, [(897, .lcmp, 1, 0, 0, 0, .null), (898, .ifCond .eq 248, 3, 1146, 0, 0, .null), (901, .iconst 0, 1, 0, 0, 0, .int 0), (902, .ireturn, 1, 0, 0, 0, .null), (903, .aload_n 1, 1, 0, 0, 0, .null), (904, .aload_n 0, 1, 0, 0, 0, .null), (905, .iload_n 3, 1, 0, 0, 0, .null), (906, .iconst 1, 1, 0, 0, 0, .int 1), (907, .iadd, 1, 0, 0, 0, .null), (908, .iaload, 1, 0, 0, 0, .null), (909, .invokevirtual 124, 3, 129, 9201, 1134, .null)]),
  (57, [(912, .aload_n 2, 1, 0, 0, 0, .null), (913, .aload_n 0, 1, 0, 0, 0, .null), (914, .iload_n 3, 1, 0, 0, 0, .null), (915, .iconst 1, 1, 0, 0, 0, .int 1), (916, .iadd, 1, 0, 0, 0, .null), (917, .iaload, 1, 0, 0, 0, .null), (918, .invokevirtual 127, 3, 237, 10201, 1746, .null), (921, .lcmp, 1, 0, 0, 0, .null), (922, .ifCond .eq 224, 3, 1146, 0, 0, .null), (925, .iconst 0, 1, 0, 0, 0, .int 0), (926, .ireturn, 1, 0, 0, 0, .null), (927, .aload_n 1, 1, 0, 0, 0, .null)]),
  (58, [(928, .aload_n 0, 1, 0, 0, 0, .null), (929, .iload_n 3, 1, 0, 0, 0, .null), (930, .iconst 1, 1, 0, 0, 0, .int 1), (931, .iadd, 1, 0, 0, 0, .null), (932, .iaload, 1, 0, 0, 0, .null), (933, .aload_n 0, 1, 0, 0, 0, .null), (934, .iload_n 3, 1, 0, 0, 0, .null), (935, .iconst 2, 1, 0, 0, 0, .int 2), (936, .iadd, 1, 0, 0, 0, .null), (937, .iaload, 1, 0, 0, 0, .null), (938, .invokevirtual 128, 3, 130, 9102, 1138, .null), (941, .aload_n 2, 1, 0, 0, 0, .null), (942, .aload_n 0, 1, 0, 0, 0, .null), (943, .iload_n 3, 1, 0, 0, 0, .null)]),
  (59, [(944, .iconst 1, 1, 0, 0, 0, .int 1), (945, .iadd, 1, 0, 0, 0, .null), (946, .iaload, 1, 0, 0, 0, .null), (947, .aload_n 0, 1, 0, 0, 0, .null), (948, .iload_n 3, 1, 0, 0, 0, .null), (949, .iconst 2, 1, 0, 0, 0, .int 2), (950, .iadd, 1, 0, 0, 0, .null), (951, .iaload, 1, 0, 0, 0, .null), (952, .invokevirtual 131, 3, 244, 10102, 1750, .null), (955, .if_icmp .eq 191, 3, 1146, 0, 0, .null), (958, .iconst 0, 1, 0, 0, 0, .int 0), (959, .ireturn, 1, 0, 0, 0, .null)]),
  (60, [(960, .aload_n 1, 1, 0, 0, 0, .null), (961, .aload_n 0, 1, 0, 0, 0, .null), (962, .iload_n 3, 1, 0, 0, 0, .null), (963, .iconst 1, 1, 0, 0, 0, .int 1), (964, .iadd, 1, 0, 0, 0, .null), (965, .iaload, 1, 0, 0, 0, .null), (966, .aload_n 0, 1, 0, 0, 0, .null), (967, .iload_n 3, 1, 0, 0, 0, .null), (968, .iconst 2, 1, 0, 0, 0, .int 2), (969, .iadd, 1, 0, 0, 0, .null), (970, .iaload, 1, 0, 0, 0, .null), (971, .invokevirtual 132, 3, 131, 9202, 1164, .null), (974, .aload_n 2, 1, 0, 0, 0, .null), (975, .aload_n 0, 1, 0, 0, 0, .null)]),
  (61, [(976, .iload_n 3, 1, 0, 0, 0, .null), (977, .iconst 1, 1, 0, 0, 0, .int 1), (978, .iadd, 1, 0, 0, 0, .null), (979, .iaload, 1, 0, 0, 0, .null), (980, .aload_n 0, 1, 0, 0, 0, .null), (981, .iload_n 3, 1, 0, 0, 0, .null), (982, .iconst 2, 1, 0, 0, 0, .int 2), (983, .iadd, 1, 0, 0, 0, .null), (984, .iaload, 1, 0, 0, 0, .null), (985, .invokevirtual 135, 3, 245, 10202, 1778, .null), (988, .lcmp, 1, 0, 0, 0, .null), (989, .ifCond .eq 157, 3, 1146, 0, 0, .null)]),
  (62, [(992, .iconst 0, 1, 0, 0, 0, .int 0), (993, .ireturn, 1, 0, 0, 0, .null), (994, .aload_n 1, 1, 0, 0, 0, .null), (995, .aload_n 0, 1, 0, 0, 0, .null), (996, .iload_n 3, 1, 0, 0, 0, .null), (997, .iconst 1, 1, 0, 0, 0, .int 1), (998, .iadd, 1, 0, 0, 0, .null), (999, .iaload, 1, 0, 0, 0, .null), (1000, .invokevirtual 136, 3, 132, 9101, 1169, .null), (1003, .aload_n 2, 1, 0, 0, 0, .null), (1004, .aload_n 0, 1, 0, 0, 0, .null), (1005, .iload_n 3, 1, 0, 0, 0, .null), (1006, .iconst 1, 1, 0, 0, 0, .int 1), (1007, .iadd, 1, 0, 0, 0, .null)]),
  (63, [(1008, .iaload, 1, 0, 0, 0, .null), (1009, .invokevirtual 139, 3, 246, 10101, 1783, .null), (1012, .if_icmp .eq 134, 3, 1146, 0, 0, .null), (1015, .iconst 0, 1, 0, 0, 0, .int 0), (1016, .ireturn, 1, 0, 0, 0, .null), (1017, .aload_n 1, 1, 0, 0, 0, .null), (1018, .aload_n 0, 1, 0, 0, 0, .null), (1019, .iload_n 3, 1, 0, 0, 0, .null), (1020, .iconst 1, 1, 0, 0, 0, .int 1), (1021, .iadd, 1, 0, 0, 0, .null), (1022, .iaload, 1, 0, 0, 0, .null), (1023, .invokevirtual 140, 3, 133, 9101, 1173, .null)]),
  (64, [(1026, .aload_n 2, 1, 0, 0, 0, .null), (1027, .aload_n 0, 1, 0, 0, 0, .null), (1028, .iload_n 3, 1, 0, 0, 0, .null), (1029, .iconst 1, 1, 0, 0, 0, .int 1), (1030, .iadd, 1, 0, 0, 0, .null), (1031, .iaload, 1, 0, 0, 0, .null), (1032, .invokevirtual 143, 3, 248, 10101, 1788, .null), (1035, .if_icmp .eq 111, 3, 1146, 0, 0, .null), (1038, .iconst 0, 1, 0, 0, 0, .int 0), (1039, .ireturn, 1, 0, 0, 0, .null)]),
  (65, [(1040, .aload_n 1, 1, 0, 0, 0, .null), (1041, .aload_n 0, 1, 0, 0, 0, .null), (1042, .iload_n 3, 1, 0, 0, 0, .null), (1043, .iconst 1, 1, 0, 0, 0, .int 1), (1044, .iadd, 1, 0, 0, 0, .null), (1045, .iaload, 1, 0, 0, 0, .null), (1046, .invokevirtual 144, 3, 134, 9201, 1192, .null), (1049, .aload_n 2, 1, 0, 0, 0, .null), (1050, .aload_n 0, 1, 0, 0, 0, .null), (1051, .iload_n 3, 1, 0, 0, 0, .null), (1052, .iconst 1, 1, 0, 0, 0, .int 1), (1053, .iadd, 1, 0, 0, 0, .null), (1054, .iaload, 1, 0, 0, 0, .null), (1055, .invokevirtual 147, 3, 249, 10201, 1799, .null)]),
  (66, [(1058, .lcmp, 1, 0, 0, 0, .null), (1059, .ifCond .eq 87, 3, 1146, 0, 0, .null), (1062, .iconst 0, 1, 0, 0, 0, .int 0), (1063, .ireturn, 1, 0, 0, 0, .null), (1064, .aload_n 1, 1, 0, 0, 0, .null), (1065, .aload_n 0, 1, 0, 0, 0, .null), (1066, .iload_n 3, 1, 0, 0, 0, .null), (1067, .iconst 1, 1, 0, 0, 0, .int 1), (1068, .iadd, 1, 0, 0, 0, .null), (1069, .iaload, 1, 0, 0, 0, .null), (1070, .invokevirtual 148, 3, 135, 9101, 1196, .null)]),
  (67, [(1073, .aload_n 2, 1, 0, 0, 0, .null), (1074, .aload_n 0, 1, 0, 0, 0, .null), (1075, .iload_n 3, 1, 0, 0, 0, .null), (1076, .iconst 1, 1, 0, 0, 0, .int 1), (1077, .iadd, 1, 0, 0, 0, .null), (1078, .iaload, 1, 0, 0, 0, .null), (1079, .invokevirtual 151, 3, 151, 10101, 1376, .null), (1082, .if_icmp .eq 64, 3, 1146, 0, 0, .null), (1085, .iconst 0, 1, 0, 0, 0, .int 0), (1086, .ireturn, 1, 0, 0, 0, .null), (1087, .aload_n 1, 1, 0, 0, 0, .null)]),
  (68, [(1088, .aload_n 0, 1, 0, 0, 0, .null), (1089, .iload_n 3, 1, 0, 0, 0, .null), (1090, .iconst 1, 1, 0, 0, 0, .int 1), (1091, .iadd, 1, 0, 0, 0, .null), (1092, .iaload, 1, 0, 0, 0, .null), (1093, .invokevirtual 152, 3, 136, 9101, 1206, .null), (1096, .aload_n 2, 1, 0, 0, 0, .null), (1097, .aload_n 0, 1, 0, 0, 0, .null), (1098, .iload_n 3, 1, 0, 0, 0, .null), (1099, .iconst 1, 1, 0, 0, 0, .int 1), (1100, .iadd, 1, 0, 0, 0, .null), (1101, .iaload, 1, 0, 0, 0, .null), (1102, .invokevirtual 155, 3, 152, 10101, 1391, .null)]),
  (69, [(1105, .if_icmp .eq 41, 3, 1146, 0, 0, .null), (1108, .iconst 0, 1, 0, 0, 0, .int 0), (1109, .ireturn, 1, 0, 0, 0, .null), (1110, .aload_n 1, 1, 0, 0, 0, .null), (1111, .aload_n 0, 1, 0, 0, 0, .null), (1112, .iload_n 3, 1, 0, 0, 0, .null), (1113, .iconst 1, 1, 0, 0, 0, .int 1), (1114, .iadd, 1, 0, 0, 0, .null), (1115, .iaload, 1, 0, 0, 0, .null), (1116, .invokevirtual 156, 3, 137, 9101, 1210, .null), (1119, .aload_n 2, 1, 0, 0, 0, .null)]),
  (70, [(1120, .aload_n 0, 1, 0, 0, 0, .null), (1121, .iload_n 3, 1, 0, 0, 0, .null), (1122, .iconst 1, 1, 0, 0, 0, .int 1), (1123, .iadd, 1, 0, 0, 0, .null), (1124, .iaload, 1, 0, 0, 0, .null), (1125, .invokevirtual 159, 3, 250, 10101, 1803, .null), (1128, .if_icmp .eq 18, 3, 1146, 0, 0, .null), (1131, .iconst 0, 1, 0, 0, 0, .int 0), (1132, .ireturn, 1, 0, 0, 0, .null), (1133, .aload_n 1, 1, 0, 0, 0, .null), (1134, .invokevirtual 160, 3, 138, 9100, 1218, .null)]),
  (71, [(1137, .aload_n 2, 1, 0, 0, 0, .null), (1138, .invokevirtual 163, 3, 251, 10100, 1807, .null), (1141, .if_icmp .eq 5, 3, 1146, 0, 0, .null), (1144, .iconst 0, 1, 0, 0, 0, .int 0), (1145, .ireturn, 1, 0, 0, 0, .null), (1146, .iinc 3 6, 3, 0, 0, 0, .int 6), (1149, .goto (-1131), 3, 18, 0, 0, .null)]),
  (72, [(1152, .iconst 1, 1, 0, 0, 0, .int 1), (1153, .ireturn, 1, 0, 0, 0, .null)])]
def uL_law : List (Nat × List Nat) := [(18, [0, 1, 2, 3]), (1146, [0, 1, 2, 3])]
end
section
/-! WHERE THE SMALL MACHINE'S CELLS LIE in the machine's heap -/
def tblG : List Cond := lw_tbl.filter goodWord
/-- the words by their places, table by table -/
def am_tblAt (k : Nat) : Option Cond :=
  bif Nat.ble 121 k then (bif Nat.ble 361 k then (bif Nat.ble 601 k then (bif Nat.ble 841 k then (bif Nat.ble 1081 k then (bif Nat.ble 1321 k then (bif Nat.ble 1561 k then (bif Nat.ble 1801 k then tables_1_8[k - 1801]? else tables_1_7[k - 1561]?) else tables_1_6[k - 1321]?) else tables_1_5[k - 1081]?) else tables_1_4[k - 841]?) else tables_1_3[k - 601]?) else tables_1_2[k - 361]?) else tables_1_1[k - 121]?) else (k2_sels lw_privs)[k]?
theorem am_tblAt_mem {k : Nat} {w : Cond} (h : am_tblAt k = some w) : w ∈ lw_tbl := by
  have hd : lw_tbl = k2_sels lw_privs ++ (tables_1_1 ++ (tables_1_2 ++ (tables_1_3 ++ (tables_1_4 ++ (tables_1_5 ++ (tables_1_6 ++ (tables_1_7 ++ tables_1_8))))))) := rfl
  unfold am_tblAt at h
  simp only [hd, List.mem_append]
  cases h1 : Nat.ble 121 k <;> rw [h1] at h <;> simp only [cond_true, cond_false] at h
  · exact Or.inl (List.mem_of_getElem? h)
  cases h2 : Nat.ble 361 k <;> rw [h2] at h <;> simp only [cond_true, cond_false] at h
  · exact Or.inr (Or.inl (List.mem_of_getElem? h))
  cases h3 : Nat.ble 601 k <;> rw [h3] at h <;> simp only [cond_true, cond_false] at h
  · exact Or.inr (Or.inr (Or.inl (List.mem_of_getElem? h)))
  cases h4 : Nat.ble 841 k <;> rw [h4] at h <;> simp only [cond_true, cond_false] at h
  · exact Or.inr (Or.inr (Or.inr (Or.inl (List.mem_of_getElem? h))))
  cases h5 : Nat.ble 1081 k <;> rw [h5] at h <;> simp only [cond_true, cond_false] at h
  · exact Or.inr (Or.inr (Or.inr (Or.inr (Or.inl (List.mem_of_getElem? h)))))
  cases h6 : Nat.ble 1321 k <;> rw [h6] at h <;> simp only [cond_true, cond_false] at h
  · exact Or.inr (Or.inr (Or.inr (Or.inr (Or.inr (Or.inl (List.mem_of_getElem? h))))))
  cases h7 : Nat.ble 1561 k <;> rw [h7] at h <;> simp only [cond_true, cond_false] at h
  · exact Or.inr (Or.inr (Or.inr (Or.inr (Or.inr (Or.inr (Or.inl (List.mem_of_getElem? h)))))))
  cases h8 : Nat.ble 1801 k <;> rw [h8] at h <;> simp only [cond_true, cond_false] at h
  · exact Or.inr (Or.inr (Or.inr (Or.inr (Or.inr (Or.inr (Or.inr (Or.inl (List.mem_of_getElem? h))))))))
  · exact Or.inr (Or.inr (Or.inr (Or.inr (Or.inr (Or.inr (Or.inr (Or.inr (List.mem_of_getElem? h))))))))
def am_has (k : Nat) (w : Cond) : Bool := match am_tblAt k with
  | some w' => decide (w' = w) && goodWord w
  | none => false
theorem am_has_mem {k : Nat} {w : Cond} (h : am_has k w = true) : w ∈ tblG := by
  unfold am_has at h
  split at h
  · rename_i w' hw
    simp only [Bool.and_eq_true, decide_eq_true_eq] at h
    obtain ⟨rfl, hg⟩ := h
    exact List.mem_filter.mpr ⟨am_tblAt_mem hw, hg⟩
  · cases h
theorem tblG_good {w : Cond} (h : w ∈ tblG) : (w.onTables && w.keeps) = true ∨ ∃ ty, w = .arrayClass ty := good_of_word (List.mem_filter.mp h).2
def so_V (r : Nat → Nat) : Value → Value
  | .ref a => .ref (r a)
  | v => v
theorem so_V_cat (r : Nat → Nat) (v : Value) : (so_V r v).category = v.category := by cases v <;> rfl
theorem so_V_int (r : Nat → Nat) (x : Int32) : so_V r (.int x) = .int x := rfl
def so_L (r : Nat → Nat) (l : LV) : LV := l.map (fun q => (q.1, so_V r q.2))
theorem am_look_mem {α : Type} {l : List (Nat × α)} {i : Nat} {v : α} (h : am_look l i = some v) : (i, v) ∈ l := by
  induction l with
  | nil => cases h
  | cons q l ih =>
    unfold am_look at h
    cases hb : Nat.beq q.1 i with
    | true =>
      rw [hb] at h
      cases h
      have := Nat.eq_of_beq_eq_true hb
      subst this
      exact List.mem_cons_self
    | false =>
      rw [hb] at h
      exact List.mem_cons_of_mem _ (ih h)
theorem so_look {r : Nat → Nat} {l : LV} {i : Nat} {v : Value} (h : am_look l i = some v) {ls : Array Slot} {nL : Nat} (hl : lv_has ls nL (so_L r l)) : ls[i]? = some (.val (so_V r v)) :=
  hl.2.2 (i, so_V r v) (List.mem_map.mpr ⟨(i, v), am_look_mem h, rfl⟩)
theorem so_s1 (r : Nat → Nat) (l : LV) (i : Nat) (v : Value) : (i, so_V r v) :: (so_L r l).filter (fun q => !(q.1 == i) && !(q.1 + 1 == i && q.2.category == 2)) = so_L r (am_s1 l i v) := by
  simp [am_s1, so_L, List.filter_map, Function.comp_def, so_V_cat]
theorem so_s2 (r : Nat → Nat) (l : LV) (i : Nat) (v : Value) : (i, so_V r v) :: (so_L r l).filter (fun q => !(q.1 == i) && (!(q.1 == i + 1) && !(q.1 + 1 == i && q.2.category == 2))) = so_L r (am_s2 l i v) := by
  simp [am_s2, so_L, List.filter_map, Function.comp_def, so_V_cat]
theorem am_pick_sub : ∀ (live : List Nat) (l l' : LV), am_pick live l = some l' → ∀ q ∈ l', q ∈ l := by
  intro live
  induction live with
  | nil =>
    intro l l' h q hq
    cases h
    cases hq
  | cons i is ih =>
    intro l l' h q hq
    unfold am_pick at h
    split at h
    · cases h
    · rename_i v hv
      split at h
      · cases h
      · rename_i r' hr
        cases h
        rcases List.mem_cons.mp hq with rfl | hq
        · exact am_look_mem hv
        · exact ih l r' hr q hq
theorem so_pick {r : Nat → Nat} {live : List Nat} {l l' : LV} (h : am_pick live l = some l') {ls : Array Slot} {nL : Nat} (hl : lv_has ls nL (so_L r l)) : lv_has ls nL (so_L r l') := by
  refine ⟨hl.1, hl.2.1, fun q hq => ?_⟩
  obtain ⟨p, hp, rfl⟩ := List.mem_map.mp hq
  exact hl.2.2 _ (List.mem_map.mpr ⟨p, am_pick_sub _ _ _ h p hp, rfl⟩)
def so_A (B : Nat) : Nat → Prop := fun q => B ≤ q
def so_AR (U : State) (ty : FieldType) (n : Nat) (V : Nat → Value) (cell : Cell) : Prop :=
  U.isArrayOf cell ty ∧ cell.vm ≠ .unknown ∧ n ≤ cell.slots.size ∧ cell.slots.size.toInt32 = Int32.ofNat n ∧ ∀ j, j < n → cell.slots[j]? = some (V j)
def so_cell (D : va_G) (r : Nat → Nat) (B : Nat) (U : State) (c : AC) (t : Nat) (H : Heap) : Prop :=
  (c.1 < 11 ∧ (∃ q, vwCl[c.1]? = some q ∧ q.2.2 = c.2.1) ∧ t_OB t (D.1 c.1) c.2.1 (D.2 c.1) H (fun k => so_V r (c.2.2 k)))
  ∨ (c.1 = 11 ∧ c.2.1 = 2 ∧ va_O "java/lang/String" t (so_A B) U H ∧ va_OF "java/lang/String" "value" "[B" (so_V r (c.2.2 0)) t (so_A B) U H ∧ va_OF "java/lang/String" "coder" "B" (so_V r (c.2.2 1)) t (so_A B) U H)
  ∨ ((100 ≤ c.1 ∧ c.1 < 105) ∧ ∃ cell : Cell, H[t]? = some cell ∧ so_AR U (am_aty c.1) c.2.1 (fun k => so_V r (c.2.2 k)) cell ∧ (c.1 = 104 → va_RA U cell.cls (.object "ForgetfulRider$Book")))
theorem so_cell.moved {D : va_G} {r : Nat → Nat} {B : Nat} {u U : State} {c : AC} {t : Nat} {H : Heap} (hvm : u.vm.Alike U.vm) (h : so_cell D r B u c t H) : so_cell D r B U c t H := by
  rcases h with h | ⟨h1, h2, h3, h4, h5⟩ | ⟨h1, cell, h2, ⟨h3, h3'⟩, h4⟩
  · exact Or.inl h
  · exact Or.inr (Or.inl ⟨h1, h2, h3.moved hvm, h4.moved hvm, h5.moved hvm⟩)
  · exact Or.inr (Or.inr ⟨h1, cell, h2, ⟨State.isArrayOf_alike hvm h3, h3'⟩, fun z => (h4 z).moved hvm⟩)
theorem so_OF_kept {o n d : String} {v : Value} {t : Nat} {A : Nat → Prop} {U : State} {H H1 : Heap} (hq : H1[t]? = H[t]?) (h : va_OF o n d v t A U H) : va_OF o n d v t A U H1 := by
  obtain ⟨cf, k, i, f, cell, h1, h2, h3, h4⟩ := h
  exact ⟨cf, k, i, f, cell, h1, h2, hq.trans h3, h4⟩
theorem so_cell.kept {D : va_G} {r : Nat → Nat} {B : Nat} {U : State} {c : AC} {t : Nat} {H H1 : Heap} (hq : H1[t]? = H[t]?) (h : so_cell D r B U c t H) : so_cell D r B U c t H1 := by
  rcases h with ⟨h1, h2, h3⟩ | ⟨h1, h2, ⟨cell, h3, h3'⟩, h4, h5⟩ | ⟨h1, cell, h2, h3⟩
  · exact Or.inl ⟨h1, h2, h3.kept hq⟩
  · exact Or.inr (Or.inl ⟨h1, h2, ⟨cell, hq.trans h3, h3'⟩, so_OF_kept hq h4, so_OF_kept hq h5⟩)
  · exact Or.inr (Or.inr ⟨h1, cell, hq.trans h2, h3⟩)
theorem so_cell.lt {D : va_G} {r : Nat → Nat} {B : Nat} {U : State} {c : AC} {t : Nat} {H : Heap} (h : so_cell D r B U c t H) : t < H.size := by
  rcases h with ⟨-, -, cell, h, -⟩ | ⟨-, -, ⟨cell, h, -⟩, -⟩ | ⟨-, cell, h, -⟩ <;> exact (Array.getElem?_eq_some_iff.mp h).1
def so_Z (r : Nat → Nat) (B : Nat) (U : State) (H : Heap) : Prop :=
  va_Z "ForgetfulRider" "LEAST_TERM" "[I" (.ref (r 26)) (so_A B) U H ∧ va_Z "ForgetfulRider" "MOST_TERM" "[I" (.ref (r 27)) (so_A B) U H ∧ va_Z "java/lang/String" "COMPACT_STRINGS" "Z" (.int 1) (so_A B) U H ∧ va_Zq "jdk/internal/util/Preconditions" "SIOOBE_FORMATTER" "Ljava/util/function/BiFunction;" (so_A B) U H
def so_P (D : va_G) (r : Nat → Nat) (B : Nat) (h : AH) (U : State) (H : Heap) : Prop :=
  so_Z r B U H ∧ (am_old ≤ h.1 ∧ H.size = B + (h.1 - am_old) ∧ (∀ a, a < am_old → r a < B) ∧ ∀ a, am_old ≤ a → r a = B + (a - am_old)) ∧ ∀ a, a < h.1 → so_cell D r B U (h.2.2 a) (r a) H
theorem so_Z.moved {r : Nat → Nat} {B : Nat} {u U : State} {H : Heap} (hvm : u.vm.Alike U.vm) (h : so_Z r B u H) : so_Z r B U H := ⟨h.1.moved hvm, h.2.1.moved hvm, h.2.2.1.moved hvm, h.2.2.2.moved hvm⟩
theorem so_Z.kept {r : Nat → Nat} {B : Nat} {U : State} {H H1 : Heap} (h : so_Z r B U H) (hq : ∀ a : Nat, a < H.size → ¬ so_A B a → H1[a]? = H[a]?) : so_Z r B U H1 := ⟨h.1.kept hq, h.2.1.kept hq, h.2.2.1.kept hq, h.2.2.2.kept hq⟩
theorem so_P.moved {D : va_G} {r : Nat → Nat} {B : Nat} {h : AH} {u U : State} {H : Heap} (hvm : u.vm.Alike U.vm) (hP : so_P D r B h u H) : so_P D r B h U H := ⟨hP.1.moved hvm, hP.2.1, fun a ha => (hP.2.2 a ha).moved hvm⟩
theorem so_ne {r : Nat → Nat} {B n a b : Nat} (h : (∀ a, a < n → r a < B) ∧ ∀ a, n ≤ a → r a = B + (a - n)) (ha : n ≤ a) (hab : b ≠ a) : r b ≠ r a := by
  have h1 := h.2 a ha
  by_cases hb : b < n
  · have := h.1 b hb
    omega
  · have := h.2 b (by omega)
    omega
theorem so_A_of {D : va_G} {r : Nat → Nat} {B : Nat} {h : AH} {U : State} {H : Heap} (hP : so_P D r B h U H) {a : Nat} (ha : am_old ≤ a) : so_A B (r a) := by
  have h1 := hP.2.1.2.2.2 a ha
  show B ≤ r a
  rw [h1]
  exact Nat.le_add_right _ _
theorem so_P.set {D : va_G} {r : Nat → Nat} {B : Nat} {h : AH} {U : State} {H H1 : Heap} (hP : so_P D r B h U H) {a : Nat} (ha : am_old ≤ a) {c : AC} (z : H1.size = H.size) (oq : ∀ q : Nat, q ≠ r a → H1[q]? = H[q]?) (hc : so_cell D r B U c (r a) H1) : so_P D r B (am_set h a c) U H1 := by
  have hA := so_A_of hP ha
  obtain ⟨hZ, ⟨h1, h2, h3⟩, h4⟩ := hP
  refine ⟨hZ.kept fun q _ hq => oq q (fun e => hq (e ▸ hA)), ⟨h1, by rw [z]; exact h2, h3⟩, fun b hb => ?_⟩
  show so_cell D r B U (va_up h.2.2 a c b) (r b) H1
  by_cases hab : b = a
  · subst hab
    simp only [va_up, if_true]
    exact hc
  · simp only [va_up, if_neg hab]
    exact (h4 b hb).kept (oq _ (so_ne h3 ha hab))
theorem so_P.new {D : va_G} {r : Nat → Nat} {B : Nat} {h : AH} {U : State} {H H1 : Heap} (hP : so_P D r B h U H) {c : AC} (z : H1.size = H.size + 1) (oq : ∀ q : Nat, q < H.size → H1[q]? = H[q]?) (hc : so_cell D r B U c H.size H1) : so_P D r B (am_new h c) U H1 ∧ r h.1 = H.size := by
  obtain ⟨hZ, ⟨h1, h2, h3⟩, h4⟩ := hP
  have hr : r h.1 = H.size := by rw [h3.2 h.1 h1, h2]
  refine ⟨⟨hZ.kept fun q hq _ => oq q hq, ⟨Nat.le_succ_of_le h1, ?_, h3⟩, fun b hb => ?_⟩, hr⟩
  · show H1.size = B + (h.1 + 1 - am_old)
    rw [z, h2]
    have : am_old ≤ h.1 := h1
    omega
  · show so_cell D r B U (va_up h.2.2 h.1 c b) (r b) H1
    by_cases hab : b = h.1
    · subst hab
      simp only [va_up, if_true]
      rw [hr]
      exact hc
    · simp only [va_up, if_neg hab]
      have hb' : b < h.1 := by
        have : b < h.1 + 1 := hb
        omega
      exact (h4 b hb').kept (oq _ (h4 b hb').lt)
def so_si : List (Nat × String) := [(88, "fork"), (118, "to"), (97, "turn"), (124, "by"), (102, "inn"), (107, "end"), (177, "step"), (182, "place"), (183, "day"), (135, "if"), (160, "not"), (158, "and"), (143, "or")]
def so_ns : List (String × Nat × MethodName) := [(RX9, 22, yX3_init), (RX9, 38, yX0_init), (RX0, 9, yX3_init), (RX9, 53, yX7_init)]
def so_K (D : va_G) (r : Nat → Nat) (U : State) : Prop :=
  (∀ (c : Nat) (q : vw_C), vwCl[c]? = some q → u_Kn U q.1 q.2.1 q.2.2 (D.1 c) (D.2 c)) ∧ (∀ (i : Nat) (q : Nat × String), so_si[i]? = some q → vk_R RX5 q.1 q.2 (r i) U) ∧ ∀ q ∈ so_ns, va_Nw (.methodLinkNest q.1 q.2.1 q.2.2 "ForgetfulRider") U
theorem so_K.warm {D : va_G} {r : Nat → Nat} {s U : State} (hW : s.WarmedH U.vm) (h : so_K D r s) : so_K D r U := ⟨fun c q hq => u_Kn_moved hW.alike (h.1 c q hq), fun i q hi => (h.2.1 i q hi).warm hW, fun q hq => va_Nw.warmM hW (h.2.2 q hq)⟩
theorem so_K.same {D : va_G} {r : Nat → Nat} {s U : State} (hv : U.vm = s.vm) (h : so_K D r s) : so_K D r U := ⟨fun c q hq => u_Kn_moved (by rw [hv]; exact Vm.Alike.refl _) (h.1 c q hq), fun i q hi => (h.2.1 i q hi).same hv, fun q hq => va_Nw.same rfl hv.symm (h.2.2 q hq)⟩
/-- the facts of the classes, by their numbers -/
theorem so_cls {P : Nat → vw_C → Prop} (h0 : P 0 (RX0, TX0, 3)) (h1 : P 1 (RX1, TX1, 11)) (h2 : P 2 (RX2, TX2, 7)) (h3 : P 3 (RX3, TX3, 11)) (h4 : P 4 (RX4, TX4, 7)) (h5 : P 5 (RX5, TX5, 10)) (h6 : P 6 (RX6, TX6, 10)) (h7 : P 7 (RX7, TX7, 4)) (h8 : P 8 (RX8, TX8, 5)) (h9 : P 9 (RX9, TX9, 16)) (h10 : P 10 (RX10, TX10, 49)) : ∀ (ci : Nat) (q : vw_C), vwCl[ci]? = some q → P ci q := by
  intro ci q hq
  match ci, hq with
  | 0, hq => cases hq; exact h0
  | 1, hq => cases hq; exact h1
  | 2, hq => cases hq; exact h2
  | 3, hq => cases hq; exact h3
  | 4, hq => cases hq; exact h4
  | 5, hq => cases hq; exact h5
  | 6, hq => cases hq; exact h6
  | 7, hq => cases hq; exact h7
  | 8, hq => cases hq; exact h8
  | 9, hq => cases hq; exact h9
  | 10, hq => cases hq; exact h10
  | k + 11, hq => simp [vwCl] at hq
theorem so_ty : ∀ (ci : Nat) (q : vw_C), vwCl[ci]? = some q → ∀ k, k < q.2.2 → parseFieldDescriptor (q.2.1 k).2.2.1 = some (am_fty ci k) := so_cls (P := fun ci q => ∀ k, k < q.2.2 → parseFieldDescriptor (q.2.1 k).2.2.1 = some (am_fty ci k)) tyX0_ok tyX1_ok tyX2_ok tyX3_ok tyX4_ok tyX5_ok tyX6_ok tyX7_ok tyX8_ok tyX9_ok tyX10_ok
theorem so_nm : ∀ (ci : Nat) (q : vw_C), vwCl[ci]? = some q → ∀ a, a < q.2.2 → ∀ b, b < q.2.2 → a ≠ b → (q.2.1 a).2.1 ≠ (q.2.1 b).2.1 := so_cls (P := fun _ q => ∀ a, a < q.2.2 → ∀ b, b < q.2.2 → a ≠ b → (q.2.1 a).2.1 ≠ (q.2.1 b).2.1) nmX0 nmX1 nmX2 nmX3 nmX4 nmX5 nmX6 nmX7 nmX8 nmX9 nmX10
theorem so_in_X0 : ((List.range 3).zip [293, 295, 297]).all (fun q => am_has q.2 (u_lay RX0 TX0 q.1)) = true := by decide +kernel
theorem so_in_X1 : ((List.range 11).zip [356, 358, 360, 362, 364, 366, 368, 370, 372, 374, 376]).all (fun q => am_has q.2 (u_lay RX1 TX1 q.1)) = true := by decide +kernel
theorem so_in_X2 : ((List.range 7).zip [460, 462, 464, 466, 468, 470, 472]).all (fun q => am_has q.2 (u_lay RX2 TX2 q.1)) = true := by decide +kernel
theorem so_in_X3 : ((List.range 11).zip [209, 211, 213, 215, 217, 219, 221, 223, 225, 227, 229]).all (fun q => am_has q.2 (u_lay RX3 TX3 q.1)) = true := by decide +kernel
theorem so_in_X4 : ((List.range 7).zip [429, 431, 433, 435, 437, 439, 441]).all (fun q => am_has q.2 (u_lay RX4 TX4 q.1)) = true := by decide +kernel
theorem so_in_X5 : ((List.range 10).zip [250, 252, 254, 256, 258, 260, 262, 264, 266, 268]).all (fun q => am_has q.2 (u_lay RX5 TX5 q.1)) = true := by decide +kernel
theorem so_in_X6 : ((List.range 10).zip [395, 397, 399, 401, 403, 405, 407, 409, 411, 413]).all (fun q => am_has q.2 (u_lay RX6 TX6 q.1)) = true := by decide +kernel
theorem so_in_X7 : ((List.range 4).zip [311, 313, 315, 317]).all (fun q => am_has q.2 (u_lay RX7 TX7 q.1)) = true := by decide +kernel
theorem so_in_X8 : ((List.range 5).zip [489, 491, 493, 495, 497]).all (fun q => am_has q.2 (u_lay RX8 TX8 q.1)) = true := by decide +kernel
theorem so_in_X9 : ((List.range 16).zip [516, 518, 520, 522, 524, 526, 528, 530, 532, 534, 536, 538, 540, 542, 544, 546]).all (fun q => am_has q.2 (u_lay RX9 TX9 q.1)) = true := by decide +kernel
theorem so_in_X10 : ((List.range 49).zip [1277, 1279, 1281, 1283, 1285, 1287, 1289, 1291, 1293, 1295, 1297, 1299, 1301, 1303, 1305, 1307, 1309, 1311, 1313, 1315, 1317, 1319, 1321, 1323, 1325, 1327, 1329, 1331, 1333, 1335, 1337, 1339, 1341, 1343, 1345, 1347, 1349, 1351, 1353, 1355, 1357, 1359, 1361, 1363, 1365, 1367, 1369, 1371, 1373]).all (fun q => am_has q.2 (u_lay RX10 TX10 q.1)) = true := by decide +kernel
theorem so_in_of {C : String} {T : u_T} {N : Nat} {ps : List Nat} (hl : ps.length = N) (h : ((List.range N).zip ps).all (fun q => am_has q.2 (u_lay C T q.1)) = true) : ∀ w ∈ u_ws C T N, w ∈ tblG := by
  intro w hw
  obtain ⟨k, hk, rfl⟩ := List.mem_map.mp hw
  have hk' : k < N := List.mem_range.mp hk
  have hm : (k, ps[k]'(by omega)) ∈ (List.range N).zip ps := by
    have : ((List.range N).zip ps)[k]? = some (k, ps[k]'(by omega)) := by
      rw [List.getElem?_zip_eq_some]
      exact ⟨by simp [hk'], List.getElem?_eq_getElem (by omega)⟩
    exact List.mem_of_getElem? this
  exact am_has_mem (List.all_eq_true.mp h _ hm)
theorem so_in : ∀ (ci : Nat) (q : vw_C), vwCl[ci]? = some q → ∀ w ∈ u_ws q.1 q.2.1 q.2.2, w ∈ tblG := so_cls (P := fun _ q => ∀ w ∈ u_ws q.1 q.2.1 q.2.2, w ∈ tblG) (so_in_of rfl so_in_X0) (so_in_of rfl so_in_X1) (so_in_of rfl so_in_X2) (so_in_of rfl so_in_X3) (so_in_of rfl so_in_X4) (so_in_of rfl so_in_X5) (so_in_of rfl so_in_X6) (so_in_of rfl so_in_X7) (so_in_of rfl so_in_X8) (so_in_of rfl so_in_X9) (so_in_of rfl so_in_X10)
theorem so_inst : ∀ (ci : Nat) (q : vw_C), vwCl[ci]? = some q → Cond.instantiable q.1 q.2.2 ∈ tblG ∧ Cond.initialized q.1 ∈ tblG := so_cls (P := fun _ q => Cond.instantiable q.1 q.2.2 ∈ tblG ∧ Cond.initialized q.1 ∈ tblG) ⟨am_has_mem (k := 272) (by decide +kernel), am_has_mem (k := 125) (by decide +kernel)⟩ ⟨am_has_mem (k := 323) (by decide +kernel), am_has_mem (k := 127) (by decide +kernel)⟩ ⟨am_has_mem (k := 445) (by decide +kernel), am_has_mem (k := 130) (by decide +kernel)⟩ ⟨am_has_mem (k := 150) (by decide +kernel), am_has_mem (k := 123) (by decide +kernel)⟩ ⟨am_has_mem (k := 417) (by decide +kernel), am_has_mem (k := 129) (by decide +kernel)⟩ ⟨am_has_mem (k := 235) (by decide +kernel), am_has_mem (k := 124) (by decide +kernel)⟩ ⟨am_has_mem (k := 380) (by decide +kernel), am_has_mem (k := 128) (by decide +kernel)⟩ ⟨am_has_mem (k := 302) (by decide +kernel), am_has_mem (k := 126) (by decide +kernel)⟩ ⟨am_has_mem (k := 476) (by decide +kernel), am_has_mem (k := 131) (by decide +kernel)⟩ ⟨am_has_mem (k := 142) (by decide +kernel), am_has_mem (k := 122) (by decide +kernel)⟩ ⟨am_has_mem (k := 1223) (by decide +kernel), am_has_mem (k := 132) (by decide +kernel)⟩
theorem so_ac_int : Cond.arrayClass .int ∈ tblG := am_has_mem (k := 233) (by decide +kernel)
theorem so_ac_long : Cond.arrayClass .long ∈ tblG := am_has_mem (k := 321) (by decide +kernel)
theorem so_ac_byte : Cond.arrayClass .byte ∈ tblG := am_has_mem (k := 232) (by decide +kernel)
theorem so_ac_boolean : Cond.arrayClass .boolean ∈ tblG := am_has_mem (k := 320) (by decide +kernel)
theorem so_over : Cond.arrayOver (.object "ForgetfulRider$Book") ∈ lw_tbl := List.mem_of_getElem? (i := 300) (by decide +kernel)
theorem so_obj : Cond.instanceMethod objectInit ∈ tblG ∧ Cond.code objectInit ⟨#[0xb1]⟩ 1 none ∈ tblG := ⟨am_has_mem (k := 147) (by decide +kernel), am_has_mem (k := 148) (by decide +kernel)⟩
theorem so_acp : Cond.native arraycopyName ∈ tblG ∧ Cond.static arraycopyName ∈ tblG ∧ Cond.initialized "java/lang/System" ∈ tblG := ⟨am_has_mem (k := 744) (by decide +kernel), am_has_mem (k := 743) (by decide +kernel), am_has_mem (k := 138) (by decide +kernel)⟩
theorem so_math : Cond.initialized "java/lang/Math" ∈ tblG ∧ (Cond.static Lib.Math.max.name ∈ tblG ∧ Cond.code Lib.Math.max.name Lib.Math.max.code 2 (some .int) ∈ tblG) ∧ (Cond.static Lib.Math.min.name ∈ tblG ∧ Cond.code Lib.Math.min.name Lib.Math.min.code 2 (some .int) ∈ tblG) ∧ (Cond.static Lib.MathLoose.max_long.x ∈ tblG ∧ Cond.code Lib.MathLoose.max_long.x Lib.MathLoose.max_long.code 4 (some .long) ∈ tblG) ∧ (Cond.static Lib.MathLoose.min_long.x ∈ tblG ∧ Cond.code Lib.MathLoose.min_long.x Lib.MathLoose.min_long.code 4 (some .long) ∈ tblG) := ⟨am_has_mem (k := 133) (by decide +kernel), ⟨am_has_mem (k := 573) (by decide +kernel), am_has_mem (k := 574) (by decide +kernel)⟩, ⟨am_has_mem (k := 570) (by decide +kernel), am_has_mem (k := 571) (by decide +kernel)⟩, ⟨am_has_mem (k := 814) (by decide +kernel), am_has_mem (k := 815) (by decide +kernel)⟩, ⟨am_has_mem (k := 811) (by decide +kernel), am_has_mem (k := 812) (by decide +kernel)⟩⟩
end
section
/-! what each entry of a table must be: a program decides it -/
abbrev SG : Type := MethodName × Nat × Nat × Nat
/-- code, cuts, bytes, locals, what it answers, places of its words -/
abbrev MD : Type := CD × List (Nat × List Nat) × ByteArray × Nat × Option FieldType × List Nat
def am_ilen : Instr → Nat
  | .iload _ => 2
  | .lload _ => 2
  | .aload _ => 2
  | .istore _ => 2
  | .lstore _ => 2
  | .astore _ => 2
  | .bipush _ => 2
  | .ldc _ => 2
  | .newarray _ => 2
  | .sipush _ => 3
  | .ldc_w _ => 3
  | .ldc2_w _ => 3
  | .getfield _ => 3
  | .putfield _ => 3
  | .getstatic _ => 3
  | .invokevirtual _ => 3
  | .invokespecial _ => 3
  | .invokestatic _ => 3
  | .new _ => 3
  | .anewarray _ => 3
  | .iinc _ _ => 3
  | .goto _ => 3
  | .ifCond _ _ => 3
  | .if_icmp _ _ => 3
  | _ => 1
def am_cn (ci : Nat) : String := match vwCl[ci]? with
  | some q => q.1
  | none => "java/lang/String"
def am_rt : Option FieldType → Nat
  | none => 0
  | some .int => 1
  | some .long => 2
  | some .boolean => 3
  | some .byte => 4
  | some .char => 5
  | _ => 9
def am_okI (sg : List SG) (own : String) (ini : Bool) (nL : Nat) (pc : Nat) (i : Instr) (r1 r2 r3 : Nat) (v : Value) : Bool := match i with
  | .iconst n => decide (v = .int (Int32.ofInt n))
  | .bipush n => decide (v = .int (Int8.ofInt n).toInt32)
  | .sipush n => decide (v = .int (Int16.ofInt n).toInt32)
  | .lconst n => decide (v = .long (Int64.ofNat n.val))
  | .iinc k n => decide (v = .int (Int32.ofInt n)) && decide (k < nL)
  | .istore k => decide (k < nL)
  | .istore_n k => decide (k.val < nL)
  | .astore k => decide (k < nL)
  | .astore_n k => decide (k.val < nL)
  | .lstore k => decide (k + 1 < nL)
  | .lstore_n k => decide (k.val + 1 < nL)
  | .ldc k => match v with
    | .int x => am_has r3 (.constant own k x)
    | .ref a => decide (own = RX5) && (match so_si[a]? with
      | some q => Nat.beq q.1 k
      | none => false)
    | _ => false
  | .ldc_w k => match v with
    | .int x => am_has r3 (.constant own k x)
    | _ => false
  | .ldc2_w k => match v with
    | .long x => am_has r3 (.constantLong own k x)
    | _ => false
  | .getstatic k => match r1 with
    | 0 => decide (v = .ref 26) && am_has r3 (.fieldLink own k "ForgetfulRider" "LEAST_TERM" "[I")
    | 1 => decide (v = .ref 27) && am_has r3 (.fieldLink own k "ForgetfulRider" "MOST_TERM" "[I")
    | 2 => decide (v = .int 1) && am_has r3 (.fieldLink own k "java/lang/String" "COMPACT_STRINGS" "Z")
    | _ => false
  | .getfield k => if r1 = 11 then (match r2 with
      | 0 => am_has r3 (.fieldLink own k "java/lang/String" "value" "[B")
      | 1 => am_has r3 (.fieldLink own k "java/lang/String" "coder" "B")
      | _ => false)
    else match vwCl[r1]? with
      | some q => decide (r2 < q.2.2) && am_has r3 (.fieldLink own k (q.2.1 r2).1 (q.2.1 r2).2.1 (q.2.1 r2).2.2.1)
      | none => false
  | .putfield k => match vwCl[r1]? with
    | some q => (decide (r2 < q.2.2) && am_has r3 (.fieldLink own k (q.2.1 r2).1 (q.2.1 r2).2.1 (q.2.1 r2).2.2.1)) && (!(q.2.1 r2).2.2.2 || (ini && decide ((q.2.1 r2).1 = own)))
    | none => false
  | .new k => match vwCl[r1]? with
    | some q => Nat.beq r2 q.2.2 && am_has r3 (.classLink own k q.1)
    | none => false
  | .anewarray k => am_has r3 (.classLink own k "ForgetfulRider$Book")
  | .goto o => decide ((pc : Int) + o = r1)
  | .ifCond _ o => decide ((pc : Int) + o = r1)
  | .if_icmp _ o => decide ((pc : Int) + o = r1)
  | .tableswitch d lo hi offs => (decide (0 ≤ (pc : Int) + d) && offs.toList.all (fun o => decide (0 ≤ (pc : Int) + o))) && (decide (lo + offs.toList.length = hi + 1) && decide (-2147483648 ≤ lo ∧ hi ≤ 2147483647))
  | .invokevirtual k => match sg[r1]? with
    | some (y, n, t, kd) => (Nat.beq kd 1 && Nat.beq n (r2 % 100)) && (Nat.beq t (r2 / 100 % 10) && ((decide (am_cn (r2 / 1000) = y.cls) && Nat.ble (r2 / 1000) 11) && am_has r3 (.methodLink own k y)))
    | none => false
  | .invokestatic k => if r1 = 9002 then am_has r3 (.methodLink own k arraycopyName) else if r1 = 9003 then am_has r3 (.methodLink own k Lib.Math.max.name) else if r1 = 9004 then am_has r3 (.methodLink own k Lib.Math.min.name) else if r1 = 9005 then am_has r3 (.methodLink own k Lib.MathLoose.max_long.x) else if r1 = 9006 then am_has r3 (.methodLink own k Lib.MathLoose.min_long.x) else match sg[r1]? with
    | some (y, n, t, kd) => (Nat.beq kd 0 && Nat.beq n (r2 % 100)) && (Nat.beq t (r2 / 100 % 10) && am_has r3 (.methodLink own k y))
    | none => false
  | .invokespecial k => if r1 = 9001 then am_has r3 (.methodLink own k objectInit) else match sg[r1]? with
    | some (y, n, t, kd) => (Nat.beq kd 2 && Nat.beq n (r2 % 100)) && (Nat.beq t 0 && (am_has r3 (.methodLink own k y) || decide ((own, k, y) ∈ so_ns)))
    | none => false
  | _ => true
def am_okE (sg : List SG) (own : String) (ini : Bool) (nL : Nat) (bytes : ByteArray) (q : Nat × EN) : Bool :=
  (match decode bytes q.1 with
    | .ok x => decide (x = (q.2.1, q.2.2.1))
    | .error _ => false) && ((match q.2.1 with
      | .tableswitch _ _ _ _ => true
      | i => Nat.beq q.2.2.1 (am_ilen i)) && am_okI sg own ini nL q.1 q.2.1 q.2.2.2.1 q.2.2.2.2.1 q.2.2.2.2.2.1 q.2.2.2.2.2.2)
def am_okC (sg : List SG) (own : String) (ini : Bool) (nL : Nat) (bytes : ByteArray) (c : CD) : Bool := c.all fun q => q.2.all (am_okE sg own ini nL bytes)
def am_okR (y : MethodName) (n t kd : Nat) (bytes : ByteArray) (maxL : Nat) (ret : Option FieldType) (p0 p1 p2 p3 : Nat) : Bool :=
  am_has p0 (.code y bytes maxL ret) && (am_has p2 (.initialized y.cls) && (
      (match kd with
        | 0 => am_has p1 (.static y)
        | 1 => am_has p1 (.instanceMethod y) && am_has p3 (.selects y.cls y y)
        | _ => am_has p1 (.instanceMethod y) && decide (y.name = "<init>")) && (
      plainName y.cls && (decide (y.cls ≠ "java/lang/invoke/MethodHandle" ∧ y.cls ≠ "java/lang/invoke/VarHandle") && (
      decide ((parseMethodDescriptor y.desc).map (fun d => d.parameters.length) = some n) && (Nat.beq t (am_rt ret) && Nat.ble maxL 60))))))
def am_okM (sg : List SG) (q : SG × MD) : Bool := match q with
  | ((y, n, t, kd), (C, _, bytes, maxL, ret, [p0, p1, p2, p3])) => am_okC sg y.cls (Nat.beq kd 2) maxL bytes C && am_okR y n t kd bytes maxL ret p0 p1 p2 p3
  | _ => false
theorem am_okM_of {sg : List SG} {y : MethodName} {n t kd : Nat} {C : CD} {U : List (Nat × List Nat)} {bytes : ByteArray} {maxL : Nat} {ret : Option FieldType} {p0 p1 p2 p3 : Nat} (h1 : am_okC sg y.cls (Nat.beq kd 2) maxL bytes C = true) (h2 : am_okR y n t kd bytes maxL ret p0 p1 p2 p3 = true) : am_okM sg ((y, n, t, kd), (C, U, bytes, maxL, ret, [p0, p1, p2, p3])) = true := by
  show (am_okC sg y.cls (Nat.beq kd 2) maxL bytes C && am_okR y n t kd bytes maxL ret p0 p1 p2 p3) = true
  rw [h1, h2]
  rfl
theorem am_okC_step {sg : List SG} {own : String} {ini : Bool} {nL : Nat} {bytes : ByteArray} {c : CD} (a b : Nat) (h1 : am_okC sg own ini nL bytes ((c.drop a).take b) = true) (h2 : am_okC sg own ini nL bytes (c.drop (a + b)) = true) : am_okC sg own ini nL bytes (c.drop a) = true := by
  unfold am_okC at *
  rw [← List.take_append_drop b (c.drop a), List.all_append, h1, List.drop_drop, h2]
  rfl
theorem am_code_ok {sg : List SG} {own : String} {ini : Bool} {nL : Nat} {bytes : ByteArray} {c : CD} (h : am_okC sg own ini nL bytes c = true) {pc : Nat} {e : EN} (he : am_code c pc = some e) : am_okE sg own ini nL bytes (pc, e) = true := by
  unfold am_code at he
  split at he
  · cases he
  · rename_i l hl
    exact List.all_eq_true.mp (List.all_eq_true.mp h _ (am_look_mem hl)) _ (am_look_mem he)
def am_sg : List SG := [(yX0_init, 0, 0, 2),
  (yX0_copyOf, 1, 0, 1),
  (yX1_init, 2, 0, 2),
  (yX1_lay, 1, 0, 1),
  (yX1_reach, 1, 0, 1),
  (yX1_roadsFrom, 1, 1, 1),
  (yX1_layStep, 1, 0, 1),
  (yX1_freeAll, 0, 0, 1),
  (yX1_weigh, 0, 2, 1),
  (yX1_most, 2, 2, 1),
  (yX1_mean, 2, 2, 1),
  (yX1_shareAtForks, 0, 0, 1),
  (yX1_bestRoad, 2, 1, 1),
  (yX1_looksAhead, 0, 1, 1),
  (yX1_countRoads, 1, 0, 1),
  (yX1_goesOn, 2, 3, 1),
  (yX2_init, 1, 0, 2),
  (yX2_start, 1, 0, 1),
  (yX2_goOn, 2, 0, 1),
  (yX2_passRow, 1, 0, 1),
  (yX2_passOpen, 1, 0, 1),
  (yX2_countVisits, 0, 0, 1),
  (yX2_seenAlike, 1, 2, 1),
  (yX2_looksLike, 2, 3, 1),
  (yX2_secondBelief, 1, 1, 1),
  (yX2_countOne, 2, 0, 1),
  (yX2_millionths, 2, 1, 0),
  (yX2_factor, 2, 2, 1),
  (yX3_init, 0, 0, 2),
  (yX3_copyOf, 1, 0, 1),
  (yX3_copyRow, 2, 0, 0),
  (yX3_has, 1, 3, 1),
  (yX3_isKind, 2, 3, 1),
  (yX3_told, 2, 1, 1),
  (yX3_forks, 0, 1, 1),
  (yX3_forksOf, 1, 1, 1),
  (yX3_usedLooks, 0, 1, 1),
  (yX4_init, 1, 0, 2),
  (yX4_seek, 0, 2, 1),
  (yX4_tryKey, 2, 0, 1),
  (yX4_keyAhead, 0, 1, 1),
  (yX4_roadChosen, 2, 1, 1),
  (yX4_weigh, 0, 2, 1),
  (yX4_atFork, 3, 2, 1),
  (yX4_mean, 3, 2, 1),
  (yX5_init, 2, 0, 2),
  (yX5_read, 1, 1, 1),
  (yX5_readPlace, 0, 3, 1),
  (yX5_readFork, 0, 3, 1),
  (yX5_readTurn, 0, 3, 1),
  (yX5_readInn, 0, 3, 1),
  (yX5_readRoad, 1, 3, 1),
  (yX5_readEnd, 0, 3, 1),
  (yX5_readTest, 1, 3, 1),
  (yX5_readBoth, 1, 3, 1),
  (yX5_readPlain, 1, 3, 1),
  (yX5_readInBrackets, 1, 3, 1),
  (yX5_readComparison, 1, 3, 1),
  (yX5_readSum, 1, 3, 1),
  (yX5_readTerm, 1, 3, 1),
  (yX5_readPart, 1, 3, 1),
  (yX5_put, 2, 0, 1),
  (yX5_aim, 1, 0, 1),
  (yX5_isSign, 1, 3, 1),
  (yX5_takeSign, 1, 3, 1),
  (yX5_isWord, 1, 3, 1),
  (yX5_takeWord, 1, 3, 1),
  (yX5_takeNumber, 2, 3, 1),
  (yX5_advance, 0, 0, 1),
  (yX5_isLetter, 1, 3, 0),
  (yX5_isDigit, 1, 3, 0),
  (yX6_init, 1, 0, 2),
  (yX6_seekPlain, 0, 2, 1),
  (yX6_startPlain, 1, 0, 1),
  (yX6_seekDie, 1, 2, 1),
  (yX6_tellBest, 2, 2, 1),
  (yX6_firstRoad, 1, 1, 1),
  (yX6_giveFirst, 1, 0, 1),
  (yX6_usedLooks, 0, 1, 1),
  (yX6_rules, 1, 2, 1),
  (yX6_choices, 1, 1, 1),
  (yX6_choose, 2, 0, 1),
  (yX6_seek, 2, 0, 1),
  (yX6_tryLook, 2, 0, 1),
  (yX6_mayBeBest, 1, 3, 1),
  (yX6_takeRule, 1, 0, 1),
  (yX6_fewestSigns, 2, 1, 1),
  (yX6_bestSigned, 1, 2, 1),
  (yX6_startSigns, 1, 0, 1),
  (yX6_bestWithSigns, 3, 2, 1),
  (yX6_placesOf, 1, 1, 1),
  (yX7_init, 0, 0, 2),
  (yX7_tell, 4, 1, 1),
  (yX7_run, 3, 2, 1),
  (yX7_needed, 1, 1, 0),
  (yX7_said, 2, 2, 1),
  (yX7_join, 3, 2, 0),
  (yX7_checked, 1, 2, 0),
  (yX8_init, 2, 0, 2),
  (yX8_go, 1, 0, 1),
  (yX8_drawnRoad, 2, 1, 1),
  (yX9_init, 0, 0, 2),
  (yX9_feed, 5, 1, 1),
  (yX9_putFour, 1, 0, 1),
  (yX9_end, 1, 1, 1),
  (yX9_country, 0, 1, 1),
  (yX9_fault, 0, 1, 1),
  (yX9_terms, 2, 1, 1),
  (yX9_of, 2, 1, 1),
  (yX9_pays, 2, 2, 1),
  (yX9_paint, 2, 1, 1),
  (yX9_used, 0, 1, 1),
  (yX9_rule, 3, 1, 1),
  (yX9_tenths, 2, 1, 1),
  (yX9_worth, 0, 2, 1),
  (yX9_from, 2, 2, 1),
  (yX9_plain, 1, 2, 1),
  (yX9_road, 1, 1, 1),
  (yX9_follow, 0, 1, 1),
  (yX9_die, 2, 2, 1),
  (yX9_cast, 1, 1, 1),
  (yX9_power, 2, 2, 1),
  (yX9_pocket, 0, 2, 1),
  (yX9_knowing, 0, 2, 1),
  (yX9_knows, 2, 1, 1),
  (yX9_signs, 3, 1, 1),
  (yX9_signed, 1, 2, 1),
  (yX9_canSign, 1, 3, 1),
  (yX9_visits, 1, 2, 1),
  (yX9_ends, 1, 2, 1),
  (yX9_belief, 2, 1, 1),
  (yX9_bet, 2, 2, 1),
  (yX9_price, 1, 1, 1),
  (yX9_ride, 1, 1, 1),
  (yX9_rode, 1, 2, 1),
  (yX9_image, 1, 1, 1),
  (yX9_back, 1, 1, 1),
  (yX9_count, 1, 1, 1),
  (yX9_status, 0, 1, 1),
  (yX9_refuse, 1, 1, 1),
  (yX9_grant, 1, 1, 1),
  (yX9_noPlaces, 0, 3, 1),
  (yX9_isLook, 1, 3, 0),
  (yX9_isLooks, 1, 3, 0),
  (yX10_lies, 3, 3, 0),
  (yX10_refuses, 1, 1, 1),
  (yX10_good, 1, 1, 1),
  (yX10_isIn, 2, 3, 0),
  (yX10_ones, 1, 1, 0),
  (yX10_ten, 1, 2, 0),
  (yX10_init, 0, 0, 2),
  (yX10_image, 1, 1, 1),
  (yX10_back, 1, 1, 1),
  (yX10_places, 0, 1, 1),
  (yX10_day, 0, 1, 1),
  (yX10_isPlace, 1, 3, 1),
  (yX10_placeOf, 2, 1, 1),
  (yX10_isFork, 1, 3, 1),
  (yX10_isLook, 1, 3, 0),
  (yX10_feed, 5, 1, 1),
  (yX10_end, 1, 1, 1),
  (yX10_isSmall, 1, 3, 0),
  (yX10_isDigit, 1, 3, 0),
  (yX10_wordOf, 2, 1, 1),
  (yX10_splits, 1, 0, 1),
  (yX10_fine, 0, 3, 1),
  (yX10_faults, 0, 0, 1),
  (yX10_takes0, 1, 3, 1),
  (yX10_must, 1, 0, 1),
  (yX10_leaf, 0, 0, 1),
  (yX10_sign, 1, 1, 0),
  (yX10_readTest, 1, 0, 1),
  (yX10_readBoth, 1, 0, 1),
  (yX10_readPlain, 1, 0, 1),
  (yX10_readSum, 1, 0, 1),
  (yX10_readTerm, 1, 0, 1),
  (yX10_readPart, 1, 0, 1),
  (yX10_number, 2, 3, 1),
  (yX10_readPlace, 0, 0, 1),
  (yX10_country, 0, 1, 1),
  (yX10_fault, 0, 1, 1),
  (yX10_codeAt, 1, 1, 1),
  (yX10_passes0, 1, 3, 1),
  (yX10_bounded, 2, 2, 1),
  (yX10_sumOf, 1, 2, 1),
  (yX10_termOf, 1, 2, 1),
  (yX10_partOf, 1, 2, 1),
  (yX10_testOf, 1, 3, 1),
  (yX10_bothOf, 1, 3, 1),
  (yX10_plainOf, 1, 3, 1),
  (yX10_positiveOf, 1, 3, 1),
  (yX10_worthOf, 2, 1, 1),
  (yX10_looks, 0, 0, 1),
  (yX10_terms, 2, 1, 1),
  (yX10_of, 2, 1, 1),
  (yX10_pays, 2, 2, 1),
  (yX10_paint, 2, 1, 1),
  (yX10_used, 0, 1, 1),
  (yX10_rule, 3, 1, 1),
  (yX10_tenths, 2, 1, 1),
  (yX10_takesRule, 0, 0, 1),
  (yX10_next, 2, 2, 1),
  (yX10_weighs, 0, 0, 1),
  (yX10_weigh, 2, 2, 1),
  (yX10_atStart, 0, 2, 1),
  (yX10_worth, 0, 2, 1),
  (yX10_from, 2, 2, 1),
  (yX10_knowing, 0, 2, 1),
  (yX10_knows, 2, 1, 1),
  (yX10_most, 1, 1, 1),
  (yX10_plains, 0, 0, 1),
  (yX10_plain, 1, 2, 1),
  (yX10_road, 1, 1, 1),
  (yX10_follow, 0, 1, 1),
  (yX10_dices, 1, 3, 1),
  (yX10_shares, 1, 1, 1),
  (yX10_laysShare, 2, 0, 1),
  (yX10_die, 2, 2, 1),
  (yX10_cast, 1, 1, 1),
  (yX10_powerAt, 3, 2, 1),
  (yX10_power0, 4, 2, 1),
  (yX10_power, 2, 2, 1),
  (yX10_pocketAt, 3, 2, 1),
  (yX10_pocket0, 3, 2, 1),
  (yX10_pocket, 0, 2, 1),
  (yX10_forksOf, 1, 1, 1),
  (yX10_canSign, 1, 3, 1),
  (yX10_painted, 1, 2, 1),
  (yX10_signs, 3, 1, 1),
  (yX10_signed, 1, 2, 1),
  (yX10_comes, 3, 0, 1),
  (yX10_spreads, 0, 0, 1),
  (yX10_tenthsOf, 2, 1, 1),
  (yX10_roadOf, 2, 1, 1),
  (yX10_goesOn, 4, 0, 1),
  (yX10_visitsOf, 1, 2, 1),
  (yX10_visits, 1, 2, 1),
  (yX10_ends, 1, 2, 1),
  (yX10_visitsOfLook, 1, 2, 1),
  (yX10_millionths, 2, 1, 0),
  (yX10_at, 3, 1, 1),
  (yX10_over, 3, 0, 1),
  (yX10_comesSeeing, 6, 0, 1),
  (yX10_second, 1, 1, 1),
  (yX10_belief, 2, 1, 1),
  (yX10_bet, 2, 2, 1),
  (yX10_price, 1, 1, 1),
  (yX10_draws, 0, 1, 1),
  (yX10_ride, 1, 1, 1),
  (yX10_rode, 1, 2, 1),
  (yX10_count, 1, 1, 1),
  (yX10_status, 0, 1, 1),
  (yJ6_bitCount_0f7a4, 1, 1, 0),
  (yJ0_length_8abf5, 0, 1, 1),
  (yJ0_charAt_5068e, 1, 5, 1),
  (yJ0_coder_7d493, 0, 4, 1),
  (yJ0_isLatin1_aae02, 0, 3, 1),
  (yJ1_charAt_3b067, 2, 5, 0),
  (yJ7_fill_d0a16, 2, 0, 0),
  (yJ7_fill_53178, 2, 0, 0),
  (yJ0_checkIndex_df160, 2, 0, 0)]
def am_md_0 : List MD := [(qX0_init, uX0_init, cX0_init, 1, none, [275, 274, 125, 0])]
def am_md_1 : List MD := [(qX0_copyOf, uX0_copyOf, cX0_copyOf, 2, none, [1203, 1201, 125, 1202]),
  (qX1_init, uX1_init, cX1_init, 3, none, [326, 325, 127, 0])]
def am_md_2 : List MD := [(qX1_lay, uX1_lay, cX1_lay, 3, none, [850, 848, 127, 849])]
def am_md_3 : List MD := [(qX1_reach, uX1_reach, cX1_reach, 5, none, [855, 854, 127, 28])]
def am_md_4 : List MD := [(qX1_roadsFrom, uX1_roadsFrom, cX1_roadsFrom, 4, (some .int), [863, 861, 127, 862])]
def am_md_5 : List MD := [(qX1_layStep, uX1_layStep, cX1_layStep, 5, none, [867, 866, 127, 29])]
def am_md_6 : List MD := [(qX1_freeAll, uX1_freeAll, cX1_freeAll, 1, none, [1076, 1074, 127, 1075])]
def am_md_7 : List MD := [(qX1_weigh, uX1_weigh, cX1_weigh, 5, (some .long), [873, 871, 127, 872])]
def am_md_8 : List MD := [(qX1_most, uX1_most, cX1_most, 6, (some .long), [881, 880, 127, 30])]
def am_md_9 : List MD := [(qX1_mean, uX1_mean, cX1_mean, 7, (some .long), [887, 886, 127, 31])]
def am_md_10 : List MD := [(qX1_shareAtForks, uX1_shareAtForks, cX1_shareAtForks, 5, none, [877, 875, 127, 876])]
def am_md_11 : List MD := [(qX1_bestRoad, uX1_bestRoad, cX1_bestRoad, 6, (some .int), [1084, 1082, 127, 1083])]
def am_md_12 : List MD := [(qX1_looksAhead, uX1_looksAhead, cX1_looksAhead, 4, (some .int), [927, 925, 127, 926]),
  (qX1_countRoads, uX1_countRoads, cX1_countRoads, 3, none, [909, 907, 127, 908])]
def am_md_13 : List MD := [(qX1_goesOn, uX1_goesOn, cX1_goesOn, 3, (some .boolean), [1014, 1012, 127, 1013]),
  (qX2_init, uX2_init, cX2_init, 2, none, [448, 447, 130, 0]),
  (qX2_start, uX2_start, cX2_start, 2, none, [1005, 1004, 130, 41])]
def am_md_14 : List MD := [(qX2_goOn, uX2_goOn, cX2_goOn, 5, none, [1018, 1017, 130, 42])]
def am_md_15 : List MD := [(qX2_passRow, uX2_passRow, cX2_passRow, 6, none, [1026, 1025, 130, 44])]
def am_md_16 : List MD := [(qX2_passOpen, uX2_passOpen, cX2_passOpen, 7, none, [1022, 1021, 130, 43])]
def am_md_17 : List MD := [(qX2_countVisits, uX2_countVisits, cX2_countVisits, 4, none, [1133, 1131, 130, 1132])]
def am_md_18 : List MD := [(qX2_seenAlike, uX2_seenAlike, cX2_seenAlike, 5, (some .long), [1162, 1160, 130, 1161]),
  (qX2_looksLike, uX2_looksLike, cX2_looksLike, 3, (some .boolean), [1149, 1148, 130, 55])]
def am_md_19 : List MD := [(qX2_secondBelief, uX2_secondBelief, cX2_secondBelief, 10, (some .int), [1145, 1143, 130, 1144])]
def am_md_20 : List MD := [(qX2_countOne, uX2_countOne, cX2_countOne, 5, none, [1154, 1153, 130, 56])]
def am_md_21 : List MD := [(qX2_millionths, uX2_millionths, cX2_millionths, 9, (some .int), [1158, 1157, 130, 0])]
def am_md_22 : List MD := [(qX2_factor, uX2_factor, cX2_factor, 10, (some .long), [1001, 999, 130, 1000])]
def am_md_23 : List MD := [(qX3_init, uX3_init, cX3_init, 1, none, [153, 152, 123, 0])]
def am_md_24 : List MD := [(qX3_copyOf, uX3_copyOf, cX3_copyOf, 2, none, [737, 735, 123, 736])]
def am_md_25 : List MD := [(qX3_copyRow, uX3_copyRow, cX3_copyRow, 2, none, [740, 739, 123, 0]),
  (qX3_has, uX3_has, cX3_has, 2, (some .boolean), [768, 766, 123, 767]),
  (qX3_isKind, uX3_isKind, cX3_isKind, 3, (some .boolean), [780, 778, 123, 779])]
def am_md_26 : List MD := [(qX3_told, uX3_told, cX3_told, 3, (some .int), [772, 770, 123, 771])]
def am_md_27 : List MD := [(qX3_forks, uX3_forks, cX3_forks, 3, (some .int), [1217, 1215, 123, 1216]),
  (qX3_forksOf, uX3_forksOf, cX3_forksOf, 4, (some .int), [1096, 1094, 123, 1095]),
  (qX3_usedLooks, uX3_usedLooks, cX3_usedLooks, 3, (some .int), [830, 828, 123, 829]),
  (qX4_init, uX4_init, cX4_init, 2, none, [420, 419, 129, 0])]
def am_md_28 : List MD := [(qX4_seek, uX4_seek, cX4_seek, 2, (some .long), [1036, 1034, 129, 1035])]
def am_md_29 : List MD := [(qX4_tryKey, uX4_tryKey, cX4_tryKey, 7, none, [1063, 1062, 129, 49])]
def am_md_30 : List MD := [(qX4_keyAhead, uX4_keyAhead, cX4_keyAhead, 6, (some .int), [1067, 1066, 129, 50])]
def am_md_31 : List MD := [(qX4_roadChosen, uX4_roadChosen, cX4_roadChosen, 4, (some .int), [1051, 1050, 129, 47])]
def am_md_32 : List MD := [(qX4_weigh, uX4_weigh, cX4_weigh, 6, (some .long), [1043, 1042, 129, 45])]
def am_md_33 : List MD := [(qX4_atFork, uX4_atFork, cX4_atFork, 9, (some .long), [1047, 1046, 129, 46])]
def am_md_34 : List MD := [(qX4_mean, uX4_mean, cX4_mean, 8, (some .long), [1057, 1056, 129, 48])]
def am_md_35 : List MD := [(qX5_init, uX5_init, cX5_init, 3, none, [238, 237, 124, 0])]
def am_md_36 : List MD := [(qX5_read, uX5_read, cX5_read, 3, (some .int), [568, 566, 124, 567])]
def am_md_37 : List MD := [(qX5_readPlace, uX5_readPlace, cX5_readPlace, 1, (some .boolean), [588, 587, 124, 2])]
def am_md_38 : List MD := [(qX5_readFork, uX5_readFork, cX5_readFork, 3, (some .boolean), [649, 648, 124, 5])]
def am_md_39 : List MD := [(qX5_readTurn, uX5_readTurn, cX5_readTurn, 5, (some .boolean), [671, 670, 124, 10])]
def am_md_40 : List MD := [(qX5_readInn, uX5_readInn, cX5_readInn, 1, (some .boolean), [677, 676, 124, 11]),
  (qX5_readRoad, uX5_readRoad, cX5_readRoad, 2, (some .boolean), [658, 657, 124, 7])]
def am_md_41 : List MD := [(qX5_readEnd, uX5_readEnd, cX5_readEnd, 1, (some .boolean), [682, 681, 124, 12]),
  (qX5_readTest, uX5_readTest, cX5_readTest, 4, (some .boolean), [706, 705, 124, 17])]
def am_md_42 : List MD := [(qX5_readBoth, uX5_readBoth, cX5_readBoth, 4, (some .boolean), [710, 709, 124, 18]),
  (qX5_readPlain, uX5_readPlain, cX5_readPlain, 4, (some .boolean), [714, 713, 124, 19])]
def am_md_43 : List MD := [(qX5_readInBrackets, uX5_readInBrackets, cX5_readInBrackets, 2, (some .boolean), [719, 718, 124, 20]),
  (qX5_readComparison, uX5_readComparison, cX5_readComparison, 3, (some .boolean), [723, 722, 124, 21])]
def am_md_44 : List MD := [(qX5_readSum, uX5_readSum, cX5_readSum, 4, (some .boolean), [686, 685, 124, 13])]
def am_md_45 : List MD := [(qX5_readTerm, uX5_readTerm, cX5_readTerm, 4, (some .boolean), [690, 689, 124, 14])]
def am_md_46 : List MD := [(qX5_readPart, uX5_readPart, cX5_readPart, 3, (some .boolean), [694, 693, 124, 15])]
def am_md_47 : List MD := [(qX5_put, uX5_put, cX5_put, 3, none, [701, 700, 124, 16]),
  (qX5_aim, uX5_aim, cX5_aim, 2, none, [728, 727, 124, 22]),
  (qX5_isSign, uX5_isSign, cX5_isSign, 2, (some .boolean), [666, 665, 124, 9]),
  (qX5_takeSign, uX5_takeSign, cX5_takeSign, 3, (some .boolean), [662, 661, 124, 8]),
  (qX5_isWord, uX5_isWord, cX5_isWord, 3, (some .boolean), [597, 596, 124, 4]),
  (qX5_takeWord, uX5_takeWord, cX5_takeWord, 3, (some .boolean), [593, 592, 124, 3])]
def am_md_48 : List MD := [(qX5_takeNumber, uX5_takeNumber, cX5_takeNumber, 4, (some .boolean), [653, 652, 124, 6])]
def am_md_49 : List MD := [(qX5_advance, uX5_advance, cX5_advance, 2, none, [578, 577, 124, 1])]
def am_md_50 : List MD := [(qX5_isLetter, uX5_isLetter, cX5_isLetter, 1, (some .boolean), [581, 580, 124, 0]),
  (qX5_isDigit, uX5_isDigit, cX5_isDigit, 1, (some .boolean), [584, 583, 124, 0]),
  (qX6_init, uX6_init, cX6_init, 2, none, [383, 382, 128, 0]),
  (qX6_seekPlain, uX6_seekPlain, cX6_seekPlain, 1, (some .long), [900, 898, 128, 899]),
  (qX6_startPlain, uX6_startPlain, cX6_startPlain, 3, none, [905, 904, 128, 32])]
def am_md_51 : List MD := [(qX6_seekDie, uX6_seekDie, cX6_seekDie, 3, (some .long), [980, 978, 128, 979]),
  (qX6_tellBest, uX6_tellBest, cX6_tellBest, 4, (some .long), [953, 951, 128, 952]),
  (qX6_firstRoad, uX6_firstRoad, cX6_firstRoad, 3, (some .int), [961, 959, 128, 960]),
  (qX6_giveFirst, uX6_giveFirst, cX6_giveFirst, 2, none, [969, 967, 128, 968]),
  (qX6_usedLooks, uX6_usedLooks, cX6_usedLooks, 3, (some .int), [918, 917, 128, 34]),
  (qX6_rules, uX6_rules, cX6_rules, 5, (some .long), [949, 948, 128, 40])]
def am_md_52 : List MD := [(qX6_choices, uX6_choices, cX6_choices, 2, (some .int), [945, 944, 128, 39])]
def am_md_53 : List MD := [(qX6_choose, uX6_choose, cX6_choose, 5, none, [914, 913, 128, 33])]
def am_md_54 : List MD := [(qX6_seek, uX6_seek, cX6_seek, 6, none, [923, 922, 128, 35])]
def am_md_55 : List MD := [(qX6_tryLook, uX6_tryLook, cX6_tryLook, 8, none, [936, 935, 128, 37])]
def am_md_56 : List MD := [(qX6_mayBeBest, uX6_mayBeBest, cX6_mayBeBest, 3, (some .boolean), [932, 931, 128, 36]),
  (qX6_takeRule, uX6_takeRule, cX6_takeRule, 3, none, [940, 939, 128, 38]),
  (qX6_fewestSigns, uX6_fewestSigns, cX6_fewestSigns, 6, (some .int), [1104, 1102, 128, 1103])]
def am_md_57 : List MD := [(qX6_bestSigned, uX6_bestSigned, cX6_bestSigned, 5, (some .long), [1125, 1123, 128, 1124])]
def am_md_58 : List MD := [(qX6_startSigns, uX6_startSigns, cX6_startSigns, 3, none, [1108, 1107, 128, 52])]
def am_md_59 : List MD := [(qX6_bestWithSigns, uX6_bestWithSigns, cX6_bestWithSigns, 6, (some .long), [1113, 1112, 128, 53]),
  (qX6_placesOf, uX6_placesOf, cX6_placesOf, 4, (some .int), [1117, 1116, 128, 54]),
  (qX7_init, uX7_init, cX7_init, 1, none, [305, 304, 126, 0])]
def am_md_60 : List MD := [(qX7_tell, uX7_tell, cX7_tell, 9, (some .int), [786, 784, 126, 785])]
def am_md_61 : List MD := [(qX7_run, uX7_run, cX7_run, 10, (some .long), [790, 789, 126, 25])]
def am_md_62 : List MD := [(qX7_needed, uX7_needed, cX7_needed, 1, (some .int), [793, 792, 126, 0]),
  (qX7_said, uX7_said, cX7_said, 3, (some .long), [798, 797, 126, 26])]
def am_md_63 : List MD := [(qX7_join, uX7_join, cX7_join, 5, (some .long), [801, 800, 126, 0])]
def am_md_64 : List MD := [(qX7_checked, uX7_checked, cX7_checked, 2, (some .long), [804, 803, 126, 0]),
  (qX8_init, uX8_init, cX8_init, 3, none, [479, 478, 131, 0])]
def am_md_65 : List MD := [(qX8_go, uX8_go, cX8_go, 7, none, [1181, 1179, 131, 1180])]
def am_md_66 : List MD := [(qX8_drawnRoad, uX8_drawnRoad, cX8_drawnRoad, 8, (some .int), [1189, 1188, 131, 57])]
def am_md_67 : List MD := [(qX9_init, uX9_init, cX9_init, 1, none, [145, 144, 122, 0])]
def am_md_68 : List MD := [(qX9_feed, uX9_feed, cX9_feed, 6, (some .int), [552, 550, 122, 551]),
  (qX9_putFour, uX9_putFour, cX9_putFour, 3, none, [556, 555, 122, 0]),
  (qX9_end, uX9_end, cX9_end, 2, (some .int), [560, 558, 122, 559]),
  (qX9_country, uX9_country, cX9_country, 2, (some .int), [564, 562, 122, 563]),
  (qX9_fault, uX9_fault, cX9_fault, 1, (some .int), [752, 750, 122, 751])]
def am_md_69 : List MD := [(qX9_terms, uX9_terms, cX9_terms, 4, (some .int), [756, 754, 122, 755]),
  (qX9_of, uX9_of, cX9_of, 3, (some .int), [764, 762, 122, 763]),
  (qX9_pays, uX9_pays, cX9_pays, 3, (some .long), [776, 774, 122, 775])]
def am_md_70 : List MD := [(qX9_paint, uX9_paint, cX9_paint, 4, (some .int), [819, 817, 122, 818]),
  (qX9_used, uX9_used, cX9_used, 1, (some .int), [826, 824, 122, 825])]
def am_md_71 : List MD := [(qX9_rule, uX9_rule, cX9_rule, 4, (some .int), [834, 832, 122, 833]),
  (qX9_tenths, uX9_tenths, cX9_tenths, 3, (some .int), [838, 836, 122, 837]),
  (qX9_worth, uX9_worth, cX9_worth, 1, (some .long), [842, 840, 122, 841])]
def am_md_72 : List MD := [(qX9_from, uX9_from, cX9_from, 3, (some .long), [892, 890, 122, 891]),
  (qX9_plain, uX9_plain, cX9_plain, 2, (some .long), [896, 894, 122, 895]),
  (qX9_road, uX9_road, cX9_road, 2, (some .int), [957, 955, 122, 956]),
  (qX9_follow, uX9_follow, cX9_follow, 1, (some .int), [965, 963, 122, 964])]
def am_md_73 : List MD := [(qX9_die, uX9_die, cX9_die, 5, (some .long), [973, 971, 122, 972]),
  (qX9_cast, uX9_cast, cX9_cast, 2, (some .int), [993, 991, 122, 992]),
  (qX9_power, uX9_power, cX9_power, 3, (some .long), [997, 995, 122, 996]),
  (qX9_pocket, uX9_pocket, cX9_pocket, 1, (some .long), [1031, 1029, 122, 1030])]
def am_md_74 : List MD := [(qX9_knowing, uX9_knowing, cX9_knowing, 1, (some .long), [1072, 1070, 122, 1071]),
  (qX9_knows, uX9_knows, cX9_knows, 3, (some .int), [1080, 1078, 122, 1079]),
  (qX9_signs, uX9_signs, cX9_signs, 6, (some .int), [1088, 1086, 122, 1087]),
  (qX9_signed, uX9_signed, cX9_signed, 2, (some .long), [1121, 1119, 122, 1120])]
def am_md_75 : List MD := [(qX9_canSign, uX9_canSign, cX9_canSign, 3, (some .boolean), [1092, 1091, 122, 51]),
  (qX9_visits, uX9_visits, cX9_visits, 2, (some .long), [1129, 1127, 122, 1128])]
def am_md_76 : List MD := [(qX9_ends, uX9_ends, cX9_ends, 3, (some .long), [1137, 1135, 122, 1136])]
def am_md_77 : List MD := [(qX9_belief, uX9_belief, cX9_belief, 3, (some .int), [1141, 1139, 122, 1140]),
  (qX9_bet, uX9_bet, cX9_bet, 3, (some .long), [1167, 1165, 122, 1166])]
def am_md_78 : List MD := [(qX9_price, uX9_price, cX9_price, 4, (some .int), [1172, 1170, 122, 1171]),
  (qX9_ride, uX9_ride, cX9_ride, 2, (some .int), [1176, 1174, 122, 1175]),
  (qX9_rode, uX9_rode, cX9_rode, 2, (some .long), [1195, 1193, 122, 1194])]
def am_md_79 : List MD := [(qX9_image, uX9_image, cX9_image, 2, (some .int), [1199, 1197, 122, 1198]),
  (qX9_back, uX9_back, cX9_back, 2, (some .int), [1209, 1207, 122, 1208])]
def am_md_80 : List MD := [(qX9_count, uX9_count, cX9_count, 2, (some .int), [1213, 1211, 122, 1212])]
def am_md_81 : List MD := [(qX9_status, uX9_status, cX9_status, 1, (some .int), [1221, 1219, 122, 1220]),
  (qX9_refuse, uX9_refuse, cX9_refuse, 2, (some .int), [733, 732, 122, 23]),
  (qX9_grant, uX9_grant, cX9_grant, 2, (some .int), [748, 747, 122, 24]),
  (qX9_noPlaces, uX9_noPlaces, cX9_noPlaces, 1, (some .boolean), [846, 845, 122, 27]),
  (qX9_isLook, uX9_isLook, cX9_isLook, 1, (some .boolean), [822, 821, 122, 0]),
  (qX9_isLooks, uX9_isLooks, cX9_isLooks, 1, (some .boolean), [976, 975, 122, 0]),
  (qX10_lies, uX10_lies, cX10_lies, 3, (some .boolean), [1382, 1381, 132, 0]),
  (qX10_refuses, uX10_refuses, cX10_refuses, 2, (some .int), [1386, 1385, 132, 58]),
  (qX10_good, uX10_good, cX10_good, 2, (some .int), [1390, 1389, 132, 59]),
  (qX10_isIn, uX10_isIn, cX10_isIn, 2, (some .boolean), [1660, 1659, 132, 0])]
def am_md_82 : List MD := [(qX10_ones, uX10_ones, cX10_ones, 3, (some .int), [1657, 1656, 132, 0]),
  (qX10_ten, uX10_ten, cX10_ten, 4, (some .long), [1603, 1602, 132, 0])]
def am_md_83 : List MD := [(qX10_init, uX10_init, cX10_init, 2, none, [1226, 1225, 132, 0])]
def am_md_84 : List MD := [(qX10_image, uX10_image, cX10_image, 3, (some .int), [1379, 1377, 132, 1378]),
  (qX10_back, uX10_back, cX10_back, 3, (some .int), [1394, 1392, 132, 1393]),
  (qX10_places, uX10_places, cX10_places, 1, (some .int), [1496, 1495, 132, 76]),
  (qX10_day, uX10_day, cX10_day, 1, (some .int), [1517, 1516, 132, 80]),
  (qX10_isPlace, uX10_isPlace, cX10_isPlace, 2, (some .boolean), [1492, 1491, 132, 75]),
  (qX10_placeOf, uX10_placeOf, cX10_placeOf, 3, (some .int), [1500, 1499, 132, 77])]
def am_md_85 : List MD := [(qX10_isFork, uX10_isFork, cX10_isFork, 2, (some .boolean), [1572, 1571, 132, 91]),
  (qX10_isLook, uX10_isLook, cX10_isLook, 1, (some .boolean), [1568, 1567, 132, 0])]
def am_md_86 : List MD := [(qX10_feed, uX10_feed, cX10_feed, 7, (some .int), [1398, 1396, 132, 1397])]
def am_md_87 : List MD := [(qX10_end, uX10_end, cX10_end, 2, (some .int), [1402, 1400, 132, 1401]),
  (qX10_isSmall, uX10_isSmall, cX10_isSmall, 1, (some .boolean), [1413, 1412, 132, 0]),
  (qX10_isDigit, uX10_isDigit, cX10_isDigit, 1, (some .boolean), [1416, 1415, 132, 0])]
def am_md_88 : List MD := [(qX10_wordOf, uX10_wordOf, cX10_wordOf, 8, (some .int), [1420, 1419, 132, 61])]
def am_md_89 : List MD := [(qX10_splits, uX10_splits, cX10_splits, 6, none, [1410, 1409, 132, 60])]
def am_md_90 : List MD := [(qX10_fine, uX10_fine, cX10_fine, 1, (some .boolean), [1429, 1428, 132, 63]),
  (qX10_faults, uX10_faults, cX10_faults, 1, none, [1425, 1424, 132, 62]),
  (qX10_takes0, uX10_takes0, cX10_takes0, 3, (some .boolean), [1437, 1436, 132, 65]),
  (qX10_must, uX10_must, cX10_must, 2, none, [1445, 1444, 132, 67]),
  (qX10_leaf, uX10_leaf, cX10_leaf, 1, none, [1464, 1463, 132, 71]),
  (qX10_sign, uX10_sign, cX10_sign, 1, (some .int), [1448, 1447, 132, 0]),
  (qX10_readTest, uX10_readTest, cX10_readTest, 2, none, [1468, 1467, 132, 72]),
  (qX10_readBoth, uX10_readBoth, cX10_readBoth, 2, none, [1472, 1471, 132, 73])]
def am_md_91 : List MD := [(qX10_readPlain, uX10_readPlain, cX10_readPlain, 4, none, [1476, 1475, 132, 74])]
def am_md_92 : List MD := [(qX10_readSum, uX10_readSum, cX10_readSum, 2, none, [1452, 1451, 132, 68]),
  (qX10_readTerm, uX10_readTerm, cX10_readTerm, 2, none, [1456, 1455, 132, 69])]
def am_md_93 : List MD := [(qX10_readPart, uX10_readPart, cX10_readPart, 3, none, [1460, 1459, 132, 70])]
def am_md_94 : List MD := [(qX10_number, uX10_number, cX10_number, 3, (some .boolean), [1441, 1440, 132, 66])]
def am_md_95 : List MD := [(qX10_readPlace, uX10_readPlace, cX10_readPlace, 5, none, [1433, 1432, 132, 64])]
def am_md_96 : List MD := [(qX10_country, uX10_country, cX10_country, 3, (some .int), [1406, 1404, 132, 1405])]
def am_md_97 : List MD := [(qX10_fault, uX10_fault, cX10_fault, 1, (some .int), [1480, 1478, 132, 1479]),
  (qX10_codeAt, uX10_codeAt, cX10_codeAt, 2, (some .int), [1537, 1536, 132, 85]),
  (qX10_passes0, uX10_passes0, cX10_passes0, 3, (some .boolean), [1533, 1532, 132, 84]),
  (qX10_bounded, uX10_bounded, cX10_bounded, 4, (some .long), [1541, 1540, 132, 86])]
def am_md_98 : List MD := [(qX10_sumOf, uX10_sumOf, cX10_sumOf, 7, (some .long), [1521, 1520, 132, 81])]
def am_md_99 : List MD := [(qX10_termOf, uX10_termOf, cX10_termOf, 7, (some .long), [1525, 1524, 132, 82])]
def am_md_100 : List MD := [(qX10_partOf, uX10_partOf, cX10_partOf, 4, (some .long), [1529, 1528, 132, 83])]
def am_md_101 : List MD := [(qX10_testOf, uX10_testOf, cX10_testOf, 4, (some .boolean), [1547, 1546, 132, 87]),
  (qX10_bothOf, uX10_bothOf, cX10_bothOf, 4, (some .boolean), [1551, 1550, 132, 88]),
  (qX10_plainOf, uX10_plainOf, cX10_plainOf, 3, (some .boolean), [1555, 1554, 132, 89])]
def am_md_102 : List MD := [(qX10_positiveOf, uX10_positiveOf, cX10_positiveOf, 7, (some .boolean), [1559, 1558, 132, 90])]
def am_md_103 : List MD := [(qX10_worthOf, uX10_worthOf, cX10_worthOf, 7, (some .int), [1513, 1512, 132, 79])]
def am_md_104 : List MD := [(qX10_looks, uX10_looks, cX10_looks, 3, none, [1509, 1508, 132, 78])]
def am_md_105 : List MD := [(qX10_terms, uX10_terms, cX10_terms, 4, (some .int), [1484, 1482, 132, 1483])]
def am_md_106 : List MD := [(qX10_of, uX10_of, cX10_of, 5, (some .int), [1488, 1486, 132, 1487])]
def am_md_107 : List MD := [(qX10_pays, uX10_pays, cX10_pays, 3, (some .long), [1504, 1502, 132, 1503]),
  (qX10_paint, uX10_paint, cX10_paint, 4, (some .int), [1565, 1563, 132, 1564]),
  (qX10_used, uX10_used, cX10_used, 3, (some .int), [1576, 1574, 132, 1575])]
def am_md_108 : List MD := [(qX10_rule, uX10_rule, cX10_rule, 4, (some .int), [1580, 1578, 132, 1579])]
def am_md_109 : List MD := [(qX10_tenths, uX10_tenths, cX10_tenths, 3, (some .int), [1584, 1582, 132, 1583]),
  (qX10_takesRule, uX10_takesRule, cX10_takesRule, 2, none, [1592, 1591, 132, 92]),
  (qX10_next, uX10_next, cX10_next, 3, (some .long), [1608, 1607, 132, 95]),
  (qX10_weighs, uX10_weighs, cX10_weighs, 3, none, [1596, 1595, 132, 93])]
def am_md_110 : List MD := [(qX10_weigh, uX10_weigh, cX10_weigh, 14, (some .long), [1600, 1599, 132, 94])]
def am_md_111 : List MD := [(qX10_atStart, uX10_atStart, cX10_atStart, 1, (some .long), [1612, 1611, 132, 96]),
  (qX10_worth, uX10_worth, cX10_worth, 1, (some .long), [1588, 1586, 132, 1587]),
  (qX10_from, uX10_from, cX10_from, 3, (some .long), [1616, 1614, 132, 1615]),
  (qX10_knowing, uX10_knowing, cX10_knowing, 1, (some .long), [1620, 1618, 132, 1619])]
def am_md_112 : List MD := [(qX10_knows, uX10_knows, cX10_knows, 5, (some .int), [1624, 1622, 132, 1623])]
def am_md_113 : List MD := [(qX10_most, uX10_most, cX10_most, 4, (some .int), [1637, 1636, 132, 98])]
def am_md_114 : List MD := [(qX10_plains, uX10_plains, cX10_plains, 7, none, [1633, 1632, 132, 97])]
def am_md_115 : List MD := [(qX10_plain, uX10_plain, cX10_plain, 2, (some .long), [1629, 1627, 132, 1628]),
  (qX10_road, uX10_road, cX10_road, 2, (some .int), [1641, 1639, 132, 1640]),
  (qX10_follow, uX10_follow, cX10_follow, 3, (some .int), [1645, 1643, 132, 1644])]
def am_md_116 : List MD := [(qX10_dices, uX10_dices, cX10_dices, 9, (some .boolean), [1653, 1652, 132, 99])]
def am_md_117 : List MD := [(qX10_shares, uX10_shares, cX10_shares, 2, (some .int), [1664, 1663, 132, 100])]
def am_md_118 : List MD := [(qX10_laysShare, uX10_laysShare, cX10_laysShare, 6, none, [1668, 1667, 132, 101])]
def am_md_119 : List MD := [(qX10_die, uX10_die, cX10_die, 3, (some .long), [1649, 1647, 132, 1648]),
  (qX10_cast, uX10_cast, cX10_cast, 3, (some .int), [1672, 1670, 132, 1671])]
def am_md_120 : List MD := [(qX10_powerAt, uX10_powerAt, cX10_powerAt, 4, (some .long), [1684, 1683, 132, 103])]
def am_md_121 : List MD := [(qX10_power0, uX10_power0, cX10_power0, 13, (some .long), [1680, 1679, 132, 102])]
def am_md_122 : List MD := [(qX10_power, uX10_power, cX10_power, 6, (some .long), [1676, 1674, 132, 1675])]
def am_md_123 : List MD := [(qX10_pocketAt, uX10_pocketAt, cX10_pocketAt, 4, (some .long), [1696, 1695, 132, 105])]
def am_md_124 : List MD := [(qX10_pocket0, uX10_pocket0, cX10_pocket0, 11, (some .long), [1692, 1691, 132, 104])]
def am_md_125 : List MD := [(qX10_pocket, uX10_pocket, cX10_pocket, 10, (some .long), [1688, 1686, 132, 1687])]
def am_md_126 : List MD := [(qX10_forksOf, uX10_forksOf, cX10_forksOf, 4, (some .int), [1708, 1707, 132, 107]),
  (qX10_canSign, uX10_canSign, cX10_canSign, 2, (some .boolean), [1704, 1703, 132, 106])]
def am_md_127 : List MD := [(qX10_painted, uX10_painted, cX10_painted, 4, (some .long), [1713, 1712, 132, 108])]
def am_md_128 : List MD := [(qX10_signs, uX10_signs, cX10_signs, 8, (some .int), [1700, 1698, 132, 1699])]
def am_md_129 : List MD := [(qX10_signed, uX10_signed, cX10_signed, 8, (some .long), [1717, 1715, 132, 1716]),
  (qX10_comes, uX10_comes, cX10_comes, 5, none, [1729, 1728, 132, 110])]
def am_md_130 : List MD := [(qX10_spreads, uX10_spreads, cX10_spreads, 6, none, [1725, 1724, 132, 109])]
def am_md_131 : List MD := [(qX10_tenthsOf, uX10_tenthsOf, cX10_tenthsOf, 3, (some .int), [1737, 1736, 132, 112]),
  (qX10_roadOf, uX10_roadOf, cX10_roadOf, 3, (some .int), [1741, 1740, 132, 113]),
  (qX10_goesOn, uX10_goesOn, cX10_goesOn, 7, none, [1733, 1732, 132, 111])]
def am_md_132 : List MD := [(qX10_visitsOf, uX10_visitsOf, cX10_visitsOf, 5, (some .long), [1745, 1744, 132, 114]),
  (qX10_visits, uX10_visits, cX10_visits, 2, (some .long), [1721, 1719, 132, 1720]),
  (qX10_ends, uX10_ends, cX10_ends, 2, (some .long), [1749, 1747, 132, 1748]),
  (qX10_visitsOfLook, uX10_visitsOfLook, cX10_visitsOfLook, 5, (some .long), [1777, 1776, 132, 119])]
def am_md_133 : List MD := [(qX10_millionths, uX10_millionths, cX10_millionths, 14, (some .int), [1773, 1772, 132, 0]),
  (qX10_at, uX10_at, cX10_at, 4, (some .int), [1769, 1768, 132, 118])]
def am_md_134 : List MD := [(qX10_over, uX10_over, cX10_over, 5, none, [1765, 1764, 132, 117])]
def am_md_135 : List MD := [(qX10_comesSeeing, uX10_comesSeeing, cX10_comesSeeing, 9, none, [1761, 1760, 132, 116])]
def am_md_136 : List MD := [(qX10_second, uX10_second, cX10_second, 10, (some .int), [1757, 1756, 132, 115])]
def am_md_137 : List MD := [(qX10_belief, uX10_belief, cX10_belief, 5, (some .int), [1753, 1751, 132, 1752]),
  (qX10_bet, uX10_bet, cX10_bet, 3, (some .long), [1781, 1779, 132, 1780]),
  (qX10_price, uX10_price, cX10_price, 3, (some .int), [1786, 1784, 132, 1785]),
  (qX10_draws, uX10_draws, cX10_draws, 1, (some .int), [1795, 1794, 132, 120])]
def am_md_138 : List MD := [(qX10_ride, uX10_ride, cX10_ride, 8, (some .int), [1791, 1789, 132, 1790])]
def am_md_139 : List MD := [(qX10_rode, uX10_rode, cX10_rode, 2, (some .long), [1802, 1800, 132, 1801])]
def am_md_140 : List MD := [(qX10_count, uX10_count, cX10_count, 4, (some .int), [1806, 1804, 132, 1805])]
def am_md_141 : List MD := [(qX10_status, uX10_status, cX10_status, 1, (some .int), [1810, 1808, 132, 1809]),
  (qJ6_bitCount_0f7a4, uJ6_bitCount_0f7a4, cJ6_bitCount_0f7a4, 1, (some .int), [983, 982, 140, 0]),
  (qJ0_length_8abf5, uJ0_length_8abf5, cJ0_length_8abf5, 1, (some .int), [601, 599, 134, 600]),
  (qJ0_charAt_5068e, uJ0_charAt_5068e, cJ0_charAt_5068e, 2, (some .char), [611, 609, 134, 610]),
  (qJ0_coder_7d493, uJ0_coder_7d493, cJ0_coder_7d493, 1, (some .byte), [605, 603, 134, 604]),
  (qJ0_isLatin1_aae02, uJ0_isLatin1_aae02, cJ0_isLatin1_aae02, 1, (some .boolean), [615, 613, 134, 614]),
  (qJ1_charAt_3b067, uJ1_charAt_3b067, cJ1_charAt_3b067, 2, (some .char), [618, 617, 135, 0]),
  (qJ7_fill_d0a16, uJ7_fill_d0a16, cJ7_fill_d0a16, 5, none, [1009, 1008, 139, 0]),
  (qJ7_fill_53178, uJ7_fill_53178, cJ7_fill_53178, 4, none, [859, 858, 139, 0]),
  ([], [], cJ0_checkIndex_df160, 2, none, [621, 620, 134, 0])]
def am_pr_141 : List MD := am_md_141
def am_pr_140 : List MD := am_md_140 ++ am_pr_141
def am_pr_139 : List MD := am_md_139 ++ am_pr_140
def am_pr_138 : List MD := am_md_138 ++ am_pr_139
def am_pr_137 : List MD := am_md_137 ++ am_pr_138
def am_pr_136 : List MD := am_md_136 ++ am_pr_137
def am_pr_135 : List MD := am_md_135 ++ am_pr_136
def am_pr_134 : List MD := am_md_134 ++ am_pr_135
def am_pr_133 : List MD := am_md_133 ++ am_pr_134
def am_pr_132 : List MD := am_md_132 ++ am_pr_133
def am_pr_131 : List MD := am_md_131 ++ am_pr_132
def am_pr_130 : List MD := am_md_130 ++ am_pr_131
def am_pr_129 : List MD := am_md_129 ++ am_pr_130
def am_pr_128 : List MD := am_md_128 ++ am_pr_129
def am_pr_127 : List MD := am_md_127 ++ am_pr_128
def am_pr_126 : List MD := am_md_126 ++ am_pr_127
def am_pr_125 : List MD := am_md_125 ++ am_pr_126
def am_pr_124 : List MD := am_md_124 ++ am_pr_125
def am_pr_123 : List MD := am_md_123 ++ am_pr_124
def am_pr_122 : List MD := am_md_122 ++ am_pr_123
def am_pr_121 : List MD := am_md_121 ++ am_pr_122
def am_pr_120 : List MD := am_md_120 ++ am_pr_121
def am_pr_119 : List MD := am_md_119 ++ am_pr_120
def am_pr_118 : List MD := am_md_118 ++ am_pr_119
def am_pr_117 : List MD := am_md_117 ++ am_pr_118
def am_pr_116 : List MD := am_md_116 ++ am_pr_117
def am_pr_115 : List MD := am_md_115 ++ am_pr_116
def am_pr_114 : List MD := am_md_114 ++ am_pr_115
def am_pr_113 : List MD := am_md_113 ++ am_pr_114
def am_pr_112 : List MD := am_md_112 ++ am_pr_113
def am_pr_111 : List MD := am_md_111 ++ am_pr_112
def am_pr_110 : List MD := am_md_110 ++ am_pr_111
def am_pr_109 : List MD := am_md_109 ++ am_pr_110
def am_pr_108 : List MD := am_md_108 ++ am_pr_109
def am_pr_107 : List MD := am_md_107 ++ am_pr_108
def am_pr_106 : List MD := am_md_106 ++ am_pr_107
def am_pr_105 : List MD := am_md_105 ++ am_pr_106
def am_pr_104 : List MD := am_md_104 ++ am_pr_105
def am_pr_103 : List MD := am_md_103 ++ am_pr_104
def am_pr_102 : List MD := am_md_102 ++ am_pr_103
def am_pr_101 : List MD := am_md_101 ++ am_pr_102
def am_pr_100 : List MD := am_md_100 ++ am_pr_101
def am_pr_99 : List MD := am_md_99 ++ am_pr_100
def am_pr_98 : List MD := am_md_98 ++ am_pr_99
def am_pr_97 : List MD := am_md_97 ++ am_pr_98
def am_pr_96 : List MD := am_md_96 ++ am_pr_97
def am_pr_95 : List MD := am_md_95 ++ am_pr_96
def am_pr_94 : List MD := am_md_94 ++ am_pr_95
def am_pr_93 : List MD := am_md_93 ++ am_pr_94
def am_pr_92 : List MD := am_md_92 ++ am_pr_93
def am_pr_91 : List MD := am_md_91 ++ am_pr_92
def am_pr_90 : List MD := am_md_90 ++ am_pr_91
def am_pr_89 : List MD := am_md_89 ++ am_pr_90
def am_pr_88 : List MD := am_md_88 ++ am_pr_89
def am_pr_87 : List MD := am_md_87 ++ am_pr_88
def am_pr_86 : List MD := am_md_86 ++ am_pr_87
def am_pr_85 : List MD := am_md_85 ++ am_pr_86
def am_pr_84 : List MD := am_md_84 ++ am_pr_85
def am_pr_83 : List MD := am_md_83 ++ am_pr_84
def am_pr_82 : List MD := am_md_82 ++ am_pr_83
def am_pr_81 : List MD := am_md_81 ++ am_pr_82
def am_pr_80 : List MD := am_md_80 ++ am_pr_81
def am_pr_79 : List MD := am_md_79 ++ am_pr_80
def am_pr_78 : List MD := am_md_78 ++ am_pr_79
def am_pr_77 : List MD := am_md_77 ++ am_pr_78
def am_pr_76 : List MD := am_md_76 ++ am_pr_77
def am_pr_75 : List MD := am_md_75 ++ am_pr_76
def am_pr_74 : List MD := am_md_74 ++ am_pr_75
def am_pr_73 : List MD := am_md_73 ++ am_pr_74
def am_pr_72 : List MD := am_md_72 ++ am_pr_73
def am_pr_71 : List MD := am_md_71 ++ am_pr_72
def am_pr_70 : List MD := am_md_70 ++ am_pr_71
def am_pr_69 : List MD := am_md_69 ++ am_pr_70
def am_pr_68 : List MD := am_md_68 ++ am_pr_69
def am_pr_67 : List MD := am_md_67 ++ am_pr_68
def am_pr_66 : List MD := am_md_66 ++ am_pr_67
def am_pr_65 : List MD := am_md_65 ++ am_pr_66
def am_pr_64 : List MD := am_md_64 ++ am_pr_65
def am_pr_63 : List MD := am_md_63 ++ am_pr_64
def am_pr_62 : List MD := am_md_62 ++ am_pr_63
def am_pr_61 : List MD := am_md_61 ++ am_pr_62
def am_pr_60 : List MD := am_md_60 ++ am_pr_61
def am_pr_59 : List MD := am_md_59 ++ am_pr_60
def am_pr_58 : List MD := am_md_58 ++ am_pr_59
def am_pr_57 : List MD := am_md_57 ++ am_pr_58
def am_pr_56 : List MD := am_md_56 ++ am_pr_57
def am_pr_55 : List MD := am_md_55 ++ am_pr_56
def am_pr_54 : List MD := am_md_54 ++ am_pr_55
def am_pr_53 : List MD := am_md_53 ++ am_pr_54
def am_pr_52 : List MD := am_md_52 ++ am_pr_53
def am_pr_51 : List MD := am_md_51 ++ am_pr_52
def am_pr_50 : List MD := am_md_50 ++ am_pr_51
def am_pr_49 : List MD := am_md_49 ++ am_pr_50
def am_pr_48 : List MD := am_md_48 ++ am_pr_49
def am_pr_47 : List MD := am_md_47 ++ am_pr_48
def am_pr_46 : List MD := am_md_46 ++ am_pr_47
def am_pr_45 : List MD := am_md_45 ++ am_pr_46
def am_pr_44 : List MD := am_md_44 ++ am_pr_45
def am_pr_43 : List MD := am_md_43 ++ am_pr_44
def am_pr_42 : List MD := am_md_42 ++ am_pr_43
def am_pr_41 : List MD := am_md_41 ++ am_pr_42
def am_pr_40 : List MD := am_md_40 ++ am_pr_41
def am_pr_39 : List MD := am_md_39 ++ am_pr_40
def am_pr_38 : List MD := am_md_38 ++ am_pr_39
def am_pr_37 : List MD := am_md_37 ++ am_pr_38
def am_pr_36 : List MD := am_md_36 ++ am_pr_37
def am_pr_35 : List MD := am_md_35 ++ am_pr_36
def am_pr_34 : List MD := am_md_34 ++ am_pr_35
def am_pr_33 : List MD := am_md_33 ++ am_pr_34
def am_pr_32 : List MD := am_md_32 ++ am_pr_33
def am_pr_31 : List MD := am_md_31 ++ am_pr_32
def am_pr_30 : List MD := am_md_30 ++ am_pr_31
def am_pr_29 : List MD := am_md_29 ++ am_pr_30
def am_pr_28 : List MD := am_md_28 ++ am_pr_29
def am_pr_27 : List MD := am_md_27 ++ am_pr_28
def am_pr_26 : List MD := am_md_26 ++ am_pr_27
def am_pr_25 : List MD := am_md_25 ++ am_pr_26
def am_pr_24 : List MD := am_md_24 ++ am_pr_25
def am_pr_23 : List MD := am_md_23 ++ am_pr_24
def am_pr_22 : List MD := am_md_22 ++ am_pr_23
def am_pr_21 : List MD := am_md_21 ++ am_pr_22
def am_pr_20 : List MD := am_md_20 ++ am_pr_21
def am_pr_19 : List MD := am_md_19 ++ am_pr_20
def am_pr_18 : List MD := am_md_18 ++ am_pr_19
def am_pr_17 : List MD := am_md_17 ++ am_pr_18
def am_pr_16 : List MD := am_md_16 ++ am_pr_17
def am_pr_15 : List MD := am_md_15 ++ am_pr_16
def am_pr_14 : List MD := am_md_14 ++ am_pr_15
def am_pr_13 : List MD := am_md_13 ++ am_pr_14
def am_pr_12 : List MD := am_md_12 ++ am_pr_13
def am_pr_11 : List MD := am_md_11 ++ am_pr_12
def am_pr_10 : List MD := am_md_10 ++ am_pr_11
def am_pr_9 : List MD := am_md_9 ++ am_pr_10
def am_pr_8 : List MD := am_md_8 ++ am_pr_9
def am_pr_7 : List MD := am_md_7 ++ am_pr_8
def am_pr_6 : List MD := am_md_6 ++ am_pr_7
def am_pr_5 : List MD := am_md_5 ++ am_pr_6
def am_pr_4 : List MD := am_md_4 ++ am_pr_5
def am_pr_3 : List MD := am_md_3 ++ am_pr_4
def am_pr_2 : List MD := am_md_2 ++ am_pr_3
def am_pr_1 : List MD := am_md_1 ++ am_pr_2
def am_pr_0 : List MD := am_md_0 ++ am_pr_1
def am_prog : List MD := am_pr_0
end
section
/-! one instruction of the small machine is one instruction of the machine: cells -/
def so_Cx (p : Program) (s : State) (m : MethodId) (args : Array Value) (c : Code) (meth : Method) (own : String) (ini : Bool) (bytes : ByteArray) (nL : Nat) (D : va_G) (r : Nat → Nat) : Prop :=
  p.tables.exec = Jvm.exec ∧ c.code = bytes ∧ c.maxLocals = nL ∧ s.vm.findClass own = some m.cls ∧ (∀ w ∈ tblG, w.before args s = true) ∧ so_K D r s ∧ (ini = true → meth.name = "<init>") ∧ va_AO "ForgetfulRider$Book" s
def so_At (D : va_G) (r : Nat → Nat) (B nL : Nat) (s : State) (h0 : AH) (l : LV) (h : AH) (H : Heap) (locs : List Loc) (ls : Array Slot) (cells slots : Nat) : Prop :=
  so_P D r B h s H ∧ va_S (so_A B) s.heap H locs ∧ lv_has ls nL (so_L r l) ∧ cells + h0.1 = h.1 ∧ slots + h0.2.1 = h.2.1
theorem am_cell_of {h : AH} {a : Nat} {c : AC} (hc : am_cell h a = some c) : a < h.1 ∧ h.2.2 a = c := by
  unfold am_cell at hc
  split at hc
  · rename_i hlt
    exact ⟨hlt, Option.some.inj hc⟩
  · cases hc
theorem so_arr {D : va_G} {r : Nat → Nat} {B : Nat} {h : AH} {U : State} {H : Heap} (hP : so_P D r B h U H) {a : Nat} {c n : Nat} {f : Nat → Value} (hc : am_cell h a = some (c, n, f)) (hk : 100 ≤ c) :
    c < 105 ∧ ∃ cell : Cell, H[r a]? = some cell ∧ so_AR U (am_aty c) n (fun k => so_V r (f k)) cell ∧ (c = 104 → va_RA U cell.cls (.object "ForgetfulRider$Book")) := by
  obtain ⟨h1, h2⟩ := am_cell_of hc
  have h3 := hP.2.2 a h1
  rw [h2] at h3
  rcases h3 with ⟨z, -⟩ | ⟨z, -⟩ | ⟨z, cell, h4⟩
  · exact absurd z (by show ¬ c < 11; omega)
  · exact absurd z (by show ¬ c = 11; omega)
  · exact ⟨z.2, cell, h4⟩
theorem so_obj_at {D : va_G} {r : Nat → Nat} {B : Nat} {h : AH} {U : State} {H : Heap} (hP : so_P D r B h U H) {a : Nat} {c n : Nat} {f : Nat → Value} (hc : am_cell h a = some (c, n, f)) (hk : c < 11) :
    ∃ q : vw_C, vwCl[c]? = some q ∧ q.2.2 = n ∧ t_OB (r a) (D.1 c) n (D.2 c) H (fun k => so_V r (f k)) := by
  obtain ⟨h1, h2⟩ := am_cell_of hc
  have h3 := hP.2.2 a h1
  rw [h2] at h3
  rcases h3 with ⟨-, ⟨q, h4, h5⟩, h6⟩ | ⟨z, -⟩ | ⟨z, -⟩
  · exact ⟨q, h4, h5, h6⟩
  · exact absurd z (by show ¬ c = 11; omega)
  · exact absurd z.1 (by show ¬ 100 ≤ c; omega)
theorem so_in_bounds {n : Nat} {i : Int32} {cell : Cell} (h : ¬ (i < 0 ∨ n ≤ i.toNatClampNeg)) (hn : n ≤ cell.slots.size) : ¬ (i < 0 ∨ cell.slots.size ≤ i.toNatClampNeg) := by
  intro q
  rcases q with q | q
  · exact h (Or.inl q)
  · exact h (Or.inr (by omega))
theorem so_AR.setSlot {U : State} {ty : FieldType} {n : Nat} {V : Nat → Value} {cell : Cell} (hA : so_AR U ty n V cell) (j : Nat) (v : Value) {V' : Nat → Value} (hV : ∀ k, k < n → V' k = if k = j then v else V k) : so_AR U ty n V' (cell.setSlot j v) := by
  obtain ⟨h1, h2, h3, h4, h5⟩ := hA
  refine ⟨h1, h2, ?_, ?_, fun k hk => ?_⟩
  · show n ≤ (cell.slots.setIfInBounds j v).size
    rw [Array.size_setIfInBounds]; exact h3
  · show (cell.slots.setIfInBounds j v).size.toInt32 = _
    rw [Array.size_setIfInBounds]; exact h4
  · show (cell.slots.setIfInBounds j v)[k]? = _
    rw [hV k hk]
    by_cases hkj : k = j
    · subst hkj
      rw [if_pos rfl, Array.getElem?_setIfInBounds_self_of_lt (by omega)]
    · rw [if_neg hkj, Array.getElem?_setIfInBounds_ne (fun e => hkj e.symm)]
      exact h5 k hk
section SoRows
variable {p : Program} {L : Launch} {e : Env} {R : Room} {s : State} {m : MethodId} {args : Array Value} {below : List Frame} {meth : Method} {c : Code} {H : Heap} {locs : List Loc} {cells slots : Nat} {Q : State → Prop}
variable {own : String} {ini : Bool} {bytes : ByteArray} {nL : Nat} {D : va_G} {r : Nat → Nat} {B pc : Nat} {ls : Array Slot} {rest : List Value} {h : AH}
theorem so_gets (X : so_Cx p s m args c meth own ini bytes nL D r) {C n d : String} {v : Value} {A : Nat → Prop} (hZ : va_Z C n d v A s H) {index : Nat} (hlink : Cond.fieldLink own index C n d ∈ tblG) (hdg : decode bytes pc = .ok (.getstatic index, 3))
    (kk : W p L e R s m args below meth c H locs cells slots Q (F0 m (pc + 3) ls (v :: rest))) : W p L e R s m args below meth c H locs cells slots Q (F0 m pc ls rest) := by
  obtain ⟨hx, hb, -, hown, hts, -⟩ := X
  obtain ⟨cf, kf, fi, f, a, cell, h1, h2, h3, h4, h5, h6, h7, h8⟩ := hZ
  exact W.gets hx hb hown (hts _ hlink) h1 h2 h3 h4 h5 (fun e => by rw [e] at h6; cases h6) h7 rfl hdg kk
theorem so_getf (X : so_Cx p s m args c meth own ini bytes nL D r) (hP : so_P D r B h s H) {sg : List SG} {r1 r2 r3 k a : Nat} {v w : Value} (hd : decode bytes pc = .ok (.getfield k, 3)) (hI : am_okI sg own ini nL pc (.getfield k) r1 r2 r3 v = true) (hf : am_f h a r1 r2 = some w)
    (kk : W p L e R s m args below meth c H locs cells slots Q (F0 m (pc + 3) ls (so_V r w :: rest))) : W p L e R s m args below meth c H locs cells slots Q (F0 m pc ls (.ref (r a) :: rest)) := by
  obtain ⟨hx, hb, -, hown, hts, hK, -, -⟩ := X
  unfold am_f at hf
  split at hf
  · rename_i c' n f hc
    split at hf
    · rename_i hcn
      obtain ⟨rfl, hlt⟩ := hcn
      cases hf
      simp only [am_okI] at hI
      split at hI
      · rename_i h11
        obtain ⟨a1, a2⟩ := am_cell_of hc
        have a3 := hP.2.2 a a1
        rw [a2] at a3
        rcases a3 with ⟨z, -⟩ | ⟨z, z2, z3, z4, z5⟩ | ⟨z, -⟩
        · exact absurd z (by show ¬ c' < 11; omega)
        · split at hI
          · obtain ⟨cf, kf, fi, fd, cell, g1, g2, g3, g4, g5, g6⟩ := z4
            exact W.getf hx hb hown (hts _ (am_has_mem hI)) g1 g2 g3 g4 g5 rfl rfl hd kk
          · obtain ⟨cf, kf, fi, fd, cell, g1, g2, g3, g4, g5, g6⟩ := z5
            exact W.getf hx hb hown (hts _ (am_has_mem hI)) g1 g2 g3 g4 g5 rfl rfl hd kk
          · cases hI
        · exact absurd z.1 (by show ¬ 100 ≤ c'; omega)
      · split at hI
        · rename_i q hq
          simp only [Bool.and_eq_true, decide_eq_true_eq] at hI
          have hc11 : c' < 11 := by
            have := (List.getElem?_eq_some_iff.mp hq).1
            simpa [vwCl] using this
          obtain ⟨q', e1, e2, cell, g1, g2, g3, g4⟩ := so_obj_at hP hc hc11
          cases hq.symm.trans e1
          obtain ⟨hS, hfc, kC, hkC, hkind⟩ := hK.1 c' q hq
          obtain ⟨cf, kf, fi, fd, hi, hsl⟩ := hS r2 hI.1
          refine W.getf hx hb hown (hts _ (am_has_mem hI.2)) hi (u_facts hfc hkC (u_lays hts (so_in c' q hq) hI.1) hi).1 g1 (by rw [g3]; exact fun h => by cases h) ?_ rfl rfl hd kk
          rw [hsl]
          exact g4 r2 hlt
        · cases hI
    · cases hf
  · cases hf
theorem so_putf (X : so_Cx p s m args c meth own ini bytes nL D r) (hP : so_P D r B h s H) (hS0 : va_S (so_A B) s.heap H locs) {sg : List SG} {r1 r2 r3 k a : Nat} {v w : Value} {h' : AH} (hd : decode bytes pc = .ok (.putfield k, 3)) (hI : am_okI sg own ini nL pc (.putfield k) r1 r2 r3 v = true) (hf : am_pf h a r1 r2 w = some h')
    (hn : narrow (am_fty r1 r2) (so_V r w) = so_V r w) (hfit : fits (am_fty r1 r2) (so_V r w) = true)
    (kk : ∀ (H1 : Heap) (locs1 : List Loc), so_P D r B h' s H1 → va_S (so_A B) s.heap H1 locs1 → W p L e R s m args below meth c H1 locs1 cells slots Q (F0 m (pc + 3) ls rest)) : W p L e R s m args below meth c H locs cells slots Q (F0 m pc ls (so_V r w :: .ref (r a) :: rest)) := by
  obtain ⟨hx, hb, -, hown, hts, hK, hini, -⟩ := X
  unfold am_pf at hf
  split at hf
  · rename_i c' n f hc
    split at hf
    · rename_i hcn
      obtain ⟨rfl, hlt, hold⟩ := hcn
      cases hf
      simp only [am_okI] at hI
      split at hI
      · rename_i q hq
        simp only [Bool.and_eq_true, decide_eq_true_eq, Bool.or_eq_true, Bool.not_eq_true'] at hI
        obtain ⟨⟨hk, hlink⟩, hfin⟩ := hI
        have hc11 : c' < 11 := by
          have := (List.getElem?_eq_some_iff.mp hq).1
          simpa [vwCl] using this
        obtain ⟨q', e1, e2, cell, g1, g2, g3, g4⟩ := so_obj_at hP hc hc11
        cases hq.symm.trans e1
        obtain ⟨hS, hfc, kC, hkC, hkind⟩ := hK.1 c' q hq
        have hin := so_in c' q hq
        have hty := so_ty c' q hq
        have hap : ∀ x y, x < q.2.2 → y < q.2.2 → x ≠ y → (D.2 c') x ≠ (D.2 c') y := by
          intro x y hx' hy' hne
          obtain ⟨_, _, _, fa, hia, ea⟩ := hS x hx'
          obtain ⟨_, _, _, fb, hib, eb⟩ := hS y hy'
          rw [← ea, ← eb]
          refine u_apart (u_lays hts hin hx') (u_lays hts hin hy') hia hib ?_
          rw [(State.fieldFound?_type hia (hty x hx')).1, (State.fieldFound?_type hib (hty y hy')).1]
          exact so_nm c' q hq x hx' y hy' hne
        obtain ⟨cf, kf, fi, fd, hi, hsl⟩ := hS r2 hk
        have hlay := hts _ (hin _ (u_in_lay hk))
        have hst := (u_facts hfc hkC (u_lays hts hin hk) hi).1
        have fin : ∀ H' : Heap, H'[r a]? = some (cell.setSlot fd.slot (so_V r w)) → H'.size = H.size → (∀ q : Nat, q ≠ r a → H'[q]? = H[q]?) → W p L e R s m args below meth c H' (locs ++ [⟨r a, fd.slot⟩]) cells slots Q (F0 m (pc + 3) ls rest) := by
          intro H' d1 d2 d3
          refine kk H' _ (hP.set hold d2 d3 (Or.inl ⟨hc11, ⟨q, hq, e2⟩, ?_⟩)) (hS0.put d2 d3 (so_A_of hP hold))
          rw [hsl] at d1
          have d4 := t_set (by rw [e2]; exact g4) hap hk (so_V r w)
          refine t_OB.to (V := updV (fun k => so_V r (f k)) r2 (so_V r w)) ⟨_, d1, g2, g3, by rw [← e2]; exact d4⟩ (fun j _ => ?_)
          show updV _ _ _ _ = so_V r (va_up f r2 w j)
          unfold updV va_up
          by_cases hj : j = r2
          · rw [if_pos hj, if_pos hj]
          · rw [if_neg hj, if_neg hj]
        have hslot : fd.slot < cell.slots.size := by rw [hsl]; exact k2_hasslot (g4 r2 hlt)
        unfold u_lay at hlay
        rcases Bool.eq_false_or_eq_true (q.2.1 r2).2.2.2 with hfi | hfi
        · rw [if_pos hfi] at hlay
          rcases hfin with z | ⟨z1, z2⟩
          · rw [hfi] at z; cases z
          · have hcf : m.cls = cf := by
              obtain ⟨_, _, c2, _, _, _, -, -, hf', -, -, -, hown2, -⟩ := Cond.laysFinal_spec hlay
              have e1 : c2 = cf := by have := hi.symm.trans hf'; simp at this; exact this.1.symm
              rw [z2] at hown2
              rw [← e1]; exact Option.some.inj (hown.symm.trans hown2)
            have h6 := u_fits hfc hkC hkind (Or.inr hlay) hi (hty r2 hk) hn hfit
            exact W.putFinK hx hb hown (hts _ (am_has_mem hlink)) hi hst hcf (hini z1) (by rw [g2]; exact h6) g1 g3 hslot rfl rfl hd fin
        · rw [if_neg (by rw [hfi]; decide)] at hlay
          have h6 := u_store hfc hkC hkind hlay hi (hty r2 hk) hn hfit
          exact W.putK hx hb (f := fd) ⟨hown, hts _ (am_has_mem hlink), ⟨_, _, _, hi⟩, hst⟩ (by rw [g2]; exact h6) g1 g3 hslot rfl rfl hd fin
      · cases hI
    · cases hf
  · cases hf
theorem so_a_of {kd a : Nat} {j : Int32} {w : Value} (hP : so_P D r B h s H) (hkd : 100 ≤ kd) (hf : am_a h kd a j = some w) : ∃ (n : Nat) (cell : Cell), H[r a]? = some cell ∧ so_AR s (am_aty kd) n (fun k => so_V r ((h.2.2 a).2.2 k)) cell ∧ ¬ (j < 0 ∨ cell.slots.size ≤ j.toNatClampNeg) ∧ cell.slots[j.toNatClampNeg]? = some (so_V r w) := by
  unfold am_a at hf
  split at hf
  · rename_i c' n f hc
    split at hf
    · rename_i hcn
      obtain ⟨rfl, hb⟩ := hcn
      cases hf
      obtain ⟨-, cell, g1, g2, -⟩ := so_arr hP hc hkd
      obtain ⟨-, a2⟩ := am_cell_of hc
      refine ⟨n, cell, g1, by rw [a2]; exact g2, so_in_bounds hb g2.2.2.1, g2.2.2.2.2 _ (Nat.not_le.mp fun q => hb (Or.inr q))⟩
    · cases hf
  · cases hf
theorem so_st_of {kd a : Nat} {j : Int32} {w : Value} {h' : AH} (hP : so_P D r B h s H) (hS0 : va_S (so_A B) s.heap H locs) (hkd : 100 ≤ kd) (hf : am_st h kd a j w = some h') : ∃ (cell : Cell), H[r a]? = some cell ∧ s.isArrayOf cell (am_aty kd) ∧ cell.vm ≠ .unknown ∧ ¬ (j < 0 ∨ cell.slots.size ≤ j.toNatClampNeg) ∧ (kd = 104 → va_RA s cell.cls (.object "ForgetfulRider$Book")) ∧
    ∀ H' : Heap, H'[r a]? = some (cell.setSlot j.toNatClampNeg (so_V r w)) → H'.size = H.size → (∀ q : Nat, q ≠ r a → H'[q]? = H[q]?) → so_P D r B h' s H' ∧ va_S (so_A B) s.heap H' (locs ++ [⟨r a, j.toNatClampNeg⟩]) := by
  unfold am_st at hf
  split at hf
  · rename_i c' n f hc
    split at hf
    · rename_i hcn
      obtain ⟨rfl, hb, hold⟩ := hcn
      cases hf
      obtain ⟨h105, cell, g1, g2, g3⟩ := so_arr hP hc hkd
      refine ⟨cell, g1, g2.1, g2.2.1, so_in_bounds hb g2.2.2.1, g3, fun H' d1 d2 d3 => ⟨hP.set hold d2 d3 (Or.inr (Or.inr ⟨⟨hkd, h105⟩, _, d1, g2.setSlot _ _ (fun k _ => ?_), g3⟩)), hS0.put d2 d3 (so_A_of hP hold)⟩⟩
      show so_V r (va_up f j.toNatClampNeg w k) = _
      unfold va_up
      by_cases hk : k = j.toNatClampNeg
      · rw [if_pos hk, if_pos hk]
      · rw [if_neg hk, if_neg hk]
    · cases hf
  · cases hf
theorem so_new_arr (hP : so_P D r B h s H) (hS0 : va_S (so_A B) s.heap H locs) {H1 : Heap} {cA : ClassId} {kd n : Nat} {d : Value} (hkd : 100 ≤ kd ∧ kd < 105) (e1 : H1[H.size]? = some (arrV cA n (fun _ => d))) (z1 : H1.size = H.size + 1) (o1 : ∀ q : Nat, q < H.size → H1[q]? = H[q]?) (hA : ArrOfT s cA (am_aty kd)) (hR : kd = 104 → va_RA s cA (.object "ForgetfulRider$Book")) (hdv : so_V r d = d) :
    (so_P D r B (am_new h (kd, n, fun _ => d)) s H1 ∧ r h.1 = H.size) ∧ va_S (so_A B) s.heap H1 locs := by
  refine ⟨hP.new z1 o1 (Or.inr (Or.inr ⟨hkd, _, e1, ⟨hA n _, (fun q => by cases q), (by rw [arrV_size]; exact Nat.le_refl _), (by rw [arrV_size] <;> rfl), fun j hj => ?_⟩, hR⟩)), ⟨Nat.le_trans hS0.1 (by omega), fun x g1 g2 => (o1 x (Nat.lt_of_lt_of_le g1 hS0.1)).trans (hS0.2.1 x g1 g2), hS0.2.2⟩⟩
  rw [arrV_read _ _ hj]
  show some d = some (so_V r d)
  rw [hdv]
end SoRows
end
section
/-! one instruction that neither jumps nor calls -/
theorem am_st_sz {h h' : AH} {kd a : Nat} {i : Int32} {v : Value} (hf : am_st h kd a i v = some h') : h'.1 = h.1 ∧ h'.2.1 = h.2.1 := by
  unfold am_st at hf
  split at hf
  · split at hf
    · cases hf
      exact ⟨rfl, rfl⟩
    · cases hf
  · cases hf
theorem am_pf_sz {h h' : AH} {a ci k : Nat} {v : Value} (hf : am_pf h a ci k v = some h') : h'.1 = h.1 ∧ h'.2.1 = h.2.1 := by
  unfold am_pf at hf
  split at hf
  · split at hf
    · cases hf
      exact ⟨rfl, rfl⟩
    · cases hf
  · cases hf
theorem so_dflt1 (t : FieldType) (h : (match t with | .int | .boolean | .byte | .long | .object _ | .array _ => true | _ => false) = true) (r : Nat → Nat) : defaultValue t = so_V r (am_dflt t) := by
  cases t <;> first | rfl | cases h
theorem so_dflt_all : ∀ (ci : Nat) (q : vw_C), vwCl[ci]? = some q → ∀ k, k < q.2.2 → (match am_fty ci k with | .int | .boolean | .byte | .long | .object _ | .array _ => true | _ => false) = true := so_cls (P := fun ci q => ∀ k, k < q.2.2 → (match am_fty ci k with | .int | .boolean | .byte | .long | .object _ | .array _ => true | _ => false) = true) (by decide +kernel) (by decide +kernel) (by decide +kernel) (by decide +kernel) (by decide +kernel) (by decide +kernel) (by decide +kernel) (by decide +kernel) (by decide +kernel) (by decide +kernel) (by decide +kernel)
theorem so_dflt {r : Nat → Nat} (ci : Nat) (q : vw_C) (hq : vwCl[ci]? = some q) (k : Nat) (hk : k < q.2.2) : defaultValue (am_fty ci k) = so_V r (am_dflt (am_fty ci k)) := so_dflt1 _ (so_dflt_all ci q hq k hk) r
theorem so_akind {r : Nat → Nat} {t : ArrayType} {kd : Nat} (h : am_akind t = some kd) : Cond.arrayClass (newarray.typeOf t) ∈ tblG ∧ defaultValue (newarray.typeOf t) = am_dflt (newarray.typeOf t) ∧ newarray.typeOf t = am_aty kd ∧ (100 ≤ kd ∧ kd < 104 + 1) ∧ so_V r (am_dflt (newarray.typeOf t)) = am_dflt (newarray.typeOf t) ∧ componentBytes (newarray.typeOf t) ≤ 8 := by
  cases t <;> first | (cases h; exact ⟨so_ac_int, rfl, rfl, by decide, rfl, by decide⟩) | (cases h; exact ⟨so_ac_long, rfl, rfl, by decide, rfl, by decide⟩) | (cases h; exact ⟨so_ac_byte, rfl, rfl, by decide, rfl, by decide⟩) | (cases h; exact ⟨so_ac_boolean, rfl, rfl, by decide, rfl, by decide⟩) | cases h
theorem so_akind_lt {t : ArrayType} {kd : Nat} (h : am_akind t = some kd) : kd < 104 := by
  cases t <;> cases h <;> decide
section SoStp
variable {p : Program} {L : Launch} {e : Env} {R : Room} {s : State} {m : MethodId} {args : Array Value} {below : List Frame} {meth : Method} {c : Code} {H : Heap} {locs : List Loc} {cells slots : Nat} {Q : State → Prop}
variable {own : String} {ini : Bool} {bytes : ByteArray} {nL : Nat} {D : va_G} {r : Nat → Nat} {B pc : Nat} {ls : Array Slot} {h0 h : AH}
set_option maxHeartbeats 4000000 in
set_option maxRecDepth 100000 in
theorem so_stp (X : so_Cx p s m args c meth own ini bytes nL D r) {sg : List SG} {i : Instr} {r1 r2 r3 : Nat} {v : Value} (hd : decode bytes pc = .ok (i, am_ilen i)) (hI : am_okI sg own ini nL pc i r1 r2 r3 v = true) {l : LV} {st : List Value} {k : KT} {res : RS} (hev : am_stp i r1 r2 v l st h k = some res) (hat : so_At D r B nL s h0 l h H locs ls cells slots)
    (hlim : ∀ l' st' h', k l' st' h' = some res → h'.1 ≤ h0.1 + R.cells ∧ h'.2.1 ≤ h0.2.1 + R.slots)
    (kk : ∀ l' st' h' H' locs' ls' cells' slots', k l' st' h' = some res → so_At D r B nL s h0 l' h' H' locs' ls' cells' slots' → W p L e R s m args below meth c H' locs' cells' slots' Q (F0 m (pc + am_ilen i) ls' (st'.map (so_V r)))) : W p L e R s m args below meth c H locs cells slots Q (F0 m pc ls (st.map (so_V r))) := by
  obtain ⟨hx, hb, hml, hown, hts, hK, hini, hAO⟩ := id X
  obtain ⟨hP, hS, hl, hc1, hc2⟩ := id hat
  unfold am_stp at hev
  split at hev
  -- iconst
  · have hv := of_decide_eq_true hI
    subst hv
    exact lv_iconst hx hb hd rfl (kk _ _ _ _ _ _ _ _ hev hat)
  -- bipush
  · have hv := of_decide_eq_true hI
    subst hv
    exact lv_bipush hx hb hd rfl (kk _ _ _ _ _ _ _ _ hev hat)
  -- sipush
  · have hv := of_decide_eq_true hI
    subst hv
    exact lv_sipush hx hb hd rfl (kk _ _ _ _ _ _ _ _ hev hat)
  -- lconst
  · have hv := of_decide_eq_true hI
    subst hv
    exact lv_lconst hx hb hd rfl (kk _ _ _ _ _ _ _ _ hev hat)
  -- ldc
  · simp only [am_okI] at hI
    split at hI
    · exact lv_ldc hx hb hown (hts _ (am_has_mem hI)) hd (kk _ _ _ _ _ _ _ _ hev hat)
    · simp only [Bool.and_eq_true, decide_eq_true_eq] at hI
      obtain ⟨ho, hI⟩ := hI
      split at hI
      · rename_i q hq
        have hqk := Nat.eq_of_beq_eq_true hI
        have hZ := hK.2.1 _ q hq
        rw [hqk, ← ho] at hZ
        exact va_ldcS hx hb hown hZ hd (kk _ _ _ _ _ _ _ _ hev hat)
      · cases hI
    · cases hI
  -- ldc_w
  · simp only [am_okI] at hI
    split at hI
    · exact lv_ldcw hx hb hown (hts _ (am_has_mem hI)) hd (kk _ _ _ _ _ _ _ _ hev hat)
    · cases hI
  -- ldc2_w
  · simp only [am_okI] at hI
    split at hI
    · exact lv_ldc2 hx hb hown (hts _ (am_has_mem hI)) hd (kk _ _ _ _ _ _ _ _ hev hat)
    · cases hI
  -- getstatic
  · simp only [am_okI] at hI
    split at hI
    · simp only [Bool.and_eq_true, decide_eq_true_eq] at hI
      obtain ⟨rfl, hI⟩ := hI
      exact so_gets X hP.1.1 (am_has_mem hI) hd (kk _ _ _ _ _ _ _ _ hev hat)
    · simp only [Bool.and_eq_true, decide_eq_true_eq] at hI
      obtain ⟨rfl, hI⟩ := hI
      exact so_gets X hP.1.2.1 (am_has_mem hI) hd (kk _ _ _ _ _ _ _ _ hev hat)
    · simp only [Bool.and_eq_true, decide_eq_true_eq] at hI
      obtain ⟨rfl, hI⟩ := hI
      exact so_gets X hP.1.2.2.1 (am_has_mem hI) hd (kk _ _ _ _ _ _ _ _ hev hat)
    · cases hI
  -- iload
  · unfold am_ldI at hev
    split at hev
    · rename_i hlk
      exact lv_iload hx hb hd (so_look hlk hl) (kk _ _ _ _ _ _ _ _ hev hat)
    · cases hev
  -- iload_n
  · unfold am_ldI at hev
    split at hev
    · rename_i hlk
      exact lv_iload_n hx hb hd rfl (so_look hlk hl) (kk _ _ _ _ _ _ _ _ hev hat)
    · cases hev
  -- lload
  · unfold am_ldL at hev
    split at hev
    · rename_i hlk
      exact lv_lload hx hb hd (so_look hlk hl) (kk _ _ _ _ _ _ _ _ hev hat)
    · cases hev
  -- lload_n
  · unfold am_ldL at hev
    split at hev
    · rename_i hlk
      exact lv_lload_n hx hb hd rfl (so_look hlk hl) (kk _ _ _ _ _ _ _ _ hev hat)
    · cases hev
  -- aload
  · unfold am_ldR at hev
    split at hev
    · rename_i hlk
      exact lv_aload hx hb hd (so_look hlk hl) (kk _ _ _ _ _ _ _ _ hev hat)
    · cases hev
  -- aload_n
  · unfold am_ldR at hev
    split at hev
    · rename_i hlk
      exact lv_aload_n hx hb hd rfl (so_look hlk hl) (kk _ _ _ _ _ _ _ _ hev hat)
    · cases hev
  -- istore
  · split at hev
    · exact lv_istore hx hb hd hl (of_decide_eq_true hI) (so_s1 r l _ (.int _)) (fun ls' hl' => kk _ _ _ _ _ _ _ _ hev ⟨hP, hS, hl', hc1, hc2⟩)
    · cases hev
  -- istore_n
  · split at hev
    · exact lv_istore_n hx hb hd rfl hl (of_decide_eq_true hI) (so_s1 r l _ (.int _)) (fun ls' hl' => kk _ _ _ _ _ _ _ _ hev ⟨hP, hS, hl', hc1, hc2⟩)
    · cases hev
  -- lstore
  · split at hev
    · exact lv_lstore hx hb hd hl (of_decide_eq_true hI) (so_s2 r l _ (.long _)) (fun ls' hl' => kk _ _ _ _ _ _ _ _ hev ⟨hP, hS, hl', hc1, hc2⟩)
    · cases hev
  -- lstore_n
  · split at hev
    · exact lv_lstore_n hx hb hd rfl hl (of_decide_eq_true hI) (so_s2 r l _ (.long _)) (fun ls' hl' => kk _ _ _ _ _ _ _ _ hev ⟨hP, hS, hl', hc1, hc2⟩)
    · cases hev
  -- astore
  · split at hev
    · exact lv_astore hx hb hd hl (of_decide_eq_true hI) (so_s1 r l _ (.ref _)) (fun ls' hl' => kk _ _ _ _ _ _ _ _ hev ⟨hP, hS, hl', hc1, hc2⟩)
    · cases hev
  -- astore_n
  · split at hev
    · exact lv_astore_n hx hb hd rfl hl (of_decide_eq_true hI) (so_s1 r l _ (.ref _)) (fun ls' hl' => kk _ _ _ _ _ _ _ _ hev ⟨hP, hS, hl', hc1, hc2⟩)
    · cases hev
  -- iinc
  · split at hev
    · rename_i x y hlk
      simp only [am_okI, Bool.and_eq_true, decide_eq_true_eq] at hI
      obtain ⟨hI1, hI2⟩ := hI
      cases hI1
      obtain ⟨k0, hk0⟩ := List.getElem?_of_mem (List.mem_map.mpr ⟨_, am_look_mem hlk, rfl⟩ : _ ∈ so_L r l)
      exact lv_iinc hx hb hd hl hk0 rfl hI2 (so_s1 r l _ (.int _)) (fun ls' hl' => kk _ _ _ _ _ _ _ _ hev ⟨hP, hS, hl', hc1, hc2⟩)
    · cases hev
  -- iadd
  · split at hev
    · exact lv_iadd hx hb hd (kk _ _ _ _ _ _ _ _ hev hat)
    · cases hev
  -- isub
  · split at hev
    · exact lv_isub hx hb hd (kk _ _ _ _ _ _ _ _ hev hat)
    · cases hev
  -- imul
  · split at hev
    · exact lv_imul hx hb hd (kk _ _ _ _ _ _ _ _ hev hat)
    · cases hev
  -- idiv
  · split at hev
    · split at hev
      · cases hev
      · rename_i hne
        exact lv_idiv hx hb hd hne (kk _ _ _ _ _ _ _ _ hev hat)
    · cases hev
  -- irem
  · split at hev
    · split at hev
      · cases hev
      · rename_i hne
        exact lv_irem hx hb hd hne (kk _ _ _ _ _ _ _ _ hev hat)
    · cases hev
  -- ineg
  · split at hev
    · exact lv_ineg hx hb hd (kk _ _ _ _ _ _ _ _ hev hat)
    · cases hev
  -- iand
  · split at hev
    · exact lv_iand hx hb hd (kk _ _ _ _ _ _ _ _ hev hat)
    · cases hev
  -- ior
  · split at hev
    · exact lv_ior hx hb hd (kk _ _ _ _ _ _ _ _ hev hat)
    · cases hev
  -- ixor
  · split at hev
    · exact lv_ixor hx hb hd (kk _ _ _ _ _ _ _ _ hev hat)
    · cases hev
  -- ishl
  · split at hev
    · exact lv_ishl hx hb hd (kk _ _ _ _ _ _ _ _ hev hat)
    · cases hev
  -- ishr
  · split at hev
    · exact lv_ishr hx hb hd (kk _ _ _ _ _ _ _ _ hev hat)
    · cases hev
  -- iushr
  · split at hev
    · exact lv_iushr hx hb hd rfl (kk _ _ _ _ _ _ _ _ hev hat)
    · cases hev
  -- ladd
  · split at hev
    · exact lv_ladd hx hb hd (kk _ _ _ _ _ _ _ _ hev hat)
    · cases hev
  -- lsub
  · split at hev
    · exact lv_lsub hx hb hd (kk _ _ _ _ _ _ _ _ hev hat)
    · cases hev
  -- lmul
  · split at hev
    · exact lv_lmul hx hb hd (kk _ _ _ _ _ _ _ _ hev hat)
    · cases hev
  -- ldiv
  · split at hev
    · split at hev
      · cases hev
      · rename_i hne
        exact lv_ldiv hx hb hd hne (kk _ _ _ _ _ _ _ _ hev hat)
    · cases hev
  -- lrem
  · split at hev
    · split at hev
      · cases hev
      · rename_i hne
        exact lv_lrem hx hb hd hne (kk _ _ _ _ _ _ _ _ hev hat)
    · cases hev
  -- lneg
  · split at hev
    · exact lv_lneg hx hb hd (kk _ _ _ _ _ _ _ _ hev hat)
    · cases hev
  -- land
  · split at hev
    · exact lv_land hx hb hd (kk _ _ _ _ _ _ _ _ hev hat)
    · cases hev
  -- lor
  · split at hev
    · exact lv_lor hx hb hd (kk _ _ _ _ _ _ _ _ hev hat)
    · cases hev
  -- lshl
  · split at hev
    · exact lv_lshl hx hb hd rfl (kk _ _ _ _ _ _ _ _ hev hat)
    · cases hev
  -- lcmp
  · split at hev
    · exact W.lcmp hx hb hd (kk _ _ _ _ _ _ _ _ hev hat)
    · cases hev
  -- i2l
  · split at hev
    · exact lv_i2l hx hb hd rfl (kk _ _ _ _ _ _ _ _ hev hat)
    · cases hev
  -- l2i
  · split at hev
    · exact lv_l2i hx hb hd rfl (kk _ _ _ _ _ _ _ _ hev hat)
    · cases hev
  -- i2b
  · split at hev
    · exact lv_i2b hx hb hd rfl (kk _ _ _ _ _ _ _ _ hev hat)
    · cases hev
  -- i2c
  · split at hev
    · exact lv_i2c hx hb hd rfl (kk _ _ _ _ _ _ _ _ hev hat)
    · cases hev
  -- dup
  · split at hev
    · exact lv_dup hx hb hd rfl (kk _ _ _ _ _ _ _ _ hev hat)
    · exact lv_dup hx hb hd rfl (kk _ _ _ _ _ _ _ _ hev hat)
    · cases hev
  -- dup_x1
  · split at hev
    · exact lv_dup_x1 hx hb hd rfl rfl (kk _ _ _ _ _ _ _ _ hev hat)
    · cases hev
  -- dup2
  · split at hev
    · exact lv_dup2_11 hx hb hd rfl rfl (kk _ _ _ _ _ _ _ _ hev hat)
    · exact lv_dup2_2 hx hb hd rfl (kk _ _ _ _ _ _ _ _ hev hat)
    · cases hev
  -- pop
  · split at hev
    · rename_i x _
      exact lv_pop (va := .int x) hx hb hd rfl (kk _ _ _ _ _ _ _ _ hev hat)
    · cases hev
  -- pop2
  · split at hev
    · rename_i x _
      exact lv_pop2_2 (va := .long x) hx hb hd rfl (kk _ _ _ _ _ _ _ _ hev hat)
    · cases hev
  -- arraylength
  · split at hev
    · obtain ⟨x, hx1, hev⟩ := Option.bind_eq_some_iff.mp hev
      unfold am_len at hx1
      split at hx1
      · rename_i hc
        split at hx1
        · rename_i hk
          cases hx1
          obtain ⟨-, cell, g1, g2, -⟩ := so_arr hP hc hk.1
          exact W.alen hx hb g1 g2.1 g2.2.2.2.1 rfl rfl hd (kk _ _ _ _ _ _ _ _ hev hat)
        · cases hx1
      · cases hx1
    · cases hev
  -- iaload
  · split at hev
    · obtain ⟨x, hx1, hev⟩ := Option.bind_eq_some_iff.mp hev
      unfold am_aI at hx1
      split at hx1
      · rename_i hA
        cases hx1
        obtain ⟨n, cell, g1, g2, g3, g4⟩ := so_a_of hP (by decide) hA
        exact W.iald hx hb g1 g2.1 g2.2.1 g3 g4 rfl rfl hd (kk _ _ _ _ _ _ _ _ hev hat)
      · cases hx1
    · cases hev
  -- laload
  · split at hev
    · obtain ⟨x, hx1, hev⟩ := Option.bind_eq_some_iff.mp hev
      unfold am_aL at hx1
      split at hx1
      · rename_i hA
        cases hx1
        obtain ⟨n, cell, g1, g2, g3, g4⟩ := so_a_of hP (by decide) hA
        exact W.lald hx hb g1 g2.1 g2.2.1 g3 g4 rfl rfl hd (kk _ _ _ _ _ _ _ _ hev hat)
      · cases hx1
    · cases hev
  -- baload
  · split at hev
    · obtain ⟨x, hx1, hev⟩ := Option.bind_eq_some_iff.mp hev
      unfold am_aB at hx1
      split at hx1
      · rename_i hA
        cases hx1
        obtain ⟨n, cell, g1, g2, g3, g4⟩ := so_a_of hP (by decide) hA
        exact W.bald hx hb g1 g2.1 g2.2.1 g3 g4 rfl rfl hd (kk _ _ _ _ _ _ _ _ hev hat)
      · split at hx1
        · rename_i hA
          cases hx1
          obtain ⟨n, cell, g1, g2, g3, g4⟩ := so_a_of hP (by decide) hA
          exact W.zald hx hb g1 g2.1 g2.2.1 g3 g4 rfl rfl hd (kk _ _ _ _ _ _ _ _ hev hat)
        · cases hx1
    · cases hev
  -- aaload
  · split at hev
    · obtain ⟨x, hx1, hev⟩ := Option.bind_eq_some_iff.mp hev
      unfold am_aR at hx1
      split at hx1
      · rename_i hA
        cases hx1
        obtain ⟨n, cell, g1, g2, g3, g4⟩ := so_a_of hP (by decide) hA
        exact W.aald hx hb g1 g2.1 rfl g2.2.1 g3 g4 rfl rfl hd (kk _ _ _ _ _ _ _ _ hev hat)
      · cases hx1
    · cases hev
  -- iastore
  · split at hev
    · obtain ⟨h', hx1, hev⟩ := Option.bind_eq_some_iff.mp hev
      obtain ⟨cell, g1, g2, g3, g4, -, g5⟩ := so_st_of hP hS (by decide) hx1
      have hsz := am_st_sz hx1
      exact W.iast hx hb g1 g2 g3 g4 rfl rfl hd fun H' d1 d2 d3 => kk _ _ _ _ _ _ _ _ hev ⟨(g5 H' d1 d2 d3).1, (g5 H' d1 d2 d3).2, hl, hc1.trans hsz.1.symm, hc2.trans hsz.2.symm⟩
    · cases hev
  -- lastore
  · split at hev
    · obtain ⟨h', hx1, hev⟩ := Option.bind_eq_some_iff.mp hev
      obtain ⟨cell, g1, g2, g3, g4, -, g5⟩ := so_st_of hP hS (by decide) hx1
      have hsz := am_st_sz hx1
      exact W.last hx hb g1 g2 g3 g4 rfl rfl hd fun H' d1 d2 d3 => kk _ _ _ _ _ _ _ _ hev ⟨(g5 H' d1 d2 d3).1, (g5 H' d1 d2 d3).2, hl, hc1.trans hsz.1.symm, hc2.trans hsz.2.symm⟩
    · cases hev
  -- bastore
  · split at hev
    · obtain ⟨h', hx1, hev⟩ := Option.bind_eq_some_iff.mp hev
      unfold am_stB at hx1
      split at hx1
      · split at hx1
        · obtain ⟨cell, g1, g2, g3, g4, -, g5⟩ := so_st_of hP hS (by decide) hx1
          have hsz := am_st_sz hx1
          exact W.bast hx hb g1 g2 g3 g4 rfl rfl hd fun H' d1 d2 d3 => kk _ _ _ _ _ _ _ _ hev ⟨(g5 H' d1 d2 d3).1, (g5 H' d1 d2 d3).2, hl, hc1.trans hsz.1.symm, hc2.trans hsz.2.symm⟩
        · split at hx1
          · obtain ⟨cell, g1, g2, g3, g4, -, g5⟩ := so_st_of hP hS (by decide) hx1
            have hsz := am_st_sz hx1
            exact W.zast hx hb g1 g2 g3 g4 rfl rfl hd fun H' d1 d2 d3 => kk _ _ _ _ _ _ _ _ hev ⟨(g5 H' d1 d2 d3).1, (g5 H' d1 d2 d3).2, hl, hc1.trans hsz.1.symm, hc2.trans hsz.2.symm⟩
          · cases hx1
      · cases hx1
    · cases hev
  -- aastore
  · split at hev
    · obtain ⟨h', hx1, hev⟩ := Option.bind_eq_some_iff.mp hev
      unfold am_stR at hx1
      split at hx1
      · rename_i hcv
        split at hx1
        · rename_i hc0
          subst hc0
          obtain ⟨cell, g1, g2, g3, g4, g6, g5⟩ := so_st_of hP hS (by decide) hx1
          have hsz := am_st_sz hx1
          obtain ⟨qv, b1, b2, cellV, v1, v2, v3, v4⟩ := so_obj_at hP hcv (by decide)
          obtain ⟨hSv, hcls⟩ := hK.1 0 qv b1
          cases b1
          obtain ⟨kA, comp, k1, k2, k3, -⟩ := g6 rfl
          have hcomp : comp = D.1 0 := Option.some.inj (k3.symm.trans hcls.1)
          subst hcomp
          obtain ⟨kC, hkC, -⟩ := id hcls.2
          refine W.aast hx hb g1 g2.1 g3 k1 k2 rfl hkC ⟨fun z => g4 (Or.inl z), Nat.not_le.mp fun z => g4 (Or.inr z)⟩ v1 (fun q z => by rw [v3] at z; cases z) (by rw [v2]; exact hkC) (by rw [v2]; exact va_assign hcls) rfl rfl hd fun H' d1 d2 d3 => kk _ _ _ _ _ _ _ _ hev ⟨(g5 H' d1 d2 d3).1, (g5 H' d1 d2 d3).2, hl, hc1.trans hsz.1.symm, hc2.trans hsz.2.symm⟩
        · cases hx1
      · cases hx1
    · cases hev
  -- getfield
  · split at hev
    · unfold am_getf at hev
      split at hev
      · obtain ⟨x, hx1, hev⟩ := Option.bind_eq_some_iff.mp hev
        unfold am_fI at hx1
        split at hx1
        · rename_i hA
          cases hx1
          exact so_getf X hP hd hI hA (kk _ _ _ _ _ _ _ _ hev hat)
        · cases hx1
      · obtain ⟨x, hx1, hev⟩ := Option.bind_eq_some_iff.mp hev
        unfold am_fI at hx1
        split at hx1
        · rename_i hA
          cases hx1
          exact so_getf X hP hd hI hA (kk _ _ _ _ _ _ _ _ hev hat)
        · cases hx1
      · obtain ⟨x, hx1, hev⟩ := Option.bind_eq_some_iff.mp hev
        unfold am_fI at hx1
        split at hx1
        · rename_i hA
          cases hx1
          exact so_getf X hP hd hI hA (kk _ _ _ _ _ _ _ _ hev hat)
        · cases hx1
      · obtain ⟨x, hx1, hev⟩ := Option.bind_eq_some_iff.mp hev
        unfold am_fL at hx1
        split at hx1
        · rename_i hA
          cases hx1
          exact so_getf X hP hd hI hA (kk _ _ _ _ _ _ _ _ hev hat)
        · cases hx1
      · obtain ⟨x, hx1, hev⟩ := Option.bind_eq_some_iff.mp hev
        unfold am_fR at hx1
        split at hx1
        · rename_i hA
          cases hx1
          exact so_getf X hP hd hI hA (kk _ _ _ _ _ _ _ _ hev hat)
        · cases hx1
      · obtain ⟨x, hx1, hev⟩ := Option.bind_eq_some_iff.mp hev
        unfold am_fR at hx1
        split at hx1
        · rename_i hA
          cases hx1
          exact so_getf X hP hd hI hA (kk _ _ _ _ _ _ _ _ hev hat)
        · cases hx1
      · cases hev
    · cases hev
  -- putfield
  · split at hev
    · unfold am_putf at hev
      split at hev
      · rename_i hty
        obtain ⟨h', hx1, hev⟩ := Option.bind_eq_some_iff.mp hev
        have hsz := am_pf_sz hx1
        exact so_putf X hP hS hd hI hx1 (by rw [hty]; rfl) (by rw [hty]; rfl) fun H1 locs1 g1 g2 => kk _ _ _ _ _ _ _ _ hev ⟨g1, g2, hl, hc1.trans hsz.1.symm, hc2.trans hsz.2.symm⟩
      · rename_i hty
        obtain ⟨h', hx1, hev⟩ := Option.bind_eq_some_iff.mp hev
        unfold am_pz at hx1
        split at hx1
        · rename_i hz
          have hsz := am_pf_sz hx1
          exact so_putf X hP hS hd hI hx1 (by rw [hty]; rcases hz with rfl | rfl <;> rfl) (by rw [hty]; rcases hz with rfl | rfl <;> rfl) fun H1 locs1 g1 g2 => kk _ _ _ _ _ _ _ _ hev ⟨g1, g2, hl, hc1.trans hsz.1.symm, hc2.trans hsz.2.symm⟩
        · cases hx1
      · rename_i hty
        obtain ⟨h', hx1, hev⟩ := Option.bind_eq_some_iff.mp hev
        have hsz := am_pf_sz hx1
        exact so_putf X hP hS hd hI hx1 (by rw [hty]; rfl) (by rw [hty]; rfl) fun H1 locs1 g1 g2 => kk _ _ _ _ _ _ _ _ hev ⟨g1, g2, hl, hc1.trans hsz.1.symm, hc2.trans hsz.2.symm⟩
      · rename_i hty
        obtain ⟨h', hx1, hev⟩ := Option.bind_eq_some_iff.mp hev
        have hsz := am_pf_sz hx1
        exact so_putf X hP hS hd hI hx1 (by rw [hty]; rfl) (by rw [hty]; rfl) fun H1 locs1 g1 g2 => kk _ _ _ _ _ _ _ _ hev ⟨g1, g2, hl, hc1.trans hsz.1.symm, hc2.trans hsz.2.symm⟩
      · rename_i hty
        obtain ⟨h', hx1, hev⟩ := Option.bind_eq_some_iff.mp hev
        have hsz := am_pf_sz hx1
        exact so_putf X hP hS hd hI hx1 (by rw [hty]; rfl) (by rw [hty]; rfl) fun H1 locs1 g1 g2 => kk _ _ _ _ _ _ _ _ hev ⟨g1, g2, hl, hc1.trans hsz.1.symm, hc2.trans hsz.2.symm⟩
      · cases hev
    · cases hev
  -- new
  · simp only [am_okI] at hI
    split at hI
    · rename_i q hq
      simp only [Bool.and_eq_true] at hI
      obtain ⟨hN, hI⟩ := hI
      have hN := Nat.eq_of_beq_eq_true hN
      subst hN
      obtain ⟨i1, i2⟩ := so_inst _ q hq
      have hKn := hK.1 _ q hq
      have hlm := hlim _ _ _ hev
      have hr1 : h.1 + 1 ≤ h0.1 + R.cells := hlm.1
      have hr2 : h.2.1 + q.2.2 ≤ h0.2.1 + R.slots := hlm.2
      refine W.newcK hx hb hown (hts _ (am_has_mem hI)) (hts _ i1) (hts _ i2) rfl hd (by omega) (by omega) hKn.2.1 rfl fun H1 kC hkC e1 z1 o1 => ?_
      have hborn := u_born (am_fty _) hts (so_in _ q hq) hKn hkC e1 (so_ty _ q hq)
      have hc11 : r1 < 11 := by
        have := (List.getElem?_eq_some_iff.mp hq).1
        simpa [vwCl] using this
      obtain ⟨g1, g2⟩ := hP.new (c := (r1, q.2.2, fun j => am_dflt (am_fty r1 j))) z1 o1 (Or.inl ⟨hc11, ⟨q, hq, rfl⟩, hborn.to (fun j hj => by rw [so_dflt r1 q hq j hj])⟩)
      have := kk _ _ _ H1 locs ls (cells + 1) (slots + q.2.2) hev ⟨g1, ⟨Nat.le_trans hS.1 (by omega), fun x a1 a2 => (o1 x (Nat.lt_of_lt_of_le a1 hS.1)).trans (hS.2.1 x a1 a2), hS.2.2⟩, hl, by show cells + 1 + h0.1 = h.1 + 1; omega, by show slots + q.2.2 + h0.2.1 = h.2.1 + q.2.2; omega⟩
      rw [show (Value.ref H.size :: st.map (so_V r)) = (Value.ref h.1 :: st).map (so_V r) by rw [← g2]; rfl]
      exact this
    · cases hI
  -- newarray
  · split at hev
    · unfold am_mka at hev
      split at hev
      · rename_i kd hkd
        split at hev
        · rename_i hn
          have hlm := hlim _ _ _ hev
          have hr1 : h.1 + 1 ≤ h0.1 + R.cells := hlm.1
          obtain ⟨b1, b2, b3, b4, b5, b6⟩ := so_akind hkd
          rename_i x _ _
          have hr2 : h.2.1 + x.toNatClampNeg ≤ h0.2.1 + R.slots := hlm.2
          refine va_newaK hx hb (hts _ b1) rfl hd rfl hn.1 rfl (by have := Nat.mul_le_mul hn.2 b6; omega) (by omega) (by omega) rfl fun H1 cA e1 z1 o1 hA hNm => ?_
          rw [b2] at e1
          rw [b3] at hA
          obtain ⟨⟨g1, g2⟩, g3⟩ := so_new_arr hP hS b4 e1 z1 o1 hA (fun z => absurd z (Nat.ne_of_lt (so_akind_lt hkd))) b5
          have := kk _ _ _ H1 locs ls (cells + 1) (slots + x.toNatClampNeg) hev ⟨g1, g3, hl, by show cells + 1 + h0.1 = h.1 + 1; omega, by show slots + x.toNatClampNeg + h0.2.1 = h.2.1 + x.toNatClampNeg; omega⟩
          rw [← g2]
          exact this
        · cases hev
      · cases hev
    · cases hev
  -- anewarray
  · split at hev
    · unfold am_mka at hev
      split at hev
      · rename_i kd hkd
        cases hkd
        split at hev
        · rename_i hn
          have hlm := hlim _ _ _ hev
          have hr1 : h.1 + 1 ≤ h0.1 + R.cells := hlm.1
          rename_i x _ _
          have hr2 : h.2.1 + x.toNatClampNeg ≤ h0.2.1 + R.slots := hlm.2
          refine W.anew hx hb hown (hts _ (am_has_mem hI)) (va_AO.use hAO) rfl hd rfl hn.1 (by omega) (by omega) (by omega) fun cA kA comp f1 f2 f3 f4 => ?_
          have z1 : (H.push ({ cls := cA, slots := Array.replicate x.toNatClampNeg .null, vm := .none } : Cell)).size = H.size + 1 := Array.size_push _
          have e1 : (H.push ({ cls := cA, slots := Array.replicate x.toNatClampNeg .null, vm := .none } : Cell))[H.size]? = some (arrV cA x.toNatClampNeg (fun _ => .null)) := by rw [Array.getElem?_push_size, ← arrV_new]
          have o1 : ∀ q : Nat, q < H.size → (H.push ({ cls := cA, slots := Array.replicate x.toNatClampNeg .null, vm := .none } : Cell))[q]? = H[q]? := fun q hq => by rw [Array.getElem?_push, if_neg (Nat.ne_of_lt hq)]
          obtain ⟨⟨g1, g2⟩, g3⟩ := so_new_arr (kd := 104) hP hS (by decide) e1 z1 o1 (fun N z => ⟨(fun k h => by cases h), kA, f2, comp, f3⟩) (fun _ => ⟨kA, comp, f2, f3, f4, f1⟩) rfl
          have := kk _ _ _ _ locs ls (cells + 1) (slots + x.toNatClampNeg) hev ⟨g1, g3, hl, by show cells + 1 + h0.1 = h.1 + 1; omega, by show slots + x.toNatClampNeg + h0.2.1 = h.2.1 + x.toNatClampNeg; omega⟩
          rw [← g2]
          exact this
        · cases hev
      · cases hev
    · cases hev
  · cases hev
end SoStp
end
section
/-! runs of the small machine -/
def am_run (C : CD) (U : List (Nat × List Nat)) (rt : Nat) (G : GT) : Nat → Nat → LV → AH → Option RS
  | 0, _, _, _ => none
  | n + 1, pc, l, h => am_ev C U rt G (am_run C U rt G n) 4000 pc l [] h
/-- the small machine's answer, however long it takes -/
noncomputable def am_rn (C : CD) (U : List (Nat × List Nat)) (rt : Nat) (G : GT) (pc : Nat) (l : LV) (h : AH) : Option RS :=
  @dite (Option RS) (∃ n, (am_run C U rt G n pc l h).isSome = true) (Classical.propDecidable _) (fun hx => am_run C U rt G hx.choose pc l h) (fun _ => none)
def am_le (h h' : AH) : Prop := h.1 ≤ h'.1 ∧ h.2.1 ≤ h'.2.1
theorem am_le.rf {h : AH} : am_le h h := ⟨Nat.le_refl _, Nat.le_refl _⟩
theorem am_le.tr {a b c : AH} (h1 : am_le a b) (h2 : am_le b c) : am_le a c := ⟨Nat.le_trans h1.1 h2.1, Nat.le_trans h1.2 h2.2⟩
theorem am_le.eq {h h' : AH} (e : h'.1 = h.1 ∧ h'.2.1 = h.2.1) : am_le h h' := ⟨Nat.le_of_eq e.1.symm, Nat.le_of_eq e.2.symm⟩
/-- an instruction goes on in one way alone, or not at all -/
def am_sel (h : AH) (F : KT → Option RS) : Prop := (∀ k, F k = none) ∨ ∃ l' st' h', (∀ k, F k = k l' st' h') ∧ am_le h h'
theorem am_sel.no {h : AH} : am_sel h (fun _ => none) := Or.inl fun _ => rfl
theorem am_sel.go {h h' : AH} {l : LV} {st : List Value} (he : am_le h h') : am_sel h (fun k => k l st h') := Or.inr ⟨l, st, h', fun _ => rfl, he⟩
theorem am_sel.bind {α : Type} {h : AH} {o : Option α} {f : α → KT → Option RS} (hf : ∀ x, o = some x → am_sel h (f x)) : am_sel h (fun k => o.bind fun x => f x k) := by
  cases o with
  | none => exact am_sel.no
  | some x => exact hf x rfl
theorem am_stB_sz {h h' : AH} {a : Nat} {i x : Int32} (hf : am_stB h a i x = some h') : h'.1 = h.1 ∧ h'.2.1 = h.2.1 := by
  unfold am_stB at hf
  split at hf
  · split at hf
    · exact am_st_sz hf
    · split at hf
      · exact am_st_sz hf
      · cases hf
  · cases hf
theorem am_stR_sz {h h' : AH} {a x : Nat} {i : Int32} (hf : am_stR h a i x = some h') : h'.1 = h.1 ∧ h'.2.1 = h.2.1 := by
  unfold am_stR at hf
  split at hf
  · split at hf
    · exact am_st_sz hf
    · cases hf
  · cases hf
theorem am_pz_sz {h h' : AH} {a ci k : Nat} {x : Int32} (hf : am_pz h a ci k x = some h') : h'.1 = h.1 ∧ h'.2.1 = h.2.1 := by
  unfold am_pz at hf
  split at hf
  · exact am_pf_sz hf
  · cases hf
theorem am_copy_sz {h h' : AH} {a b : Nat} {sp dp n : Int32} (hf : am_copy h a sp b dp n = some h') : h'.1 = h.1 ∧ h'.2.1 = h.2.1 := by
  unfold am_copy at hf
  split at hf
  · split at hf
    · cases hf
      exact ⟨rfl, rfl⟩
    · cases hf
  · cases hf
theorem am_stp_sel (i : Instr) (r1 r2 : Nat) (v : Value) (l : LV) (st : List Value) (h : AH) : am_sel h (am_stp i r1 r2 v l st h) := by
  unfold am_stp
  split <;> first
    | exact am_sel.no
    | exact am_sel.go am_le.rf
    | exact am_sel.go ⟨Nat.le_succ _, Nat.le_add_right _ _⟩
    | (unfold am_ldI; split <;> first | exact am_sel.no | exact am_sel.go am_le.rf)
    | (unfold am_ldL; split <;> first | exact am_sel.no | exact am_sel.go am_le.rf)
    | (unfold am_ldR; split <;> first | exact am_sel.no | exact am_sel.go am_le.rf)
    | (split <;> first
        | exact am_sel.no
        | exact am_sel.go am_le.rf
        | (split <;> first | exact am_sel.no | exact am_sel.go am_le.rf)
        | (unfold am_getf; split <;> first | exact am_sel.no | exact am_sel.bind fun _ _ => am_sel.go am_le.rf)
        | (unfold am_putf; split <;> first | exact am_sel.no | exact am_sel.bind fun _ hx => am_sel.go (am_le.eq (am_pf_sz hx)) | exact am_sel.bind fun _ hx => am_sel.go (am_le.eq (am_pz_sz hx)))
        | (unfold am_mka; split <;> first | exact am_sel.no | (split <;> first | exact am_sel.no | exact am_sel.go ⟨Nat.le_succ _, Nat.le_add_right _ _⟩))
        | exact am_sel.bind fun _ _ => am_sel.go am_le.rf
        | exact am_sel.bind fun _ hx => am_sel.go (am_le.eq (am_st_sz hx))
        | exact am_sel.bind fun _ hx => am_sel.go (am_le.eq (am_stB_sz hx))
        | exact am_sel.bind fun _ hx => am_sel.go (am_le.eq (am_stR_sz hx)))
/-- a piece ends with an answer of its own, or at a cut, whatever lies behind -/
def am_tl (h : AH) (F : (Nat → LV → AH → Option RS) → Option RS) : Prop := (∃ o, (∀ L, F L = o) ∧ ∀ x h', o = some (x, h') → am_le h h') ∨ ∃ pc' l' h', (∀ L, F L = L pc' l' h') ∧ am_le h h'
theorem am_tl.no {h : AH} : am_tl h (fun _ => none) := Or.inl ⟨none, fun _ => rfl, fun _ _ z => by cases z⟩
theorem am_tl.out {h : AH} {x : Option Value} : am_tl h (fun _ => some (x, h)) := Or.inl ⟨_, fun _ => rfl, fun _ _ z => by cases z; exact am_le.rf⟩
theorem am_tl.le {h h1 : AH} {F : (Nat → LV → AH → Option RS) → Option RS} (he : am_le h h1) (hF : am_tl h1 F) : am_tl h F := by
  rcases hF with ⟨o, h1, h2⟩ | ⟨pc', l', h', h1, h2⟩
  · exact Or.inl ⟨o, h1, fun x h' z => he.tr (h2 x h' z)⟩
  · exact Or.inr ⟨pc', l', h', h1, he.tr h2⟩
theorem am_tl.nx {U : List (Nat × List Nat)} {e : (Nat → LV → AH → Option RS) → Nat → LV → List Value → AH → Option RS} (he : ∀ pc l st h, am_tl h (fun L => e L pc l st h)) (pc : Nat) (l : LV) (st : List Value) (h : AH) : am_tl h (fun L => am_nx U L (e L) pc l st h) := by
  unfold am_nx
  cases am_look U pc with
  | none => exact he _ _ _ _
  | some live =>
    cases st with
    | nil =>
      dsimp only
      cases am_pick live l with
      | none => exact am_tl.no
      | some l' => exact Or.inr ⟨_, _, _, fun _ => rfl, am_le.rf⟩
    | cons => exact am_tl.no
theorem am_tl.ite {h : AH} {c : Prop} [Decidable c] {F F' : (Nat → LV → AH → Option RS) → Option RS} (h1 : am_tl h F) (h2 : am_tl h F') : am_tl h (fun L => if c then F L else F' L) := by
  by_cases hc : c
  · simp only [if_pos hc]; exact h1
  · simp only [if_neg hc]; exact h2
theorem am_tl.bif {h : AH} {c : Bool} {F : (Nat → LV → AH → Option RS) → Option RS} (h1 : am_tl h F) : am_tl h (fun L => bif c then F L else none) := by
  cases c with
  | true => exact h1
  | false => exact am_tl.no
theorem am_tl.sw {h : AH} {x : Int32} : ∀ (fs : List ((Nat → LV → AH → Option RS) → Option RS)) (lo : Int) (d : (Nat → LV → AH → Option RS) → Option RS), am_tl h d → (∀ f ∈ fs, am_tl h f) → am_tl h (fun L => am_sw x (d L) lo (fs.map (fun f => f L))) := by
  intro fs
  induction fs with
  | nil => intro lo d hd _; exact hd
  | cons f fs ih =>
    intro lo d hd hf
    exact am_tl.ite (hf f List.mem_cons_self) (ih (lo + 1) d hd (fun g hg => hf g (List.mem_cons_of_mem _ hg)))
def am_mono (G : GT) : Prop := ∀ j as h x h', G j as h = some (x, h') → am_le h h'
theorem am_tl.go {G : GT} (hG : am_mono G) {j rt : Nat} {as : List Value} {h : AH} {st : List Value} {k : (Nat → LV → AH → Option RS) → List Value → AH → Option RS} (hk : ∀ st h, am_tl h (fun L => k L st h)) : am_tl h (fun L => am_go rt (G j as h) st (k L)) := by
  cases hg : G j as h with
  | none =>
    unfold am_go am_cV am_cL am_cI
    split <;> exact am_tl.no
  | some q =>
    obtain ⟨x, h'⟩ := q
    have hle := hG _ _ _ _ _ hg
    unfold am_go
    split
    · unfold am_cV
      split
      · rename_i hq
        cases hq
        exact am_tl.le hle (hk _ _)
      · exact am_tl.no
    · unfold am_cL
      split
      · rename_i hq
        cases hq
        exact am_tl.le hle (hk _ _)
      · exact am_tl.no
    · unfold am_cI
      split
      · rename_i hq
        cases hq
        exact am_tl.le hle (hk _ _)
      · exact am_tl.no
theorem am_ev_tl (C : CD) (U : List (Nat × List Nat)) (rt : Nat) {G : GT} (hG : am_mono G) : ∀ (n pc : Nat) (l : LV) (st : List Value) (h : AH), am_tl h (fun L => am_ev C U rt G L n pc l st h) := by
  intro n
  induction n with
  | zero => intro pc l st h; exact am_tl.no
  | succ n ih =>
    intro pc l st h
    have nx : ∀ pc l st h, am_tl h (fun L => am_nx U L (am_ev C U rt G L n) pc l st h) := fun pc l st h => am_tl.nx (e := fun L => am_ev C U rt G L n) ih pc l st h
    have key : ∀ (i : Instr) (r1 r2 : Nat) (v : Value) (len : Nat), am_tl h (fun L => am_stp i r1 r2 v l st h (fun l st h => am_nx U L (am_ev C U rt G L n) (pc + len) l st h)) := by
      intro i r1 r2 v len
      rcases am_stp_sel i r1 r2 v l st h with h1 | ⟨l', st', h', h1, h2⟩
      · simp only [h1]; exact am_tl.no
      · simp only [h1]; exact am_tl.le h2 (nx _ _ _ _)
    simp only [am_ev]
    split
    · exact am_tl.no
    · split
      · exact nx _ _ _ _
      · split
        · split <;> exact am_tl.ite (nx _ _ _ _) (nx _ _ _ _)
        · exact am_tl.no
      · split
        · split <;> exact am_tl.ite (nx _ _ _ _) (nx _ _ _ _)
        · exact am_tl.no
      · split
        · rename_i d lo hi offs heq _ x st'
          have := am_tl.sw (x := x) (h := h) (offs.toList.map fun o => fun L => am_nx U L (am_ev C U rt G L n) ((pc : Int) + o).toNat l st' h) lo (fun L => am_nx U L (am_ev C U rt G L n) ((pc : Int) + d).toNat l st' h) (nx _ _ _ _) (fun f hf => by
            obtain ⟨o, -, rfl⟩ := List.mem_map.mp hf
            exact nx _ _ _ _)
          simp only [List.map_map, Function.comp_def] at this
          exact this
        · exact am_tl.no
      · split
        · unfold am_ret
          split
          · exact am_tl.out
          · exact am_tl.ite am_tl.out am_tl.no
          · exact am_tl.ite am_tl.out am_tl.no
          · exact am_tl.ite am_tl.out am_tl.no
          · exact am_tl.no
        · exact am_tl.no
      · split
        · split
          · exact am_tl.out
          · exact am_tl.no
        · exact am_tl.no
      · split
        · split
          · exact am_tl.out
          · exact am_tl.no
        · exact am_tl.no
      · split
        · exact am_tl.bif (am_tl.go hG fun st h => nx _ _ _ _)
        · exact am_tl.no
      · split
        · split
          · refine am_tl.bif ?_
            generalize ho : am_copy _ _ _ _ _ _ = o
            cases o with
            | none => exact am_tl.no
            | some h1 => exact am_tl.le (am_le.eq (am_copy_sz ho)) (nx _ _ _ _)
          · exact am_tl.no
        · split
          · exact am_tl.bif (nx _ _ _ _)
          · exact am_tl.no
        · split
          · exact am_tl.bif (nx _ _ _ _)
          · exact am_tl.no
        · split
          · exact am_tl.bif (nx _ _ _ _)
          · exact am_tl.no
        · split
          · exact am_tl.bif (nx _ _ _ _)
          · exact am_tl.no
        · split
          · exact am_tl.bif (am_tl.go hG fun st h => nx _ _ _ _)
          · exact am_tl.no
      · split
        · split
          · exact am_tl.bif (nx _ _ _ _)
          · exact am_tl.no
        · split
          · exact am_tl.bif (am_tl.go hG fun st h => nx _ _ _ _)
          · exact am_tl.no
      · exact key _ _ _ _ _

theorem am_run_succ (C : CD) (U : List (Nat × List Nat)) (rt : Nat) {G : GT} (hG : am_mono G) : ∀ (n pc : Nat) (l : LV) (h : AH) (x : RS), am_run C U rt G n pc l h = some x → am_run C U rt G (n + 1) pc l h = some x := by
  intro n
  induction n with
  | zero => intro pc l h x hx; cases hx
  | succ n ih =>
    intro pc l h x hx
    have h1 : am_ev C U rt G (am_run C U rt G n) 4000 pc l [] h = some x := hx
    show am_ev C U rt G (am_run C U rt G (n + 1)) 4000 pc l [] h = some x
    rcases am_ev_tl C U rt hG 4000 pc l [] h with ⟨o, a1, -⟩ | ⟨pc', l', h', a1, -⟩
    · rw [show am_ev C U rt G (am_run C U rt G (n + 1)) 4000 pc l [] h = o from a1 _, ← show am_ev C U rt G (am_run C U rt G n) 4000 pc l [] h = o from a1 _]
      exact h1
    · rw [show am_ev C U rt G (am_run C U rt G (n + 1)) 4000 pc l [] h = _ from a1 _]
      rw [show am_ev C U rt G (am_run C U rt G n) 4000 pc l [] h = _ from a1 _] at h1
      exact ih _ _ _ _ h1
theorem am_run_le (C : CD) (U : List (Nat × List Nat)) (rt : Nat) {G : GT} (hG : am_mono G) {n m pc : Nat} {l : LV} {h : AH} {x : RS} (hnm : n ≤ m) (hx : am_run C U rt G n pc l h = some x) : am_run C U rt G m pc l h = some x := by
  induction hnm with
  | refl => exact hx
  | step _ ih => exact am_run_succ C U rt hG _ _ _ _ _ ih
theorem am_rn_some {C : CD} {U : List (Nat × List Nat)} {rt : Nat} {G : GT} {pc : Nat} {l : LV} {h : AH} {x : RS} (hx : am_rn C U rt G pc l h = some x) : ∃ n, am_run C U rt G n pc l h = some x := by
  unfold am_rn at hx
  by_cases hc : ∃ n, (am_run C U rt G n pc l h).isSome = true
  · rw [dif_pos hc] at hx
    exact ⟨_, hx⟩
  · rw [dif_neg hc] at hx
    cases hx
theorem am_rn_of {C : CD} {U : List (Nat × List Nat)} {rt : Nat} {G : GT} (hG : am_mono G) {pc n : Nat} {l : LV} {h : AH} {x : RS} (hx : am_run C U rt G n pc l h = some x) : am_rn C U rt G pc l h = some x := by
  unfold am_rn
  have hc : ∃ n, (am_run C U rt G n pc l h).isSome = true := ⟨n, by rw [hx]; rfl⟩
  rw [dif_pos hc]
  have h1 := hc.choose_spec
  obtain ⟨y, hy⟩ := Option.isSome_iff_exists.mp h1
  rcases Nat.le_total n hc.choose with h2 | h2
  · exact am_run_le C U rt hG h2 hx
  · have := am_run_le C U rt hG h2 hy
    rw [hx] at this
    rw [hy, this]
/-- a run, unfolded to the next cuts -/
theorem am_rn_eq (C : CD) (U : List (Nat × List Nat)) (rt : Nat) {G : GT} (hG : am_mono G) (pc : Nat) (l : LV) (h : AH) : am_rn C U rt G pc l h = am_ev C U rt G (am_rn C U rt G) 4000 pc l [] h := by
  apply Option.ext
  intro x
  rcases am_ev_tl C U rt hG 4000 pc l [] h with ⟨o, a1, -⟩ | ⟨pc', l', h', a1, -⟩
  · rw [show am_ev C U rt G (am_rn C U rt G) 4000 pc l [] h = o from a1 _]
    constructor
    · intro hx
      obtain ⟨n, hn⟩ := am_rn_some hx
      cases n with
      | zero => cases hn
      | succ n => exact (show am_ev C U rt G (am_run C U rt G n) 4000 pc l [] h = o from a1 _).symm.trans hn
    · intro hx
      exact am_rn_of hG (n := 1) ((show am_ev C U rt G (am_run C U rt G 0) 4000 pc l [] h = o from a1 _).trans hx)
  · rw [show am_ev C U rt G (am_rn C U rt G) 4000 pc l [] h = _ from a1 _]
    constructor
    · intro hx
      obtain ⟨n, hn⟩ := am_rn_some hx
      cases n with
      | zero => cases hn
      | succ n => exact am_rn_of hG ((show am_ev C U rt G (am_run C U rt G n) 4000 pc l [] h = _ from a1 _).symm.trans hn)
    · intro hx
      obtain ⟨n, hn⟩ := am_rn_some hx
      exact am_rn_of hG (n := n + 1) ((show am_ev C U rt G (am_run C U rt G n) 4000 pc l [] h = _ from a1 _).trans hn)
theorem am_run_mono (C : CD) (U : List (Nat × List Nat)) (rt : Nat) {G : GT} (hG : am_mono G) : ∀ (n pc : Nat) (l : LV) (h : AH) (x : Option Value) (h' : AH), am_run C U rt G n pc l h = some (x, h') → am_le h h' := by
  intro n
  induction n with
  | zero => intro pc l h x h' hx; cases hx
  | succ n ih =>
    intro pc l h x h' hx
    rcases am_ev_tl C U rt hG 4000 pc l [] h with ⟨o, a1, a2⟩ | ⟨pc', l', h1, a1, a2⟩
    · exact a2 x h' ((show am_ev C U rt G (am_run C U rt G n) 4000 pc l [] h = o from a1 _).symm.trans hx)
    · exact a2.tr (ih _ _ _ _ _ ((show am_ev C U rt G (am_run C U rt G n) 4000 pc l [] h = _ from a1 _).symm.trans hx))
/-- String.checkIndex: walked by hand -/
def am_ci (as : List Value) (h : AH) : Option RS := match as with
  | [.int i, .int n] => if i < 0 ∨ ¬ i < n then none else some (none, h)
  | _ => none
/-- a call of method j, calls within one another at most d deep -/
noncomputable def am_sem : Nat → GT
  | 0 => fun _ _ _ => none
  | d + 1 => fun j as h => match j with
    | 260 => am_ci as h
    | j => match am_prog[j]? with
      | none => none
      | some M => bif Nat.ble (lg_sl as).length M.2.2.2.1 then am_rn M.1 M.2.1 (am_rt M.2.2.2.2.1) (am_sem d) 0 (lv_args 0 as) h else none
theorem am_sem_mono : ∀ d, am_mono (am_sem d) := by
  intro d
  induction d with
  | zero => intro j as h x h' hx; cases hx
  | succ d ih =>
    intro j as h x h' hx
    simp only [am_sem] at hx
    split at hx
    · unfold am_ci at hx
      split at hx
      · split at hx
        · cases hx
        · cases hx
          exact am_le.rf
      · cases hx
    · split at hx
      · cases hx
      · rename_i M hM
        cases hb : Nat.ble (lg_sl as).length M.2.2.2.1 with
        | false => rw [hb] at hx; cases hx
        | true =>
          rw [hb] at hx
          obtain ⟨n, hn⟩ := am_rn_some hx
          exact am_run_mono _ _ _ ih _ _ _ _ _ _ hn
end
section
/-! calls -/
def so_rm (d : Nat) (h h' : AH) : Room := { frames := d, cells := h'.1 - h.1, slots := h'.2.1 - h.2.1, locals := 100 * d }
def so_Q (D : va_G) (r : Nat → Nat) (B : Nat) (x : Option Value) (h' : AH) : Array Value → State → Outcome → State → Prop := fun _ st o t => o = .returned (x.map (so_V r)) ∧ so_P D r B h' t t.heap ∧ va_F (so_A B) st t
def so_ws (y : MethodName) (bytes : ByteArray) (maxL : Nat) (ret : Option FieldType) : List Cond := .code y bytes maxL ret :: tblG
def so_Pc (D : va_G) (r : Nat → Nat) (B : Nat) (as : List Value) (h : AH) : Array Value → State → Prop := va_Pc (as.map (so_V r)) (fun U => (so_K D r U ∧ va_AO "ForgetfulRider$Book" U) ∧ so_P D r B h U U.heap)
def so_Met (L : Launch) (D : va_G) (r : Nat → Nat) (B d : Nat) (y : MethodName) (M : MD) (as : List Value) (h : AH) (x : Option Value) (h' : AH) : Prop :=
  Met L y (so_ws y M.2.2.1 M.2.2.2.1 M.2.2.2.2.1) (so_rm d h h') (so_Pc D r B as h) (so_Q D r B x h') (h'.1 - h.1) (h'.2.1 - h.2.1) (so_A B)
/-- every call of G is a call of the machine -/
def so_G (L : Launch) (D : va_G) (r : Nat → Nat) (B d : Nat) (G : GT) : Prop := am_mono G ∧ ∀ j as h x h', G j as h = some (x, h') → ∃ g M, am_sg[j]? = some g ∧ am_prog[j]? = some M ∧ so_Met L D r B d g.1 M as h x h'
/-- every table was checked -/
def so_all : Prop := ∀ (j : Nat) (g : SG) (M : MD), am_sg[j]? = some g → am_prog[j]? = some M → am_okM am_sg (g, M) = true
theorem am_rt_none {ret : Option FieldType} (h : am_rt ret = 0) : ret = none := by
  cases ret with
  | none => rfl
  | some t => cases t <;> simp [am_rt] at h
theorem so_lens : am_prog.length = am_sg.length := by decide +kernel
theorem so_prog_of {j : Nat} {g : SG} (h : am_sg[j]? = some g) : ∃ M, am_prog[j]? = some M := by
  have h1 := (List.getElem?_eq_some_iff.mp h).1
  exact ⟨am_prog[j]'(by rw [so_lens]; exact h1), List.getElem?_eq_getElem _⟩
theorem so_okM {g : SG} {M : MD} (h : am_okM am_sg (g, M) = true) : (am_okC am_sg g.1.cls (Nat.beq g.2.2.2 2) M.2.2.2.1 M.2.2.1 M.1 = true) ∧ Cond.code g.1 M.2.2.1 M.2.2.2.1 M.2.2.2.2.1 ∈ tblG ∧ Cond.initialized g.1.cls ∈ tblG ∧
    ((g.2.2.2 = 0 → Cond.static g.1 ∈ tblG) ∧ (g.2.2.2 = 1 → Cond.instanceMethod g.1 ∈ tblG ∧ Cond.selects g.1.cls g.1 g.1 ∈ tblG) ∧ (g.2.2.2 = 2 → Cond.instanceMethod g.1 ∈ tblG ∧ g.1.name = "<init>")) ∧
    plainName g.1.cls = true ∧ (g.1.cls ≠ "java/lang/invoke/MethodHandle" ∧ g.1.cls ≠ "java/lang/invoke/VarHandle") ∧ (parseMethodDescriptor g.1.desc).map (fun d => d.parameters.length) = some g.2.1 ∧ g.2.2.1 = am_rt M.2.2.2.2.1 ∧ M.2.2.2.1 ≤ 60 := by
  obtain ⟨y, n, t, kd⟩ := g
  obtain ⟨C, U, bytes, maxL, ret, ps⟩ := M
  unfold am_okM at h
  split at h
  · rename_i y' n' t' kd' C' U' bytes' maxL' ret' p0 p1 p2 p3 heq
    cases heq
    simp only [am_okR, Bool.and_eq_true, decide_eq_true_eq] at h
    obtain ⟨h1, h2, h3, h4, h5, h6, h7, h8, h9⟩ := h
    refine ⟨h1, am_has_mem h2, am_has_mem h3, ⟨fun z => ?_, fun z => ?_, fun z => ?_⟩, h5, h6, h7, Nat.eq_of_beq_eq_true h8, Nat.le_of_ble_eq_true h9⟩
    · dsimp only at z; subst z; exact am_has_mem h4
    · dsimp only at z; subst z; simp only [Bool.and_eq_true] at h4; exact ⟨am_has_mem h4.1, am_has_mem h4.2⟩
    · dsimp only at z; subst z; simp only [Bool.and_eq_true, decide_eq_true_eq] at h4; exact ⟨am_has_mem h4.1, h4.2⟩
  · cases h
theorem am_pop_spec : ∀ (n : Nat) (st acc as rest : List Value), am_pop n st acc = some (as, rest) → ∃ ts, st = ts ++ rest ∧ ts.length = n ∧ as = ts.reverse ++ acc := by
  intro n
  induction n with
  | zero =>
    intro st acc as rest h
    unfold am_pop at h
    cases h
    exact ⟨[], rfl, rfl, rfl⟩
  | succ n ih =>
    intro st acc as rest h
    cases st with
    | nil => unfold am_pop at h; cases h
    | cons v st =>
      unfold am_pop at h
      obtain ⟨ts, h1, h2, h3⟩ := ih _ _ _ _ h
      exact ⟨v :: ts, by rw [h1]; rfl, by simp [h2], by rw [h3]; simp⟩
theorem so_words {s : State} {args : Array Value} (hts : ∀ w ∈ tblG, w.before args s = true) {y : MethodName} {bytes : ByteArray} {maxL : Nat} {ret : Option FieldType} (hc : Cond.code y bytes maxL ret ∈ tblG) : ∀ w ∈ so_ws y bytes maxL ret, ∀ (a' : Array Value) (U : State), s.WarmedH U.vm → w.before a' U = true := by
  intro w hw a' U hW
  have hw' : w ∈ tblG := by
    rcases List.mem_cons.mp hw with rfl | h
    · exact hc
    · exact h
  exact word_at hW (tblG_good hw') (hts w hw')
theorem so_blind {D : va_G} {r : Nat → Nat} {B : Nat} {as : List Value} {h : AH} : FrameBlind (so_Pc D r B as h) := by
  intro a U g mk q
  obtain ⟨q1, ⟨q2, q3⟩, q4⟩ := q
  exact ⟨q1, ⟨so_K.same rfl q2, va_AO.moved (u := U) (U := U.calling g mk a) (Vm.Alike.refl U.vm) q3⟩, so_P.moved (u := U) (U := U.calling g mk a) (Vm.Alike.refl U.vm) q4⟩
theorem so_pre {D : va_G} {r : Nat → Nat} {B : Nat} {as : List Value} {h : AH} {s : State} {H : Heap} (hK : so_K D r s) (hAO : va_AO "ForgetfulRider$Book" s) (hP : so_P D r B h s H) : ∀ U : State, U.heap = H → s.WarmedH U.vm → so_Pc D r B as h (as.map (so_V r)).toArray U := by
  intro U hU hW
  exact ⟨rfl, ⟨hK.warm hW, hAO.moved hW.alike⟩, by rw [hU]; exact hP.moved hW.alike⟩
theorem so_cats : ∀ (st : List Value), st.length ≤ 4 → ∀ (r : Nat → Nat), ((st.map (so_V r)).map fun v => v.category).sum ≤ 8 := by
  intro st h r
  have key : ∀ st : List Value, ((st.map (so_V r)).map fun v => v.category).sum ≤ 2 * st.length := by
    intro st
    induction st with
    | nil => simp
    | cons v st ih =>
      simp only [List.map_cons, List.sum_cons, List.length_cons]
      have : (so_V r v).category ≤ 2 := by rcases lv_cat (so_V r v) with z | z <;> omega
      omega
  have := key st
  omega
theorem so_catsW (st : List Value) (h : am_few st = true) (r : Nat → Nat) : ((st.map (so_V r)).map fun v => v.category).sum ≤ 8 := by
  have key : ∀ st : List Value, ((st.map (so_V r)).map fun v => v.category).sum = am_wid st := by
    intro st
    induction st with
    | nil => rfl
    | cons v st ih =>
      simp only [List.map_cons, List.sum_cons, am_wid]
      have : (so_V r v).category = v.category := by cases v <;> rfl
      omega
  rw [key st]
  exact Nat.le_of_ble_eq_true h
section SoCalls
variable {p : Program} {L : Launch} {e : Env} {R : Room} {s : State} {m : MethodId} {args : Array Value} {below : List Frame} {meth : Method} {c : Code} {H : Heap} {locs : List Loc} {cells slots : Nat} {Q : State → Prop}
variable {own : String} {ini : Bool} {bytes : ByteArray} {nL : Nat} {D : va_G} {r : Nat → Nat} {B pc d : Nat} {ls : Array Slot} {h0 h h' : AH} {rest st0 : List Value} {x : Option Value} {mc ms : Nat} {a : Array Value}
theorem so_call (hr : va_Run p L e R s m args below meth c H locs cells slots mc ms (F0 m pc ls st0) rest (so_Q D r B x h' a) (so_A B)) (hS : va_S (so_A B) s.heap H locs)
    (kk : ∀ (H1 : Heap) (locs1 : List Loc), so_P D r B h' s H1 → va_S (so_A B) s.heap H1 locs1 → W p L e R s m args below meth c H1 locs1 (cells + mc) (slots + ms) Q (F0 m (pc + 3) ls ((x.map (so_V r)).toList ++ rest))) : W p L e R s m args below meth c H locs cells slots Q (F0 m pc ls st0) := by
  intro T hT X
  obtain ⟨v, st₀, t, T', Lc, g0, X', hL, e1, e2, ⟨hv, hp, hz, hk⟩, st⟩ := hr T hT X
  cases hv
  rw [g0] at hz hk
  have hvm : t.vm.Alike s.vm := by rw [← e2]; exact X'.warmed.alike.symm
  obtain ⟨t2, a1, b1⟩ := kk T'.heap (locs ++ Lc) (by rw [e1]; exact hp.moved hvm)
    ⟨Nat.le_trans hS.1 (by rw [e1]; exact hz), fun q q1 q2 => by rw [e1, hk q (Nat.lt_of_lt_of_le q1 hS.1) q2]; exact hS.2.1 q q1 q2, fun q hq => by
      rcases List.mem_append.mp hq with z | z
      · exact hS.2.2 q z
      · exact hL q z⟩ T' rfl X'
  exact ⟨t2, st t2 a1, b1⟩
theorem so_recv (hK : so_K D r s) (hP : so_P D r B h s H) {b ci : Nat} (hci : ci ≤ 11) (hk : am_isK h b ci = true) : ∃ cell : Cell, H[r b]? = some cell ∧ cell.vm.isStatics = false ∧ s.vm.findClass (am_cn ci) = some cell.cls := by
  unfold am_isK at hk
  split at hk
  · rename_i c' n f hc
    have hce := Nat.eq_of_beq_eq_true hk
    subst hce
    by_cases h11 : c' < 11
    · obtain ⟨q, e1, e2, cell, g1, g2, g3, g4⟩ := so_obj_at hP hc h11
      refine ⟨cell, g1, by rw [g3]; rfl, ?_⟩
      unfold am_cn
      rw [e1, g2]
      exact (hK.1 c' q e1).2.1
    · have : c' = 11 := by omega
      subst this
      obtain ⟨a1, a2⟩ := am_cell_of hc
      have a3 := hP.2.2 b a1
      rw [a2] at a3
      rcases a3 with ⟨z, -⟩ | ⟨-, -, ⟨cell, g1, g2, g3, -⟩, -⟩ | ⟨z, -⟩
      · exact absurd z (show ¬ (11 : Nat) < 11 by decide)
      · exact ⟨cell, g1, g2, g3⟩
      · exact absurd z.1 (show ¬ (100 : Nat) ≤ 11 by decide)
  · cases hk
/-- the words and the room of a call -/
theorem so_callB (X : so_Cx p s m args c meth own ini bytes nL D r) {g : SG} {M : MD} (hok : am_okM am_sg (g, M) = true) (hR : d + 1 ≤ R.frames ∧ 100 * (d + 1) ≤ R.locals) {k : Nat} (hlink : Cond.methodLink own k g.1 ∈ tblG) :
    CallB R s args own k g.1 M.2.2.1 M.2.2.2.1 M.2.2.2.2.1 (so_ws g.1 M.2.2.1 M.2.2.2.1 M.2.2.2.2.1) (so_rm d h h') (h'.1 - h.1) (h'.2.1 - h.2.1) g.2.1 := by
  obtain ⟨hx, hb, hml, hown, hts, hK, hini, hAO⟩ := X
  obtain ⟨o1, o2, o3, -, -, o4, o5, o6, o7⟩ := so_okM hok
  refine ⟨rfl, rfl, hR.1, by show 8 + (M.2.2.2.1 + 11) + 100 * d ≤ R.locals; omega, so_words hts o2, List.mem_cons_self, hts _ o2, hts _ o3, o4, fun sig hsig => ?_, hts _ hlink⟩
  rw [hsig] at o5
  exact (Option.some.inj o5).symm
theorem so_callN (X : so_Cx p s m args c meth own ini bytes nL D r) {g : SG} {M : MD} (hok : am_okM am_sg (g, M) = true) (hR : d + 1 ≤ R.frames ∧ 100 * (d + 1) ≤ R.locals) {k : Nat} {host : String} (hlink : va_Nw (.methodLinkNest own k g.1 host) s) :
    va_CN R s args own k g.1 host M.2.2.1 M.2.2.2.1 M.2.2.2.2.1 (so_ws g.1 M.2.2.1 M.2.2.2.1 M.2.2.2.2.1) (so_rm d h h') (h'.1 - h.1) (h'.2.1 - h.2.1) g.2.1 := by
  obtain ⟨hx, hb, hml, hown, hts, hK, hini, hAO⟩ := X
  obtain ⟨o1, o2, o3, -, -, o4, o5, o6, o7⟩ := so_okM hok
  refine ⟨⟨rfl, rfl, hR.1, by show 8 + (M.2.2.2.1 + 11) + 100 * d ≤ R.locals; omega, so_words hts o2, List.mem_cons_self⟩, hts _ o2, hts _ o3, o4, fun sig hsig => ?_, va_Nw.use rfl hlink⟩
  rw [hsig] at o5
  exact (Option.some.inj o5).symm
theorem so_AR.pairs {U : State} {ty : FieldType} {n : Nat} (at_ : Nat) : ∀ (xs : List Value) (i : Nat) (cell : Cell) (V : Nat → Value), so_AR U ty n V cell → so_AR U ty n (fun k => if at_ + i ≤ k ∧ k < at_ + i + xs.length then xs.getD (k - (at_ + i)) .null else V k) (cell.storePairs at_ (xs.zipIdx i))
  | [], i, ce, V, hA => by
    have e : (fun k => if at_ + i ≤ k ∧ k < at_ + i + ([] : List Value).length then ([] : List Value).getD (k - (at_ + i)) .null else V k) = V := by
      funext k
      rw [if_neg (by simp only [List.length_nil]; omega)]
    rw [e]
    exact hA
  | x :: xs, i, ce, V, hA => by
    rw [List.zipIdx_cons]
    have h1 : so_AR U ty n (fun k => if k = at_ + i then x else V k) (ce.setSlot (at_ + i) x) := hA.setSlot _ _ (fun k _ => rfl)
    have h2 := so_AR.pairs at_ xs (i + 1) _ _ h1
    have e : (fun k => if at_ + i ≤ k ∧ k < at_ + i + (x :: xs).length then (x :: xs).getD (k - (at_ + i)) .null else V k) = (fun k => if at_ + (i + 1) ≤ k ∧ k < at_ + (i + 1) + xs.length then xs.getD (k - (at_ + (i + 1))) .null else if k = at_ + i then x else V k) := by
      funext k
      by_cases hk : k = at_ + i
      · subst hk
        rw [if_pos (by simp only [List.length_cons]; omega), if_neg (by omega), if_pos rfl]
        simp
      · by_cases hh : at_ + (i + 1) ≤ k ∧ k < at_ + (i + 1) + xs.length
        · rw [if_pos hh, if_pos (by simp only [List.length_cons]; omega)]
          have e : k - (at_ + i) = (k - (at_ + (i + 1))) + 1 := by omega
          rw [e, List.getD_cons_succ]
        · rw [if_neg hh, if_neg (by simp only [List.length_cons]; omega), if_neg hk]
    rw [e]
    exact h2
theorem so_copy (X : so_Cx p s m args c meth own ini bytes nL D r) (hP : so_P D r B h s H) (hS : va_S (so_A B) s.heap H locs) {a0 b0 : Nat} {sp dp n : Int32} (hf : am_copy h a0 sp b0 dp n = some h') (hsz : ls.size = nL) {k : Nat} (hlink : Cond.methodLink own k arraycopyName ∈ tblG)
    (hframes : 1 ≤ R.frames) (hlocals : (rest.map fun v => v.category).sum + 18 ≤ R.locals) (hdg : decode bytes pc = .ok (.invokestatic k, 3))
    (kk : ∀ (H1 : Heap) (locs1 : List Loc), so_P D r B h' s H1 → va_S (so_A B) s.heap H1 locs1 → W p L e R s m args below meth c H1 locs1 cells slots Q (F0 m (pc + 3) ls rest)) : W p L e R s m args below meth c H locs cells slots Q (F0 m pc ls (.int n :: .int dp :: .ref (r b0) :: .int sp :: .ref (r a0) :: rest)) := by
  obtain ⟨hx, hb, hml, hown, hts, hK, hini, hAO⟩ := X
  have nn : ∀ z : Int32, ¬ z < 0 → z.toInt = (z.toNatClampNeg : Int) := by
    intro z hz
    have hz0 : (0 : Int) ≤ z.toInt := by
      have := Int32.not_lt.mp hz
      simpa using Int32.le_iff_toInt_le.mp this
    show z.toInt = ((z.toInt.toNat : Nat) : Int)
    omega
  unfold am_copy at hf
  split at hf
  · rename_i c1 m1 f c2 m2 g hca hcb
    split at hf
    · rename_i hcnd
      cases hf
      obtain ⟨⟨rfl, rfl, hold⟩, ⟨n1, n2, n3⟩, l1, l2, hfit⟩ := hcnd
      obtain ⟨-, cs, s1, s2, -⟩ := so_arr hP hca (by decide)
      obtain ⟨-, cd, d1, d2, -⟩ := so_arr hP hcb (by decide)
      intro T hT XX
      obtain ⟨sO, ks, hks, cm0, hkk0⟩ := id s2.1
      obtain ⟨dO, kd, hkd, cm1, hkk1⟩ := id d2.1
      have hget : ∀ i, i < n.toNatClampNeg → cs.slots.getD (sp.toNatClampNeg + i) .null = so_V r (f (sp.toNatClampNeg + i)) := by
        intro i hi
        rw [Array.getD_eq_getD_getElem?, s2.2.2.2.2 _ (by omega)]
        rfl
      have hint : ∀ i, i < n.toNatClampNeg → ∃ z, f (sp.toNatClampNeg + i) = .int z := by
        intro i hi
        have := hfit i hi
        cases hz : f (sp.toNatClampNeg + i) with
        | int z => exact ⟨z, rfl⟩
        | _ => rw [hz] at this; simp [fits] at this
      obtain ⟨vm', X', step⟩ := XX.arraycopy hx hown (hts _ hlink) (hts _ so_acp.1) (hts _ so_acp.2.1) (hts _ so_acp.2.2) (src := r a0) (dst := r b0) (cs := cs) (cd := cd) (srcPos := sp) (destPos := dp) (n := n) (by rw [hT]; exact s1) (by rw [hT]; exact d1)
        sO dO s2.2.1 d2.2.1 hks hkd hkk0 hkk1 (by rfl) n1 n2 n3
        (by rw [nn sp n1, nn n n3]; have := s2.2.2.1; omega)
        (by rw [nn dp n2, nn n n3]; have := d2.2.2.1; omega)
        (fun vm₁ _ i hi => by
          obtain ⟨z, hz⟩ := hint i hi
          rw [hget i hi, hz]
          exact ⟨rfl, trivial⟩)
        (g := F0 m pc ls (.int n :: .int dp :: .ref (r b0) :: .int sp :: .ref (r a0) :: rest)) rfl (by rw [hml]; exact hsz) (rest := rest) rfl (by rw [hb]; exact hdg) hframes (by
          show 2 * 0 + _ + _ ≤ _
          have hw : nativeFrameWords "java/lang/System" "arraycopy" 5 = 7 := (by decide)
          omega)
      have hstr : cs.stretch sp.toNatClampNeg n.toNatClampNeg = (List.range n.toNatClampNeg).map (fun i => so_V r (f (sp.toNatClampNeg + i))) := by
        unfold Cell.stretch
        apply List.map_congr_left
        intro i hi
        exact hget i (List.mem_range.mp hi)
      have hl : r b0 < H.size := (Array.getElem?_eq_some_iff.mp d1).1
      have hA := so_A_of hP hold
      have hheap : ((T.setVm vm').setCell (r b0) (copied cs cd sp dp n)).heap = H.setIfInBounds (r b0) (copied cs cd sp dp n) := by rw [← hT]; rfl
      have oq : ∀ q : Nat, q ≠ r b0 → (H.setIfInBounds (r b0) (copied cs cd sp dp n))[q]? = H[q]? := fun q hq => by simp [Array.getElem?_setIfInBounds, Ne.symm hq]
      have hself : (H.setIfInBounds (r b0) (copied cs cd sp dp n))[r b0]? = some (copied cs cd sp dp n) := by simp [Array.getElem?_setIfInBounds, hl]
      have hcop : so_AR s .int m2 (fun k => so_V r (va_cpy f g sp.toNatClampNeg dp.toNatClampNeg n.toNatClampNeg k)) (copied cs cd sp dp n) := by
        have h1 := so_AR.pairs dp.toNatClampNeg (cs.stretch sp.toNatClampNeg n.toNatClampNeg) 0 cd _ d2
        have e : (fun k => if dp.toNatClampNeg + 0 ≤ k ∧ k < dp.toNatClampNeg + 0 + (cs.stretch sp.toNatClampNeg n.toNatClampNeg).length then (cs.stretch sp.toNatClampNeg n.toNatClampNeg).getD (k - (dp.toNatClampNeg + 0)) .null else so_V r (g k)) = (fun k => so_V r (va_cpy f g sp.toNatClampNeg dp.toNatClampNeg n.toNatClampNeg k)) := by
          funext k
          rw [hstr]
          simp only [va_cpy, List.length_map, List.length_range, Nat.add_zero]
          by_cases hh : dp.toNatClampNeg ≤ k ∧ k < dp.toNatClampNeg + n.toNatClampNeg
          · rw [if_pos hh, if_pos hh, List.getD_eq_getElem?_getD, List.getElem?_map, List.getElem?_range (by omega)]
            rfl
          · rw [if_neg hh, if_neg hh]
        rw [e] at h1
        exact h1
      obtain ⟨t, a1, b1⟩ := kk _ (locs ++ (cs.stretch sp.toNatClampNeg n.toNatClampNeg).zipIdx.map fun q => ⟨r b0, dp.toNatClampNeg + q.2⟩) (hP.set hold (by simp) oq (Or.inr (Or.inr ⟨⟨show (100 : Nat) ≤ 100 by decide, show (100 : Nat) < 105 by decide⟩, _, hself, hcop, fun z => absurd z (show ¬ (100 : Nat) = 104 by decide)⟩))) ⟨by simp; exact hS.1, fun q g1 g2 => by
          rw [oq q (fun e => g2 (by rw [e]; exact hA))]
          exact hS.2.1 q g1 g2, fun q hq => by
          rcases List.mem_append.mp hq with z | z
          · exact hS.2.2 q z
          · obtain ⟨y, -, hy⟩ := List.mem_map.mp z
            rw [← hy]
            exact hA⟩ _ hheap X'
      exact ⟨t, step t a1, b1⟩
    · cases hf
  · cases hf
end SoCalls
end
section
/-! a piece of the small machine is a stretch of the machine -/
def so_isret (rt : Nat) (i : Instr) (x : Option Value) : Prop :=
  (i = .ireturn ∧ ∃ v, x = some (.int v) ∧ (rt = 1 ∨ (rt = 3 ∧ (v = 0 ∨ v = 1)) ∨ (rt = 4 ∧ narrow .byte (.int v) = .int v) ∨ (rt = 5 ∧ narrow .char (.int v) = .int v))) ∨ (i = .lreturn ∧ rt = 2 ∧ ∃ v, x = some (.long v)) ∨ (i = .return_ ∧ rt = 0 ∧ x = none)
theorem am_nx_le {C : CD} {U : List (Nat × List Nat)} {rt : Nat} {G : GT} (hG : am_mono G) {Lk : Nat → LV → AH → Option RS} (hL : ∀ pc l h x h', Lk pc l h = some (x, h') → am_le h h') {n pc : Nat} {l : LV} {st : List Value} {h : AH} {x : Option Value} {h' : AH} (hx : am_nx U Lk (am_ev C U rt G Lk n) pc l st h = some (x, h')) : am_le h h' := by
  rcases am_tl.nx (U := U) (e := fun L => am_ev C U rt G L n) (am_ev_tl C U rt hG n) pc l st h with ⟨o, a1, a2⟩ | ⟨pc', l', h1, a1, a2⟩
  · exact a2 x h' ((show am_nx U Lk (am_ev C U rt G Lk n) pc l st h = o from a1 Lk).symm.trans hx)
  · exact a2.tr (hL _ _ _ _ _ ((show am_nx U Lk (am_ev C U rt G Lk n) pc l st h = _ from a1 Lk).symm.trans hx))
theorem am_sw_spec {P : Prop} {x : Int32} {d res : Option RS} : ∀ (rs : List (Option RS)) (lo : Int), -2147483648 ≤ lo → lo + rs.length ≤ 2147483648 → am_sw x d lo rs = res → (d = res → (x.toInt < lo ∨ lo + rs.length ≤ x.toInt) → P) → (∀ (k : Nat) (q : Option RS), rs[k]? = some q → q = res → x.toInt = lo + k → P) → P := by
  intro rs
  induction rs with
  | nil =>
    intro lo h1 h2 h hd _
    refine hd h ?_
    simp
    omega
  | cons q rs ih =>
    intro lo h1 h2 h hd hk
    unfold am_sw at h
    have hlen : ((q :: rs).length : Int) = rs.length + 1 := by simp
    by_cases hx : x = Int32.ofInt lo
    · rw [if_pos hx] at h
      refine hk 0 q rfl h ?_
      rw [hx, Int32.toInt_ofInt_of_le (by omega) (by rw [hlen] at h2; omega)]
      simp
    · rw [if_neg hx] at h
      have hne : x.toInt ≠ lo := by
        intro e
        apply hx
        rw [← e, Int32.ofInt_toInt]
      refine ih (lo + 1) (by omega) (by rw [hlen] at h2; omega) h (fun e hc => hd e ?_) (fun k q' hq e hc => hk (k + 1) q' hq e (by rw [hc]; push_cast; omega))
      rw [hlen]
      omega
section SoEv
variable {p : Program} {L : Launch} {e : Env} {R : Room} {s : State} {m : MethodId} {args : Array Value} {below : List Frame} {meth : Method} {c : Code} {Q : State → Prop}
variable {own : String} {ini : Bool} {bytes : ByteArray} {nL : Nat} {D : va_G} {r : Nat → Nat} {B d : Nat} {h0 : AH}
set_option maxHeartbeats 4000000 in
set_option maxRecDepth 100000 in
theorem so_ev (X : so_Cx p s m args c meth own ini bytes nL D r) {C : CD} {U : List (Nat × List Nat)} {rt : Nat} {G : GT} (HC : am_okC am_sg own ini nL bytes C = true) (HA : so_all) (hG : so_G L D r B d G) (hR : d + 1 ≤ R.frames ∧ 100 * (d + 1) ≤ R.locals)
    {Lk : Nat → LV → AH → Option RS} (hLm : ∀ pc l h x h', Lk pc l h = some (x, h') → am_le h h') {res : RS} (hres : res.2.1 ≤ h0.1 + R.cells ∧ res.2.2.1 ≤ h0.2.1 + R.slots)
    (HL : ∀ pc l h H locs ls cells slots, Lk pc l h = some res → so_At D r B nL s h0 l h H locs ls cells slots → W p L e R s m args below meth c H locs cells slots Q (F0 m pc ls []))
    (HR : ∀ pc i l H locs ls cells slots, decode bytes pc = .ok (i, 1) → so_isret rt i res.1 → so_At D r B nL s h0 l res.2 H locs ls cells slots → W p L e R s m args below meth c H locs cells slots Q (F0 m pc ls ((res.1.map (so_V r)).toList))) :
    ∀ (n pc : Nat) (l : LV) (st : List Value) (h : AH) (H : Heap) (locs : List Loc) (ls : Array Slot) (cells slots : Nat), am_ev C U rt G Lk n pc l st h = some res → so_At D r B nL s h0 l h H locs ls cells slots → W p L e R s m args below meth c H locs cells slots Q (F0 m pc ls (st.map (so_V r))) := by
  intro n
  induction n with
  | zero => intro pc l st h H locs ls cells slots hev _; cases hev
  | succ n ih =>
    intro pc l st h H locs ls cells slots hev hat
    obtain ⟨hx, hb, hml, hown, hts, hK, hini, hAO⟩ := id X
    obtain ⟨hP, hS, hl, hc1, hc2⟩ := id hat
    have nx : ∀ (pc : Nat) (l : LV) (st : List Value) (h : AH) (H : Heap) (locs : List Loc) (ls : Array Slot) (cells slots : Nat), am_nx U Lk (am_ev C U rt G Lk n) pc l st h = some res → so_At D r B nL s h0 l h H locs ls cells slots → W p L e R s m args below meth c H locs cells slots Q (F0 m pc ls (st.map (so_V r))) := by
      intro pc l st h H locs ls cells slots hev hat
      unfold am_nx at hev
      split at hev
      · exact ih _ _ _ _ _ _ _ _ _ hev hat
      · split at hev
        · split at hev
          · rename_i hpk
            exact HL _ _ _ _ _ _ _ _ hev ⟨hat.1, hat.2.1, so_pick hpk hat.2.2.1, hat.2.2.2⟩
          · cases hev
        · cases hev
    have nxle : ∀ {pc : Nat} {l : LV} {st : List Value} {h : AH}, am_nx U Lk (am_ev C U rt G Lk n) pc l st h = some res → h.1 ≤ h0.1 + R.cells ∧ h.2.1 ≤ h0.2.1 + R.slots := by
      intro pc l st h hh
      have := am_nx_le (x := res.1) (h' := res.2) hG.1 hLm hh
      exact ⟨Nat.le_trans this.1 hres.1, Nat.le_trans this.2 hres.2⟩
    simp only [am_ev] at hev
    split at hev
    · cases hev
    · rename_i i len r1 r2 r3 v hcode
      have hok := am_code_ok HC hcode
      unfold am_okE at hok
      simp only [Bool.and_eq_true] at hok
      obtain ⟨hdec, hlen, hI⟩ := hok
      have hd : decode bytes pc = .ok (i, len) := by
        split at hdec
        · rename_i q hq
          rw [hq, of_decide_eq_true hdec]
        · cases hdec
      clear hdec hcode
      -- a call's way on
      have go : ∀ (j t : Nat) (as st' : List Value) (g : SG) (M : MD) (stk : List Value), am_sg[j]? = some g → am_prog[j]? = some M → g.2.2.1 = t →
          am_go t (G j as h) st' (fun st h => am_nx U Lk (am_ev C U rt G Lk n) (pc + 3) l st h) = some res →
          (∀ (x : Option Value) (h' : AH), so_Met L D r B d g.1 M as h x h' → am_le h h' → (cells + (h'.1 - h.1) ≤ R.cells ∧ slots + (h'.2.1 - h.2.1) ≤ R.slots) → va_Run p L e R s m args below meth c H locs cells slots (h'.1 - h.1) (h'.2.1 - h.2.1) (F0 m pc ls stk) (st'.map (so_V r)) (so_Q D r B x h' (as.map (so_V r)).toArray) (so_A B)) →
          W p L e R s m args below meth c H locs cells slots Q (F0 m pc ls stk) := by
        intro j t as st' g M stk hg hM ht hgo hrun
        have fin : ∀ (x : Option Value) (h' : AH) (st2 : List Value), G j as h = some (x, h') → st2.map (so_V r) = (x.map (so_V r)).toList ++ st'.map (so_V r) → am_nx U Lk (am_ev C U rt G Lk n) (pc + 3) l st2 h' = some res → W p L e R s m args below meth c H locs cells slots Q (F0 m pc ls stk) := by
          intro x h' st2 hcall hst hnx
          obtain ⟨g', M', e1, e2, hMet⟩ := hG.2 _ _ _ _ _ hcall
          cases hg.symm.trans e1
          cases hM.symm.trans e2
          have hle := hG.1 _ _ _ _ _ hcall
          have hbd := nxle hnx
          have b1 := hle.1
          have b2 := hle.2
          refine so_call (hrun x h' hMet hle ⟨by omega, by omega⟩) hS fun H1 locs1 g1 g2 => ?_
          rw [← hst]
          exact nx _ _ _ _ _ _ _ _ _ hnx ⟨g1, g2, hl, by omega, by omega⟩
        unfold am_go at hgo
        split at hgo
        · unfold am_cV at hgo
          split at hgo
          · rename_i h' hcall
            exact fin none h' st' hcall rfl hgo
          · cases hgo
        · unfold am_cL at hgo
          split at hgo
          · rename_i y h' hcall
            exact fin (some (.long y)) h' (.long y :: st') hcall rfl hgo
          · cases hgo
        · unfold am_cI at hgo
          split at hgo
          · rename_i y h' hcall
            exact fin (some (.int y)) h' (.int y :: st') hcall rfl hgo
          · cases hgo
      split at hev
      · -- goto
        cases Nat.eq_of_beq_eq_true hlen
        exact lv_goto hx hb hd (of_decide_eq_true hI) (nx _ _ _ _ _ _ _ _ _ hev hat)
      · -- ifCond
        cases Nat.eq_of_beq_eq_true hlen
        have ht := of_decide_eq_true hI
        split at hev
        · split at hev
          · refine lv_if_eq hx hb hd ht (fun z => ?_) (fun z => ?_)
            · rw [if_pos z] at hev; exact nx _ _ _ _ _ _ _ _ _ hev hat
            · rw [if_neg z] at hev; exact nx _ _ _ _ _ _ _ _ _ hev hat
          · refine lv_if_ne hx hb hd ht (fun z => ?_) (fun z => ?_)
            · rw [if_pos z] at hev; exact nx _ _ _ _ _ _ _ _ _ hev hat
            · rw [if_neg (fun q => q z)] at hev; exact nx _ _ _ _ _ _ _ _ _ hev hat
          · refine lv_if_lt hx hb hd ht (fun z => ?_) (fun z => ?_)
            · rw [if_pos z] at hev; exact nx _ _ _ _ _ _ _ _ _ hev hat
            · rw [if_neg z] at hev; exact nx _ _ _ _ _ _ _ _ _ hev hat
          · refine lv_if_ge hx hb hd ht (fun z => ?_) (fun z => ?_)
            · rw [if_pos z] at hev; exact nx _ _ _ _ _ _ _ _ _ hev hat
            · rw [if_neg z] at hev; exact nx _ _ _ _ _ _ _ _ _ hev hat
          · refine lv_if_gt hx hb hd ht (fun z => ?_) (fun z => ?_)
            · rw [if_pos z] at hev; exact nx _ _ _ _ _ _ _ _ _ hev hat
            · rw [if_neg z] at hev; exact nx _ _ _ _ _ _ _ _ _ hev hat
          · refine lv_if_le hx hb hd ht (fun z => ?_) (fun z => ?_)
            · rw [if_pos z] at hev; exact nx _ _ _ _ _ _ _ _ _ hev hat
            · rw [if_neg z] at hev; exact nx _ _ _ _ _ _ _ _ _ hev hat
        · cases hev
      · -- if_icmp
        cases Nat.eq_of_beq_eq_true hlen
        have ht := of_decide_eq_true hI
        split at hev
        · split at hev
          · refine lv_icmp_eq hx hb hd ht (fun z => ?_) (fun z => ?_)
            · rw [if_pos z] at hev; exact nx _ _ _ _ _ _ _ _ _ hev hat
            · rw [if_neg z] at hev; exact nx _ _ _ _ _ _ _ _ _ hev hat
          · refine lv_icmp_ne hx hb hd ht (fun z => ?_) (fun z => ?_)
            · rw [if_pos z] at hev; exact nx _ _ _ _ _ _ _ _ _ hev hat
            · rw [if_neg (fun q => q z)] at hev; exact nx _ _ _ _ _ _ _ _ _ hev hat
          · refine lv_icmp_lt hx hb hd ht (fun z => ?_) (fun z => ?_)
            · rw [if_pos z] at hev; exact nx _ _ _ _ _ _ _ _ _ hev hat
            · rw [if_neg z] at hev; exact nx _ _ _ _ _ _ _ _ _ hev hat
          · refine lv_icmp_ge hx hb hd ht (fun z => ?_) (fun z => ?_)
            · rw [if_pos z] at hev; exact nx _ _ _ _ _ _ _ _ _ hev hat
            · rw [if_neg z] at hev; exact nx _ _ _ _ _ _ _ _ _ hev hat
          · refine lv_icmp_gt hx hb hd ht (fun z => ?_) (fun z => ?_)
            · rw [if_pos z] at hev; exact nx _ _ _ _ _ _ _ _ _ hev hat
            · rw [if_neg z] at hev; exact nx _ _ _ _ _ _ _ _ _ hev hat
          · refine lv_icmp_le hx hb hd ht (fun z => ?_) (fun z => ?_)
            · rw [if_pos z] at hev; exact nx _ _ _ _ _ _ _ _ _ hev hat
            · rw [if_neg z] at hev; exact nx _ _ _ _ _ _ _ _ _ hev hat
        · cases hev
      · -- tableswitch
        split at hev
        · rename_i dd lo hi offs _ x st'
          simp only [am_okI, Bool.and_eq_true, decide_eq_true_eq, List.all_eq_true] at hI
          obtain ⟨⟨t1, t2⟩, t3, t4, t5⟩ := hI
          refine am_sw_spec (offs.toList.map fun o => am_nx U Lk (am_ev C U rt G Lk n) ((pc : Int) + o).toNat l st' h) lo (by omega) (by rw [List.length_map]; omega) hev (fun e hc => ?_) (fun k q hq e hc => ?_)
          · rw [List.length_map] at hc
            exact lv_tableOut hx hb hd (by omega) (by omega) (nx _ _ _ _ _ _ _ _ _ e hat)
          · rw [List.getElem?_map] at hq
            cases ho : offs.toList[k]? with
            | none => rw [ho] at hq; cases hq
            | some o =>
              rw [ho] at hq
              cases hq
              have hk := (List.getElem?_eq_some_iff.mp ho).1
              have h0' := t2 o (List.mem_of_getElem? ho)
              refine lv_tableIn (off := o) (tgt := ((pc : Int) + o).toNat) hx hb hd (by omega) (by omega) ?_ (by omega) (nx _ _ _ _ _ _ _ _ _ e hat)
              rw [hc, show (lo + (k : Int) - lo).toNat = k by omega, ← Array.getElem?_toList]
              exact ho
        · cases hev
      · -- ireturn
        cases Nat.eq_of_beq_eq_true hlen
        split at hev
        · rename_i x
          unfold am_ret at hev
          split at hev
          · cases hev
            exact HR _ _ l _ _ _ _ _ hd (Or.inl ⟨rfl, x, rfl, Or.inl rfl⟩) hat
          · split at hev
            · rename_i hz
              cases hev
              exact HR _ _ l _ _ _ _ _ hd (Or.inl ⟨rfl, x, rfl, Or.inr (Or.inl ⟨rfl, hz⟩)⟩) hat
            · cases hev
          · split at hev
            · rename_i hz
              cases hev
              exact HR _ _ l _ _ _ _ _ hd (Or.inl ⟨rfl, x, rfl, Or.inr (Or.inr (Or.inl ⟨rfl, hz⟩))⟩) hat
            · cases hev
          · split at hev
            · rename_i hz
              cases hev
              exact HR _ _ l _ _ _ _ _ hd (Or.inl ⟨rfl, x, rfl, Or.inr (Or.inr (Or.inr ⟨rfl, hz⟩))⟩) hat
            · cases hev
          · cases hev
        · cases hev
      · -- lreturn
        cases Nat.eq_of_beq_eq_true hlen
        split at hev
        · rename_i x
          split at hev
          · cases hev
            exact HR _ _ l _ _ _ _ _ hd (Or.inr (Or.inl ⟨rfl, rfl, x, rfl⟩)) hat
          · cases hev
        · cases hev
      · -- return
        cases Nat.eq_of_beq_eq_true hlen
        split at hev
        · split at hev
          · cases hev
            exact HR _ _ l _ _ _ _ _ hd (Or.inr (Or.inr ⟨rfl, rfl, rfl⟩)) hat
          · cases hev
        · cases hev
      · -- invokevirtual
        cases Nat.eq_of_beq_eq_true hlen
        simp only [am_okI] at hI
        split at hI
        · rename_i y na t kd hsg
          simp only [Bool.and_eq_true, decide_eq_true_eq] at hI
          obtain ⟨⟨k1, k2⟩, k3, ⟨k4, k5⟩, k6⟩ := hI
          have k1 := Nat.eq_of_beq_eq_true k1
          have k2 := Nat.eq_of_beq_eq_true k2
          have k3 := Nat.eq_of_beq_eq_true k3
          have k5 := Nat.le_of_ble_eq_true k5
          split at hev
          · rename_i as b st' hpop
            cases hbf : (am_few st' && am_isK h b (r2 / 1000)) with
            | false => rw [hbf] at hev; cases hev
            | true =>
              rw [hbf] at hev
              simp only [Bool.and_eq_true] at hbf
              have hlen4 := hbf.1
              obtain ⟨ts, p1, p2, p3⟩ := am_pop_spec _ _ _ _ _ hpop
              obtain ⟨M, hM⟩ := so_prog_of hsg
              obtain ⟨o1, o2, o3, ⟨-, o4, -⟩, o5, o6, o7, o8, o9⟩ := so_okM (HA _ _ _ hsg hM)
              obtain ⟨i1, i2⟩ := o4 k1
              refine go r1 _ _ st' (y, na, t, kd) M _ hsg hM k3 hev (fun x h' hMet hle hf => ?_)
              have hst : st.map (so_V r) = (as.map (so_V r)).reverse ++ .ref (r b) :: st'.map (so_V r) := by
                rw [p1, p3]
                simp [so_V]
              refine va_runV (As := as.map (so_V r)) (C := y.cls) ⟨hx, hb, hml, hown, hts⟩ hMet ⟨so_callB X (HA _ _ _ hsg hM) hR (am_has_mem k6), hts _ i1, hts _ i2⟩ ⟨so_blind, ?_, so_pre (as := .ref b :: as) hK hAO hP⟩ rfl (by rw [p3]; simp [p2, k2]) hl.1 hst (lv_room (rest := st.map (so_V r)) (so_catsW st' hlen4 r)) hd hf
              rw [← k4]
              exact so_recv hK hP k5 hbf.2
          · cases hev
        · cases hI
      · -- invokestatic
        cases Nat.eq_of_beq_eq_true hlen
        split at hev
        · split at hev
          · rename_i k dp b sp a st'
            cases hbf : Nat.ble st'.length 3 with
            | false => rw [hbf] at hev; cases hev
            | true =>
              rw [hbf] at hev
              have hlen3 := Nat.le_of_ble_eq_true hbf
              obtain ⟨h', hcp, hev⟩ := Option.bind_eq_some_iff.mp hev
              have hsz := am_copy_sz hcp
              simp only [am_okI, if_true] at hI
              have := so_cats st' (by omega) r
              exact so_copy X hP hS hcp hl.1 (am_has_mem hI) (by omega) (by omega) hd fun H1 locs1 g1 g2 => nx _ _ _ _ _ _ _ _ _ hev ⟨g1, g2, hl, hc1.trans hsz.1.symm, hc2.trans hsz.2.symm⟩
          · cases hev
        · split at hev
          · rename_i y x st'
            cases hbf : am_few st' with
            | false => rw [hbf] at hev; cases hev
            | true =>
              rw [hbf] at hev
              have hlen4 := hbf
              simp [am_okI] at hI
              have := so_catsW st' hlen4 r
              have hbd := nxle hev
              exact va_mmax hx hb (hml.trans hl.1.symm) hown (hts _ (am_has_mem hI)) (hts _ so_math.2.1.1) (hts _ so_math.1) (hts _ so_math.2.1.2) (by omega) (by omega) (by omega) (by omega) hd (nx _ _ _ _ _ _ _ _ _ hev hat)
          · cases hev
        · split at hev
          · rename_i y x st'
            cases hbf : am_few st' with
            | false => rw [hbf] at hev; cases hev
            | true =>
              rw [hbf] at hev
              have hlen4 := hbf
              simp [am_okI] at hI
              have := so_catsW st' hlen4 r
              have hbd := nxle hev
              exact va_mmin hx hb (hml.trans hl.1.symm) hown (hts _ (am_has_mem hI)) (hts _ so_math.2.2.1.1) (hts _ so_math.1) (hts _ so_math.2.2.1.2) (by omega) (by omega) (by omega) (by omega) hd (nx _ _ _ _ _ _ _ _ _ hev hat)
          · cases hev
        · split at hev
          · rename_i y x st'
            cases hbf : am_few st' with
            | false => rw [hbf] at hev; cases hev
            | true =>
              rw [hbf] at hev
              have hlen4 := hbf
              simp [am_okI] at hI
              have := so_catsW st' hlen4 r
              have hbd := nxle hev
              exact va_mmax_long hx hb (hml.trans hl.1.symm) hown (hts _ (am_has_mem hI)) (hts _ so_math.2.2.2.1.1) (hts _ so_math.1) (hts _ so_math.2.2.2.1.2) (by omega) (by omega) (by omega) (by omega) hd (nx _ _ _ _ _ _ _ _ _ hev hat)
          · cases hev
        · split at hev
          · rename_i y x st'
            cases hbf : am_few st' with
            | false => rw [hbf] at hev; cases hev
            | true =>
              rw [hbf] at hev
              have hlen4 := hbf
              simp [am_okI] at hI
              have := so_catsW st' hlen4 r
              have hbd := nxle hev
              exact va_mmin_long hx hb (hml.trans hl.1.symm) hown (hts _ (am_has_mem hI)) (hts _ so_math.2.2.2.2.1) (hts _ so_math.1) (hts _ so_math.2.2.2.2.2) (by omega) (by omega) (by omega) (by omega) hd (nx _ _ _ _ _ _ _ _ _ hev hat)
          · cases hev
        · rename_i hne hne3 hne4 hne5 hne6
          simp only [am_okI] at hI
          rw [if_neg hne, if_neg hne3, if_neg hne4, if_neg hne5, if_neg hne6] at hI
          split at hI
          · rename_i y na t kd hsg
            simp only [Bool.and_eq_true, decide_eq_true_eq] at hI
            obtain ⟨⟨k1, k2⟩, k3, k6⟩ := hI
            have k1 := Nat.eq_of_beq_eq_true k1
            have k2 := Nat.eq_of_beq_eq_true k2
            have k3 := Nat.eq_of_beq_eq_true k3
            split at hev
            · rename_i as st' hpop
              cases hbf : am_few st' with
              | false => rw [hbf] at hev; cases hev
              | true =>
                rw [hbf] at hev
                have hlen4 := hbf
                obtain ⟨ts, p1, p2, p3⟩ := am_pop_spec _ _ _ _ _ hpop
                obtain ⟨M, hM⟩ := so_prog_of hsg
                obtain ⟨o1, o2, o3, ⟨o4, -, -⟩, o5, o6, o7, o8, o9⟩ := so_okM (HA _ _ _ hsg hM)
                refine go _ _ _ st' (y, na, t, kd) M _ hsg hM k3 hev (fun x h' hMet hle hf => ?_)
                have hst : st.map (so_V r) = (as.map (so_V r)).reverse ++ st'.map (so_V r) := by
                  rw [p1, p3]
                  simp
                exact va_runS (As := as.map (so_V r)) ⟨hx, hb, hml, hown, hts⟩ hMet ⟨so_callB X (HA _ _ _ hsg hM) hR (am_has_mem k6), hts _ (o4 k1)⟩ ⟨so_blind, so_pre hK hAO hP⟩ rfl (by rw [p3]; simp [p2, k2]) hl.1 hst (lv_room (rest := st.map (so_V r)) (so_catsW st' hlen4 r)) hd hf
            · cases hev
          · cases hI
      · -- invokespecial
        cases Nat.eq_of_beq_eq_true hlen
        split at hev
        · split at hev
          · rename_i a st'
            cases hbf : am_few st' with
            | false => rw [hbf] at hev; cases hev
            | true =>
              rw [hbf] at hev
              have hlen4 := hbf
              simp only [am_okI, if_true] at hI
              have := so_catsW st' hlen4 r
              exact W.objInit hx hb hown (hts _ (am_has_mem hI)) (hts _ so_obj.1) (hts _ so_obj.2) rfl (hl.1.trans hml.symm) rfl hd (by omega) (by show 2 * 0 + _ + 12 ≤ _; omega) (nx _ _ _ _ _ _ _ _ _ hev hat)
          · cases hev
        · rename_i hne
          simp only [am_okI] at hI
          rw [if_neg hne] at hI
          split at hI
          · rename_i y na t kd hsg
            simp only [Bool.and_eq_true, Bool.or_eq_true, decide_eq_true_eq] at hI
            obtain ⟨⟨k1, k2⟩, k3, k6⟩ := hI
            have k1 := Nat.eq_of_beq_eq_true k1
            have k2 := Nat.eq_of_beq_eq_true k2
            have k3 := Nat.eq_of_beq_eq_true k3
            split at hev
            · rename_i as b st' hpop
              cases hbf : am_few st' with
              | false => rw [hbf] at hev; cases hev
              | true =>
                rw [hbf] at hev
                have hlen4 := hbf
                obtain ⟨ts, p1, p2, p3⟩ := am_pop_spec _ _ _ _ _ hpop
                obtain ⟨M, hM⟩ := so_prog_of hsg
                have hok := HA _ _ _ hsg hM
                obtain ⟨o1, o2, o3, ⟨-, -, o4⟩, o5, o6, o7, o8, o9⟩ := so_okM hok
                obtain ⟨i1, i2⟩ := o4 k1
                have hret : M.2.2.2.2.1 = none := am_rt_none (o8.symm.trans k3)
                refine go _ _ _ st' (y, na, t, kd) M _ hsg hM k3 hev (fun x h' hMet hle hf => ?_)
                have hst : st.map (so_V r) = (as.map (so_V r)).reverse ++ .ref (r b) :: st'.map (so_V r) := by
                  rw [p1, p3]
                  simp [so_V]
                rcases k6 with k6 | k6
                · have hB := so_callB (h := h) (h' := h') X hok hR (am_has_mem k6)
                  unfold so_Met at hMet
                  rw [hret] at hB hMet
                  exact va_runI (As := as.map (so_V r)) (b := r b) ⟨hx, hb, hml, hown, hts⟩ hMet ⟨hB, i2, hts _ i1⟩ ⟨so_blind, so_pre (as := .ref b :: as) hK hAO hP⟩ rfl (by rw [p3]; simp [p2, k2]) hl.1 hst (lv_room (rest := st.map (so_V r)) (so_catsW st' hlen4 r)) hd hf
                · have hB := so_callN (h := h) (h' := h') X hok hR (hK.2.2 _ k6)
                  unfold so_Met at hMet
                  rw [hret] at hB hMet
                  exact va_runIN (As := as.map (so_V r)) (b := r b) ⟨hx, hb, hml, hown, hts⟩ hMet ⟨hB, i2, hts _ i1⟩ ⟨so_blind, so_pre (as := .ref b :: as) hK hAO hP⟩ rfl (by rw [p3]; simp [p2, k2]) hl.1 hst (lv_room (rest := st.map (so_V r)) (so_catsW st' hlen4 r)) hd hf
            · cases hev
          · cases hI
      · -- the rest
        rename_i hn1 hn2 hn3 hn4 hn5 hn6 hn7 hn8 hn9 hn10
        have hlen' : len = am_ilen i := by
          cases i <;> first | exact Nat.eq_of_beq_eq_true hlen | exact absurd rfl (hn4 _ _ _ _)
        subst hlen'
        exact so_stp X hd hI hev hat (fun l' st' h' hk => nxle hk) (fun l' st' h' H' locs' ls' cells' slots' hk hat' => nx _ _ _ _ _ _ _ _ _ hk hat')
end SoEv
end
section
/-! every call of the small machine is a call of the machine -/
theorem so_slen (r : Nat → Nat) (as : List Value) : (lg_sl (as.map (so_V r))).length = (lg_sl as).length := by
  induction as with
  | nil => rfl
  | cons v as ih =>
    simp only [lg_sl, List.map_cons, List.flatMap_cons, List.length_append] at ih ⊢
    rw [so_V_cat, ih]
    split <;> rfl
theorem so_args (r : Nat → Nat) : ∀ (as : List Value) (i : Nat), so_L r (lv_args i as) = lv_args i (as.map (so_V r)) := by
  intro as
  induction as with
  | nil => intro i; rfl
  | cons v as ih =>
    intro i
    simp only [lv_args, List.map_cons, so_L] at ih ⊢
    rw [ih, so_V_cat]
theorem am_rt_1 {ret : Option FieldType} (h : am_rt ret = 1) : ret = some .int := by
  cases ret with
  | none => simp [am_rt] at h
  | some t => cases t <;> simp [am_rt] at h <;> rfl
theorem am_rt_2 {ret : Option FieldType} (h : am_rt ret = 2) : ret = some .long := by
  cases ret with
  | none => simp [am_rt] at h
  | some t => cases t <;> simp [am_rt] at h <;> rfl
theorem am_rt_3 {ret : Option FieldType} (h : am_rt ret = 3) : ret = some .boolean := by
  cases ret with
  | none => simp [am_rt] at h
  | some t => cases t <;> simp [am_rt] at h <;> rfl
theorem am_rt_4 {ret : Option FieldType} (h : am_rt ret = 4) : ret = some .byte := by
  cases ret with
  | none => simp [am_rt] at h
  | some t => cases t <;> simp [am_rt] at h <;> rfl
theorem am_rt_5 {ret : Option FieldType} (h : am_rt ret = 5) : ret = some .char := by
  cases ret with
  | none => simp [am_rt] at h
  | some t => cases t <;> simp [am_rt] at h <;> rfl
theorem so_nar_z {v : Int32} (h : v = 0 ∨ v = 1) : narrow .boolean (.int v) = .int v := by
  rcases h with rfl | rfl <;> rfl
section SoSem
variable {p : Program} {L : Launch} {e : Env} {R : Room} {s : State} {m : MethodId} {args : Array Value} {below : List Frame} {meth : Method} {c : Code} {Q : State → Prop}
variable {own : String} {ini : Bool} {bytes : ByteArray} {nL : Nat} {D : va_G} {r : Nat → Nat} {B d : Nat} {h0 : AH}
theorem so_run (X : so_Cx p s m args c meth own ini bytes nL D r) {C : CD} {U : List (Nat × List Nat)} {rt : Nat} {G : GT} (HC : am_okC am_sg own ini nL bytes C = true) (HA : so_all) (hG : so_G L D r B d G) (hR : d + 1 ≤ R.frames ∧ 100 * (d + 1) ≤ R.locals)
    {res : RS} (hres : res.2.1 ≤ h0.1 + R.cells ∧ res.2.2.1 ≤ h0.2.1 + R.slots)
    (HR : ∀ pc i l H locs ls cells slots, decode bytes pc = .ok (i, 1) → so_isret rt i res.1 → so_At D r B nL s h0 l res.2 H locs ls cells slots → W p L e R s m args below meth c H locs cells slots Q (F0 m pc ls ((res.1.map (so_V r)).toList))) :
    ∀ (n pc : Nat) (l : LV) (h : AH) (H : Heap) (locs : List Loc) (ls : Array Slot) (cells slots : Nat), am_run C U rt G n pc l h = some res → so_At D r B nL s h0 l h H locs ls cells slots → W p L e R s m args below meth c H locs cells slots Q (F0 m pc ls []) := by
  intro n
  induction n with
  | zero => intro pc l h H locs ls cells slots hev _; cases hev
  | succ n ih =>
    intro pc l h H locs ls cells slots hev hat
    exact so_ev X HC HA hG hR (fun pc l h x h' hx => am_run_mono C U rt hG.1 n pc l h x h' hx) hres (fun pc l h H locs ls cells slots hk hat' => ih pc l h H locs ls cells slots hk hat') HR 4000 pc l [] h H locs ls cells slots hev hat
end SoSem
set_option maxHeartbeats 4000000 in
theorem so_meth {L : Launch} {D : va_G} {r : Nat → Nat} {B d : Nat} {G : GT} (HA : so_all) (hG : so_G L D r B d G) {g : SG} {M : MD} (hok : am_okM am_sg (g, M) = true) {as : List Value} {h h' : AH} {x : Option Value} (hb : Nat.ble (lg_sl as).length M.2.2.2.1 = true) (hrn : am_rn M.1 M.2.1 (am_rt M.2.2.2.2.1) G 0 (lv_args 0 as) h = some (x, h')) : so_Met L D r B (d + 1) g.1 M as h x h' := by
  obtain ⟨o1, o2, o3, o4, o5, o6, o7, o8, o9⟩ := so_okM hok
  obtain ⟨n, hrun⟩ := am_rn_some hrn
  have hle := am_run_mono _ _ _ hG.1 _ _ _ _ _ _ hrun
  unfold so_Met
  refine Met.ofW (cc := M.2.2.1) (maxL := M.2.2.2.1) (ret := M.2.2.2.2.1) o5 rfl ?_
  intro p e s m args below meth c s₁ Bd hml hv
  obtain ⟨rfl, ⟨hK, hAO⟩, hP⟩ := hv
  have hts0 := atoms_spec (ws := so_ws g.1 M.2.2.1 M.2.2.2.1 M.2.2.2.2.1) Bd.pre
  have hts : ∀ w ∈ tblG, w.before (as.map (so_V r)).toArray s = true := fun w hw => hts0 w (List.mem_cons_of_mem _ hw)
  have hown : s.vm.findClass g.1.cls = some m.cls := findClass_of_methodNamed Bd.named
  have hr := Bd.returns
  have hlocks := Bd.notSynchronized
  have hini : Nat.beq g.2.2.2 2 = true → meth.name = "<init>" := fun z => ((name_of_methodNamed Bd.named Bd.method).1).trans (o4.2.2 (Nat.eq_of_beq_eq_true z)).2
  have X : so_Cx p s m (as.map (so_V r)).toArray c meth g.1.cls (Nat.beq g.2.2.2 2) M.2.2.1 M.2.2.2.1 D r := ⟨Bd.exec, Bd.bytes, hml, hown, hts, hK, hini, hAO⟩
  have hl := lv_entry (as.map (so_V r)) (n := M.2.2.2.1) (by rw [so_slen]; exact Nat.le_of_ble_eq_true hb)
  rw [← so_args] at hl
  rw [lg_entry_eq]
  refine so_run (h0 := h) X o1 HA hG (R := (headSpec (so_ws g.1 M.2.2.1 M.2.2.2.1 M.2.2.2.2.1) (so_rm (d + 1) h h')).room) ⟨Nat.le_refl _, Nat.le_refl _⟩ (res := (x, h')) ⟨?_, ?_⟩ ?_ n 0 (lv_args 0 as) h s.heap [] _ 0 0 hrun ⟨hP, va_S.rf, hl, Nat.zero_add _, Nat.zero_add _⟩
  · show h'.1 ≤ h.1 + (h'.1 - h.1)
    omega
  · show h'.2.1 ≤ h.2.1 + (h'.2.1 - h.2.1)
    omega
  · intro pc i l H locs ls cells slots hd hret hat
    obtain ⟨hP', hS', -, c1, c2⟩ := hat
    have e1 : h'.1 - h.1 = cells := by
      have : cells + h.1 = h'.1 := c1
      omega
    have e2 : h'.2.1 - h.2.1 = slots := by
      have : slots + h.2.1 = h'.2.1 := c2
      omega
    rw [e1, e2]
    have post : ∀ t : State, t.heap = H → s.WarmedH t.vm → so_Q D r B x h' (as.map (so_V r)).toArray s (.returned (x.map (so_V r))) t := fun t ht hW => ⟨rfl, by rw [ht]; exact hP'.moved hW.alike, hS'.F ht⟩
    rcases hret with ⟨rfl, v, hxv, hz⟩ | ⟨rfl, hz, v, hxv⟩ | ⟨rfl, hz, hxv⟩
    · dsimp only at hxv
      subst hxv
      rcases hz with z | ⟨z, z2⟩ | ⟨z, z2⟩ | ⟨z, z2⟩
      · exact W.iret Bd.exec Bd.bytes (hr.trans (am_rt_1 z)) post hS'.2.2 hd
      · exact W.zret Bd.exec Bd.bytes (hr.trans (am_rt_3 z)) (so_nar_z z2) post hS'.2.2 hd
      · exact W.zret Bd.exec Bd.bytes (hr.trans (am_rt_4 z)) z2 post hS'.2.2 hd
      · exact W.zret Bd.exec Bd.bytes (hr.trans (am_rt_5 z)) z2 post hS'.2.2 hd
    · dsimp only at hxv
      subst hxv
      exact W.lret Bd.exec Bd.bytes (hr.trans (am_rt_2 hz)) post hS'.2.2 hd
    · dsimp only at hxv
      subst hxv
      exact W.vret Bd.exec Bd.bytes (hr.trans (am_rt_none hz)) post hS'.2.2 hd
/-! String.checkIndex, by hand -/
theorem zc0_0 : decode cJ0_checkIndex_df160 0 = .ok (.iload_n 0, 1) := by decide +kernel
theorem zc0_1 : decode cJ0_checkIndex_df160 1 = .ok (.iload_n 1, 1) := by decide +kernel
theorem zc0_2 : decode cJ0_checkIndex_df160 2 = .ok (.getstatic 1053, 3) := by decide +kernel
theorem zc0_5 : decode cJ0_checkIndex_df160 5 = .ok (.invokestatic 1059, 3) := by decide +kernel
theorem zc0_8 : decode cJ0_checkIndex_df160 8 = .ok (.pop, 1) := by decide +kernel
theorem zc0_9 : decode cJ0_checkIndex_df160 9 = .ok (.return_, 1) := by decide +kernel
theorem zc3_0 : decode cJ3_checkIndex_8e157 0 = .ok (.iload_n 0, 1) := by decide +kernel
theorem zc3_1 : decode cJ3_checkIndex_8e157 1 = .ok (.ifCond .lt 8, 3) := by decide +kernel
theorem zc3_4 : decode cJ3_checkIndex_8e157 4 = .ok (.iload_n 0, 1) := by decide +kernel
theorem zc3_5 : decode cJ3_checkIndex_8e157 5 = .ok (.iload_n 1, 1) := by decide +kernel
theorem zc3_6 : decode cJ3_checkIndex_8e157 6 = .ok (.if_icmp .lt 10, 3) := by decide +kernel
theorem zc3_9 : decode cJ3_checkIndex_8e157 9 = .ok (.aload_n 2, 1) := by decide +kernel
theorem zc3_10 : decode cJ3_checkIndex_8e157 10 = .ok (.iload_n 0, 1) := by decide +kernel
theorem zc3_11 : decode cJ3_checkIndex_8e157 11 = .ok (.iload_n 1, 1) := by decide +kernel
theorem zc3_12 : decode cJ3_checkIndex_8e157 12 = .ok (.invokestatic 95, 3) := by decide +kernel
theorem zc3_15 : decode cJ3_checkIndex_8e157 15 = .ok (.athrow, 1) := by decide +kernel
theorem zc3_16 : decode cJ3_checkIndex_8e157 16 = .ok (.iload_n 0, 1) := by decide +kernel
theorem zc3_17 : decode cJ3_checkIndex_8e157 17 = .ok (.ireturn, 1) := by decide +kernel
theorem zc0_md : am_prog[260]? = some ([], [], cJ0_checkIndex_df160, 2, none, [621, 620, 134, 0]) := by rfl
theorem zc0_sg : am_sg[260]? = some (yJ0_checkIndex_df160, 2, 0, 0) := by rfl
theorem zc0_fl : Cond.fieldLink RJ0 1053 "jdk/internal/util/Preconditions" "SIOOBE_FORMATTER" "Ljava/util/function/BiFunction;" ∈ tblG := am_has_mem (k := 622) (by decide +kernel)
theorem zc0_ml : Cond.methodLink RJ0 1059 yJ3_checkIndex_8e157 ∈ tblG := am_has_mem (k := 624) (by decide +kernel)
theorem zc3_code : Cond.code yJ3_checkIndex_8e157 cJ3_checkIndex_8e157 3 (some .int) ∈ tblG := am_has_mem (k := 626) (by decide +kernel)
theorem zc3_init : Cond.initialized yJ3_checkIndex_8e157.cls ∈ tblG := am_has_mem (k := 136) (by decide +kernel)
theorem zc3_st : Cond.static yJ3_checkIndex_8e157 ∈ tblG := am_has_mem (k := 625) (by decide +kernel)
theorem so_ci3 (L : Launch) (D : va_G) (r : Nat → Nat) (B : Nat) (h : AH) (i n : Int32) (fv : Value) (h1 : ¬ i < 0) (h2 : i < n) (hfv : fv.category = 1) :
    Met L yJ3_checkIndex_8e157 (so_ws yJ3_checkIndex_8e157 cJ3_checkIndex_8e157 3 (some .int)) { frames := 0, cells := 0, slots := 0, locals := 0 } (va_Pc [.int i, .int n, fv] (fun U => so_P D r B h U U.heap)) (so_Q D r B (some (.int i)) h) 0 0 (so_A B) := by
  refine Met.ofW (cc := cJ3_checkIndex_8e157) (maxL := 3) (ret := some .int) (by decide +kernel) rfl ?_
  intro p e s m args below meth c s₁ Bd hml hv
  obtain ⟨rfl, hP⟩ := hv
  have hx := Bd.exec
  have hb := Bd.bytes
  have hr := Bd.returns
  have hlocks := Bd.notSynchronized
  have hl := lv_entry ([.int i, .int n, fv]) (n := 3) (by cases fv <;> first | exact Nat.le_refl 3 | cases hfv)
  rw [lg_entry_eq]
  generalize (lg_sl ([.int i, .int n, fv]) ++ List.replicate (3 - (lg_sl ([.int i, .int n, fv])).length) Slot.unset).toArray = ls at hl ⊢
  have hl : lv_has ls 3 [(0, .int i), (1, .int n), (2, fv)] := by
    refine ⟨hl.1, hl.2.1, fun q hq => hl.2.2 q ?_⟩
    simpa [lv_args, Value.category] using hq
  refine lv_iload_n hx hb zc3_0 rfl (lv_at hl 0 rfl) ?_
  refine lv_if_lt (tgt := 9) hx hb zc3_1 (by decide) (fun z => absurd z h1) (fun _ => ?_)
  refine lv_iload_n hx hb zc3_4 rfl (lv_at hl 0 rfl) ?_
  refine lv_iload_n hx hb zc3_5 rfl (lv_at hl 1 rfl) ?_
  refine lv_icmp_lt (tgt := 16) hx hb zc3_6 (by decide) (fun _ => ?_) (fun z => absurd h2 z)
  refine lv_iload_n hx hb zc3_16 rfl (lv_at hl 0 rfl) ?_
  exact W.iret hx hb hr (fun t ht hW => ⟨rfl, by rw [ht]; exact hP.moved hW.alike, (va_S.rf (A := so_A B)).F ht⟩) (fun q hq => by cases hq) zc3_17
theorem so_ci (L : Launch) (D : va_G) (r : Nat → Nat) (B d : Nat) (h : AH) (i n : Int32) (h1 : ¬ i < 0) (h2 : i < n) (M : MD) (hM : am_prog[260]? = some M) : so_Met L D r B (d + 1) yJ0_checkIndex_df160 M [.int i, .int n] h none h := by
  cases (zc0_md.symm.trans hM)
  unfold so_Met
  dsimp only
  refine Met.ofW (cc := cJ0_checkIndex_df160) (maxL := 2) (ret := none) (by decide +kernel) rfl ?_
  intro p e s m args below meth c s₁ Bd hml hv
  obtain ⟨rfl, ⟨hK, hAO⟩, hP⟩ := hv
  have hx := Bd.exec
  have hb := Bd.bytes
  have hr := Bd.returns
  have hlocks := Bd.notSynchronized
  have hts0 := atoms_spec (ws := so_ws yJ0_checkIndex_df160 cJ0_checkIndex_df160 2 none) Bd.pre
  have hts : ∀ w ∈ tblG, w.before ([.int i, .int n].map (so_V r)).toArray s = true := fun w hw => hts0 w (List.mem_cons_of_mem _ hw)
  have hown : s.vm.findClass RJ0 = some m.cls := findClass_of_methodNamed Bd.named
  have hl := lv_entry ([.int i, .int n]) (n := 2) (Nat.le_of_ble_eq_true rfl)
  show W p L e _ s m #[.int i, .int n] below meth c s.heap [] 0 0 _ (entryFrame m ([.int i, .int n] : List Value).toArray 2)
  rw [lg_entry_eq]
  generalize (lg_sl ([.int i, .int n]) ++ List.replicate (2 - (lg_sl ([.int i, .int n])).length) Slot.unset).toArray = ls at hl ⊢
  have hl : lv_has ls 2 [(0, .int i), (1, .int n)] := hl
  have hS : va_S (so_A B) s.heap s.heap [] := va_S.rf
  have hZ : ∃ fv : Value, fv.category = 1 ∧ va_Z "jdk/internal/util/Preconditions" "SIOOBE_FORMATTER" "Ljava/util/function/BiFunction;" fv (so_A B) s s.heap := by
    rcases hP.1.2.2.2 with z | ⟨t, z⟩
    · exact ⟨_, rfl, z⟩
    · exact ⟨_, rfl, z⟩
  obtain ⟨fv, hfv, hZ⟩ := hZ
  refine lv_iload_n hx hb zc0_0 rfl (lv_at hl 0 rfl) ?_
  refine lv_iload_n hx hb zc0_1 rfl (lv_at hl 1 rfl) ?_
  obtain ⟨cf, kf, fi, f, a, cell, z1, z2, z3, z4, z5, z6, z7, z8⟩ := hZ
  refine W.gets hx hb hown (hts _ zc0_fl) z1 z2 z3 z4 z5 (fun e => by rw [e] at z6; cases z6) z7 rfl zc0_2 ?_
  have hrun := va_runS (R := (headSpec (so_ws yJ0_checkIndex_df160 cJ0_checkIndex_df160 2 none) (so_rm (d + 1) h h)).room) (H := s.heap) (locs := []) (cells := 0) (slots := 0) (As := [.int i, .int n, fv]) (rest := []) (g := F0 m 5 ls [fv, .int n, .int i]) (n := 3) (nL := 2) (bytes := cJ3_checkIndex_8e157) (maxL := 3) (ret := some .int) (below := below) (e := e) (meth := meth) (index := 1059) ⟨hx, hb, hml, hown, hts⟩ (so_ci3 L D r B h i n fv h1 h2 hfv)
    ⟨⟨rfl, rfl, by show 0 + 1 ≤ d + 1; omega, by show 8 + (3 + 11) + 0 ≤ 100 * (d + 1); omega, so_words hts zc3_code, List.mem_cons_self, hts _ zc3_code, hts _ zc3_init, by decide +kernel, fun sig hsig => by
        have h3 : (parseMethodDescriptor yJ3_checkIndex_8e157.desc).map (fun d => d.parameters.length) = some 3 := by decide +kernel
        rw [hsig] at h3
        exact (Option.some.inj h3).symm, hts _ zc0_ml⟩, hts _ zc3_st⟩ ⟨fun a U g mk q => ⟨q.1, so_P.moved (u := U) (U := U.calling g mk a) (Vm.Alike.refl U.vm) q.2⟩, fun U hU hW => ⟨rfl, by show so_P D r B h U U.heap; rw [hU]; exact hP.moved hW.alike⟩⟩ rfl rfl hl.1 rfl (Nat.le_of_ble_eq_true rfl) zc0_5 ⟨Nat.zero_le _, Nat.zero_le _⟩
  refine so_call (x := some (.int i)) hrun hS fun H1 locs1 g1 g2 => ?_
  refine lv_pop (va := .int i) (rest := []) hx hb zc0_8 rfl ?_
  have e1 : h.1 - h.1 = 0 + 0 := Nat.sub_self _
  have e2 : h.2.1 - h.2.1 = 0 + 0 := Nat.sub_self _
  rw [e1, e2]
  exact W.vret hx hb hr (fun t ht hW => ⟨rfl, by rw [ht]; exact g1.moved hW.alike, g2.F ht⟩) g2.2.2 zc0_9
theorem so_sem {L : Launch} {D : va_G} {r : Nat → Nat} {B : Nat} (HA : so_all) : ∀ d, so_G L D r B d (am_sem d) := by
  intro d
  induction d with
  | zero => exact ⟨am_sem_mono 0, fun j as h x h' hx => by cases hx⟩
  | succ d ih =>
    refine ⟨am_sem_mono (d + 1), fun j as h x h' hx => ?_⟩
    simp only [am_sem] at hx
    split at hx
    · unfold am_ci at hx
      split at hx
      · rename_i i n
        split at hx
        · cases hx
        · rename_i hc
          cases hx
          obtain ⟨M, hM⟩ := so_prog_of zc0_sg
          exact ⟨_, M, zc0_sg, hM, so_ci L D r B d _ i n (fun z => hc (Or.inl z)) (Classical.byContradiction fun z => hc (Or.inr z)) M hM⟩
      · cases hx
    · split at hx
      · cases hx
      · rename_i M hM
        cases hb : Nat.ble (lg_sl as).length M.2.2.2.1 with
        | false => rw [hb] at hx; cases hx
        | true =>
          rw [hb] at hx
          have hlt := (List.getElem?_eq_some_iff.mp hM).1
          rw [so_lens] at hlt
          have hg := List.getElem?_eq_getElem hlt
          exact ⟨_, M, hg, hM, so_meth HA ih (HA _ _ _ hg hM) hb hx⟩
end
section
/-! THE START: the law's entry, in the small machine's words -/
def R_law : String := "ForgetfulRiderLaw"
def lw_P (b : Addr) (xs : List Int32) (args : Array Value) (s : State) : Prop := args = #[.ref b] ∧ s.IntsAt b xs ∧ xs.length ≤ 3072 ∧ (Jvm.Cond.and given_1 narrow_1).before args s = true
def lw_Q (_ : Array Value) (s : State) (o : Outcome) (t : State) : Prop := o = .returned (some (.int 1)) ∧ Framed s o t [] 600000 7302250
def lw_Z (below : List Frame) (a : Array Value) (s : State) : State → Prop := fun t => ∃ o, t.status = .running ∧ Ended t below o ∧ lw_Q a s o t
/-- the law's own end, with 1 on the stack, nothing written that was there before, its room as the claim has it -/
theorem lw_ret {p : Program} {l : Launch} {e : Env} {s : State} {m : MethodId} {below : List Frame} {meth : Method} {c : Code} {b : Nat} (hx : p.tables.exec = Jvm.exec) (hb : c.code = code) (hr : meth.sig.returnType = ret) (hlocks : meth.locks = false) {pc : Nat} {H : Heap} {ls : Array Slot} (hdg : decode code pc = .ok (.ireturn, 1)) : W p l e room_1 s m #[Value.ref b] below meth c H [] 600000 7302250 (lw_Z below #[Value.ref b] s) (F0 m pc ls [.int 1]) := by
  intro T hT X
  obtain ⟨fs, hret, hrun, hended, hW, hframe⟩ := X.leave (v := some (.int 1)) (hlocks := hlocks) (fun h => by rw [hr] at h; cases h)
  have hmeth' : T.vm.method? m = some meth := X.method'
  refine ⟨T.setFrames fs, ?_, .returned (some (.int 1)), hrun, hended, rfl, ⟨_, rfl⟩, hW, hframe⟩
  jvm_step X.here [X.here.top, hx, hb, hdg, hmeth', hr, ret, narrow_b1]
  (try refine ⟨rfl, ?_⟩); (try refine ⟨rfl, ?_⟩)
  first | (intro acts; rw [hret _ acts rfl rfl rfl]) | rw [hret _ _ rfl rfl rfl]
  exact Steps.refl _
/-- what holds at the law's entry: the machine, the code, the tables' words (any of lw_tbl by 'hts w (by decide +kernel)'), the script of L ints xs at the cell b, what the Statement gives of the start (any of its parts by flat_of_before) -/
def lw_At (p : Program) (s : State) (m : MethodId) (meth : Method) (c : Code) (b L : Nat) (xs : Nat → Int32) : Prop :=
  p.tables.exec = Jvm.exec ∧ c.code = code ∧ meth.sig.returnType = ret ∧ c.maxLocals = 4 ∧ s.vm.findClass R_law = some m.cls ∧ (∀ w ∈ lw_tbl, w.before #[Value.ref b] s = true) ∧ va_X b L xs s s.heap ∧ b < s.heap.size ∧ meth.locks = false ∧ (Jvm.Cond.and given_1 narrow_1).before #[Value.ref b] s = true
def am_bytes : List (List Int32) := [[102, 111, 114, 107], [116, 111], [116, 117, 114, 110], [98, 121], [105, 110, 110], [101, 110, 100], [115, 116, 101, 112], [112, 108, 97, 99, 101], [100, 97, 121], [105, 102], [110, 111, 116], [97, 110, 100], [111, 114]]
def am_low : List Int32 := [0, 1, -999, -999]
def am_high : List Int32 := [15, 10, 999, 999]
def am_h0 (n : Nat) (xs : Nat → Int32) : AH := (29, 0, fun a =>
  if a < 13 then (11, 2, fun k => if k = 0 then .ref (13 + a) else .int 0)
  else if a < 26 then (102, (am_bytes.getD (a - 13) []).length, fun j => .int ((am_bytes.getD (a - 13) []).getD j 0))
  else if a = 26 then (100, 4, fun j => .int (am_low.getD j 0))
  else if a = 27 then (100, 4, fun j => .int (am_high.getD j 0))
  else (100, n, fun j => .int (xs j)))
def am_tm (i : Nat) : Term := Term.string RX5 (so_si.getD i (0, "")).1
theorem so_str1 {args : Array Value} {s : State} {tm : Term} {byt : List Int32} {A : Nat → Prop} (hN : byt.length < 2 ^ 31) (hex : (Cond.exactly tm "java/lang/String").before args s = true) (hco : (Cond.eq (.field tm "java/lang/String" "coder" "B") (.int 0)).before args s = true)
    (har : (Cond.arrayOf (.field tm "java/lang/String" "value" "[B") .byte).before args s = true) (hle : (Cond.eq (.length (.field tm "java/lang/String" "value" "[B")) (.int (Int32.ofNat byt.length))).before args s = true)
    (hel : ∀ j : Nat, j < byt.length → (Cond.eq (.elem (.field tm "java/lang/String" "value" "[B") (.int (Int32.ofNat j))) (.int (byt.getD j 0))).before args s = true) (hA : ∀ a : Nat, a < s.heap.size → ¬ A a) :
    ∃ q : Nat × Nat, tm.eval args s none [] s = some (.ref q.1) ∧ va_O "java/lang/String" q.1 A s s.heap ∧ va_OF "java/lang/String" "coder" "B" (.int 0) q.1 A s s.heap ∧ va_OF "java/lang/String" "value" "[B" (.ref q.2) q.1 A s s.heap ∧ va_T .byte q.2 byt.length (fun j => .int (byt.getD j 0)) A s s.heap := by
  obtain ⟨a, c, cA, kA, q1, q2, q3, q4, q5, q6, -⟩ := Cond.exactly_spec (args := args) (first := s) (o := none) (s := s) (idx := []) (t := tm) (cls := "java/lang/String") hex
  obtain ⟨t, ht, hT⟩ := va_Tof (f := fun j => .int (byt.getD j 0)) (A := A) hN har (va_eqt hle) (fun j hj => va_eqt (hel j hj)) hA
  exact ⟨(a, t), q1, ⟨cA, q3, q5, by rw [q6]; exact q2, hA a (Array.getElem?_eq_some_iff.mp q3).1⟩, vk_OFof q1 (va_eqt hco) hA, vk_OFof q1 ht hA, hT⟩
theorem so_strc : ∀ i, i < 13 → ((Cond.exactly (am_tm i) "java/lang/String" ∈ flatC (Jvm.Cond.and given_1 narrow_1) ∧ Cond.eq (.field (am_tm i) "java/lang/String" "coder" "B") (.int 0) ∈ flatC (Jvm.Cond.and given_1 narrow_1)) ∧ (Cond.arrayOf (.field (am_tm i) "java/lang/String" "value" "[B") .byte ∈ flatC (Jvm.Cond.and given_1 narrow_1) ∧ Cond.eq (.length (.field (am_tm i) "java/lang/String" "value" "[B")) (.int (Int32.ofNat (am_bytes.getD i []).length)) ∈ flatC (Jvm.Cond.and given_1 narrow_1)) ∧
    ∀ j, j < (am_bytes.getD i []).length → Cond.eq (.elem (.field (am_tm i) "java/lang/String" "value" "[B") (.int (Int32.ofNat j))) (.int ((am_bytes.getD i []).getD j 0)) ∈ flatC (Jvm.Cond.and given_1 narrow_1)) := by decide +kernel
theorem so_strr : ∀ i, i < 13 → Cond.stringRef RX5 (so_si.getD i (0, "")).1 (so_si.getD i (0, "")).2 ∈ lw_tbl ∧ (am_bytes.getD i []).length < 100 := by decide +kernel
theorem so_nsr : ∀ q ∈ so_ns, Cond.methodLinkNest q.1 q.2.1 q.2.2 "ForgetfulRider" ∈ lw_tbl := by decide +kernel
theorem so_tabc (nm : String) (zs : List Int32) (h : Cond.arrayOf (.static "ForgetfulRider" nm "[I") .int ∈ flatC (Jvm.Cond.and given_1 narrow_1) ∧ Cond.eq (.length (.static "ForgetfulRider" nm "[I")) (.int 4) ∈ flatC (Jvm.Cond.and given_1 narrow_1) ∧ ∀ j, j < 4 → Cond.eq (.elem (.static "ForgetfulRider" nm "[I") (.int (Int32.ofNat j))) (.int (zs.getD j 0)) ∈ flatC (Jvm.Cond.and given_1 narrow_1)) {args : Array Value} {s : State} {A : Nat → Prop} (hg : (Jvm.Cond.and given_1 narrow_1).before args s = true) (hA : ∀ a : Nat, a < s.heap.size → ¬ A a) (hl : (Cond.laysStatic "ForgetfulRider" nm "[I").before args s = true) (hini : (Cond.initialized "ForgetfulRider").before args s = true) :
    ∃ t, va_Z "ForgetfulRider" nm "[I" (.ref t) A s s.heap ∧ va_T .int t 4 (fun j => .int (zs.getD j 0)) A s s.heap := by
  have hs := flat_of_before _ hg
  obtain ⟨h1, h2, h3⟩ := h
  obtain ⟨t, ht, hT⟩ := va_Tof (N := 4) (f := fun j => .int (zs.getD j 0)) (A := A) (by decide) (hs _ h1) (va_eqt (hs _ h2)) (fun j hj => va_eqt (hs _ (h3 j hj))) hA
  exact ⟨t, va_Zref hl hini ht hA, hT⟩
theorem so_T_cell {D : va_G} {r : Nat → Nat} {B : Nat} {U : State} {kd n t : Nat} {f : Nat → Value} {A : Nat → Prop} {H : Heap} (hkd : kd = 100 ∨ kd = 102) (h : va_T (am_aty kd) t n f A U H) (hf : ∀ j, so_V r (f j) = f j) : so_cell D r B U (kd, n, f) t H := by
  obtain ⟨cell, h1, h2, h3, h4, h5, h6, h7⟩ := h
  refine Or.inr (Or.inr ⟨?_, cell, h1, ⟨h2, h3, h4, h5, fun j hj => by rw [h6 j hj]; show some (f j) = some (so_V r (f j)); rw [hf]⟩, fun z => ?_⟩)
  · show 100 ≤ kd ∧ kd < 105
    rcases hkd with rfl | rfl <;> decide
  · have z : kd = 104 := z
    rcases hkd with rfl | rfl <;> cases z
theorem so_ini0 : Cond.initialized "ForgetfulRider" ∈ lw_tbl ∧ Cond.initialized "java/lang/String" ∈ lw_tbl ∧ Cond.initialized "jdk/internal/util/Preconditions" ∈ lw_tbl ∧ Cond.laysStatic "ForgetfulRider" "LEAST_TERM" "[I" ∈ lw_tbl ∧ Cond.laysStatic "ForgetfulRider" "MOST_TERM" "[I" ∈ lw_tbl ∧ Cond.laysStatic "java/lang/String" "COMPACT_STRINGS" "Z" ∈ lw_tbl ∧ Cond.laysStatic "jdk/internal/util/Preconditions" "SIOOBE_FORMATTER" "Ljava/util/function/BiFunction;" ∈ lw_tbl := by decide +kernel
theorem so_nar0 : Cond.eq (.static "java/lang/String" "COMPACT_STRINGS" "Z") (.int 1) ∈ flatC (Jvm.Cond.and given_1 narrow_1) ∧ Cond.isRef (.static "jdk/internal/util/Preconditions" "SIOOBE_FORMATTER" "Ljava/util/function/BiFunction;") ∈ flatC (Jvm.Cond.and given_1 narrow_1) := by decide +kernel
/-- what holds at the law's entry, in the small machine's words -/
theorem so_begin {p : Program} {s : State} {m : MethodId} {meth : Method} {c : Code} {b n : Nat} {xs : Nat → Int32} (hn : n < 2 ^ 31) (C0 : lw_At p s m meth c b n xs) : ∃ (D : va_G) (r : Nat → Nat), so_K D r s ∧ so_P D r s.heap.size (am_h0 n xs) s s.heap ∧ r 28 = b := by
  obtain ⟨hx, hb, hr, hml, hown, hts, hX, hbl, hlocks, hgv⟩ := C0
  have hA : ∀ a : Nat, a < s.heap.size → ¬ so_A s.heap.size a := fun a ha z => Nat.not_le.mpr ha z
  have hs := flat_of_before _ hgv
  have htG : ∀ w ∈ tblG, w.before #[Value.ref b] s = true := fun w hw => hts w (List.mem_filter.mp hw).1
  have hkn : ∀ k : Nat, ∃ q : ClassId × (Nat → Nat), ∀ w : vw_C, vwCl[k]? = some w → u_Kn s w.1 w.2.1 w.2.2 q.1 q.2 := by
    intro k
    cases hk : vwCl[k]? with
    | none => exact ⟨(0, fun _ => 0), fun w hw => by cases hw⟩
    | some w =>
      obtain ⟨cC, iS, hu⟩ := u_known (C := w.1) (T := w.2.1) (N := w.2.2) (n := w.2.2) htG (so_in k w hk) (htG _ (so_inst k w hk).1)
      exact ⟨(cC, iS), fun w' hw' => by cases hw'; exact hu⟩
  obtain ⟨dd, hdd⟩ := Classical.axiomOfChoice hkn
  have hst : ∀ i : Nat, ∃ q : Nat × Nat, i < 13 → ((am_tm i).eval #[Value.ref b] s none [] s = some (.ref q.1) ∧ va_O "java/lang/String" q.1 (so_A s.heap.size) s s.heap ∧ va_OF "java/lang/String" "coder" "B" (.int 0) q.1 (so_A s.heap.size) s s.heap ∧ va_OF "java/lang/String" "value" "[B" (.ref q.2) q.1 (so_A s.heap.size) s s.heap ∧ va_T .byte q.2 (am_bytes.getD i []).length (fun j => .int ((am_bytes.getD i []).getD j 0)) (so_A s.heap.size) s s.heap) := by
    intro i
    by_cases hi : i < 13
    · obtain ⟨⟨c1, c2⟩, ⟨c3, c4⟩, c5⟩ := so_strc i hi
      obtain ⟨q, hq⟩ := so_str1 (A := so_A s.heap.size) (Nat.lt_of_lt_of_le (so_strr i hi).2 (by decide)) (hs _ c1) (hs _ c2) (hs _ c3) (hs _ c4) (fun j hj => hs _ (c5 j hj)) hA
      exact ⟨q, fun _ => hq⟩
    · exact ⟨(0, 0), fun h => absurd h hi⟩
  obtain ⟨ad, had⟩ := Classical.axiomOfChoice hst
  obtain ⟨i1, i2, i3, i4, i5, i6, i7⟩ := so_ini0
  obtain ⟨t1, z1, T1⟩ := so_tabc "LEAST_TERM" am_low (by decide +kernel) hgv hA (hts _ i4) (hts _ i1)
  obtain ⟨t2, z2, T2⟩ := so_tabc "MOST_TERM" am_high (by decide +kernel) hgv hA (hts _ i5) (hts _ i1)
  have z3 : va_Z "java/lang/String" "COMPACT_STRINGS" "Z" (.int 1) (so_A s.heap.size) s s.heap := va_Zof (hts _ i6) (hts _ i2) (va_eqi (hs _ so_nar0.1)) hA
  have z4 : va_Zq "jdk/internal/util/Preconditions" "SIOOBE_FORMATTER" "Ljava/util/function/BiFunction;" (so_A s.heap.size) s s.heap := va_Zqof (hts _ i7) (hts _ i3) (hs _ so_nar0.2) hA
  obtain ⟨r, hr⟩ : ∃ r : Nat → Nat, r = fun a => if a < 13 then (ad a).1 else if a < 26 then (ad (a - 13)).2 else if a = 26 then t1 else if a = 27 then t2 else if a = 28 then b else s.heap.size + (a - 29) := ⟨_, rfl⟩
  have r1 : ∀ a, a < 13 → r a = (ad a).1 := fun a ha => by rw [hr]; simp [ha]
  have r2 : ∀ a, 13 ≤ a → a < 26 → r a = (ad (a - 13)).2 := fun a ha hb => by rw [hr]; simp [hb, Nat.not_lt.mpr ha]
  have r3 : r 26 = t1 := by rw [hr]; simp
  have r4 : r 27 = t2 := by rw [hr]; simp
  have r5 : r 28 = b := by rw [hr]; simp
  have r6 : ∀ a, 29 ≤ a → r a = s.heap.size + (a - 29) := fun a ha => by
    rw [hr]
    simp only
    rw [if_neg (by omega), if_neg (by omega), if_neg (by omega), if_neg (by omega), if_neg (by omega)]
  have lT : ∀ {ty : FieldType} {t N : Nat} {f : Nat → Value}, va_T ty t N f (so_A s.heap.size) s s.heap → t < s.heap.size := fun h => by
    obtain ⟨cell, h1, -⟩ := h
    exact (Array.getElem?_eq_some_iff.mp h1).1
  have cells : ∀ a, a < 29 → so_cell (fun k => (dd k).1, fun k => (dd k).2) r s.heap.size s ((am_h0 n xs).2.2 a) (r a) s.heap := by
    intro a ha
    by_cases ha1 : a < 13
    · obtain ⟨-, s1, s2, s3, s4⟩ := had a ha1
      rw [r1 a ha1]
      refine Or.inr (Or.inl ?_)
      have e : (am_h0 n xs).2.2 a = (11, 2, fun k => if k = 0 then .ref (13 + a) else .int 0) := by simp [am_h0, ha1]
      rw [e]
      refine ⟨rfl, rfl, s1, ?_, s2⟩
      show va_OF _ _ _ (.ref (r (13 + a))) _ _ _ _
      rw [r2 (13 + a) (by omega) (by omega), show 13 + a - 13 = a by omega]
      exact s3
    · by_cases ha2 : a < 26
      · obtain ⟨-, -, -, -, s4⟩ := had (a - 13) (by omega)
        have e : (am_h0 n xs).2.2 a = (102, (am_bytes.getD (a - 13) []).length, fun j => .int ((am_bytes.getD (a - 13) []).getD j 0)) := by simp [am_h0, ha1, ha2]
        rw [e, r2 a (by omega) ha2]
        exact so_T_cell (Or.inr rfl) s4 (fun j => rfl)
      · by_cases ha3 : a = 26
        · subst ha3
          rw [r3]
          exact so_T_cell (Or.inl rfl) T1 (fun j => rfl)
        · by_cases ha4 : a = 27
          · subst ha4
            rw [r4]
            exact so_T_cell (Or.inl rfl) T2 (fun j => rfl)
          · have ha5 : a = 28 := by omega
            subst ha5
            rw [r5]
            obtain ⟨scr, x1, x2, x3, x4, x5⟩ := hX
            exact so_T_cell (A := so_A s.heap.size) (Or.inl rfl) ⟨scr, x1, x2, x3, Nat.le_of_eq x4.symm, by rw [x4] <;> rfl, x5, hA b hbl⟩ (fun j => rfl)
  refine ⟨(fun k => (dd k).1, fun k => (dd k).2), r, ⟨fun k q hq => hdd k q hq, fun i q hq => ?_, fun q hq => va_Nw.of rfl (hts _ (so_nsr q hq))⟩, ⟨⟨by rw [r3]; exact z1, by rw [r4]; exact z2, z3, z4⟩, ⟨Nat.le_refl 29, ?_, fun a ha => ?_, fun a ha => r6 a ha⟩, cells⟩, r5⟩
  · have hi : i < 13 := (List.getElem?_eq_some_iff.mp hq).1
    have hq' : so_si.getD i (0, "") = q := by rw [List.getD_eq_getElem?_getD, hq]; rfl
    have h1 := (had i hi).1
    have h2 := (so_strr i hi).1
    unfold am_tm at h1
    rw [hq'] at h1 h2
    rw [r1 i hi]
    exact vk_R.of (hts _ h2) h1
  · show s.heap.size = s.heap.size + (29 - 29)
    omega
  · exact (cells a ha).lt
end
section
theorem so_whole {dd : Nat} (hdd : dd + 1 ≤ 2048 ∧ 100 * (dd + 1) ≤ 84000) (HA : so_all) (HC : am_okC am_sg RL false 4 code qL_law = true) (hlaw : ∀ (n : Nat) (xs : Nat → Int32), n ≤ 3072 → ∃ hf : AH, am_rn qL_law uL_law 3 (am_sem dd) 0 [(0, .ref 28)] (am_h0 n xs) = some (some (.int 1), hf) ∧ hf.1 ≤ 600000 ∧ hf.2.1 ≤ 7302250)
    {p : Program} {e : Env} {s : State} {m : MethodId} {below : List Frame} {meth : Method} {c : Code} (l : Launch) {b n : Nat} {xs : Nat → Int32} (hL : n ≤ 3072) (C0 : lw_At p s m meth c b n xs) : W p l e room_1 s m #[Value.ref b] below meth c s.heap [] 0 0 (lw_Z below #[Value.ref b] s) (entryFrame m ([Value.ref b] : List Value).toArray 4) := by
  obtain ⟨hx, hb, hr, hml, hown, hts, hX, hbl, hlocks, hgv⟩ := id C0
  obtain ⟨D, r, hK, hP, rfl⟩ := so_begin (by omega) C0
  obtain ⟨hf, hrn, hf1, hf2⟩ := hlaw n xs hL
  obtain ⟨k, hrun⟩ := am_rn_some hrn
  have htG : ∀ w ∈ tblG, w.before #[Value.ref (r 28)] s = true := fun w hw => hts w (List.mem_filter.mp hw).1
  have X : so_Cx p s m #[Value.ref (r 28)] c meth RL false code 4 D r := ⟨hx, hb, hml, hown, htG, hK, fun z => (by cases z), hts _ so_over⟩
  have hl := lv_entry ([.ref (r 28)]) (n := 4) (Nat.le_of_ble_eq_true rfl)
  rw [lg_entry_eq]
  refine so_run (h0 := am_h0 n xs) (B := s.heap.size) (d := dd) X HC HA (so_sem HA dd) (R := room_1) hdd (res := (some (.int 1), hf)) ⟨?_, ?_⟩ ?_ k 0 [(0, .ref 28)] (am_h0 n xs) s.heap [] _ 0 0 hrun ⟨hP, va_S.rf, hl, Nat.zero_add _, Nat.zero_add _⟩
  · exact Nat.le_trans (show hf.1 ≤ room_1.cells from hf1) (Nat.le_add_left _ _)
  · exact Nat.le_trans (show hf.2.1 ≤ room_1.slots from hf2) (Nat.le_add_left _ _)
  · intro pc i l' H locs ls cells slots hd hret hat
    obtain ⟨hP', hS', -, c1, c2⟩ := hat
    have c1 : cells + 29 = hf.1 := c1
    have c2 : slots + 0 = hf.2.1 := c2
    refine va_forget (fun q hq => hS'.2.2 q hq) ?_
    refine W.widen (k := 600000) (n := 7302250) (by omega) (by omega) ?_
    rcases hret with ⟨rfl, v, hxv, hz⟩ | ⟨rfl, hz, v, hxv⟩ | ⟨rfl, hz, hxv⟩
    · exact lw_ret hx hb hr hlocks hd
    · cases hxv
    · cases hxv
end
section
/-! NUMBERS: an int, a long by the whole number that it stands for -/
def zi (z : Int) : Int32 := Int32.ofInt z
def zl (z : Int) : Int64 := Int64.ofInt z
theorem zi_add (a b : Int) : zi a + zi b = zi (a + b) := (Int32.ofInt_add a b).symm
theorem zi_sub (a b : Int) : zi a - zi b = zi (a - b) := (Int32.ofInt_sub a b).symm
theorem zi_mul (a b : Int) : zi a * zi b = zi (a * b) := (Int32.ofInt_mul a b).symm
theorem zi_neg (a : Int) : -zi a = zi (-a) := (Int32.ofInt_neg a).symm
theorem zl_add (a b : Int) : zl a + zl b = zl (a + b) := (Int64.ofInt_add a b).symm
theorem zl_sub (a b : Int) : zl a - zl b = zl (a - b) := (Int64.ofInt_sub a b).symm
theorem zl_mul (a b : Int) : zl a * zl b = zl (a * b) := (Int64.ofInt_mul a b).symm
theorem zl_neg (a : Int) : -zl a = zl (-a) := (Int64.ofInt_neg a).symm
theorem zi_self (x : Int32) : zi x.toInt = x := Int32.ofInt_toInt x
theorem zl_self (x : Int64) : zl x.toInt = x := Int64.ofInt_toInt x
theorem zi_toInt {a : Int} (h1 : -2147483648 ≤ a) (h2 : a ≤ 2147483647) : (zi a).toInt = a := Int32.toInt_ofInt_of_le (by omega) (by omega)
theorem zl_toInt {a : Int} (h1 : -9223372036854775808 ≤ a) (h2 : a ≤ 9223372036854775807) : (zl a).toInt = a := Int64.toInt_ofInt_of_le (by omega) (by omega)
theorem zi_inj {a b : Int} (a1 : -2147483648 ≤ a) (a2 : a ≤ 2147483647) (b1 : -2147483648 ≤ b) (b2 : b ≤ 2147483647) : (zi a = zi b) = (a = b) := by
  apply propext
  constructor
  · intro h
    have := congrArg Int32.toInt h
    rwa [zi_toInt a1 a2, zi_toInt b1 b2] at this
  · rintro rfl; rfl
theorem zi_lt {a b : Int} (a1 : -2147483648 ≤ a) (a2 : a ≤ 2147483647) (b1 : -2147483648 ≤ b) (b2 : b ≤ 2147483647) : (zi a < zi b) = (a < b) := by
  rw [Int32.lt_iff_toInt_lt, zi_toInt a1 a2, zi_toInt b1 b2]
theorem zi_le {a b : Int} (a1 : -2147483648 ≤ a) (a2 : a ≤ 2147483647) (b1 : -2147483648 ≤ b) (b2 : b ≤ 2147483647) : (zi a ≤ zi b) = (a ≤ b) := by
  rw [Int32.le_iff_toInt_le, zi_toInt a1 a2, zi_toInt b1 b2]
theorem zl_inj {a b : Int} (a1 : -9223372036854775808 ≤ a) (a2 : a ≤ 9223372036854775807) (b1 : -9223372036854775808 ≤ b) (b2 : b ≤ 9223372036854775807) : (zl a = zl b) = (a = b) := by
  apply propext
  constructor
  · intro h
    have := congrArg Int64.toInt h
    rwa [zl_toInt a1 a2, zl_toInt b1 b2] at this
  · rintro rfl; rfl
theorem zl_lt {a b : Int} (a1 : -9223372036854775808 ≤ a) (a2 : a ≤ 9223372036854775807) (b1 : -9223372036854775808 ≤ b) (b2 : b ≤ 9223372036854775807) : (zl a < zl b) = (a < b) := by
  rw [Int64.lt_iff_toInt_lt, zl_toInt a1 a2, zl_toInt b1 b2]
theorem zl_le {a b : Int} (a1 : -9223372036854775808 ≤ a) (a2 : a ≤ 9223372036854775807) (b1 : -9223372036854775808 ≤ b) (b2 : b ≤ 9223372036854775807) : (zl a ≤ zl b) = (a ≤ b) := by
  rw [Int64.le_iff_toInt_le, zl_toInt a1 a2, zl_toInt b1 b2]
theorem zi_nat {a : Int} (h1 : 0 ≤ a) (h2 : a ≤ 2147483647) : (zi a).toNatClampNeg = a.toNat := by
  show (zi a).toInt.toNat = a.toNat
  rw [zi_toInt (by omega) h2]
theorem zi_ext (x : Int32) : ∃ a : Int, (-2147483648 ≤ a ∧ a ≤ 2147483647) ∧ x = zi a := ⟨x.toInt, ⟨Int32.le_toInt x, by have := Int32.toInt_lt x; omega⟩, (zi_self x).symm⟩
theorem zl_ext (x : Int64) : ∃ a : Int, (-9223372036854775808 ≤ a ∧ a ≤ 9223372036854775807) ∧ x = zl a := ⟨x.toInt, ⟨Int64.le_toInt x, by have := Int64.toInt_lt x; omega⟩, (zl_self x).symm⟩
theorem zi_i2l {a : Int} (h1 : -2147483648 ≤ a) (h2 : a ≤ 2147483647) : (zi a).toInt64 = zl a := by
  apply Int64.toInt_inj.mp
  rw [Int32.toInt_toInt64, zi_toInt h1 h2, zl_toInt (by omega) (by omega)]
theorem zi_lit (n : Nat) : (OfNat.ofNat n : Int32) = zi (OfNat.ofNat n) := by
  show Int32.ofNat n = Int32.ofInt (n : Int)
  exact (Int32.ofInt_eq_ofNat).symm
theorem zl_lit (n : Nat) : (OfNat.ofNat n : Int64) = zl (OfNat.ofNat n) := by
  show Int64.ofNat n = Int64.ofInt (n : Int)
  exact (Int64.ofInt_eq_ofNat).symm
/-! THE HEAP: 140 cells; what each is -/
def px_tab : List (Nat × Nat) := [(9, 16), (102, 400), (3, 11), (100, 16), (100, 16), (100, 16), (100, 16), (100, 48), (100, 48), (100, 16), (100, 16), (100, 16), (100, 400), (5, 10), (0, 3), (3, 11), (100, 16), (100, 16), (100, 16), (100, 16), (100, 48), (100, 48), (100, 16), (100, 16), (100, 16), (100, 400), (100, 4), (100, 18), (104, 2), (0, 3), (3, 11), (100, 16), (100, 16), (100, 16), (100, 16), (100, 48), (100, 48), (100, 16), (100, 16), (100, 16), (100, 400), (100, 4), (100, 18), (0, 3), (3, 11), (100, 16), (100, 16), (100, 16), (100, 16), (100, 48), (100, 48), (100, 16), (100, 16), (100, 16), (100, 400), (100, 4), (100, 18), (103, 2), (7, 4), (101, 32), (1, 11), (100, 16), (100, 18), (101, 176), (100, 176), (100, 48), (100, 11), (6, 10), (100, 6), (100, 18), (100, 16), (4, 7), (101, 352), (100, 12), (100, 6), (100, 2), (100, 2), (2, 7), (101, 384), (101, 384), (101, 16), (8, 5), (100, 11), (100, 4), (10, 49), (100, 7), (100, 984), (100, 1968), (103, 2), (102, 53), (102, 400), (100, 5), (100, 401), (100, 401), (100, 401), (100, 160), (100, 3), (100, 176), (100, 18), (101, 176), (100, 6), (100, 6), (100, 18), (101, 1936), (100, 12), (101, 352), (101, 176), (101, 18), (101, 2304), (101, 2304), (100, 11)]
def px_t (a : Nat) : Nat × Nat := px_tab.getD (a - 29) (0, 0)
/-- what a place of an object holds: 0 an int, 1 a long, t + 2 the cell t -/
def px_ob (w : Nat) : List (Nat × List Nat) := [(29, [32, 0, 0, 33, 44, 45, 59, 88, 89, 91, 98, 102, 108, 112, 114, 0]),
  (31, [0, 34, 35, 36, 37, 38, 39, 40, 41, 42, 43]),
  (42, [32, 33, 0, 0, 0, 0, 0, 0, 0, 0]),
  (43, [46, 57, 58]),
  (44, [0, 47, 48, 49, 50, 51, 52, 53, 54, 55, 56]),
  (58, [61, 72, 73]),
  (59, [0, 62, 63, 64, 65, 66, 67, 68, 69, 70, 71]),
  (72, [75, 86, 87]),
  (73, [0, 76, 77, 78, 79, 80, 81, 82, 83, 84, 85]),
  (87, [90, 0, 0, 0]),
  (89, [45, 46, 89, 92, 93, 0, 94, 95, 0, 96, 97]),
  (96, [91, 99, 100, 101, 0, 0, 0, 0, 1, 1]),
  (100, [91, 103, 104, 105, 106, 107, 1]),
  (106, [91, w + 2, 217 - w, 0, 111, 1, 1]),
  (110, [45, 89, 113, 0, 1]),
  (113, [0, 0, 116, 117, 118, 119, 120, 121, 122, 0, 0, 123, 124, 125, 0, 0, 0, 0, 126, 0, 0, 0, 0, 0, 127, 128, 0, 129, 130, 0, 131, 132, 1, 0, 0, 133, 134, 135, 136, 137, 138, 139, 140, 1, 1, 141, 0, 0, 0])]
def px_tg (w a i : Nat) : Nat := bif Nat.ble 100 (px_t a).1 then (bif Nat.beq (px_t a).1 101 then 1 else bif Nat.beq (px_t a).1 104 then (bif Nat.beq i 0 then 60 else 74) else 0) else match am_look (px_ob w) a with
  | some l => l.getD i 0
  | none => 0
def px_v (t : Nat) (v : Value) : Prop := match t with
  | 0 => ∃ x, v = .int x
  | 1 => ∃ x, v = .long x
  | t + 2 => v = .ref t
def px_ok (w : Nat) (h : AH) : Prop := (h.1 = 140 ∧ h.2.1 = 17062) ∧ (w = 107 ∨ w = 108) ∧ (∀ a, a < 28 → h.2.2 a = (am_h0 0 (fun _ => 0)).2.2 a) ∧ ∀ a, 29 ≤ a → a < 140 → (h.2.2 a).1 = (px_t a).1 ∧ (h.2.2 a).2.1 = (px_t a).2 ∧ ∀ i, i < (px_t a).2 → px_v (px_tg w a i) ((h.2.2 a).2.2 i)
/-- the number at place i of cell a -/
def px_n (h : AH) (a i : Nat) : Int := match (h.2.2 a).2.2 i with
  | .int x => x.toInt
  | .long x => x.toInt
  | _ => 0
def px_set (h : AH) (a i : Nat) (v : Value) : AH := am_set h a ((h.2.2 a).1, (h.2.2 a).2.1, va_up (h.2.2 a).2.2 i v)
def px_wi (h : AH) (a i : Nat) (x : Int) : AH := px_set h a i (.int (zi x))
def px_wl (h : AH) (a i : Nat) (x : Int) : AH := px_set h a i (.long (zl x))
section Px
variable {w : Nat} {h : AH}
theorem px_cell (H : px_ok w h) (a : Nat) (ha : a < 140) : am_cell h a = some (h.2.2 a) := by
  unfold am_cell
  rw [if_pos (by rw [H.1.1]; exact ha)]
theorem px_n_i (h : AH) {a i : Nat} {x : Int32} (e : (h.2.2 a).2.2 i = .int x) : zi (px_n h a i) = x := by
  unfold px_n
  rw [e]
  exact zi_self x
theorem px_n_l (h : AH) {a i : Nat} {x : Int64} (e : (h.2.2 a).2.2 i = .long x) : zl (px_n h a i) = x := by
  unfold px_n
  rw [e]
  exact zl_self x
theorem px_f (H : px_ok w h) (a ci k : Nat) {n : Nat} (ht : px_t a = (ci, n)) (ha : 29 ≤ a ∧ a < 140) (hk : k < n) : am_f h a ci k = some ((h.2.2 a).2.2 k) ∧ px_v (px_tg w a k) ((h.2.2 a).2.2 k) := by
  obtain ⟨h1, h2, h3⟩ := H.2.2.2 a ha.1 ha.2
  rw [ht] at h1 h2 h3
  constructor
  · unfold am_f
    rw [px_cell H a ha.2]
    generalize h.2.2 a = cc at h1 h2 ⊢
    obtain ⟨c, m, f⟩ := cc
    dsimp only at h1 h2 ⊢
    rw [if_pos ⟨h1, by rw [h2]; exact hk⟩]
  · exact h3 k hk
/-- what a program must decide of a field: its cell, its class, its place, its kind -/
def px_cf (a ci k t : Nat) : Bool := Nat.ble 29 a && (Nat.blt a 140 && (Nat.beq (px_t a).1 ci && (Nat.blt k (px_t a).2 && (Nat.beq (px_tg 107 a k) t && Nat.beq (px_tg 108 a k) t))))
theorem px_cf_spec {a ci k t : Nat} (hc : px_cf a ci k t = true) (H : px_ok w h) : am_f h a ci k = some ((h.2.2 a).2.2 k) ∧ px_v t ((h.2.2 a).2.2 k) := by
  simp only [px_cf, Bool.and_eq_true] at hc
  obtain ⟨c1, c2, c3, c4, c5, c6⟩ := hc
  have c1 := Nat.le_of_ble_eq_true c1
  have c2 : a < 140 := Nat.le_of_ble_eq_true c2
  have c3 := Nat.eq_of_beq_eq_true c3
  have c4 : k < (px_t a).2 := Nat.le_of_ble_eq_true c4
  have := px_f H a ci k (n := (px_t a).2) (by rw [← c3]) ⟨c1, c2⟩ c4
  have e : px_tg w a k = t := by
    rcases H.2.1 with rfl | rfl
    · exact Nat.eq_of_beq_eq_true c5
    · exact Nat.eq_of_beq_eq_true c6
  rw [e] at this
  exact this
theorem px_fI (H : px_ok w h) (a ci k : Nat) (hc : px_cf a ci k 0 = true) : am_fI h a ci k = some (zi (px_n h a k)) := by
  obtain ⟨h1, x, h2⟩ := px_cf_spec hc H
  unfold am_fI
  rw [h1, px_n_i h h2, h2]
theorem px_fL (H : px_ok w h) (a ci k : Nat) (hc : px_cf a ci k 1 = true) : am_fL h a ci k = some (zl (px_n h a k)) := by
  obtain ⟨h1, x, h2⟩ := px_cf_spec hc H
  unfold am_fL
  rw [h1, px_n_l h h2, h2]
theorem px_fR (H : px_ok w h) (a ci k t : Nat) (hc : px_cf a ci k (t + 2) = true) : am_fR h a ci k = some t := by
  obtain ⟨h1, h2⟩ := px_cf_spec hc H
  have h2 : (h.2.2 a).2.2 k = .ref t := h2
  unfold am_fR
  rw [h1, h2]
theorem px_isK (H : px_ok w h) (a ci : Nat) (hc : (Nat.ble 29 a && (Nat.blt a 140 && Nat.beq (px_t a).1 ci)) = true) : am_isK h a ci = true := by
  simp only [Bool.and_eq_true] at hc
  obtain ⟨c1, c2, c3⟩ := hc
  have c2 : a < 140 := Nat.le_of_ble_eq_true c2
  unfold am_isK
  rw [px_cell H a c2]
  have := (H.2.2.2 a (Nat.le_of_ble_eq_true c1) c2).1
  dsimp only
  rw [this]
  exact c3
/-- what a program must decide of a row of numbers: its cell, its kind, its length -/
def px_ca (a kd n : Nat) : Bool := Nat.ble 29 a && (Nat.blt a 140 && (Nat.beq (px_t a).1 kd && (Nat.beq (px_t a).2 n && (Nat.ble 100 kd && Nat.ble kd 103))))
theorem px_ca_spec {a kd n : Nat} (hc : px_ca a kd n = true) : 29 ≤ a ∧ a < 140 ∧ px_t a = (kd, n) ∧ 100 ≤ kd ∧ kd ≤ 103 := by
  simp only [px_ca, Bool.and_eq_true] at hc
  obtain ⟨c1, c2, c3, c4, c5, c6⟩ := hc
  exact ⟨Nat.le_of_ble_eq_true c1, Nat.le_of_ble_eq_true c2, Prod.ext (Nat.eq_of_beq_eq_true c3) (Nat.eq_of_beq_eq_true c4), Nat.le_of_ble_eq_true c5, Nat.le_of_ble_eq_true c6⟩
theorem px_a (H : px_ok w h) (a kd n : Nat) (hc : px_ca a kd n = true) {z : Int} (h0 : 0 ≤ z) (h1 : z < n) (hn : n ≤ 2147483647) : am_a h kd a (zi z) = some ((h.2.2 a).2.2 z.toNat) ∧ px_v (if kd = 101 then 1 else 0) ((h.2.2 a).2.2 z.toNat) := by
  obtain ⟨c1, c2, c3, c4, c5⟩ := px_ca_spec hc
  obtain ⟨g1, g2, g3⟩ := H.2.2.2 a c1 c2
  have e : (zi z).toNatClampNeg = z.toNat := zi_nat h0 (by omega)
  have hneg : ¬ zi z < 0 := by
    rw [show (0 : Int32) = zi 0 from zi_lit 0, zi_lt (by omega) (by omega) (by omega) (by omega)]
    omega
  constructor
  · unfold am_a
    rw [px_cell H a c2]
    rw [c3] at g1 g2
    generalize h.2.2 a = cc at g1 g2 ⊢
    obtain ⟨c, m, f⟩ := cc
    dsimp only at g1 g2 ⊢
    rw [e, if_pos ⟨g1, fun q => q.elim hneg (fun q => by omega)⟩]
  · have := g3 z.toNat (by rw [c3]; show z.toNat < n; omega)
    have e2 : px_tg w a z.toNat = if kd = 101 then 1 else 0 := by
      unfold px_tg
      rw [c3]
      have : Nat.ble 100 kd = true := Nat.ble_eq_true_of_le c4
      dsimp only
      rw [this]
      by_cases h101 : kd = 101
      · subst h101; rfl
      · rw [if_neg h101]
        have b1 : Nat.beq kd 101 = false := by
          cases hb : Nat.beq kd 101 with
          | false => rfl
          | true => exact absurd (Nat.eq_of_beq_eq_true hb) h101
        have b2 : Nat.beq kd 104 = false := by
          cases hb : Nat.beq kd 104 with
          | false => rfl
          | true => have := Nat.eq_of_beq_eq_true hb; omega
        rw [b1, b2]
        rfl
    rw [e2] at this
    exact this
theorem px_aI (H : px_ok w h) (a n : Nat) (hc : px_ca a 100 n = true) {z : Int} (h0 : 0 ≤ z) (h1 : z < n) (hn : n ≤ 2147483647) : am_aI h a (zi z) = some (zi (px_n h a z.toNat)) := by
  obtain ⟨g1, g2⟩ := px_a H a 100 n hc h0 h1 hn
  obtain ⟨x, g2⟩ : ∃ x, (h.2.2 a).2.2 z.toNat = .int x := g2
  unfold am_aI
  rw [g1, px_n_i h g2, g2]
theorem px_aL (H : px_ok w h) (a n : Nat) (hc : px_ca a 101 n = true) {z : Int} (h0 : 0 ≤ z) (h1 : z < n) (hn : n ≤ 2147483647) : am_aL h a (zi z) = some (zl (px_n h a z.toNat)) := by
  obtain ⟨g1, g2⟩ := px_a H a 101 n hc h0 h1 hn
  obtain ⟨x, g2⟩ : ∃ x, (h.2.2 a).2.2 z.toNat = .long x := g2
  unfold am_aL
  rw [g1, px_n_l h g2, g2]
theorem px_aB (H : px_ok w h) (a n : Nat) (hc : px_ca a 102 n = true) {z : Int} (h0 : 0 ≤ z) (h1 : z < n) (hn : n ≤ 2147483647) : am_aB h a (zi z) = some (zi (px_n h a z.toNat)) := by
  obtain ⟨g1, g2⟩ := px_a H a 102 n hc h0 h1 hn
  obtain ⟨x, g2⟩ : ∃ x, (h.2.2 a).2.2 z.toNat = .int x := g2
  unfold am_aB
  rw [g1, px_n_i h g2, g2]
theorem px_aZ (H : px_ok w h) (a n : Nat) (hc : px_ca a 103 n = true) {z : Int} (h0 : 0 ≤ z) (h1 : z < n) (hn : n ≤ 2147483647) : am_aB h a (zi z) = some (zi (px_n h a z.toNat)) := by
  obtain ⟨g1, g2⟩ := px_a H a 103 n hc h0 h1 hn
  obtain ⟨x, g2⟩ : ∃ x, (h.2.2 a).2.2 z.toNat = .int x := g2
  have g0 : am_a h 102 a (zi z) = none := by
    obtain ⟨c1, c2, c3, c4, c5⟩ := px_ca_spec hc
    have g1 := (H.2.2.2 a c1 c2).1
    rw [c3] at g1
    unfold am_a
    rw [px_cell H a c2]
    generalize h.2.2 a = cc at g1 ⊢
    obtain ⟨c, m, f⟩ := cc
    dsimp only at g1 ⊢
    rw [if_neg]
    rintro ⟨q, -⟩
    rw [g1] at q
    cases q
  unfold am_aB
  rw [g0, g1, px_n_i h g2, g2]
/-- a cell after a write -/
theorem px_set_at (h : AH) (a i : Nat) (v : Value) (b : Nat) : (px_set h a i v).2.2 b = if b = a then ((h.2.2 a).1, (h.2.2 a).2.1, va_up (h.2.2 a).2.2 i v) else h.2.2 b := rfl
theorem px_set_ok (H : px_ok w h) {a i : Nat} {v : Value} (ha : 29 ≤ a) (hv : a < 140 → i < (px_t a).2 → px_v (px_tg w a i) v) : px_ok w (px_set h a i v) := by
  obtain ⟨h1, h2, h3, h4⟩ := H
  refine ⟨h1, h2, fun b hb => ?_, fun b hb1 hb2 => ?_⟩
  · rw [px_set_at, if_neg (by omega)]
    exact h3 b hb
  · rw [px_set_at]
    by_cases hab : b = a
    · subst hab
      rw [if_pos rfl]
      obtain ⟨g1, g2, g3⟩ := h4 b hb1 hb2
      refine ⟨g1, g2, fun j hj => ?_⟩
      show px_v _ (va_up (h.2.2 b).2.2 i v j)
      unfold va_up
      by_cases hij : j = i
      · subst hij
        rw [if_pos rfl]
        exact hv hb2 hj
      · rw [if_neg hij]
        exact g3 j hj
    · rw [if_neg hab]
      exact h4 b hb1 hb2
theorem px_n_wi {a i b j : Nat} {x : Int} (h1 : -2147483648 ≤ x) (h2 : x ≤ 2147483647) : px_n (px_wi h a i x) b j = if b = a ∧ j = i then x else px_n h b j := by
  unfold px_n px_wi
  rw [px_set_at]
  by_cases hb : b = a
  · subst hb
    rw [if_pos rfl]
    dsimp only [va_up]
    by_cases hj : j = i
    · subst hj
      rw [if_pos rfl, if_pos ⟨rfl, rfl⟩]
      exact zi_toInt h1 h2
    · rw [if_neg hj, if_neg (fun q => hj q.2)]
  · rw [if_neg hb, if_neg (fun q => hb q.1)]
theorem px_n_wl {a i b j : Nat} {x : Int} (h1 : -9223372036854775808 ≤ x) (h2 : x ≤ 9223372036854775807) : px_n (px_wl h a i x) b j = if b = a ∧ j = i then x else px_n h b j := by
  unfold px_n px_wl
  rw [px_set_at]
  by_cases hb : b = a
  · subst hb
    rw [if_pos rfl]
    dsimp only [va_up]
    by_cases hj : j = i
    · subst hj
      rw [if_pos rfl, if_pos ⟨rfl, rfl⟩]
      exact zl_toInt h1 h2
    · rw [if_neg hj, if_neg (fun q => hj q.2)]
  · rw [if_neg hb, if_neg (fun q => hb q.1)]
theorem px_st (H : px_ok w h) (a kd n : Nat) (hc : px_ca a kd n = true) {z : Int} (h0 : 0 ≤ z) (h1 : z < n) (hn : n ≤ 2147483647) (v : Value) : am_st h kd a (zi z) v = some (px_set h a z.toNat v) := by
  obtain ⟨c1, c2, c3, c4, c5⟩ := px_ca_spec hc
  obtain ⟨g1, g2, g3⟩ := H.2.2.2 a c1 c2
  rw [c3] at g1 g2
  have e : (zi z).toNatClampNeg = z.toNat := zi_nat h0 (by omega)
  have hneg : ¬ zi z < 0 := by
    rw [show (0 : Int32) = zi 0 from zi_lit 0, zi_lt (by omega) (by omega) (by omega) (by omega)]
    omega
  unfold am_st px_set
  rw [px_cell H a c2]
  generalize h.2.2 a = cc at g1 g2 ⊢
  obtain ⟨c, m, f⟩ := cc
  dsimp only at g1 g2 ⊢
  rw [e, if_pos ⟨g1, fun q => q.elim hneg (fun q => by omega), c1⟩]
theorem px_tg_row {a kd n : Nat} (hc : px_ca a kd n = true) (i : Nat) : px_tg w a i = if kd = 101 then 1 else 0 := by
  obtain ⟨c1, c2, c3, c4, c5⟩ := px_ca_spec hc
  unfold px_tg
  rw [c3]
  have : Nat.ble 100 kd = true := Nat.ble_eq_true_of_le c4
  dsimp only
  rw [this]
  rcases (by omega : kd = 100 ∨ kd = 101 ∨ kd = 102 ∨ kd = 103) with rfl | rfl | rfl | rfl <;> rfl
theorem px_stI (H : px_ok w h) (a n : Nat) (hc : px_ca a 100 n = true) {z x : Int} (h0 : 0 ≤ z) (h1 : z < n) (hn : n ≤ 2147483647) : am_st h 100 a (zi z) (.int (zi x)) = some (px_wi h a z.toNat x) := px_st H a 100 n hc h0 h1 hn _
theorem px_stL (H : px_ok w h) (a n : Nat) (hc : px_ca a 101 n = true) {z x : Int} (h0 : 0 ≤ z) (h1 : z < n) (hn : n ≤ 2147483647) : am_st h 101 a (zi z) (.long (zl x)) = some (px_wl h a z.toNat x) := px_st H a 101 n hc h0 h1 hn _
theorem px_wi_row (H : px_ok w h) (a : Nat) {kd n : Nat} (hc : px_ca a kd n = true) (hk : kd ≠ 101) (i : Nat) (x : Int) : px_ok w (px_wi h a i x) := px_set_ok H (px_ca_spec hc).1 (fun _ _ => by rw [px_tg_row hc, if_neg hk]; exact ⟨_, rfl⟩)
theorem px_wl_row (H : px_ok w h) (a : Nat) {n : Nat} (hc : px_ca a 101 n = true) (i : Nat) (x : Int) : px_ok w (px_wl h a i x) := px_set_ok H (px_ca_spec hc).1 (fun _ _ => by rw [px_tg_row hc, if_pos rfl]; exact ⟨_, rfl⟩)
theorem px_pf (H : px_ok w h) {a ci k t : Nat} (hc : px_cf a ci k t = true) (v : Value) : am_pf h a ci k v = some (px_set h a k v) := by
  simp only [px_cf, Bool.and_eq_true] at hc
  obtain ⟨c1, c2, c3, c4, c5, c6⟩ := hc
  have c1 := Nat.le_of_ble_eq_true c1
  have c2 : a < 140 := Nat.le_of_ble_eq_true c2
  have c3 := Nat.eq_of_beq_eq_true c3
  have c4 : k < (px_t a).2 := Nat.le_of_ble_eq_true c4
  obtain ⟨g1, g2, g3⟩ := H.2.2.2 a c1 c2
  unfold am_pf px_set
  rw [px_cell H a c2]
  rw [c3] at g1
  rw [← g2] at c4
  generalize h.2.2 a = cc at g1 c4 ⊢
  obtain ⟨c, m, f⟩ := cc
  dsimp only at g1 c4 ⊢
  rw [if_pos ⟨g1, c4, c1⟩]
theorem px_cf_tg {a ci k t : Nat} (hc : px_cf a ci k t = true) (H : px_ok w h) : px_tg w a k = t ∧ 29 ≤ a := by
  simp only [px_cf, Bool.and_eq_true] at hc
  obtain ⟨c1, c2, c3, c4, c5, c6⟩ := hc
  refine ⟨?_, Nat.le_of_ble_eq_true c1⟩
  rcases H.2.1 with rfl | rfl
  · exact Nat.eq_of_beq_eq_true c5
  · exact Nat.eq_of_beq_eq_true c6
theorem px_pI (H : px_ok w h) (a ci k : Nat) (hc : px_cf a ci k 0 = true) (x : Int) : am_pf h a ci k (.int (zi x)) = some (px_wi h a k x) := px_pf H hc _
theorem px_pL (H : px_ok w h) (a ci k : Nat) (hc : px_cf a ci k 1 = true) (x : Int) : am_pf h a ci k (.long (zl x)) = some (px_wl h a k x) := px_pf H hc _
theorem px_pZ (H : px_ok w h) (a ci k : Nat) (hc : px_cf a ci k 0 = true) {x : Int} (hx : x = 0 ∨ x = 1) : am_pz h a ci k (zi x) = some (px_wi h a k x) := by
  unfold am_pz
  rw [if_pos (by rcases hx with rfl | rfl <;> decide)]
  exact px_pf H hc _
theorem px_wi_fld (H : px_ok w h) (a : Nat) {ci k : Nat} (hc : px_cf a ci k 0 = true) (x : Int) : px_ok w (px_wi h a k x) := px_set_ok H (px_cf_tg hc H).2 (fun _ _ => by rw [(px_cf_tg hc H).1]; exact ⟨_, rfl⟩)
theorem px_wl_fld (H : px_ok w h) (a : Nat) {ci k : Nat} (hc : px_cf a ci k 1 = true) (x : Int) : px_ok w (px_wl h a k x) := px_set_ok H (px_cf_tg hc H).2 (fun _ _ => by rw [(px_cf_tg hc H).1]; exact ⟨_, rfl⟩)
/-- every number of an int's place is an int's -/
theorem px_n_rg (H : px_ok w h) {a i : Nat} (ha : 29 ≤ a ∧ a < 140) (hi : i < (px_t a).2) (ht : px_tg w a i = 0) : -2147483648 ≤ px_n h a i ∧ px_n h a i ≤ 2147483647 := by
  obtain ⟨-, -, g3⟩ := H.2.2.2 a ha.1 ha.2
  have := g3 i hi
  rw [ht] at this
  obtain ⟨x, hx⟩ := this
  unfold px_n
  rw [hx]
  have h1 := Int32.le_toInt x
  have h2 := Int32.toInt_lt x
  dsimp only
  omega
end Px
end
section
/-! cells that stood before the law began stay as they are -/
def ol_le (h h' : AH) : Prop := 29 ≤ h.1 → 29 ≤ h'.1 ∧ ∀ a, a < 29 → h'.2.2 a = h.2.2 a
theorem ol_le.rf {h : AH} : ol_le h h := fun q => ⟨q, fun _ _ => rfl⟩
theorem ol_le.tr {a b c : AH} (h1 : ol_le a b) (h2 : ol_le b c) : ol_le a c := fun q => ⟨(h2 (h1 q).1).1, fun x hx => ((h2 (h1 q).1).2 x hx).trans ((h1 q).2 x hx)⟩
theorem ol_set {h : AH} {a : Nat} {c : AC} (ha : am_old ≤ a) : ol_le h (am_set h a c) := fun q => ⟨q, fun x hx => by
  show va_up h.2.2 a c x = _
  unfold va_up
  rw [if_neg (by have : 29 ≤ a := ha; omega)]⟩
theorem ol_new {h : AH} {c : AC} : ol_le h (am_new h c) := fun q => ⟨Nat.le_succ_of_le q, fun x hx => by
  show va_up h.2.2 h.1 c x = _
  unfold va_up
  rw [if_neg (by omega)]⟩
theorem ol_pf {h h' : AH} {a ci k : Nat} {v : Value} (hf : am_pf h a ci k v = some h') : ol_le h h' := by
  unfold am_pf at hf
  split at hf
  · split at hf
    · rename_i hcn
      cases hf
      exact ol_set hcn.2.2
    · cases hf
  · cases hf
theorem ol_pz {h h' : AH} {a ci k : Nat} {x : Int32} (hf : am_pz h a ci k x = some h') : ol_le h h' := by
  unfold am_pz at hf
  split at hf
  · exact ol_pf hf
  · cases hf
theorem ol_st {h h' : AH} {kd a : Nat} {i : Int32} {v : Value} (hf : am_st h kd a i v = some h') : ol_le h h' := by
  unfold am_st at hf
  split at hf
  · split at hf
    · rename_i hcn
      cases hf
      exact ol_set hcn.2.2
    · cases hf
  · cases hf
theorem ol_stB {h h' : AH} {a : Nat} {i x : Int32} (hf : am_stB h a i x = some h') : ol_le h h' := by
  unfold am_stB at hf
  split at hf
  · split at hf
    · exact ol_st hf
    · split at hf
      · exact ol_st hf
      · cases hf
  · cases hf
theorem ol_stR {h h' : AH} {a x : Nat} {i : Int32} (hf : am_stR h a i x = some h') : ol_le h h' := by
  unfold am_stR at hf
  split at hf
  · split at hf
    · exact ol_st hf
    · cases hf
  · cases hf
theorem ol_copy {h h' : AH} {a b : Nat} {sp dp n : Int32} (hf : am_copy h a sp b dp n = some h') : ol_le h h' := by
  unfold am_copy at hf
  split at hf
  · split at hf
    · rename_i hcnd
      cases hf
      exact ol_set hcnd.1.2.2
    · cases hf
  · cases hf
/-- an instruction goes on in one way alone, or not at all -/
def ol_sel (h : AH) (F : KT → Option RS) : Prop := (∀ k, F k = none) ∨ ∃ l' st' h', (∀ k, F k = k l' st' h') ∧ ol_le h h'
theorem ol_sel.no {h : AH} : ol_sel h (fun _ => none) := Or.inl fun _ => rfl
theorem ol_sel.go {h h' : AH} {l : LV} {st : List Value} (he : ol_le h h') : ol_sel h (fun k => k l st h') := Or.inr ⟨l, st, h', fun _ => rfl, he⟩
theorem ol_sel.bind {α : Type} {h : AH} {o : Option α} {f : α → KT → Option RS} (hf : ∀ x, o = some x → ol_sel h (f x)) : ol_sel h (fun k => o.bind fun x => f x k) := by
  cases o with
  | none => exact ol_sel.no
  | some x => exact hf x rfl
theorem ol_stp_sel (i : Instr) (r1 r2 : Nat) (v : Value) (l : LV) (st : List Value) (h : AH) : ol_sel h (am_stp i r1 r2 v l st h) := by
  unfold am_stp
  split <;> first
    | exact ol_sel.no
    | exact ol_sel.go ol_le.rf
    | exact ol_sel.go ol_new
    | (unfold am_ldI; split <;> first | exact ol_sel.no | exact ol_sel.go ol_le.rf)
    | (unfold am_ldL; split <;> first | exact ol_sel.no | exact ol_sel.go ol_le.rf)
    | (unfold am_ldR; split <;> first | exact ol_sel.no | exact ol_sel.go ol_le.rf)
    | (split <;> first
        | exact ol_sel.no
        | exact ol_sel.go ol_le.rf
        | (split <;> first | exact ol_sel.no | exact ol_sel.go ol_le.rf)
        | (unfold am_getf; split <;> first | exact ol_sel.no | exact ol_sel.bind fun _ _ => ol_sel.go ol_le.rf)
        | (unfold am_putf; split <;> first | exact ol_sel.no | exact ol_sel.bind fun _ hx => ol_sel.go (ol_pf hx) | exact ol_sel.bind fun _ hx => ol_sel.go (ol_pz hx))
        | (unfold am_mka; split <;> first | exact ol_sel.no | (split <;> first | exact ol_sel.no | exact ol_sel.go ol_new))
        | exact ol_sel.bind fun _ _ => ol_sel.go ol_le.rf
        | exact ol_sel.bind fun _ hx => ol_sel.go (ol_st hx)
        | exact ol_sel.bind fun _ hx => ol_sel.go (ol_stB hx)
        | exact ol_sel.bind fun _ hx => ol_sel.go (ol_stR hx))
/-- a piece ends with an answer of its own, or at a cut, whatever lies behind -/
def ol_tl (h : AH) (F : (Nat → LV → AH → Option RS) → Option RS) : Prop := (∃ o, (∀ L, F L = o) ∧ ∀ x h', o = some (x, h') → ol_le h h') ∨ ∃ pc' l' h', (∀ L, F L = L pc' l' h') ∧ ol_le h h'
theorem ol_tl.no {h : AH} : ol_tl h (fun _ => none) := Or.inl ⟨none, fun _ => rfl, fun _ _ z => by cases z⟩
theorem ol_tl.out {h : AH} {x : Option Value} : ol_tl h (fun _ => some (x, h)) := Or.inl ⟨_, fun _ => rfl, fun _ _ z => by cases z; exact ol_le.rf⟩
theorem ol_tl.le {h h1 : AH} {F : (Nat → LV → AH → Option RS) → Option RS} (he : ol_le h h1) (hF : ol_tl h1 F) : ol_tl h F := by
  rcases hF with ⟨o, h1, h2⟩ | ⟨pc', l', h', h1, h2⟩
  · exact Or.inl ⟨o, h1, fun x h' z => he.tr (h2 x h' z)⟩
  · exact Or.inr ⟨pc', l', h', h1, he.tr h2⟩
theorem ol_tl.nx {U : List (Nat × List Nat)} {e : (Nat → LV → AH → Option RS) → Nat → LV → List Value → AH → Option RS} (he : ∀ pc l st h, ol_tl h (fun L => e L pc l st h)) (pc : Nat) (l : LV) (st : List Value) (h : AH) : ol_tl h (fun L => am_nx U L (e L) pc l st h) := by
  unfold am_nx
  cases am_look U pc with
  | none => exact he _ _ _ _
  | some live =>
    cases st with
    | nil =>
      dsimp only
      cases am_pick live l with
      | none => exact ol_tl.no
      | some l' => exact Or.inr ⟨_, _, _, fun _ => rfl, ol_le.rf⟩
    | cons => exact ol_tl.no
theorem ol_tl.ite {h : AH} {c : Prop} [Decidable c] {F F' : (Nat → LV → AH → Option RS) → Option RS} (h1 : ol_tl h F) (h2 : ol_tl h F') : ol_tl h (fun L => if c then F L else F' L) := by
  by_cases hc : c
  · simp only [if_pos hc]; exact h1
  · simp only [if_neg hc]; exact h2
theorem ol_tl.bif {h : AH} {c : Bool} {F : (Nat → LV → AH → Option RS) → Option RS} (h1 : ol_tl h F) : ol_tl h (fun L => bif c then F L else none) := by
  cases c with
  | true => exact h1
  | false => exact ol_tl.no
theorem ol_tl.sw {h : AH} {x : Int32} : ∀ (fs : List ((Nat → LV → AH → Option RS) → Option RS)) (lo : Int) (d : (Nat → LV → AH → Option RS) → Option RS), ol_tl h d → (∀ f ∈ fs, ol_tl h f) → ol_tl h (fun L => am_sw x (d L) lo (fs.map (fun f => f L))) := by
  intro fs
  induction fs with
  | nil => intro lo d hd _; exact hd
  | cons f fs ih =>
    intro lo d hd hf
    exact ol_tl.ite (hf f List.mem_cons_self) (ih (lo + 1) d hd (fun g hg => hf g (List.mem_cons_of_mem _ hg)))
def ol_mono (G : GT) : Prop := ∀ j as h x h', G j as h = some (x, h') → ol_le h h'
theorem ol_tl.go {G : GT} (hG : ol_mono G) {j rt : Nat} {as : List Value} {h : AH} {st : List Value} {k : (Nat → LV → AH → Option RS) → List Value → AH → Option RS} (hk : ∀ st h, ol_tl h (fun L => k L st h)) : ol_tl h (fun L => am_go rt (G j as h) st (k L)) := by
  cases hg : G j as h with
  | none =>
    unfold am_go am_cV am_cL am_cI
    split <;> exact ol_tl.no
  | some q =>
    obtain ⟨x, h'⟩ := q
    have hle := hG _ _ _ _ _ hg
    unfold am_go
    split
    · unfold am_cV
      split
      · rename_i hq
        cases hq
        exact ol_tl.le hle (hk _ _)
      · exact ol_tl.no
    · unfold am_cL
      split
      · rename_i hq
        cases hq
        exact ol_tl.le hle (hk _ _)
      · exact ol_tl.no
    · unfold am_cI
      split
      · rename_i hq
        cases hq
        exact ol_tl.le hle (hk _ _)
      · exact ol_tl.no
theorem ol_ev_tl (C : CD) (U : List (Nat × List Nat)) (rt : Nat) {G : GT} (hG : ol_mono G) : ∀ (n pc : Nat) (l : LV) (st : List Value) (h : AH), ol_tl h (fun L => am_ev C U rt G L n pc l st h) := by
  intro n
  induction n with
  | zero => intro pc l st h; exact ol_tl.no
  | succ n ih =>
    intro pc l st h
    have nx : ∀ pc l st h, ol_tl h (fun L => am_nx U L (am_ev C U rt G L n) pc l st h) := fun pc l st h => ol_tl.nx (e := fun L => am_ev C U rt G L n) ih pc l st h
    have key : ∀ (i : Instr) (r1 r2 : Nat) (v : Value) (len : Nat), ol_tl h (fun L => am_stp i r1 r2 v l st h (fun l st h => am_nx U L (am_ev C U rt G L n) (pc + len) l st h)) := by
      intro i r1 r2 v len
      rcases ol_stp_sel i r1 r2 v l st h with h1 | ⟨l', st', h', h1, h2⟩
      · simp only [h1]; exact ol_tl.no
      · simp only [h1]; exact ol_tl.le h2 (nx _ _ _ _)
    simp only [am_ev]
    split
    · exact ol_tl.no
    · split
      · exact nx _ _ _ _
      · split
        · split <;> exact ol_tl.ite (nx _ _ _ _) (nx _ _ _ _)
        · exact ol_tl.no
      · split
        · split <;> exact ol_tl.ite (nx _ _ _ _) (nx _ _ _ _)
        · exact ol_tl.no
      · split
        · rename_i d lo hi offs heq _ x st'
          have := ol_tl.sw (x := x) (h := h) (offs.toList.map fun o => fun L => am_nx U L (am_ev C U rt G L n) ((pc : Int) + o).toNat l st' h) lo (fun L => am_nx U L (am_ev C U rt G L n) ((pc : Int) + d).toNat l st' h) (nx _ _ _ _) (fun f hf => by
            obtain ⟨o, -, rfl⟩ := List.mem_map.mp hf
            exact nx _ _ _ _)
          simp only [List.map_map, Function.comp_def] at this
          exact this
        · exact ol_tl.no
      · split
        · unfold am_ret
          split
          · exact ol_tl.out
          · exact ol_tl.ite ol_tl.out ol_tl.no
          · exact ol_tl.ite ol_tl.out ol_tl.no
          · exact ol_tl.ite ol_tl.out ol_tl.no
          · exact ol_tl.no
        · exact ol_tl.no
      · split
        · split
          · exact ol_tl.out
          · exact ol_tl.no
        · exact ol_tl.no
      · split
        · split
          · exact ol_tl.out
          · exact ol_tl.no
        · exact ol_tl.no
      · split
        · exact ol_tl.bif (ol_tl.go hG fun st h => nx _ _ _ _)
        · exact ol_tl.no
      · split
        · split
          · refine ol_tl.bif ?_
            generalize ho : am_copy _ _ _ _ _ _ = o
            cases o with
            | none => exact ol_tl.no
            | some h1 => exact ol_tl.le (ol_copy ho) (nx _ _ _ _)
          · exact ol_tl.no
        · split
          · exact ol_tl.bif (nx _ _ _ _)
          · exact ol_tl.no
        · split
          · exact ol_tl.bif (nx _ _ _ _)
          · exact ol_tl.no
        · split
          · exact ol_tl.bif (nx _ _ _ _)
          · exact ol_tl.no
        · split
          · exact ol_tl.bif (nx _ _ _ _)
          · exact ol_tl.no
        · split
          · exact ol_tl.bif (ol_tl.go hG fun st h => nx _ _ _ _)
          · exact ol_tl.no
      · split
        · split
          · exact ol_tl.bif (nx _ _ _ _)
          · exact ol_tl.no
        · split
          · exact ol_tl.bif (ol_tl.go hG fun st h => nx _ _ _ _)
          · exact ol_tl.no
      · exact key _ _ _ _ _

theorem ol_run_mono (C : CD) (U : List (Nat × List Nat)) (rt : Nat) {G : GT} (hG : ol_mono G) : ∀ (n pc : Nat) (l : LV) (h : AH) (x : Option Value) (h' : AH), am_run C U rt G n pc l h = some (x, h') → ol_le h h' := by
  intro n
  induction n with
  | zero => intro pc l h x h' hx; cases hx
  | succ n ih =>
    intro pc l h x h' hx
    rcases ol_ev_tl C U rt hG 4000 pc l [] h with ⟨o, a1, a2⟩ | ⟨pc', l', h1, a1, a2⟩
    · exact a2 x h' ((show am_ev C U rt G (am_run C U rt G n) 4000 pc l [] h = o from a1 _).symm.trans hx)
    · exact a2.tr (ih _ _ _ _ _ ((show am_ev C U rt G (am_run C U rt G n) 4000 pc l [] h = _ from a1 _).symm.trans hx))
theorem ol_sem_mono : ∀ d, ol_mono (am_sem d) := by
  intro d
  induction d with
  | zero => intro j as h x h' hx; cases hx
  | succ d ih =>
    intro j as h x h' hx
    simp only [am_sem] at hx
    split at hx
    · unfold am_ci at hx
      split at hx
      · split at hx
        · cases hx
        · cases hx
          exact ol_le.rf
      · cases hx
    · split at hx
      · cases hx
      · rename_i M hM
        cases hb : Nat.ble (lg_sl as).length M.2.2.2.1 with
        | false => rw [hb] at hx; cases hx
        | true =>
          rw [hb] at hx
          obtain ⟨n, hn⟩ := am_rn_some hx
          exact ol_run_mono _ _ _ ih _ _ _ _ _ _ hn
/-! a small machine that a program can run: it answers as the other -/
theorem am_sw_mono {x : Int32} {y : RS} : ∀ (rs rs' : List (Option RS)) (d d' : Option RS) (lo : Int), rs.length = rs'.length → (∀ (k : Nat) (q q' : Option RS), rs[k]? = some q → rs'[k]? = some q' → q = some y → q' = some y) → (d = some y → d' = some y) → am_sw x d lo rs = some y → am_sw x d' lo rs' = some y := by
  intro rs
  induction rs with
  | nil =>
    intro rs' d d' lo hl hk hd h
    cases rs' with
    | nil => exact hd h
    | cons => simp at hl
  | cons q rs ih =>
    intro rs' d d' lo hl hk hd h
    cases rs' with
    | nil => simp at hl
    | cons q' rs' =>
      unfold am_sw at h ⊢
      by_cases hx : x = Int32.ofInt lo
      · rw [if_pos hx] at h ⊢
        exact hk 0 q q' rfl rfl h
      · rw [if_neg hx] at h ⊢
        exact ih rs' d d' (lo + 1) (by simpa using hl) (fun k a b h1 h2 => hk (k + 1) a b h1 h2) hd h
theorem am_go_sel (t : Nat) (q : RS) (st : List Value) : (∀ k, am_go t (some q) st k = none) ∨ ∃ st', ∀ k, am_go t (some q) st k = k st' q.2 := by
  obtain ⟨x, h⟩ := q
  match t with
  | 0 =>
    cases x with
    | none => exact Or.inr ⟨_, fun k => rfl⟩
    | some v => exact Or.inl fun k => rfl
  | 1 =>
    cases x with
    | none => exact Or.inl fun k => rfl
    | some v =>
      cases v <;> first | exact Or.inl fun k => rfl | exact Or.inr ⟨_, fun k => rfl⟩
  | 2 =>
    cases x with
    | none => exact Or.inl fun k => rfl
    | some v =>
      cases v <;> first | exact Or.inl fun k => rfl | exact Or.inr ⟨_, fun k => rfl⟩
  | n + 3 =>
    cases x with
    | none => exact Or.inl fun k => rfl
    | some v =>
      cases v <;> first | exact Or.inl fun k => rfl | exact Or.inr ⟨_, fun k => rfl⟩
theorem am_ev_G (C : CD) (U : List (Nat × List Nat)) (rt : Nat) {G G' : GT} (hG : ∀ j as h y, G j as h = some y → G' j as h = some y) {L L' : Nat → LV → AH → Option RS} (hL : ∀ pc l h y, L pc l h = some y → L' pc l h = some y) : ∀ (n pc : Nat) (l : LV) (st : List Value) (h : AH) (y : RS), am_ev C U rt G L n pc l st h = some y → am_ev C U rt G' L' n pc l st h = some y := by
  intro n
  induction n with
  | zero => intro pc l st h y hy; cases hy
  | succ n ih =>
    intro pc l st h y
    have nx : ∀ pc l st h, am_nx U L (am_ev C U rt G L n) pc l st h = some y → am_nx U L' (am_ev C U rt G' L' n) pc l st h = some y := by
      intro pc l st h
      unfold am_nx
      split
      · exact ih _ _ _ _ _
      · split
        · split
          · exact hL _ _ _ _
          · intro z; cases z
        · intro z; cases z
    have go : ∀ t j as st' pc', am_go t (G j as h) st' (fun st h => am_nx U L (am_ev C U rt G L n) pc' l st h) = some y → am_go t (G' j as h) st' (fun st h => am_nx U L' (am_ev C U rt G' L' n) pc' l st h) = some y := by
      intro t j as st' pc' hgo
      cases hc : G j as h with
      | none =>
        rw [hc] at hgo
        unfold am_go am_cV am_cL am_cI at hgo
        split at hgo <;> cases hgo
      | some q =>
        rw [hG _ _ _ _ hc]
        rw [hc] at hgo
        rcases am_go_sel t q st' with h1 | ⟨st2, h1⟩
        · rw [h1] at hgo; cases hgo
        · rw [h1] at hgo ⊢
          exact nx _ _ _ _ hgo
    have key : ∀ (i : Instr) (r1 r2 : Nat) (v : Value) (len : Nat), am_stp i r1 r2 v l st h (fun l st h => am_nx U L (am_ev C U rt G L n) (pc + len) l st h) = some y → am_stp i r1 r2 v l st h (fun l st h => am_nx U L' (am_ev C U rt G' L' n) (pc + len) l st h) = some y := by
      intro i r1 r2 v len hy
      rcases am_stp_sel i r1 r2 v l st h with h1 | ⟨l', st', h', h1, h2⟩
      · rw [h1] at hy; cases hy
      · rw [h1] at hy ⊢
        exact nx _ _ _ _ hy
    simp only [am_ev]
    split
    · intro z; cases z
    · split
      · exact nx _ _ _ _
      · split
        · split <;> (split <;> exact nx _ _ _ _)
        · intro z; cases z
      · split
        · split <;> (split <;> exact nx _ _ _ _)
        · intro z; cases z
      · split
        · rename_i d lo hi offs heq _ x st'
          refine am_sw_mono _ _ _ _ _ (by simp) (fun k q q' h1 h2 => ?_) (nx _ _ _ _)
          rw [List.getElem?_map] at h1 h2
          intro hq
          generalize offs.toList[k]? = o at h1 h2
          cases o with
          | none => cases h1
          | some o =>
            cases h1
            cases h2
            exact nx _ _ _ _ hq
        · intro z; cases z
      · exact id
      · exact id
      · exact id
      · split
        · rename_i b st' _
          generalize (am_few _ && am_isK h _ _) = bb
          cases bb with
          | true => exact go _ _ _ _ _
          | false => intro z; cases z
        · intro z; cases z
      · split
        · split
          · generalize Nat.ble _ 3 = bb
            cases bb with
            | true =>
              simp only [cond_true]
              generalize am_copy _ _ _ _ _ _ = o
              cases o with
              | none => intro z; cases z
              | some h1 => exact nx _ _ _ _
            | false => intro z; cases z
          · intro z; cases z
        · split
          · generalize am_few _ = bb
            cases bb with
            | true => exact nx _ _ _ _
            | false => intro z; cases z
          · intro z; cases z
        · split
          · generalize am_few _ = bb
            cases bb with
            | true => exact nx _ _ _ _
            | false => intro z; cases z
          · intro z; cases z
        · split
          · generalize am_few _ = bb
            cases bb with
            | true => exact nx _ _ _ _
            | false => intro z; cases z
          · intro z; cases z
        · split
          · generalize am_few _ = bb
            cases bb with
            | true => exact nx _ _ _ _
            | false => intro z; cases z
          · intro z; cases z
        · split
          · generalize am_few _ = bb
            cases bb with
            | true => exact go _ _ _ _ _
            | false => intro z; cases z
          · intro z; cases z
      · split
        · split
          · generalize am_few _ = bb
            cases bb with
            | true => exact nx _ _ _ _
            | false => intro z; cases z
          · intro z; cases z
        · split
          · generalize am_few _ = bb
            cases bb with
            | true => simp only [cond_true]; exact go 0 _ _ _ _
            | false => intro z; cases z
          · intro z; cases z
      · exact key _ _ _ _ _
def am_semC : Nat → GT
  | 0 => fun _ _ _ => none
  | d + 1 => fun j as h => match am_prog[j]? with
    | none => none
    | some M => bif Nat.ble (lg_sl as).length M.2.2.2.1 then am_run M.1 M.2.1 (am_rt M.2.2.2.2.1) (am_semC d) 100 0 (lv_args 0 as) h else none
theorem am_run_G (C : CD) (U : List (Nat × List Nat)) (rt : Nat) {G G' : GT} (hG : ∀ j as h y, G j as h = some y → G' j as h = some y) : ∀ (n pc : Nat) (l : LV) (h : AH) (y : RS), am_run C U rt G n pc l h = some y → am_run C U rt G' n pc l h = some y := by
  intro n
  induction n with
  | zero => intro pc l h y hy; cases hy
  | succ n ih =>
    intro pc l h y hy
    exact am_ev_G C U rt hG ih 4000 pc l [] h y hy
theorem am_semC_ok : ∀ d j as h y, am_semC d j as h = some y → am_sem d j as h = some y := by
  intro d
  induction d with
  | zero => intro j as h y hy; cases hy
  | succ d ih =>
    intro j as h y hy
    simp only [am_semC] at hy
    simp only [am_sem]
    split at hy
    · cases hy
    · rename_i M hM
      cases hb : Nat.ble (lg_sl as).length M.2.2.2.1 with
      | false => rw [hb] at hy; cases hy
      | true =>
        rw [hb] at hy
        have hy : am_run M.1 M.2.1 (am_rt M.2.2.2.2.1) (am_semC d) 100 0 (lv_args 0 as) h = some y := hy
        split
        · cases (zc0_md.symm.trans hM)
          cases hy
        · rw [hM]
          dsimp only
          rw [hb]
          exact am_rn_of (am_sem_mono d) (am_run_G _ _ _ ih _ _ _ _ _ hy)
theorem am_sem_succ : ∀ d j as h y, am_sem d j as h = some y → am_sem (d + 1) j as h = some y := by
  intro d
  induction d with
  | zero => intro j as h y hy; cases hy
  | succ d ih =>
    intro j as h y hy
    simp only [am_sem] at hy
    rw [am_sem]
    dsimp only
    split at hy
    · exact hy
    · rename_i hne
      split
      · rename_i hM
        rw [hM] at hy
        cases hy
      · rename_i M hM
        rw [hM] at hy
        dsimp only at hy
        · cases hb : Nat.ble (lg_sl as).length M.2.2.2.1 with
          | false => rw [hb] at hy; cases hy
          | true =>
            rw [hb] at hy
            obtain ⟨n, hn⟩ := am_rn_some (show am_rn M.1 M.2.1 (am_rt M.2.2.2.2.1) (am_sem d) 0 (lv_args 0 as) h = some y from hy)
            exact am_rn_of (am_sem_mono (d + 1)) (am_run_G _ _ _ ih _ _ _ _ _ hn)
theorem am_sem_le {k d : Nat} {j : Nat} {as : List Value} {h : AH} {y : RS} (hy : am_sem k j as h = some y) (hk : k ≤ d) : am_sem d j as h = some y := by
  induction hk with
  | refl => exact hy
  | step _ ih => exact am_sem_succ _ _ _ _ _ ih
end
section
/-! THE START: both objects made, by running their constructors in the kernel -/
def px_nil : AH := (0, 0, fun _ => (0, 0, fun _ => .null))
def px_after (o : Option RS) : AH := match o with
  | some (_, h) => h
  | none => px_nil
def px_void (o : Option RS) : Bool := match o with
  | some (none, _) => true
  | _ => false
def px_m9 (n : Nat) (xs : Nat → Int32) : AH := am_new (am_h0 n xs) (9, 16, fun j => am_dflt (am_fty 9 j))
def px_h1 (n : Nat) (xs : Nat → Int32) : AH := px_after (am_semC 6 101 [.ref 29] (px_m9 n xs))
def px_m10 (n : Nat) (xs : Nat → Int32) : AH := am_new (px_h1 n xs) (10, 49, fun j => am_dflt (am_fty 10 j))
def px_h2 (n : Nat) (xs : Nat → Int32) : AH := px_after (am_semC 6 150 [.ref 113] (px_m10 n xs))
def px_vB (t : Nat) (v : Value) : Bool := match t, v with
  | 0, .int _ => true
  | 1, .long _ => true
  | t + 2, .ref x => Nat.beq x t
  | _, _ => false
theorem px_vB_ok {t : Nat} {v : Value} (h : px_vB t v = true) : px_v t v := by
  unfold px_vB at h
  split at h
  · exact ⟨_, rfl⟩
  · exact ⟨_, rfl⟩
  · have := Nat.eq_of_beq_eq_true h
    subst this
    rfl
  · cases h
def px_cellB (w a : Nat) (c : AC) : Bool := Nat.beq c.1 (px_t a).1 && (Nat.beq c.2.1 (px_t a).2 && (List.range (px_t a).2).all (fun i => px_vB (px_tg w a i) (c.2.2 i)))
def px_facts : List (Nat × Nat × Int) := [(29, 1, 0), (29, 2, -1), (29, 15, 0), (31, 0, 0), (42, 2, 0), (42, 3, 0), (42, 4, 0), (42, 5, 3), (42, 6, 0), (42, 7, 0), (42, 8, 0), (42, 9, 0), (44, 0, 0), (55, 0, 0), (55, 1, 10), (55, 2, 0), (55, 3, 0), (56, 0, 10), (56, 1, 0), (56, 2, 0), (56, 3, 10), (56, 4, 0), (56, 5, 0), (56, 6, 10), (56, 7, 0), (56, 8, 0), (56, 9, 10), (56, 10, 0), (56, 11, 0), (56, 12, 10), (56, 13, 0), (56, 14, 0), (56, 15, 10), (56, 16, 0), (56, 17, 0), (59, 0, 0), (73, 0, 0), (86, 0, 0), (86, 1, 0), (87, 1, 0), (87, 2, 0), (87, 3, 0), (89, 5, 0), (89, 8, 0), (96, 4, 0), (96, 5, 0), (96, 6, 0), (96, 7, 1), (96, 8, 0), (96, 9, 0), (100, 6, 0), (106, 3, 1), (106, 5, 0), (106, 6, 0), (110, 3, -1), (110, 4, 0), (112, 0, 0), (112, 1, 0), (112, 2, 0), (112, 3, 0), (113, 0, 0), (113, 1, 0), (113, 9, 0), (113, 10, -1), (113, 14, 0), (113, 15, 0), (113, 16, 0), (113, 17, 0), (113, 19, 0), (113, 20, 0), (113, 21, 0), (113, 22, 0), (113, 23, 0), (113, 26, -1), (113, 29, 0), (113, 32, 0), (113, 33, 0), (113, 34, 0), (113, 43, 0), (113, 44, 0), (113, 46, -1), (113, 47, 0), (113, 48, 0), (114, 0, 0), (114, 1, 0), (114, 2, 0), (114, 3, 0), (114, 4, 0), (114, 5, 0), (114, 6, 0), (115, 160, 10), (115, 161, 0), (115, 162, 0), (115, 163, 10), (115, 164, 0), (115, 165, 0), (115, 166, 10), (115, 167, 0), (115, 168, 0), (115, 169, 10), (115, 170, 0), (115, 171, 0), (115, 172, 10), (115, 173, 0), (115, 174, 0), (115, 175, 10), (115, 176, 0), (115, 177, 0), (115, 178, 0), (115, 179, 10), (115, 180, 0), (115, 181, 0), (115, 182, 0), (115, 183, 0), (117, 0, 0), (117, 1, 0), (118, 0, 102), (118, 1, 111), (118, 2, 114), (118, 3, 107), (118, 4, 32), (118, 5, 116), (118, 6, 111), (118, 7, 32), (118, 8, 116), (118, 9, 117), (118, 10, 114), (118, 11, 110), (118, 12, 32), (118, 13, 98), (118, 14, 121), (118, 15, 32), (118, 16, 105), (118, 17, 110), (118, 18, 110), (118, 19, 32), (118, 20, 101), (118, 21, 110), (118, 22, 100), (118, 23, 32), (118, 24, 105), (118, 25, 102), (118, 26, 32), (118, 27, 111), (118, 28, 114), (118, 29, 32), (118, 30, 97), (118, 31, 110), (118, 32, 100), (118, 33, 32), (118, 34, 110), (118, 35, 111), (118, 36, 116), (118, 37, 32), (118, 38, 115), (118, 39, 116), (118, 40, 101), (118, 41, 112), (118, 42, 32), (118, 43, 112), (118, 44, 108), (118, 45, 97), (118, 46, 99), (118, 47, 101), (118, 48, 32), (118, 49, 100), (118, 50, 97), (118, 51, 121), (118, 52, 32)]
def px_startB (n : Nat) (xs : Nat → Int32) : Bool :=
  (px_void (am_semC 6 101 [.ref 29] (px_m9 n xs)) && Nat.beq (px_h1 n xs).1 113) && ((px_void (am_semC 6 150 [.ref 113] (px_m10 n xs)) && (Nat.beq (px_h2 n xs).1 140 && Nat.beq (px_h2 n xs).2.1 17062)) && ((List.range 111).all (fun k => px_cellB 107 (k + 29) ((px_h2 n xs).2.2 (k + 29))) && px_facts.all (fun q => decide (px_n (px_h2 n xs) q.1 q.2.1 = q.2.2))))
noncomputable def px_e : Nat × (Nat → Int32) := Classical.epsilon (fun q : Nat × (Nat → Int32) => ¬ px_startB q.1 q.2 = true)
theorem px_start_e : px_startB px_e.1 px_e.2 = true := by decide +kernel
theorem px_start (n : Nat) (xs : Nat → Int32) : px_startB n xs = true := Classical.byContradiction fun hh => (Classical.epsilon_spec (p := fun q : Nat × (Nat → Int32) => ¬ px_startB q.1 q.2 = true) ⟨(n, xs), hh⟩) px_start_e
theorem px_void_spec {o : Option RS} (h : px_void o = true) : o = some (none, px_after o) := by
  unfold px_void at h
  split at h
  · rfl
  · cases h
theorem px_begin (n : Nat) (xs : Nat → Int32) : am_sem 6 101 [.ref 29] (px_m9 n xs) = some (none, px_h1 n xs) ∧ (px_h1 n xs).1 = 113 ∧ am_sem 6 150 [.ref 113] (px_m10 n xs) = some (none, px_h2 n xs) ∧ px_ok 107 (px_h2 n xs) ∧ (px_h2 n xs).2.2 28 = (100, n, fun j => .int (xs j)) ∧ ∀ q ∈ px_facts, px_n (px_h2 n xs) q.1 q.2.1 = q.2.2 := by
  have h0 := px_start n xs
  simp only [px_startB, Bool.and_eq_true] at h0
  obtain ⟨⟨h1, h2⟩, ⟨h3, h4, h5⟩, h6, h7⟩ := h0
  have e1 := px_void_spec h1
  have e2 := px_void_spec h3
  have h2 := Nat.eq_of_beq_eq_true h2
  have s1 := am_semC_ok _ _ _ _ _ e1
  have s2 := am_semC_ok _ _ _ _ _ e2
  have o1 := ol_sem_mono 6 _ _ _ _ _ s1
  have o2 := ol_sem_mono 6 _ _ _ _ _ s2
  have oo : ol_le (am_h0 n xs) (px_h2 n xs) := (ol_new.tr o1).tr (ol_new.tr o2)
  have od := (oo (Nat.le_refl 29)).2
  refine ⟨s1, h2, s2, ⟨⟨Nat.eq_of_beq_eq_true h4, Nat.eq_of_beq_eq_true h5⟩, Or.inl rfl, fun a ha => ?_, fun a ha1 ha2 => ?_⟩, ?_, fun q hq => ?_⟩
  · rw [od a (by omega)]
    simp only [am_h0]
    by_cases q1 : a < 13
    · simp [q1]
    · by_cases q2 : a < 26
      · simp [q1, q2]
      · by_cases q3 : a = 26
        · simp [q3]
        · by_cases q4 : a = 27
          · simp [q4]
          · omega
  · have := List.all_eq_true.mp h6 (a - 29) (List.mem_range.mpr (by omega))
    rw [show a - 29 + 29 = a by omega] at this
    simp only [px_cellB, Bool.and_eq_true] at this
    exact ⟨Nat.eq_of_beq_eq_true this.1, Nat.eq_of_beq_eq_true this.2.1, fun i hi => px_vB_ok (List.all_eq_true.mp this.2.2 i (List.mem_range.mpr hi))⟩
  · rw [od 28 (by omega)]
    rfl
  · exact of_decide_eq_true (List.all_eq_true.mp h7 q hq)
end
section
/-! THE LAW'S LOOP: what is wanted of each call -/
set_option maxRecDepth 100000 in
theorem eL_law_0 (G : GT) (L : Nat → LV → AH → Option RS) (a0 : Nat) (h : AH) : am_ev qL_law uL_law 3 G L 4000 0 [(0, .ref a0)] [] h = am_cV (G 101 [.ref h.1] (am_new h (9, 16, fun j => am_dflt (am_fty 9 j)))) fun h1 => am_cV (G 150 [.ref h1.1] (am_new h1 (10, 49, fun j => am_dflt (am_fty 10 j)))) fun h2 => L 18 [(0, .ref a0), (1, .ref h.1), (2, .ref h1.1), (3, .int 0)] h2 := rfl
set_option maxRecDepth 100000 in
theorem eL_law_18 (G : GT) (L : Nat → LV → AH → Option RS) (a0 : Nat) (a1 : Nat) (a2 : Nat) (i3 : Int32) (h : AH) : am_ev qL_law uL_law 3 G L 4000 18 [(0, .ref a0), (1, .ref a1), (2, .ref a2), (3, .int i3)] [] h = (am_len h a0).bind fun x1 => if (x1 - 6) < i3 then (some (some (.int 1), h)) else (am_aI h a0 i3).bind fun x2 => if (x2 &&& 63) = 0 then ((am_aI h a0 (i3 + 1)).bind fun x3 => (am_aI h a0 (i3 + 2)).bind fun x4 => (am_aI h a0 (i3 + 3)).bind fun x5 => (am_aI h a0 (i3 + 4)).bind fun x6 => (am_aI h a0 (i3 + 5)).bind fun x7 => bif am_isK h a1 9 then (am_cI (G 102 [.ref a1, .int x3, .int x4, .int x5, .int x6, .int x7] h) fun x9 h8 => (am_aI h8 a0 (i3 + 1)).bind fun x10 => (am_aI h8 a0 (i3 + 2)).bind fun x11 => (am_aI h8 a0 (i3 + 3)).bind fun x12 => (am_aI h8 a0 (i3 + 4)).bind fun x13 => (am_aI h8 a0 (i3 + 5)).bind fun x14 => bif am_isK h8 a2 10 then (am_cI (G 159 [.ref a2, .int x10, .int x11, .int x12, .int x13, .int x14] h8) fun x16 h15 => if x9 = x16 then (L 1146 [(0, .ref a0), (1, .ref a1), (2, .ref a2), (3, .int i3)] h15) else some (some (.int 0), h15)) else none) else none) else if (x2 &&& 63) = 1 then ((am_aI h a0 (i3 + 1)).bind fun x17 => bif am_isK h a1 9 then (am_cI (G 104 [.ref a1, .int x17] h) fun x19 h18 => (am_aI h18 a0 (i3 + 1)).bind fun x20 => bif am_isK h18 a2 10 then (am_cI (G 160 [.ref a2, .int x20] h18) fun x22 h21 => if x19 = x22 then (L 1146 [(0, .ref a0), (1, .ref a1), (2, .ref a2), (3, .int i3)] h21) else some (some (.int 0), h21)) else none) else none) else if (x2 &&& 63) = 2 then (bif am_isK h a1 9 then (am_cI (G 105 [.ref a1] h) fun x24 h23 => bif am_isK h23 a2 10 then (am_cI (G 179 [.ref a2] h23) fun x26 h25 => if x24 = x26 then (L 1146 [(0, .ref a0), (1, .ref a1), (2, .ref a2), (3, .int i3)] h25) else some (some (.int 0), h25)) else none) else none) else if (x2 &&& 63) = 3 then (bif am_isK h a1 9 then (am_cI (G 106 [.ref a1] h) fun x28 h27 => bif am_isK h27 a2 10 then (am_cI (G 180 [.ref a2] h27) fun x30 h29 => if x28 = x30 then (L 1146 [(0, .ref a0), (1, .ref a1), (2, .ref a2), (3, .int i3)] h29) else some (some (.int 0), h29)) else none) else none) else if (x2 &&& 63) = 4 then ((am_aI h a0 (i3 + 1)).bind fun x31 => (am_aI h a0 (i3 + 2)).bind fun x32 => bif am_isK h a1 9 then (am_cI (G 107 [.ref a1, .int x31, .int x32] h) fun x34 h33 => (am_aI h33 a0 (i3 + 1)).bind fun x35 => (am_aI h33 a0 (i3 + 2)).bind fun x36 => bif am_isK h33 a2 10 then (am_cI (G 193 [.ref a2, .int x35, .int x36] h33) fun x38 h37 => if x34 = x38 then (L 1146 [(0, .ref a0), (1, .ref a1), (2, .ref a2), (3, .int i3)] h37) else some (some (.int 0), h37)) else none) else none) else if (x2 &&& 63) = 5 then ((am_aI h a0 (i3 + 1)).bind fun x39 => (am_aI h a0 (i3 + 2)).bind fun x40 => bif am_isK h a1 9 then (am_cI (G 108 [.ref a1, .int x39, .int x40] h) fun x42 h41 => (am_aI h41 a0 (i3 + 1)).bind fun x43 => (am_aI h41 a0 (i3 + 2)).bind fun x44 => bif am_isK h41 a2 10 then (am_cI (G 194 [.ref a2, .int x43, .int x44] h41) fun x46 h45 => if x42 = x46 then (L 1146 [(0, .ref a0), (1, .ref a1), (2, .ref a2), (3, .int i3)] h45) else some (some (.int 0), h45)) else none) else none) else if (x2 &&& 63) = 6 then ((am_aI h a0 (i3 + 1)).bind fun x47 => (am_aI h a0 (i3 + 2)).bind fun x48 => bif am_isK h a1 9 then (am_cL (G 109 [.ref a1, .int x47, .int x48] h) fun x50 h49 => (am_aI h49 a0 (i3 + 1)).bind fun x51 => (am_aI h49 a0 (i3 + 2)).bind fun x52 => bif am_isK h49 a2 10 then (am_cL (G 195 [.ref a2, .int x51, .int x52] h49) fun x54 h53 => if (lg_cmp x50 x54) = 0 then (L 1146 [(0, .ref a0), (1, .ref a1), (2, .ref a2), (3, .int i3)] h53) else some (some (.int 0), h53)) else none) else none) else if (x2 &&& 63) = 7 then ((am_aI h a0 (i3 + 1)).bind fun x55 => (am_aI h a0 (i3 + 2)).bind fun x56 => bif am_isK h a1 9 then (am_cI (G 110 [.ref a1, .int x55, .int x56] h) fun x58 h57 => (am_aI h57 a0 (i3 + 1)).bind fun x59 => (am_aI h57 a0 (i3 + 2)).bind fun x60 => bif am_isK h57 a2 10 then (am_cI (G 196 [.ref a2, .int x59, .int x60] h57) fun x62 h61 => if x58 = x62 then (L 1146 [(0, .ref a0), (1, .ref a1), (2, .ref a2), (3, .int i3)] h61) else some (some (.int 0), h61)) else none) else none) else if (x2 &&& 63) = 8 then (bif am_isK h a1 9 then (am_cI (G 111 [.ref a1] h) fun x64 h63 => bif am_isK h63 a2 10 then (am_cI (G 197 [.ref a2] h63) fun x66 h65 => if x64 = x66 then (L 1146 [(0, .ref a0), (1, .ref a1), (2, .ref a2), (3, .int i3)] h65) else some (some (.int 0), h65)) else none) else none) else if (x2 &&& 63) = 9 then ((am_aI h a0 (i3 + 1)).bind fun x67 => (am_aI h a0 (i3 + 2)).bind fun x68 => (am_aI h a0 (i3 + 3)).bind fun x69 => bif am_isK h a1 9 then (am_cI (G 112 [.ref a1, .int x67, .int x68, .int x69] h) fun x71 h70 => (am_aI h70 a0 (i3 + 1)).bind fun x72 => (am_aI h70 a0 (i3 + 2)).bind fun x73 => (am_aI h70 a0 (i3 + 3)).bind fun x74 => bif am_isK h70 a2 10 then (am_cI (G 198 [.ref a2, .int x72, .int x73, .int x74] h70) fun x76 h75 => if x71 = x76 then (L 1146 [(0, .ref a0), (1, .ref a1), (2, .ref a2), (3, .int i3)] h75) else some (some (.int 0), h75)) else none) else none) else if (x2 &&& 63) = 10 then ((am_aI h a0 (i3 + 1)).bind fun x77 => (am_aI h a0 (i3 + 2)).bind fun x78 => bif am_isK h a1 9 then (am_cI (G 113 [.ref a1, .int x77, .int x78] h) fun x80 h79 => (am_aI h79 a0 (i3 + 1)).bind fun x81 => (am_aI h79 a0 (i3 + 2)).bind fun x82 => bif am_isK h79 a2 10 then (am_cI (G 199 [.ref a2, .int x81, .int x82] h79) fun x84 h83 => if x80 = x84 then (L 1146 [(0, .ref a0), (1, .ref a1), (2, .ref a2), (3, .int i3)] h83) else some (some (.int 0), h83)) else none) else none) else if (x2 &&& 63) = 11 then (bif am_isK h a1 9 then (am_cL (G 114 [.ref a1] h) fun x86 h85 => bif am_isK h85 a2 10 then (am_cL (G 205 [.ref a2] h85) fun x88 h87 => if (lg_cmp x86 x88) = 0 then (L 1146 [(0, .ref a0), (1, .ref a1), (2, .ref a2), (3, .int i3)] h87) else some (some (.int 0), h87)) else none) else none) else if (x2 &&& 63) = 12 then ((am_aI h a0 (i3 + 1)).bind fun x89 => (am_aI h a0 (i3 + 2)).bind fun x90 => bif am_isK h a1 9 then (am_cL (G 115 [.ref a1, .int x89, .int x90] h) fun x92 h91 => (am_aI h91 a0 (i3 + 1)).bind fun x93 => (am_aI h91 a0 (i3 + 2)).bind fun x94 => bif am_isK h91 a2 10 then (am_cL (G 206 [.ref a2, .int x93, .int x94] h91) fun x96 h95 => if (lg_cmp x92 x96) = 0 then (L 1146 [(0, .ref a0), (1, .ref a1), (2, .ref a2), (3, .int i3)] h95) else some (some (.int 0), h95)) else none) else none) else if (x2 &&& 63) = 13 then ((am_aI h a0 (i3 + 1)).bind fun x97 => bif am_isK h a1 9 then (am_cL (G 116 [.ref a1, .int x97] h) fun x99 h98 => (am_aI h98 a0 (i3 + 1)).bind fun x100 => bif am_isK h98 a2 10 then (am_cL (G 211 [.ref a2, .int x100] h98) fun x102 h101 => if (lg_cmp x99 x102) = 0 then (L 1146 [(0, .ref a0), (1, .ref a1), (2, .ref a2), (3, .int i3)] h101) else some (some (.int 0), h101)) else none) else none) else if (x2 &&& 63) = 14 then ((am_aI h a0 (i3 + 1)).bind fun x103 => bif am_isK h a1 9 then (am_cI (G 117 [.ref a1, .int x103] h) fun x105 h104 => (am_aI h104 a0 (i3 + 1)).bind fun x106 => bif am_isK h104 a2 10 then (am_cI (G 212 [.ref a2, .int x106] h104) fun x108 h107 => if x105 = x108 then (L 1146 [(0, .ref a0), (1, .ref a1), (2, .ref a2), (3, .int i3)] h107) else some (some (.int 0), h107)) else none) else none) else if (x2 &&& 63) = 15 then (bif am_isK h a1 9 then (am_cI (G 118 [.ref a1] h) fun x110 h109 => bif am_isK h109 a2 10 then (am_cI (G 213 [.ref a2] h109) fun x112 h111 => if x110 = x112 then (L 1146 [(0, .ref a0), (1, .ref a1), (2, .ref a2), (3, .int i3)] h111) else some (some (.int 0), h111)) else none) else none) else if (x2 &&& 63) = 16 then ((am_aI h a0 (i3 + 1)).bind fun x113 => (am_aI h a0 (i3 + 2)).bind fun x114 => bif am_isK h a1 9 then (am_cL (G 119 [.ref a1, .int x113, .int x114] h) fun x116 h115 => (am_aI h115 a0 (i3 + 1)).bind fun x117 => (am_aI h115 a0 (i3 + 2)).bind fun x118 => bif am_isK h115 a2 10 then (am_cL (G 217 [.ref a2, .int x117, .int x118] h115) fun x120 h119 => if (lg_cmp x116 x120) = 0 then (L 1146 [(0, .ref a0), (1, .ref a1), (2, .ref a2), (3, .int i3)] h119) else some (some (.int 0), h119)) else none) else none) else if (x2 &&& 63) = 17 then ((am_aI h a0 (i3 + 1)).bind fun x121 => bif am_isK h a1 9 then (am_cI (G 120 [.ref a1, .int x121] h) fun x123 h122 => (am_aI h122 a0 (i3 + 1)).bind fun x124 => bif am_isK h122 a2 10 then (am_cI (G 218 [.ref a2, .int x124] h122) fun x126 h125 => if x123 = x126 then (L 1146 [(0, .ref a0), (1, .ref a1), (2, .ref a2), (3, .int i3)] h125) else some (some (.int 0), h125)) else none) else none) else if (x2 &&& 63) = 18 then ((am_aI h a0 (i3 + 1)).bind fun x127 => (am_aI h a0 (i3 + 2)).bind fun x128 => bif am_isK h a1 9 then (am_cL (G 121 [.ref a1, .int x127, .int x128] h) fun x130 h129 => (am_aI h129 a0 (i3 + 1)).bind fun x131 => (am_aI h129 a0 (i3 + 2)).bind fun x132 => bif am_isK h129 a2 10 then (am_cL (G 221 [.ref a2, .int x131, .int x132] h129) fun x134 h133 => if (lg_cmp x130 x134) = 0 then (L 1146 [(0, .ref a0), (1, .ref a1), (2, .ref a2), (3, .int i3)] h133) else some (some (.int 0), h133)) else none) else none) else if (x2 &&& 63) = 19 then (bif am_isK h a1 9 then (am_cL (G 122 [.ref a1] h) fun x136 h135 => bif am_isK h135 a2 10 then (am_cL (G 224 [.ref a2] h135) fun x138 h137 => if (lg_cmp x136 x138) = 0 then (L 1146 [(0, .ref a0), (1, .ref a1), (2, .ref a2), (3, .int i3)] h137) else some (some (.int 0), h137)) else none) else none) else if (x2 &&& 63) = 20 then (bif am_isK h a1 9 then (am_cL (G 123 [.ref a1] h) fun x140 h139 => bif am_isK h139 a2 10 then (am_cL (G 207 [.ref a2] h139) fun x142 h141 => if (lg_cmp x140 x142) = 0 then (L 1146 [(0, .ref a0), (1, .ref a1), (2, .ref a2), (3, .int i3)] h141) else some (some (.int 0), h141)) else none) else none) else if (x2 &&& 63) = 21 then ((am_aI h a0 (i3 + 1)).bind fun x143 => (am_aI h a0 (i3 + 2)).bind fun x144 => bif am_isK h a1 9 then (am_cI (G 124 [.ref a1, .int x143, .int x144] h) fun x146 h145 => (am_aI h145 a0 (i3 + 1)).bind fun x147 => (am_aI h145 a0 (i3 + 2)).bind fun x148 => bif am_isK h145 a2 10 then (am_cI (G 208 [.ref a2, .int x147, .int x148] h145) fun x150 h149 => if x146 = x150 then (L 1146 [(0, .ref a0), (1, .ref a1), (2, .ref a2), (3, .int i3)] h149) else some (some (.int 0), h149)) else none) else none) else if (x2 &&& 63) = 22 then ((am_aI h a0 (i3 + 1)).bind fun x151 => (am_aI h a0 (i3 + 2)).bind fun x152 => (am_aI h a0 (i3 + 3)).bind fun x153 => (am_aI h a0 (i3 + 4)).bind fun x154 => bif am_isK h a1 9 then (am_cI (G 125 [.ref a1, .int x151, .long ((x152.toInt64 <<< ((32 : Int32).toInt64 &&& 63)) ||| (x153.toInt64 &&& 4294967295)), .int x154] h) fun x156 h155 => (am_aI h155 a0 (i3 + 1)).bind fun x157 => (am_aI h155 a0 (i3 + 2)).bind fun x158 => (am_aI h155 a0 (i3 + 3)).bind fun x159 => (am_aI h155 a0 (i3 + 4)).bind fun x160 => bif am_isK h155 a2 10 then (am_cI (G 228 [.ref a2, .int x157, .long ((x158.toInt64 <<< ((32 : Int32).toInt64 &&& 63)) ||| (x159.toInt64 &&& 4294967295)), .int x160] h155) fun x162 h161 => if x156 = x162 then (L 1146 [(0, .ref a0), (1, .ref a1), (2, .ref a2), (3, .int i3)] h161) else some (some (.int 0), h161)) else none) else none) else if (x2 &&& 63) = 23 then ((am_aI h a0 (i3 + 1)).bind fun x163 => bif am_isK h a1 9 then (am_cL (G 126 [.ref a1, .int x163] h) fun x165 h164 => (am_aI h164 a0 (i3 + 1)).bind fun x166 => bif am_isK h164 a2 10 then (am_cL (G 229 [.ref a2, .int x166] h164) fun x168 h167 => if (lg_cmp x165 x168) = 0 then (L 1146 [(0, .ref a0), (1, .ref a1), (2, .ref a2), (3, .int i3)] h167) else some (some (.int 0), h167)) else none) else none) else if (x2 &&& 63) = 24 then ((am_aI h a0 (i3 + 1)).bind fun x169 => bif am_isK h a1 9 then (am_cL (G 128 [.ref a1, .int x169] h) fun x171 h170 => (am_aI h170 a0 (i3 + 1)).bind fun x172 => bif am_isK h170 a2 10 then (am_cL (G 236 [.ref a2, .int x172] h170) fun x174 h173 => if (lg_cmp x171 x174) = 0 then (L 1146 [(0, .ref a0), (1, .ref a1), (2, .ref a2), (3, .int i3)] h173) else some (some (.int 0), h173)) else none) else none) else if (x2 &&& 63) = 25 then ((am_aI h a0 (i3 + 1)).bind fun x175 => bif am_isK h a1 9 then (am_cL (G 129 [.ref a1, .int x175] h) fun x177 h176 => (am_aI h176 a0 (i3 + 1)).bind fun x178 => bif am_isK h176 a2 10 then (am_cL (G 237 [.ref a2, .int x178] h176) fun x180 h179 => if (lg_cmp x177 x180) = 0 then (L 1146 [(0, .ref a0), (1, .ref a1), (2, .ref a2), (3, .int i3)] h179) else some (some (.int 0), h179)) else none) else none) else if (x2 &&& 63) = 26 then ((am_aI h a0 (i3 + 1)).bind fun x181 => (am_aI h a0 (i3 + 2)).bind fun x182 => bif am_isK h a1 9 then (am_cI (G 130 [.ref a1, .int x181, .int x182] h) fun x184 h183 => (am_aI h183 a0 (i3 + 1)).bind fun x185 => (am_aI h183 a0 (i3 + 2)).bind fun x186 => bif am_isK h183 a2 10 then (am_cI (G 244 [.ref a2, .int x185, .int x186] h183) fun x188 h187 => if x184 = x188 then (L 1146 [(0, .ref a0), (1, .ref a1), (2, .ref a2), (3, .int i3)] h187) else some (some (.int 0), h187)) else none) else none) else if (x2 &&& 63) = 27 then ((am_aI h a0 (i3 + 1)).bind fun x189 => (am_aI h a0 (i3 + 2)).bind fun x190 => bif am_isK h a1 9 then (am_cL (G 131 [.ref a1, .int x189, .int x190] h) fun x192 h191 => (am_aI h191 a0 (i3 + 1)).bind fun x193 => (am_aI h191 a0 (i3 + 2)).bind fun x194 => bif am_isK h191 a2 10 then (am_cL (G 245 [.ref a2, .int x193, .int x194] h191) fun x196 h195 => if (lg_cmp x192 x196) = 0 then (L 1146 [(0, .ref a0), (1, .ref a1), (2, .ref a2), (3, .int i3)] h195) else some (some (.int 0), h195)) else none) else none) else if (x2 &&& 63) = 28 then ((am_aI h a0 (i3 + 1)).bind fun x197 => bif am_isK h a1 9 then (am_cI (G 132 [.ref a1, .int x197] h) fun x199 h198 => (am_aI h198 a0 (i3 + 1)).bind fun x200 => bif am_isK h198 a2 10 then (am_cI (G 246 [.ref a2, .int x200] h198) fun x202 h201 => if x199 = x202 then (L 1146 [(0, .ref a0), (1, .ref a1), (2, .ref a2), (3, .int i3)] h201) else some (some (.int 0), h201)) else none) else none) else if (x2 &&& 63) = 29 then ((am_aI h a0 (i3 + 1)).bind fun x203 => bif am_isK h a1 9 then (am_cI (G 133 [.ref a1, .int x203] h) fun x205 h204 => (am_aI h204 a0 (i3 + 1)).bind fun x206 => bif am_isK h204 a2 10 then (am_cI (G 248 [.ref a2, .int x206] h204) fun x208 h207 => if x205 = x208 then (L 1146 [(0, .ref a0), (1, .ref a1), (2, .ref a2), (3, .int i3)] h207) else some (some (.int 0), h207)) else none) else none) else if (x2 &&& 63) = 30 then ((am_aI h a0 (i3 + 1)).bind fun x209 => bif am_isK h a1 9 then (am_cL (G 134 [.ref a1, .int x209] h) fun x211 h210 => (am_aI h210 a0 (i3 + 1)).bind fun x212 => bif am_isK h210 a2 10 then (am_cL (G 249 [.ref a2, .int x212] h210) fun x214 h213 => if (lg_cmp x211 x214) = 0 then (L 1146 [(0, .ref a0), (1, .ref a1), (2, .ref a2), (3, .int i3)] h213) else some (some (.int 0), h213)) else none) else none) else if (x2 &&& 63) = 31 then ((am_aI h a0 (i3 + 1)).bind fun x215 => bif am_isK h a1 9 then (am_cI (G 135 [.ref a1, .int x215] h) fun x217 h216 => (am_aI h216 a0 (i3 + 1)).bind fun x218 => bif am_isK h216 a2 10 then (am_cI (G 151 [.ref a2, .int x218] h216) fun x220 h219 => if x217 = x220 then (L 1146 [(0, .ref a0), (1, .ref a1), (2, .ref a2), (3, .int i3)] h219) else some (some (.int 0), h219)) else none) else none) else if (x2 &&& 63) = 32 then ((am_aI h a0 (i3 + 1)).bind fun x221 => bif am_isK h a1 9 then (am_cI (G 136 [.ref a1, .int x221] h) fun x223 h222 => (am_aI h222 a0 (i3 + 1)).bind fun x224 => bif am_isK h222 a2 10 then (am_cI (G 152 [.ref a2, .int x224] h222) fun x226 h225 => if x223 = x226 then (L 1146 [(0, .ref a0), (1, .ref a1), (2, .ref a2), (3, .int i3)] h225) else some (some (.int 0), h225)) else none) else none) else if (x2 &&& 63) = 33 then ((am_aI h a0 (i3 + 1)).bind fun x227 => bif am_isK h a1 9 then (am_cI (G 137 [.ref a1, .int x227] h) fun x229 h228 => (am_aI h228 a0 (i3 + 1)).bind fun x230 => bif am_isK h228 a2 10 then (am_cI (G 250 [.ref a2, .int x230] h228) fun x232 h231 => if x229 = x232 then (L 1146 [(0, .ref a0), (1, .ref a1), (2, .ref a2), (3, .int i3)] h231) else some (some (.int 0), h231)) else none) else none) else if (x2 &&& 63) = 34 then (bif am_isK h a1 9 then (am_cI (G 138 [.ref a1] h) fun x234 h233 => bif am_isK h233 a2 10 then (am_cI (G 251 [.ref a2] h233) fun x236 h235 => if x234 = x236 then (L 1146 [(0, .ref a0), (1, .ref a1), (2, .ref a2), (3, .int i3)] h235) else some (some (.int 0), h235)) else none) else none) else L 1146 [(0, .ref a0), (1, .ref a1), (2, .ref a2), (3, .int i3)] h := rfl
set_option maxRecDepth 100000 in
theorem eL_law_1146 (G : GT) (L : Nat → LV → AH → Option RS) (a0 : Nat) (a1 : Nat) (a2 : Nat) (i3 : Int32) (h : AH) : am_ev qL_law uL_law 3 G L 4000 1146 [(0, .ref a0), (1, .ref a1), (2, .ref a2), (3, .int i3)] [] h = L 18 [(0, .ref a0), (1, .ref a1), (2, .ref a2), (3, .int (i3 + 6))] h := rfl
/-- the script lies where it lay -/
def lx_scr (n : Nat) (xs : Nat → Int32) (h : AH) : Prop := h.1 = 140 ∧ h.2.2 28 = (100, n, fun j => .int (xs j))
theorem lx_len {n : Nat} {xs : Nat → Int32} {h : AH} (H : lx_scr n xs h) : am_len h 28 = some (zi n) := by
  unfold am_len am_cell
  rw [if_pos (by rw [H.1]; decide), H.2]
  dsimp only
  rw [if_pos (by decide)]
  exact congrArg some (Int32.ofInt_eq_ofNat).symm
theorem lx_at {n : Nat} {xs : Nat → Int32} {h : AH} (H : lx_scr n xs h) {z : Int} (h0 : 0 ≤ z) (h1 : z < n) (hn : n ≤ 3072) : am_aI h 28 (zi z) = some (xs z.toNat) := by
  have e : (zi z).toNatClampNeg = z.toNat := zi_nat h0 (by omega)
  have hneg : ¬ zi z < 0 := by
    rw [show (0 : Int32) = zi 0 from zi_lit 0, zi_lt (by omega) (by omega) (by omega) (by omega)]
    omega
  unfold am_aI am_a am_cell
  rw [if_pos (by rw [H.1]; decide), H.2]
  dsimp only
  rw [e, if_pos ⟨rfl, fun q => q.elim hneg (fun q => by omega)⟩]
theorem lx_at' {n : Nat} {xs : Nat → Int32} {h : AH} (H : lx_scr n xs h) {z : Int} (j : Nat) (h0 : 0 ≤ z) (h1 : z + j < n) (hn : n ≤ 3072) {y : Int32} (hy : y = zi j) : am_aI h 28 (zi z + y) = some (xs (z + j).toNat) := by
  rw [hy, zi_add]
  exact lx_at H (by omega) h1 hn
theorem lx_k {h : AH} {a c : Nat} (h1 : h.1 = 140) (ha : a < 140) (hk : (h.2.2 a).1 = c) : am_isK h a c = true := by
  unfold am_isK am_cell
  rw [if_pos (by omega)]
  dsimp only
  rw [hk]
  exact Nat.beq_refl c
/-- class and model answer alike; what is between them holds again -/
def lx_stI (Inv : Nat → AH → Prop) (d a b : Nat) (as : List Value) : Prop := ∀ t h, t < 512 → Inv t h → ∃ v h1 h2, am_sem d a (.ref 29 :: as) h = some (some (.int v), h1) ∧ am_sem d b (.ref 113 :: as) h1 = some (some (.int v), h2) ∧ (h1.1 = 140 ∧ (h1.2.2 113).1 = 10) ∧ Inv (t + 1) h2
def lx_stL (Inv : Nat → AH → Prop) (d a b : Nat) (as : List Value) : Prop := ∀ t h, t < 512 → Inv t h → ∃ v h1 h2, am_sem d a (.ref 29 :: as) h = some (some (.long v), h1) ∧ am_sem d b (.ref 113 :: as) h1 = some (some (.long v), h2) ∧ (h1.1 = 140 ∧ (h1.2.2 113).1 = 10) ∧ Inv (t + 1) h2
theorem lx_cmp (x : Int64) : lg_cmp x x = 0 := by
  unfold lg_cmp
  simp
set_option maxHeartbeats 8000000 in
set_option maxRecDepth 100000 in
theorem lx_loop (Inv : Nat → AH → Prop) (hI : ∀ t h, Inv t h → h.1 = 140 ∧ (h.2.2 29).1 = 9 ∧ (h.2.2 113).1 = 10 ∧ h.2.1 = 17062) {d : Nat}
    (c0 : ∀ (x1 : Int32) (x2 : Int32) (x3 : Int32) (x4 : Int32) (x5 : Int32), lx_stI Inv d 102 159 [.int x1, .int x2, .int x3, .int x4, .int x5])
    (c1 : ∀ (x1 : Int32), lx_stI Inv d 104 160 [.int x1])
    (c2 : lx_stI Inv d 105 179 [])
    (c3 : lx_stI Inv d 106 180 [])
    (c4 : ∀ (x1 : Int32) (x2 : Int32), lx_stI Inv d 107 193 [.int x1, .int x2])
    (c5 : ∀ (x1 : Int32) (x2 : Int32), lx_stI Inv d 108 194 [.int x1, .int x2])
    (c6 : ∀ (x1 : Int32) (x2 : Int32), lx_stL Inv d 109 195 [.int x1, .int x2])
    (c7 : ∀ (x1 : Int32) (x2 : Int32), lx_stI Inv d 110 196 [.int x1, .int x2])
    (c8 : lx_stI Inv d 111 197 [])
    (c9 : ∀ (x1 : Int32) (x2 : Int32) (x3 : Int32), lx_stI Inv d 112 198 [.int x1, .int x2, .int x3])
    (c10 : ∀ (x1 : Int32) (x2 : Int32), lx_stI Inv d 113 199 [.int x1, .int x2])
    (c11 : lx_stL Inv d 114 205 [])
    (c12 : ∀ (x1 : Int32) (x2 : Int32), lx_stL Inv d 115 206 [.int x1, .int x2])
    (c13 : ∀ (x1 : Int32), lx_stL Inv d 116 211 [.int x1])
    (c14 : ∀ (x1 : Int32), lx_stI Inv d 117 212 [.int x1])
    (c15 : lx_stI Inv d 118 213 [])
    (c16 : ∀ (x1 : Int32) (x2 : Int32), lx_stL Inv d 119 217 [.int x1, .int x2])
    (c17 : ∀ (x1 : Int32), lx_stI Inv d 120 218 [.int x1])
    (c18 : ∀ (x1 : Int32) (x2 : Int32), lx_stL Inv d 121 221 [.int x1, .int x2])
    (c19 : lx_stL Inv d 122 224 [])
    (c20 : lx_stL Inv d 123 207 [])
    (c21 : ∀ (x1 : Int32) (x2 : Int32), lx_stI Inv d 124 208 [.int x1, .int x2])
    (c22 : ∀ (x1 : Int32) (x2 : Int64) (x3 : Int32), lx_stI Inv d 125 228 [.int x1, .long x2, .int x3])
    (c23 : ∀ (x1 : Int32), lx_stL Inv d 126 229 [.int x1])
    (c24 : ∀ (x1 : Int32), lx_stL Inv d 128 236 [.int x1])
    (c25 : ∀ (x1 : Int32), lx_stL Inv d 129 237 [.int x1])
    (c26 : ∀ (x1 : Int32) (x2 : Int32), lx_stI Inv d 130 244 [.int x1, .int x2])
    (c27 : ∀ (x1 : Int32) (x2 : Int32), lx_stL Inv d 131 245 [.int x1, .int x2])
    (c28 : ∀ (x1 : Int32), lx_stI Inv d 132 246 [.int x1])
    (c29 : ∀ (x1 : Int32), lx_stI Inv d 133 248 [.int x1])
    (c30 : ∀ (x1 : Int32), lx_stL Inv d 134 249 [.int x1])
    (c31 : ∀ (x1 : Int32), lx_stI Inv d 135 151 [.int x1])
    (c32 : ∀ (x1 : Int32), lx_stI Inv d 136 152 [.int x1])
    (c33 : ∀ (x1 : Int32), lx_stI Inv d 137 250 [.int x1])
    (c34 : lx_stI Inv d 138 251 []) {n : Nat} {xs : Nat → Int32} (hn : n ≤ 3072) :
    ∀ (k t : Nat) (z : Int) (h : AH), 0 ≤ z → z ≤ n → (n : Int) - z < 6 * k → 6 * (t : Int) ≤ z → Inv t h → h.2.2 28 = (100, n, fun j => .int (xs j)) → ∃ hf : AH, am_rn qL_law uL_law 3 (am_sem d) 18 [(0, .ref 28), (1, .ref 29), (2, .ref 113), (3, .int (zi z))] h = some (some (.int 1), hf) ∧ hf.1 = 140 ∧ hf.2.1 = 17062 := by
  intro k
  induction k with
  | zero => intro t z h z0 z1 z2 _ _ _; omega
  | succ k ih =>
    intro t z h z0 z1 z2 z3 hh hs
    obtain ⟨i1, i2, i3, i4⟩ := hI t h hh
    have S : lx_scr n xs h := ⟨i1, hs⟩
    rw [am_rn_eq _ _ _ (am_sem_mono d), eL_law_18, lx_len S]
    simp only [Option.bind_some]
    have hq : (zi (n : Int) - 6 < zi z) = ((n : Int) - 6 < z) := by
      rw [show (6 : Int32) = zi 6 from zi_lit 6, zi_sub, zi_lt (by omega) (by omega) (by omega) (by omega)]
    by_cases hz : (n : Int) - 6 < z
    · rw [if_pos (by rw [hq]; exact hz)]
      exact ⟨h, rfl, i1, i4⟩
    · rw [if_neg (by rw [hq]; exact hz)]
      have nxt : ∀ (t' : Nat) (h' : AH), 6 * (t' : Int) ≤ z + 6 → Inv t' h' → h'.2.2 28 = (100, n, fun j => .int (xs j)) → ∃ hf : AH, am_rn qL_law uL_law 3 (am_sem d) 1146 [(0, .ref 28), (1, .ref 29), (2, .ref 113), (3, .int (zi z))] h' = some (some (.int 1), hf) ∧ hf.1 = 140 ∧ hf.2.1 = 17062 := by
        intro t' h' ht hi' hs'
        rw [am_rn_eq _ _ _ (am_sem_mono d), eL_law_1146, show (6 : Int32) = zi 6 from zi_lit 6, zi_add]
        exact ih t' (z + 6) h' (by omega) (by omega) (by omega) ht hi' hs'
      have old : ∀ {j as h x h'}, am_sem d j as h = some (x, h') → h.1 = 140 → h.2.2 28 = (100, n, fun j => .int (xs j)) → h'.2.2 28 = (100, n, fun j => .int (xs j)) := by
        intro j as h x h' hc h1 h2
        rw [(ol_sem_mono d _ _ _ _ _ hc (by omega)).2 28 (by omega)]
        exact h2
      have ht : t < 512 := by omega
      have R1 : ∀ {h}, lx_scr n xs h → am_aI h 28 (zi z + 1) = some (xs (z + (1 : Nat)).toNat) := fun S => lx_at' S 1 z0 (by omega) hn (zi_lit 1)
      have R2 : ∀ {h}, lx_scr n xs h → am_aI h 28 (zi z + 2) = some (xs (z + (2 : Nat)).toNat) := fun S => lx_at' S 2 z0 (by omega) hn (zi_lit 2)
      have R3 : ∀ {h}, lx_scr n xs h → am_aI h 28 (zi z + 3) = some (xs (z + (3 : Nat)).toNat) := fun S => lx_at' S 3 z0 (by omega) hn (zi_lit 3)
      have R4 : ∀ {h}, lx_scr n xs h → am_aI h 28 (zi z + 4) = some (xs (z + (4 : Nat)).toNat) := fun S => lx_at' S 4 z0 (by omega) hn (zi_lit 4)
      have R5 : ∀ {h}, lx_scr n xs h → am_aI h 28 (zi z + 5) = some (xs (z + (5 : Nat)).toNat) := fun S => lx_at' S 5 z0 (by omega) hn (zi_lit 5)
      have doI : ∀ {a b : Nat} {as : List Value}, lx_stI Inv d a b as → ∃ v h1 h2, am_sem d a (.ref 29 :: as) h = some (some (.int v), h1) ∧ am_sem d b (.ref 113 :: as) h1 = some (some (.int v), h2) ∧ lx_scr n xs h1 ∧ (h1.2.2 113).1 = 10 ∧ Inv (t + 1) h2 ∧ h2.2.2 28 = (100, n, fun j => .int (xs j)) := by
        intro a b as hst
        obtain ⟨v, h1, h2, c1, c2, ⟨c3, c4⟩, c5⟩ := hst t h ht hh
        have s1 := old c1 i1 hs
        exact ⟨v, h1, h2, c1, c2, ⟨c3, s1⟩, c4, c5, old c2 c3 s1⟩
      have doL : ∀ {a b : Nat} {as : List Value}, lx_stL Inv d a b as → ∃ v h1 h2, am_sem d a (.ref 29 :: as) h = some (some (.long v), h1) ∧ am_sem d b (.ref 113 :: as) h1 = some (some (.long v), h2) ∧ lx_scr n xs h1 ∧ (h1.2.2 113).1 = 10 ∧ Inv (t + 1) h2 ∧ h2.2.2 28 = (100, n, fun j => .int (xs j)) := by
        intro a b as hst
        obtain ⟨v, h1, h2, c1, c2, ⟨c3, c4⟩, c5⟩ := hst t h ht hh
        have s1 := old c1 i1 hs
        exact ⟨v, h1, h2, c1, c2, ⟨c3, s1⟩, c4, c5, old c2 c3 s1⟩
      rw [lx_at S z0 (by omega) hn]
      simp only [Option.bind_some]
      by_cases q0 : (xs z.toNat &&& 63) = 0
      · rw [if_pos q0]
        simp only [R1 S, R2 S, R3 S, R4 S, R5 S, Option.bind_some, lx_k i1 (by decide) i2, cond_true]
        obtain ⟨v, h1, h2, e1, e2, e3, e4, e5, e6⟩ := doI (c0 _ _ _ _ _)
        rw [e1]
        simp only [am_cI, R1 e3, R2 e3, R3 e3, R4 e3, R5 e3, Option.bind_some, lx_k e3.1 (by decide) e4, cond_true]
        rw [e2]
        simp only [am_cI, lx_cmp, if_true]
        exact nxt (t + 1) h2 (by omega) e5 e6
      rw [if_neg q0]
      by_cases q1 : (xs z.toNat &&& 63) = 1
      · rw [if_pos q1]
        simp only [R1 S, R2 S, R3 S, R4 S, R5 S, Option.bind_some, lx_k i1 (by decide) i2, cond_true]
        obtain ⟨v, h1, h2, e1, e2, e3, e4, e5, e6⟩ := doI (c1 _)
        rw [e1]
        simp only [am_cI, R1 e3, R2 e3, R3 e3, R4 e3, R5 e3, Option.bind_some, lx_k e3.1 (by decide) e4, cond_true]
        rw [e2]
        simp only [am_cI, lx_cmp, if_true]
        exact nxt (t + 1) h2 (by omega) e5 e6
      rw [if_neg q1]
      by_cases q2 : (xs z.toNat &&& 63) = 2
      · rw [if_pos q2]
        simp only [R1 S, R2 S, R3 S, R4 S, R5 S, Option.bind_some, lx_k i1 (by decide) i2, cond_true]
        obtain ⟨v, h1, h2, e1, e2, e3, e4, e5, e6⟩ := doI (c2)
        rw [e1]
        simp only [am_cI, R1 e3, R2 e3, R3 e3, R4 e3, R5 e3, Option.bind_some, lx_k e3.1 (by decide) e4, cond_true]
        rw [e2]
        simp only [am_cI, lx_cmp, if_true]
        exact nxt (t + 1) h2 (by omega) e5 e6
      rw [if_neg q2]
      by_cases q3 : (xs z.toNat &&& 63) = 3
      · rw [if_pos q3]
        simp only [R1 S, R2 S, R3 S, R4 S, R5 S, Option.bind_some, lx_k i1 (by decide) i2, cond_true]
        obtain ⟨v, h1, h2, e1, e2, e3, e4, e5, e6⟩ := doI (c3)
        rw [e1]
        simp only [am_cI, R1 e3, R2 e3, R3 e3, R4 e3, R5 e3, Option.bind_some, lx_k e3.1 (by decide) e4, cond_true]
        rw [e2]
        simp only [am_cI, lx_cmp, if_true]
        exact nxt (t + 1) h2 (by omega) e5 e6
      rw [if_neg q3]
      by_cases q4 : (xs z.toNat &&& 63) = 4
      · rw [if_pos q4]
        simp only [R1 S, R2 S, R3 S, R4 S, R5 S, Option.bind_some, lx_k i1 (by decide) i2, cond_true]
        obtain ⟨v, h1, h2, e1, e2, e3, e4, e5, e6⟩ := doI (c4 _ _)
        rw [e1]
        simp only [am_cI, R1 e3, R2 e3, R3 e3, R4 e3, R5 e3, Option.bind_some, lx_k e3.1 (by decide) e4, cond_true]
        rw [e2]
        simp only [am_cI, lx_cmp, if_true]
        exact nxt (t + 1) h2 (by omega) e5 e6
      rw [if_neg q4]
      by_cases q5 : (xs z.toNat &&& 63) = 5
      · rw [if_pos q5]
        simp only [R1 S, R2 S, R3 S, R4 S, R5 S, Option.bind_some, lx_k i1 (by decide) i2, cond_true]
        obtain ⟨v, h1, h2, e1, e2, e3, e4, e5, e6⟩ := doI (c5 _ _)
        rw [e1]
        simp only [am_cI, R1 e3, R2 e3, R3 e3, R4 e3, R5 e3, Option.bind_some, lx_k e3.1 (by decide) e4, cond_true]
        rw [e2]
        simp only [am_cI, lx_cmp, if_true]
        exact nxt (t + 1) h2 (by omega) e5 e6
      rw [if_neg q5]
      by_cases q6 : (xs z.toNat &&& 63) = 6
      · rw [if_pos q6]
        simp only [R1 S, R2 S, R3 S, R4 S, R5 S, Option.bind_some, lx_k i1 (by decide) i2, cond_true]
        obtain ⟨v, h1, h2, e1, e2, e3, e4, e5, e6⟩ := doL (c6 _ _)
        rw [e1]
        simp only [am_cL, R1 e3, R2 e3, R3 e3, R4 e3, R5 e3, Option.bind_some, lx_k e3.1 (by decide) e4, cond_true]
        rw [e2]
        simp only [am_cL, lx_cmp, if_true]
        exact nxt (t + 1) h2 (by omega) e5 e6
      rw [if_neg q6]
      by_cases q7 : (xs z.toNat &&& 63) = 7
      · rw [if_pos q7]
        simp only [R1 S, R2 S, R3 S, R4 S, R5 S, Option.bind_some, lx_k i1 (by decide) i2, cond_true]
        obtain ⟨v, h1, h2, e1, e2, e3, e4, e5, e6⟩ := doI (c7 _ _)
        rw [e1]
        simp only [am_cI, R1 e3, R2 e3, R3 e3, R4 e3, R5 e3, Option.bind_some, lx_k e3.1 (by decide) e4, cond_true]
        rw [e2]
        simp only [am_cI, lx_cmp, if_true]
        exact nxt (t + 1) h2 (by omega) e5 e6
      rw [if_neg q7]
      by_cases q8 : (xs z.toNat &&& 63) = 8
      · rw [if_pos q8]
        simp only [R1 S, R2 S, R3 S, R4 S, R5 S, Option.bind_some, lx_k i1 (by decide) i2, cond_true]
        obtain ⟨v, h1, h2, e1, e2, e3, e4, e5, e6⟩ := doI (c8)
        rw [e1]
        simp only [am_cI, R1 e3, R2 e3, R3 e3, R4 e3, R5 e3, Option.bind_some, lx_k e3.1 (by decide) e4, cond_true]
        rw [e2]
        simp only [am_cI, lx_cmp, if_true]
        exact nxt (t + 1) h2 (by omega) e5 e6
      rw [if_neg q8]
      by_cases q9 : (xs z.toNat &&& 63) = 9
      · rw [if_pos q9]
        simp only [R1 S, R2 S, R3 S, R4 S, R5 S, Option.bind_some, lx_k i1 (by decide) i2, cond_true]
        obtain ⟨v, h1, h2, e1, e2, e3, e4, e5, e6⟩ := doI (c9 _ _ _)
        rw [e1]
        simp only [am_cI, R1 e3, R2 e3, R3 e3, R4 e3, R5 e3, Option.bind_some, lx_k e3.1 (by decide) e4, cond_true]
        rw [e2]
        simp only [am_cI, lx_cmp, if_true]
        exact nxt (t + 1) h2 (by omega) e5 e6
      rw [if_neg q9]
      by_cases q10 : (xs z.toNat &&& 63) = 10
      · rw [if_pos q10]
        simp only [R1 S, R2 S, R3 S, R4 S, R5 S, Option.bind_some, lx_k i1 (by decide) i2, cond_true]
        obtain ⟨v, h1, h2, e1, e2, e3, e4, e5, e6⟩ := doI (c10 _ _)
        rw [e1]
        simp only [am_cI, R1 e3, R2 e3, R3 e3, R4 e3, R5 e3, Option.bind_some, lx_k e3.1 (by decide) e4, cond_true]
        rw [e2]
        simp only [am_cI, lx_cmp, if_true]
        exact nxt (t + 1) h2 (by omega) e5 e6
      rw [if_neg q10]
      by_cases q11 : (xs z.toNat &&& 63) = 11
      · rw [if_pos q11]
        simp only [R1 S, R2 S, R3 S, R4 S, R5 S, Option.bind_some, lx_k i1 (by decide) i2, cond_true]
        obtain ⟨v, h1, h2, e1, e2, e3, e4, e5, e6⟩ := doL (c11)
        rw [e1]
        simp only [am_cL, R1 e3, R2 e3, R3 e3, R4 e3, R5 e3, Option.bind_some, lx_k e3.1 (by decide) e4, cond_true]
        rw [e2]
        simp only [am_cL, lx_cmp, if_true]
        exact nxt (t + 1) h2 (by omega) e5 e6
      rw [if_neg q11]
      by_cases q12 : (xs z.toNat &&& 63) = 12
      · rw [if_pos q12]
        simp only [R1 S, R2 S, R3 S, R4 S, R5 S, Option.bind_some, lx_k i1 (by decide) i2, cond_true]
        obtain ⟨v, h1, h2, e1, e2, e3, e4, e5, e6⟩ := doL (c12 _ _)
        rw [e1]
        simp only [am_cL, R1 e3, R2 e3, R3 e3, R4 e3, R5 e3, Option.bind_some, lx_k e3.1 (by decide) e4, cond_true]
        rw [e2]
        simp only [am_cL, lx_cmp, if_true]
        exact nxt (t + 1) h2 (by omega) e5 e6
      rw [if_neg q12]
      by_cases q13 : (xs z.toNat &&& 63) = 13
      · rw [if_pos q13]
        simp only [R1 S, R2 S, R3 S, R4 S, R5 S, Option.bind_some, lx_k i1 (by decide) i2, cond_true]
        obtain ⟨v, h1, h2, e1, e2, e3, e4, e5, e6⟩ := doL (c13 _)
        rw [e1]
        simp only [am_cL, R1 e3, R2 e3, R3 e3, R4 e3, R5 e3, Option.bind_some, lx_k e3.1 (by decide) e4, cond_true]
        rw [e2]
        simp only [am_cL, lx_cmp, if_true]
        exact nxt (t + 1) h2 (by omega) e5 e6
      rw [if_neg q13]
      by_cases q14 : (xs z.toNat &&& 63) = 14
      · rw [if_pos q14]
        simp only [R1 S, R2 S, R3 S, R4 S, R5 S, Option.bind_some, lx_k i1 (by decide) i2, cond_true]
        obtain ⟨v, h1, h2, e1, e2, e3, e4, e5, e6⟩ := doI (c14 _)
        rw [e1]
        simp only [am_cI, R1 e3, R2 e3, R3 e3, R4 e3, R5 e3, Option.bind_some, lx_k e3.1 (by decide) e4, cond_true]
        rw [e2]
        simp only [am_cI, lx_cmp, if_true]
        exact nxt (t + 1) h2 (by omega) e5 e6
      rw [if_neg q14]
      by_cases q15 : (xs z.toNat &&& 63) = 15
      · rw [if_pos q15]
        simp only [R1 S, R2 S, R3 S, R4 S, R5 S, Option.bind_some, lx_k i1 (by decide) i2, cond_true]
        obtain ⟨v, h1, h2, e1, e2, e3, e4, e5, e6⟩ := doI (c15)
        rw [e1]
        simp only [am_cI, R1 e3, R2 e3, R3 e3, R4 e3, R5 e3, Option.bind_some, lx_k e3.1 (by decide) e4, cond_true]
        rw [e2]
        simp only [am_cI, lx_cmp, if_true]
        exact nxt (t + 1) h2 (by omega) e5 e6
      rw [if_neg q15]
      by_cases q16 : (xs z.toNat &&& 63) = 16
      · rw [if_pos q16]
        simp only [R1 S, R2 S, R3 S, R4 S, R5 S, Option.bind_some, lx_k i1 (by decide) i2, cond_true]
        obtain ⟨v, h1, h2, e1, e2, e3, e4, e5, e6⟩ := doL (c16 _ _)
        rw [e1]
        simp only [am_cL, R1 e3, R2 e3, R3 e3, R4 e3, R5 e3, Option.bind_some, lx_k e3.1 (by decide) e4, cond_true]
        rw [e2]
        simp only [am_cL, lx_cmp, if_true]
        exact nxt (t + 1) h2 (by omega) e5 e6
      rw [if_neg q16]
      by_cases q17 : (xs z.toNat &&& 63) = 17
      · rw [if_pos q17]
        simp only [R1 S, R2 S, R3 S, R4 S, R5 S, Option.bind_some, lx_k i1 (by decide) i2, cond_true]
        obtain ⟨v, h1, h2, e1, e2, e3, e4, e5, e6⟩ := doI (c17 _)
        rw [e1]
        simp only [am_cI, R1 e3, R2 e3, R3 e3, R4 e3, R5 e3, Option.bind_some, lx_k e3.1 (by decide) e4, cond_true]
        rw [e2]
        simp only [am_cI, lx_cmp, if_true]
        exact nxt (t + 1) h2 (by omega) e5 e6
      rw [if_neg q17]
      by_cases q18 : (xs z.toNat &&& 63) = 18
      · rw [if_pos q18]
        simp only [R1 S, R2 S, R3 S, R4 S, R5 S, Option.bind_some, lx_k i1 (by decide) i2, cond_true]
        obtain ⟨v, h1, h2, e1, e2, e3, e4, e5, e6⟩ := doL (c18 _ _)
        rw [e1]
        simp only [am_cL, R1 e3, R2 e3, R3 e3, R4 e3, R5 e3, Option.bind_some, lx_k e3.1 (by decide) e4, cond_true]
        rw [e2]
        simp only [am_cL, lx_cmp, if_true]
        exact nxt (t + 1) h2 (by omega) e5 e6
      rw [if_neg q18]
      by_cases q19 : (xs z.toNat &&& 63) = 19
      · rw [if_pos q19]
        simp only [R1 S, R2 S, R3 S, R4 S, R5 S, Option.bind_some, lx_k i1 (by decide) i2, cond_true]
        obtain ⟨v, h1, h2, e1, e2, e3, e4, e5, e6⟩ := doL (c19)
        rw [e1]
        simp only [am_cL, R1 e3, R2 e3, R3 e3, R4 e3, R5 e3, Option.bind_some, lx_k e3.1 (by decide) e4, cond_true]
        rw [e2]
        simp only [am_cL, lx_cmp, if_true]
        exact nxt (t + 1) h2 (by omega) e5 e6
      rw [if_neg q19]
      by_cases q20 : (xs z.toNat &&& 63) = 20
      · rw [if_pos q20]
        simp only [R1 S, R2 S, R3 S, R4 S, R5 S, Option.bind_some, lx_k i1 (by decide) i2, cond_true]
        obtain ⟨v, h1, h2, e1, e2, e3, e4, e5, e6⟩ := doL (c20)
        rw [e1]
        simp only [am_cL, R1 e3, R2 e3, R3 e3, R4 e3, R5 e3, Option.bind_some, lx_k e3.1 (by decide) e4, cond_true]
        rw [e2]
        simp only [am_cL, lx_cmp, if_true]
        exact nxt (t + 1) h2 (by omega) e5 e6
      rw [if_neg q20]
      by_cases q21 : (xs z.toNat &&& 63) = 21
      · rw [if_pos q21]
        simp only [R1 S, R2 S, R3 S, R4 S, R5 S, Option.bind_some, lx_k i1 (by decide) i2, cond_true]
        obtain ⟨v, h1, h2, e1, e2, e3, e4, e5, e6⟩ := doI (c21 _ _)
        rw [e1]
        simp only [am_cI, R1 e3, R2 e3, R3 e3, R4 e3, R5 e3, Option.bind_some, lx_k e3.1 (by decide) e4, cond_true]
        rw [e2]
        simp only [am_cI, lx_cmp, if_true]
        exact nxt (t + 1) h2 (by omega) e5 e6
      rw [if_neg q21]
      by_cases q22 : (xs z.toNat &&& 63) = 22
      · rw [if_pos q22]
        simp only [R1 S, R2 S, R3 S, R4 S, R5 S, Option.bind_some, lx_k i1 (by decide) i2, cond_true]
        obtain ⟨v, h1, h2, e1, e2, e3, e4, e5, e6⟩ := doI (c22 _ _ _)
        rw [e1]
        simp only [am_cI, R1 e3, R2 e3, R3 e3, R4 e3, R5 e3, Option.bind_some, lx_k e3.1 (by decide) e4, cond_true]
        rw [e2]
        simp only [am_cI, lx_cmp, if_true]
        exact nxt (t + 1) h2 (by omega) e5 e6
      rw [if_neg q22]
      by_cases q23 : (xs z.toNat &&& 63) = 23
      · rw [if_pos q23]
        simp only [R1 S, R2 S, R3 S, R4 S, R5 S, Option.bind_some, lx_k i1 (by decide) i2, cond_true]
        obtain ⟨v, h1, h2, e1, e2, e3, e4, e5, e6⟩ := doL (c23 _)
        rw [e1]
        simp only [am_cL, R1 e3, R2 e3, R3 e3, R4 e3, R5 e3, Option.bind_some, lx_k e3.1 (by decide) e4, cond_true]
        rw [e2]
        simp only [am_cL, lx_cmp, if_true]
        exact nxt (t + 1) h2 (by omega) e5 e6
      rw [if_neg q23]
      by_cases q24 : (xs z.toNat &&& 63) = 24
      · rw [if_pos q24]
        simp only [R1 S, R2 S, R3 S, R4 S, R5 S, Option.bind_some, lx_k i1 (by decide) i2, cond_true]
        obtain ⟨v, h1, h2, e1, e2, e3, e4, e5, e6⟩ := doL (c24 _)
        rw [e1]
        simp only [am_cL, R1 e3, R2 e3, R3 e3, R4 e3, R5 e3, Option.bind_some, lx_k e3.1 (by decide) e4, cond_true]
        rw [e2]
        simp only [am_cL, lx_cmp, if_true]
        exact nxt (t + 1) h2 (by omega) e5 e6
      rw [if_neg q24]
      by_cases q25 : (xs z.toNat &&& 63) = 25
      · rw [if_pos q25]
        simp only [R1 S, R2 S, R3 S, R4 S, R5 S, Option.bind_some, lx_k i1 (by decide) i2, cond_true]
        obtain ⟨v, h1, h2, e1, e2, e3, e4, e5, e6⟩ := doL (c25 _)
        rw [e1]
        simp only [am_cL, R1 e3, R2 e3, R3 e3, R4 e3, R5 e3, Option.bind_some, lx_k e3.1 (by decide) e4, cond_true]
        rw [e2]
        simp only [am_cL, lx_cmp, if_true]
        exact nxt (t + 1) h2 (by omega) e5 e6
      rw [if_neg q25]
      by_cases q26 : (xs z.toNat &&& 63) = 26
      · rw [if_pos q26]
        simp only [R1 S, R2 S, R3 S, R4 S, R5 S, Option.bind_some, lx_k i1 (by decide) i2, cond_true]
        obtain ⟨v, h1, h2, e1, e2, e3, e4, e5, e6⟩ := doI (c26 _ _)
        rw [e1]
        simp only [am_cI, R1 e3, R2 e3, R3 e3, R4 e3, R5 e3, Option.bind_some, lx_k e3.1 (by decide) e4, cond_true]
        rw [e2]
        simp only [am_cI, lx_cmp, if_true]
        exact nxt (t + 1) h2 (by omega) e5 e6
      rw [if_neg q26]
      by_cases q27 : (xs z.toNat &&& 63) = 27
      · rw [if_pos q27]
        simp only [R1 S, R2 S, R3 S, R4 S, R5 S, Option.bind_some, lx_k i1 (by decide) i2, cond_true]
        obtain ⟨v, h1, h2, e1, e2, e3, e4, e5, e6⟩ := doL (c27 _ _)
        rw [e1]
        simp only [am_cL, R1 e3, R2 e3, R3 e3, R4 e3, R5 e3, Option.bind_some, lx_k e3.1 (by decide) e4, cond_true]
        rw [e2]
        simp only [am_cL, lx_cmp, if_true]
        exact nxt (t + 1) h2 (by omega) e5 e6
      rw [if_neg q27]
      by_cases q28 : (xs z.toNat &&& 63) = 28
      · rw [if_pos q28]
        simp only [R1 S, R2 S, R3 S, R4 S, R5 S, Option.bind_some, lx_k i1 (by decide) i2, cond_true]
        obtain ⟨v, h1, h2, e1, e2, e3, e4, e5, e6⟩ := doI (c28 _)
        rw [e1]
        simp only [am_cI, R1 e3, R2 e3, R3 e3, R4 e3, R5 e3, Option.bind_some, lx_k e3.1 (by decide) e4, cond_true]
        rw [e2]
        simp only [am_cI, lx_cmp, if_true]
        exact nxt (t + 1) h2 (by omega) e5 e6
      rw [if_neg q28]
      by_cases q29 : (xs z.toNat &&& 63) = 29
      · rw [if_pos q29]
        simp only [R1 S, R2 S, R3 S, R4 S, R5 S, Option.bind_some, lx_k i1 (by decide) i2, cond_true]
        obtain ⟨v, h1, h2, e1, e2, e3, e4, e5, e6⟩ := doI (c29 _)
        rw [e1]
        simp only [am_cI, R1 e3, R2 e3, R3 e3, R4 e3, R5 e3, Option.bind_some, lx_k e3.1 (by decide) e4, cond_true]
        rw [e2]
        simp only [am_cI, lx_cmp, if_true]
        exact nxt (t + 1) h2 (by omega) e5 e6
      rw [if_neg q29]
      by_cases q30 : (xs z.toNat &&& 63) = 30
      · rw [if_pos q30]
        simp only [R1 S, R2 S, R3 S, R4 S, R5 S, Option.bind_some, lx_k i1 (by decide) i2, cond_true]
        obtain ⟨v, h1, h2, e1, e2, e3, e4, e5, e6⟩ := doL (c30 _)
        rw [e1]
        simp only [am_cL, R1 e3, R2 e3, R3 e3, R4 e3, R5 e3, Option.bind_some, lx_k e3.1 (by decide) e4, cond_true]
        rw [e2]
        simp only [am_cL, lx_cmp, if_true]
        exact nxt (t + 1) h2 (by omega) e5 e6
      rw [if_neg q30]
      by_cases q31 : (xs z.toNat &&& 63) = 31
      · rw [if_pos q31]
        simp only [R1 S, R2 S, R3 S, R4 S, R5 S, Option.bind_some, lx_k i1 (by decide) i2, cond_true]
        obtain ⟨v, h1, h2, e1, e2, e3, e4, e5, e6⟩ := doI (c31 _)
        rw [e1]
        simp only [am_cI, R1 e3, R2 e3, R3 e3, R4 e3, R5 e3, Option.bind_some, lx_k e3.1 (by decide) e4, cond_true]
        rw [e2]
        simp only [am_cI, lx_cmp, if_true]
        exact nxt (t + 1) h2 (by omega) e5 e6
      rw [if_neg q31]
      by_cases q32 : (xs z.toNat &&& 63) = 32
      · rw [if_pos q32]
        simp only [R1 S, R2 S, R3 S, R4 S, R5 S, Option.bind_some, lx_k i1 (by decide) i2, cond_true]
        obtain ⟨v, h1, h2, e1, e2, e3, e4, e5, e6⟩ := doI (c32 _)
        rw [e1]
        simp only [am_cI, R1 e3, R2 e3, R3 e3, R4 e3, R5 e3, Option.bind_some, lx_k e3.1 (by decide) e4, cond_true]
        rw [e2]
        simp only [am_cI, lx_cmp, if_true]
        exact nxt (t + 1) h2 (by omega) e5 e6
      rw [if_neg q32]
      by_cases q33 : (xs z.toNat &&& 63) = 33
      · rw [if_pos q33]
        simp only [R1 S, R2 S, R3 S, R4 S, R5 S, Option.bind_some, lx_k i1 (by decide) i2, cond_true]
        obtain ⟨v, h1, h2, e1, e2, e3, e4, e5, e6⟩ := doI (c33 _)
        rw [e1]
        simp only [am_cI, R1 e3, R2 e3, R3 e3, R4 e3, R5 e3, Option.bind_some, lx_k e3.1 (by decide) e4, cond_true]
        rw [e2]
        simp only [am_cI, lx_cmp, if_true]
        exact nxt (t + 1) h2 (by omega) e5 e6
      rw [if_neg q33]
      by_cases q34 : (xs z.toNat &&& 63) = 34
      · rw [if_pos q34]
        simp only [R1 S, R2 S, R3 S, R4 S, R5 S, Option.bind_some, lx_k i1 (by decide) i2, cond_true]
        obtain ⟨v, h1, h2, e1, e2, e3, e4, e5, e6⟩ := doI (c34)
        rw [e1]
        simp only [am_cI, R1 e3, R2 e3, R3 e3, R4 e3, R5 e3, Option.bind_some, lx_k e3.1 (by decide) e4, cond_true]
        rw [e2]
        simp only [am_cI, lx_cmp, if_true]
        exact nxt (t + 1) h2 (by omega) e5 e6
      rw [if_neg q34]
      exact nxt t h (by omega) hh hs
/-- the whole law: from the start on -/
theorem lx_law (Inv : Nat → AH → Prop) (hI : ∀ t h, Inv t h → h.1 = 140 ∧ (h.2.2 29).1 = 9 ∧ (h.2.2 113).1 = 10 ∧ h.2.1 = 17062) (h0 : ∀ h, px_ok 107 h → (∀ q ∈ px_facts, px_n h q.1 q.2.1 = q.2.2) → Inv 0 h) {d : Nat} (hd : 6 ≤ d) (hdm : ∀ {k : Nat} {j as h y}, am_sem k j as h = some y → k ≤ d → am_sem d j as h = some y)
    (c0 : ∀ (x1 : Int32) (x2 : Int32) (x3 : Int32) (x4 : Int32) (x5 : Int32), lx_stI Inv d 102 159 [.int x1, .int x2, .int x3, .int x4, .int x5])
    (c1 : ∀ (x1 : Int32), lx_stI Inv d 104 160 [.int x1])
    (c2 : lx_stI Inv d 105 179 [])
    (c3 : lx_stI Inv d 106 180 [])
    (c4 : ∀ (x1 : Int32) (x2 : Int32), lx_stI Inv d 107 193 [.int x1, .int x2])
    (c5 : ∀ (x1 : Int32) (x2 : Int32), lx_stI Inv d 108 194 [.int x1, .int x2])
    (c6 : ∀ (x1 : Int32) (x2 : Int32), lx_stL Inv d 109 195 [.int x1, .int x2])
    (c7 : ∀ (x1 : Int32) (x2 : Int32), lx_stI Inv d 110 196 [.int x1, .int x2])
    (c8 : lx_stI Inv d 111 197 [])
    (c9 : ∀ (x1 : Int32) (x2 : Int32) (x3 : Int32), lx_stI Inv d 112 198 [.int x1, .int x2, .int x3])
    (c10 : ∀ (x1 : Int32) (x2 : Int32), lx_stI Inv d 113 199 [.int x1, .int x2])
    (c11 : lx_stL Inv d 114 205 [])
    (c12 : ∀ (x1 : Int32) (x2 : Int32), lx_stL Inv d 115 206 [.int x1, .int x2])
    (c13 : ∀ (x1 : Int32), lx_stL Inv d 116 211 [.int x1])
    (c14 : ∀ (x1 : Int32), lx_stI Inv d 117 212 [.int x1])
    (c15 : lx_stI Inv d 118 213 [])
    (c16 : ∀ (x1 : Int32) (x2 : Int32), lx_stL Inv d 119 217 [.int x1, .int x2])
    (c17 : ∀ (x1 : Int32), lx_stI Inv d 120 218 [.int x1])
    (c18 : ∀ (x1 : Int32) (x2 : Int32), lx_stL Inv d 121 221 [.int x1, .int x2])
    (c19 : lx_stL Inv d 122 224 [])
    (c20 : lx_stL Inv d 123 207 [])
    (c21 : ∀ (x1 : Int32) (x2 : Int32), lx_stI Inv d 124 208 [.int x1, .int x2])
    (c22 : ∀ (x1 : Int32) (x2 : Int64) (x3 : Int32), lx_stI Inv d 125 228 [.int x1, .long x2, .int x3])
    (c23 : ∀ (x1 : Int32), lx_stL Inv d 126 229 [.int x1])
    (c24 : ∀ (x1 : Int32), lx_stL Inv d 128 236 [.int x1])
    (c25 : ∀ (x1 : Int32), lx_stL Inv d 129 237 [.int x1])
    (c26 : ∀ (x1 : Int32) (x2 : Int32), lx_stI Inv d 130 244 [.int x1, .int x2])
    (c27 : ∀ (x1 : Int32) (x2 : Int32), lx_stL Inv d 131 245 [.int x1, .int x2])
    (c28 : ∀ (x1 : Int32), lx_stI Inv d 132 246 [.int x1])
    (c29 : ∀ (x1 : Int32), lx_stI Inv d 133 248 [.int x1])
    (c30 : ∀ (x1 : Int32), lx_stL Inv d 134 249 [.int x1])
    (c31 : ∀ (x1 : Int32), lx_stI Inv d 135 151 [.int x1])
    (c32 : ∀ (x1 : Int32), lx_stI Inv d 136 152 [.int x1])
    (c33 : ∀ (x1 : Int32), lx_stI Inv d 137 250 [.int x1])
    (c34 : lx_stI Inv d 138 251 []) (n : Nat) (xs : Nat → Int32) (hn : n ≤ 3072) : ∃ hf : AH, am_rn qL_law uL_law 3 (am_sem d) 0 [(0, .ref 28)] (am_h0 n xs) = some (some (.int 1), hf) ∧ hf.1 ≤ 600000 ∧ hf.2.1 ≤ 7302250 := by
  obtain ⟨b1, b2, b3, b4, b5, b6⟩ := px_begin n xs
  rw [am_rn_eq _ _ _ (am_sem_mono d), eL_law_0]
  rw [show am_sem d 101 [.ref (am_h0 n xs).1] (am_new (am_h0 n xs) (9, 16, fun j => am_dflt (am_fty 9 j))) = some (none, px_h1 n xs) from hdm b1 hd]
  simp only [am_cV]
  rw [b2]
  rw [show am_sem d 150 [.ref 113] (am_new (px_h1 n xs) (10, 49, fun j => am_dflt (am_fty 10 j))) = some (none, px_h2 n xs) from hdm b3 hd]
  simp only []
  obtain ⟨hf, e1, e2, e3⟩ := lx_loop Inv hI c0 c1 c2 c3 c4 c5 c6 c7 c8 c9 c10 c11 c12 c13 c14 c15 c16 c17 c18 c19 c20 c21 c22 c23 c24 c25 c26 c27 c28 c29 c30 c31 c32 c33 c34 hn (n + 1) 0 0 (px_h2 n xs) (by omega) (by omega) (by omega) (by omega) (h0 _ b4 b6) b5
  exact ⟨hf, e1, by omega, by omega⟩
end
section
/-! THE MACHINE OF WHOLE NUMBERS: what is wanted of the numbers from one cut to the next, as one proposition -/
abbrev ZV : Type := Int ⊕ (Int ⊕ Nat)
abbrev ZM : Type := Nat → Int → Int
abbrev ZL : Type := List (Nat × ZV)
abbrev zI (x : Int) : ZV := .inl x
abbrev zJ (x : Int) : ZV := .inr (.inl x)
abbrev zA (a : Nat) : ZV := .inr (.inr a)
def zv : ZV → Value
  | .inl x => .int (zi x)
  | .inr (.inl x) => .long (zl x)
  | .inr (.inr a) => .ref a
def r32 (x : Int) : Prop := -2147483648 ≤ x ∧ x ≤ 2147483647
def r64 (x : Int) : Prop := -9223372036854775808 ≤ x ∧ x ≤ 9223372036854775807
def zr : ZV → Prop
  | .inl x => r32 x
  | .inr (.inl x) => r64 x
  | .inr (.inr _) => True
def zt_tab : List (Nat × Nat) := [(11, 2), (11, 2), (11, 2), (11, 2), (11, 2), (11, 2), (11, 2), (11, 2), (11, 2), (11, 2), (11, 2), (11, 2), (11, 2), (102, 4), (102, 2), (102, 4), (102, 2), (102, 3), (102, 3), (102, 4), (102, 5), (102, 3), (102, 2), (102, 3), (102, 3), (102, 2), (100, 4), (100, 4), (999, 0), (9, 16), (102, 400), (3, 11), (100, 16), (100, 16), (100, 16), (100, 16), (100, 48), (100, 48), (100, 16), (100, 16), (100, 16), (100, 400), (5, 10), (0, 3), (3, 11), (100, 16), (100, 16), (100, 16), (100, 16), (100, 48), (100, 48), (100, 16), (100, 16), (100, 16), (100, 400), (100, 4), (100, 18), (104, 2), (0, 3), (3, 11), (100, 16), (100, 16), (100, 16), (100, 16), (100, 48), (100, 48), (100, 16), (100, 16), (100, 16), (100, 400), (100, 4), (100, 18), (0, 3), (3, 11), (100, 16), (100, 16), (100, 16), (100, 16), (100, 48), (100, 48), (100, 16), (100, 16), (100, 16), (100, 400), (100, 4), (100, 18), (103, 2), (7, 4), (101, 32), (1, 11), (100, 16), (100, 18), (101, 176), (100, 176), (100, 48), (100, 11), (6, 10), (100, 6), (100, 18), (100, 16), (4, 7), (101, 352), (100, 12), (100, 6), (100, 2), (100, 2), (2, 7), (101, 384), (101, 384), (101, 16), (8, 5), (100, 11), (100, 4), (10, 49), (100, 7), (100, 984), (100, 1968), (103, 2), (102, 53), (102, 400), (100, 5), (100, 401), (100, 401), (100, 401), (100, 160), (100, 3), (100, 176), (100, 18), (101, 176), (100, 6), (100, 6), (100, 18), (101, 1936), (100, 12), (101, 352), (101, 176), (101, 18), (101, 2304), (101, 2304), (100, 11)]
def zt (a : Nat) : Nat × Nat := zt_tab.getD a (999, 0)
def zk (a : Nat) : Nat := (zt a).1
def zn (a : Nat) : Nat := (zt a).2
/-- 0 an int, 1 a long, 2 a cell by its number in the memory, t + 3 the cell t -/
def zob : List (Nat × List Nat) := [(29, [33, 0, 0, 34, 45, 46, 60, 89, 90, 92, 99, 103, 109, 113, 115, 0]),
  (31, [0, 35, 36, 37, 38, 39, 40, 41, 42, 43, 44]),
  (42, [33, 34, 0, 0, 0, 0, 0, 0, 0, 0]),
  (43, [47, 58, 59]),
  (44, [0, 48, 49, 50, 51, 52, 53, 54, 55, 56, 57]),
  (58, [62, 73, 74]),
  (59, [0, 63, 64, 65, 66, 67, 68, 69, 70, 71, 72]),
  (72, [76, 87, 88]),
  (73, [0, 77, 78, 79, 80, 81, 82, 83, 84, 85, 86]),
  (87, [91, 0, 0, 0]),
  (89, [46, 47, 90, 93, 94, 0, 95, 96, 0, 97, 98]),
  (96, [92, 100, 101, 102, 0, 0, 0, 0, 1, 1]),
  (100, [92, 104, 105, 106, 107, 108, 1]),
  (106, [92, 2, 2, 0, 112, 1, 1]),
  (110, [46, 90, 114, 0, 1]),
  (113, [0, 0, 117, 118, 119, 120, 121, 122, 123, 0, 0, 124, 125, 126, 0, 0, 0, 0, 127, 0, 0, 0, 0, 0, 128, 129, 0, 130, 131, 0, 132, 133, 1, 0, 0, 134, 135, 136, 137, 138, 139, 140, 141, 1, 1, 142, 0, 0, 0])]
def zg (a i : Nat) : Nat := bif Nat.ble 100 (zk a) then (bif Nat.beq (zk a) 101 then 1 else bif Nat.beq (zk a) 104 then (bif Nat.beq i 0 then 61 else 75) else 0) else bif Nat.beq (zk a) 11 then (bif Nat.beq i 0 then a + 16 else 0) else match am_look zob a with
  | some l => l.getD i 0
  | none => 0
def zval (t : Nat) (x : Int) : Value := match t with
  | 0 => .int (zi x)
  | 1 => .long (zl x)
  | 2 => .ref x.toNat
  | t + 3 => .ref t
def zrt (t : Nat) (x : Int) : Prop := match t with
  | 0 => r32 x
  | 1 => r64 x
  | 2 => x = 107 ∨ x = 108
  | _ + 3 => True
def zold : List (List Int) := [[0, 0], [0, 0], [0, 0], [0, 0], [0, 0], [0, 0], [0, 0], [0, 0], [0, 0], [0, 0], [0, 0], [0, 0], [0, 0], [102, 111, 114, 107], [116, 111], [116, 117, 114, 110], [98, 121], [105, 110, 110], [101, 110, 100], [115, 116, 101, 112], [112, 108, 97, 99, 101], [100, 97, 121], [105, 102], [110, 111, 116], [97, 110, 100], [111, 114], [0, 1, -999, -999], [15, 10, 999, 999]]
def zf (g : Nat → AC) (M : ZM) (a : Nat) : Nat → Value := fun i => if i < zn a then zval (zg a i) (M a i) else (g a).2.2 i
def hp (g : Nat → AC) (M : ZM) : AH := (140, 17062, fun a => if zk a = 999 then g a else (zk a, zn a, zf g M a))
def RG (M : ZM) : Prop := ∀ a i : Nat, zk a ≠ 999 → i < zn a → zrt (zg a i) (M a i) ∧ (a < 28 → M a i = (zold.getD a []).getD i 0)
def zup (M : ZM) (a : Nat) (j x : Int) : ZM := fun b i => if b = a ∧ i = j then x else M b i
def zcp (M : ZM) (a : Nat) (sp : Int) (b : Nat) (dp n : Int) : ZM := fun c i => if c = b ∧ dp ≤ i ∧ i < dp + n then M a (sp + (i - dp)) else M c i
theorem zup_ne {M : ZM} {a b : Nat} {j i x : Int} (h : ¬ (b = a ∧ i = j)) : zup M a j x b i = M b i := if_neg h
theorem zup_eq {M : ZM} {a : Nat} {j x : Int} : zup M a j x a j = x := if_pos ⟨rfl, rfl⟩
theorem zcp_ne {M : ZM} {a b c : Nat} {sp dp n i : Int} (h : ¬ (c = b ∧ dp ≤ i ∧ i < dp + n)) : zcp M a sp b dp n c i = M c i := if_neg h
theorem zcp_eq {M : ZM} {a b : Nat} {sp dp n i : Int} (h1 : dp ≤ i) (h2 : i < dp + n) : zcp M a sp b dp n b i = M a (sp + (i - dp)) := if_pos ⟨rfl, h1, h2⟩
theorem zt_out {a : Nat} (h : 140 ≤ a) : zt a = (999, 0) := by
  unfold zt
  rw [List.getD_eq_getElem?_getD, List.getElem?_eq_none (show zt_tab.length ≤ a from h)]
  rfl
theorem zin {a : Nat} (h : zk a ≠ 999) : a < 140 := by
  by_cases h1 : a < 140
  · exact h1
  · exact absurd (by unfold zk; rw [zt_out (by omega)]) h
set_option maxRecDepth 100000 in
theorem zn_big0 : ∀ a, a < 140 → zn a ≤ 5000 := by decide +kernel
theorem zn_big (a : Nat) : zn a ≤ 5000 := by
  by_cases h1 : a < 140
  · exact zn_big0 a h1
  · unfold zn; rw [zt_out (by omega)]; exact Nat.zero_le _
theorem hp_cell {g : Nat → AC} {M : ZM} {a : Nat} (h : zk a ≠ 999) : am_cell (hp g M) a = some (zk a, zn a, zf g M a) := by
  unfold am_cell hp
  rw [if_pos (zin h)]
  dsimp only
  rw [if_neg h]
theorem hp_f {g : Nat → AC} {M : ZM} {a ci k : Nat} (h : zk a = ci) (h9 : ci ≠ 999) (hk : k < zn a) : am_f (hp g M) a ci k = some (zval (zg a k) (M a k)) := by
  unfold am_f
  rw [hp_cell (by rw [h]; exact h9)]
  dsimp only
  rw [if_pos ⟨h, hk⟩]
  unfold zf
  rw [if_pos hk]
theorem zi_neg0 {j : Int} (h0 : 0 ≤ j) (h1 : j ≤ 2147483647) : ¬ zi j < 0 := by
  rw [show (0 : Int32) = zi 0 from zi_lit 0, zi_lt (by omega) (by omega) (by omega) (by omega)]
  omega
theorem hp_a {g : Nat → AC} {M : ZM} {a kd : Nat} {j : Int} (h : zk a = kd) (h9 : kd ≠ 999) (h0 : 0 ≤ j) (h1 : j < zn a) : am_a (hp g M) kd a (zi j) = some (zval (zg a j.toNat) (M a j)) := by
  have hb := zn_big a
  unfold am_a
  rw [hp_cell (by rw [h]; exact h9)]
  dsimp only
  rw [zi_nat h0 (by omega), if_pos ⟨h, fun q => q.elim (zi_neg0 h0 (by omega)) (fun q => by omega)⟩]
  unfold zf
  rw [if_pos (by omega), Int.toNat_of_nonneg h0]
theorem zg_100 {a : Nat} (h : zk a = 100) (i : Nat) : zg a i = 0 := by unfold zg; rw [h]; rfl
theorem zg_101 {a : Nat} (h : zk a = 101) (i : Nat) : zg a i = 1 := by unfold zg; rw [h]; rfl
theorem zg_102 {a : Nat} (h : zk a = 102) (i : Nat) : zg a i = 0 := by unfold zg; rw [h]; rfl
theorem zg_103 {a : Nat} (h : zk a = 103) (i : Nat) : zg a i = 0 := by unfold zg; rw [h]; rfl
theorem zg_104 {a : Nat} (h : zk a = 104) (i : Nat) : zg a i = bif Nat.beq i 0 then 61 else 75 := by unfold zg; rw [h]; rfl
theorem hp_set {g : Nat → AC} {M : ZM} {a n : Nat} {x : Int} {v : Value} (h9 : zk a ≠ 999) (hn : n < zn a) (hv : zval (zg a n) x = v) : am_set (hp g M) a (zk a, zn a, va_up (zf g M a) n v) = hp g (zup M a n x) := by
  unfold am_set hp
  refine Prod.ext rfl (Prod.ext rfl (funext fun b => ?_))
  show va_up _ a _ b = _
  unfold va_up
  by_cases hb : b = a
  · subst hb
    rw [if_pos rfl]
    dsimp only
    rw [if_neg h9]
    refine Prod.ext rfl (Prod.ext rfl (funext fun i => ?_))
    show (if i = n then v else zf g M b i) = zf g (zup M b n x) b i
    by_cases hi : i = n
    · subst hi
      rw [if_pos rfl]
      unfold zf zup
      rw [if_pos hn, if_pos ⟨rfl, rfl⟩, hv]
    · rw [if_neg hi]
      unfold zf
      rw [zup_ne (fun q => hi (by omega))]
  · rw [if_neg hb]
    dsimp only
    by_cases h : zk b = 999
    · rw [if_pos h, if_pos h]
    · rw [if_neg h, if_neg h]
      refine Prod.ext rfl (Prod.ext rfl (funext fun i => ?_))
      show zf g M b i = zf g (zup M a n x) b i
      unfold zf
      rw [zup_ne (fun q => hb q.1)]
theorem hp_st {g : Nat → AC} {M : ZM} {a kd : Nat} {j x : Int} {v : Value} (h : zk a = kd) (h9 : kd ≠ 999) (ho : 29 ≤ a) (h0 : 0 ≤ j) (h1 : j < zn a) (hv : zval (zg a j.toNat) x = v) : am_st (hp g M) kd a (zi j) v = some (hp g (zup M a j x)) := by
  have hb := zn_big a
  unfold am_st
  rw [hp_cell (by rw [h]; exact h9)]
  dsimp only
  rw [zi_nat h0 (by omega), if_pos ⟨h, fun q => q.elim (zi_neg0 h0 (by omega)) (fun q => by omega), ho⟩]
  rw [hp_set (by rw [h]; exact h9) (by omega) hv, Int.toNat_of_nonneg h0]
theorem hp_pf {g : Nat → AC} {M : ZM} {a ci k : Nat} {x : Int} {v : Value} (h : zk a = ci) (h9 : ci ≠ 999) (ho : 29 ≤ a) (hk : k < zn a) (hv : zval (zg a k) x = v) : am_pf (hp g M) a ci k v = some (hp g (zup M a k x)) := by
  unfold am_pf
  rw [hp_cell (by rw [h]; exact h9)]
  dsimp only
  rw [if_pos ⟨h, hk, ho⟩, hp_set (by rw [h]; exact h9) hk hv]
theorem RG.up {M : ZM} (R : RG M) {a : Nat} {j x : Int} (ho : 29 ≤ a) (hx : zrt (zg a j.toNat) x) (h0 : 0 ≤ j) : RG (zup M a j x) := by
  intro b i h9 hi
  unfold zup
  by_cases hb : b = a ∧ (i : Int) = j
  · rw [if_pos hb]
    obtain ⟨rfl, rfl⟩ := hb
    exact ⟨hx, fun q => by omega⟩
  · rw [if_neg hb]
    exact R b i h9 hi
theorem hp_cp {g : Nat → AC} {M : ZM} {a b : Nat} {sp dp n : Int} (ha : zk a = 100) (hb : zk b = 100) (ho : 29 ≤ b) (s0 : 0 ≤ sp) (d0 : 0 ≤ dp) (n0 : 0 ≤ n) (s1 : sp + n ≤ zn a) (d1 : dp + n ≤ zn b) : am_copy (hp g M) a (zi sp) b (zi dp) (zi n) = some (hp g (zcp M a sp b dp n)) := by
  have hba := zn_big a
  have hbb := zn_big b
  unfold am_copy
  rw [hp_cell (by rw [ha]; decide), hp_cell (by rw [hb]; decide)]
  dsimp only
  rw [zi_nat s0 (by omega), zi_nat d0 (by omega), zi_nat n0 (by omega)]
  rw [if_pos ⟨⟨ha, hb, ho⟩, ⟨zi_neg0 s0 (by omega), zi_neg0 d0 (by omega), zi_neg0 n0 (by omega)⟩, by omega, by omega, fun i hi => by
    unfold zf
    rw [if_pos (by omega), zg_100 ha]
    rfl⟩]
  refine congrArg some (Prod.ext rfl (Prod.ext rfl (funext fun c => ?_)))
  show va_up _ b _ c = _
  unfold va_up hp
  dsimp only
  by_cases hc : c = b
  · subst hc
    rw [if_pos rfl, if_neg (by rw [hb]; decide)]
    refine Prod.ext rfl (Prod.ext rfl (funext fun i => ?_))
    show va_cpy (zf g M a) (zf g M c) sp.toNat dp.toNat n.toNat i = zf g (zcp M a sp c dp n) c i
    unfold va_cpy zf
    by_cases hi : dp.toNat ≤ i ∧ i < dp.toNat + n.toNat
    · rw [if_pos hi, if_pos (by omega), if_pos (by omega), zcp_eq (by omega) (by omega), zg_100 ha, zg_100 hb]
      rw [show ((sp.toNat + (i - dp.toNat) : Nat) : Int) = sp + ((i : Int) - dp) by omega]
    · rw [if_neg hi, zcp_ne (fun q => hi ⟨by omega, by omega⟩)]
  · rw [if_neg hc]
    by_cases h : zk c = 999
    · rw [if_pos h, if_pos h]
    · rw [if_neg h, if_neg h]
      refine Prod.ext rfl (Prod.ext rfl (funext fun i => ?_))
      show zf g M c i = zf g (zcp M a sp b dp n) c i
      unfold zf
      rw [zcp_ne (fun q => hc q.1)]
theorem RG.cp {M : ZM} (R : RG M) {a b : Nat} {sp dp n : Int} (ha : zk a = 100) (hb : zk b = 100) (ho : 29 ≤ b) (s0 : 0 ≤ sp) (s1 : sp + n ≤ zn a) : RG (zcp M a sp b dp n) := by
  intro c i h9 hi
  unfold zcp
  by_cases hc : c = b ∧ dp ≤ (i : Int) ∧ (i : Int) < dp + n
  · rw [if_pos hc]
    obtain ⟨rfl, h1, h2⟩ := hc
    refine ⟨?_, fun q => by omega⟩
    have := (R a (sp + ((i : Int) - dp)).toNat (by rw [ha]; decide) (by omega)).1
    rw [zg_100 ha, Int.toNat_of_nonneg (by omega)] at this
    rw [zg_100 hb]
    exact this
  · rw [if_neg hc]
    exact R c i h9 hi
theorem RG.at {M : ZM} (R : RG M) {a : Nat} {j : Int} (h9 : zk a ≠ 999) (h0 : 0 ≤ j) (h1 : j < zn a) : zrt (zg a j.toNat) (M a j) := by
  have := (R a j.toNat h9 (by omega)).1
  rwa [Int.toNat_of_nonneg h0] at this
theorem hp_len {g : Nat → AC} {M : ZM} {a : Nat} (h : 100 ≤ zk a ∧ zk a < 105) : am_len (hp g M) a = some (zi (zn a : Int)) := by
  unfold am_len
  rw [hp_cell (by omega)]
  dsimp only
  rw [if_pos h]
  exact congrArg some (Int32.ofInt_eq_ofNat).symm
theorem hp_isK {g : Nat → AC} {M : ZM} {a ci : Nat} (h : Nat.beq (zk a) ci = true) (h9 : ci ≠ 999) : am_isK (hp g M) a ci = true := by
  have := Nat.eq_of_beq_eq_true h
  unfold am_isK
  rw [hp_cell (by rw [this]; exact h9)]
  exact h
/-! numbers -/
def zshl (x y : Int) : Int := (zi x <<< (zi y &&& 31)).toInt
def zshr (x y : Int) : Int := (zi x >>> (zi y &&& 31)).toInt
def zand (x y : Int) : Int := (zi x &&& zi y).toInt
def zor (x y : Int) : Int := (zi x ||| zi y).toInt
def zxor (x y : Int) : Int := (zi x ^^^ zi y).toInt
def zush (x y : Int) : Int := ((zi x).toUInt32 >>> ((zi y).toUInt32 &&& Int32.toUInt32 31)).toInt32.toInt
def zi2b (x : Int) : Int := ((zi x).toInt8.toInt32).toInt
def zi2c (x : Int) : Int := (((zi x).toUInt32 % 65536).toInt32).toInt
theorem r32_toInt (x : Int32) : r32 x.toInt := ⟨Int32.le_toInt x, by have := Int32.toInt_lt x; omega⟩
theorem r64_toInt (x : Int64) : r64 x.toInt := ⟨Int64.le_toInt x, by have := Int64.toInt_lt x; omega⟩
theorem zi_div {x y : Int} (hx : r32 x) (hy : r32 y) : zi x / zi y = zi (x.tdiv y) := by
  apply Int32.toInt_inj.mp
  rw [Int32.toInt_div, zi_toInt hx.1 hx.2, zi_toInt hy.1 hy.2]
  unfold zi
  rw [Int32.toInt_ofInt]
theorem zl_div {x y : Int} (hx : r64 x) (hy : r64 y) : zl x / zl y = zl (x.tdiv y) := by
  apply Int64.toInt_inj.mp
  rw [Int64.toInt_div, zl_toInt hx.1 hx.2, zl_toInt hy.1 hy.2]
  unfold zl
  rw [Int64.toInt_ofInt]
theorem tmod_abs (x y : Int) : (x.tmod y).natAbs ≤ x.natAbs := by
  rw [Int.natAbs_tmod]
  exact Nat.mod_le _ _
theorem zi_rem {x y : Int} (hx : r32 x) (hy : r32 y) : zi x - zi x / zi y * zi y = zi (x.tmod y) := by
  rw [zi_div hx hy, zi_mul, zi_sub, Int.tmod_def, Int.mul_comm]
theorem zl_rem {x y : Int} (hx : r64 x) (hy : r64 y) : zl x - zl x / zl y * zl y = zl (x.tmod y) := by
  rw [zl_div hx hy, zl_mul, zl_sub, Int.tmod_def, Int.mul_comm]
theorem r32_tmod {x y : Int} (hx : r32 x) : r32 (x.tmod y) := by
  have := tmod_abs x y
  have h1 := Int.tmod_nonneg (a := x) y
  have h2 := fun h => Int.tmod_nonneg (a := -x) y h
  unfold r32 at *
  rw [Int.neg_tmod] at h2
  omega
theorem r64_tmod {x y : Int} (hx : r64 x) : r64 (x.tmod y) := by
  have := tmod_abs x y
  have h1 := Int.tmod_nonneg (a := x) y
  have h2 := fun h => Int.tmod_nonneg (a := -x) y h
  unfold r64 at *
  rw [Int.neg_tmod] at h2
  omega
theorem zl_cmp {x y : Int} (hx : r64 x) (hy : r64 y) : lg_cmp (zl x) (zl y) = zi (if y < x then 1 else if x = y then 0 else -1) := by
  unfold lg_cmp
  have e1 : (zl x > zl y) = (y < x) := zl_lt hy.1 hy.2 hx.1 hx.2
  have e2 : (zl x = zl y) = (x = y) := zl_inj hx.1 hx.2 hy.1 hy.2
  by_cases h1 : y < x
  · rw [if_pos (by rw [e1]; exact h1), if_pos h1]; rfl
  · rw [if_neg (by rw [e1]; exact h1), if_neg h1]
    by_cases h2 : x = y
    · rw [if_pos (by rw [e2]; exact h2), if_pos h2]; rfl
    · rw [if_neg (by rw [e2]; exact h2), if_neg h2]; rfl
theorem zl_l2i {x : Int} (hx : r32 x) : (zl x).toInt32 = zi x := by
  unfold r32 at hx
  apply Int32.toInt_inj.mp
  rw [Int64.toInt_toInt32, zl_toInt (by omega) (by omega), zi_toInt hx.1 hx.2]
  rw [Int.bmod_eq_of_le (by omega) (by omega)]
end
section
/-! one instruction that neither jumps nor calls -/
abbrev ZK : Type := ZL → List ZV → ZM → Prop
def zu : Value → Option ZV
  | .int x => some (zI x.toInt)
  | .long x => some (zJ x.toInt)
  | .ref a => some (zA a)
  | _ => none
def z_const (v : Value) (l : ZL) (st : List ZV) (M : ZM) (k : ZK) : Prop := match zu v with
  | some w => k l (w :: st) M
  | none => False
def z_s1 (l : ZL) (i : Nat) (v : ZV) : ZL := (i, v) :: l.filter (fun q => !(q.1 == i) && !(q.1 + 1 == i && (zv q.2).category == 2))
def z_s2 (l : ZL) (i : Nat) (v : ZV) : ZL := (i, v) :: l.filter (fun q => !(q.1 == i) && (!(q.1 == i + 1) && !(q.1 + 1 == i && (zv q.2).category == 2)))
def z_ldI (l : ZL) (n : Nat) (st : List ZV) (M : ZM) (k : ZK) : Prop := match am_look l n with
  | some (.inl x) => k l (.inl x :: st) M
  | _ => False
def z_ldL (l : ZL) (n : Nat) (st : List ZV) (M : ZM) (k : ZK) : Prop := match am_look l n with
  | some (.inr (.inl x)) => k l (.inr (.inl x) :: st) M
  | _ => False
def z_ldR (l : ZL) (n : Nat) (st : List ZV) (M : ZM) (k : ZK) : Prop := match am_look l n with
  | some (.inr (.inr x)) => k l (.inr (.inr x) :: st) M
  | _ => False
def z_gty (ty : FieldType) (t a f : Nat) (l : ZL) (st : List ZV) (M : ZM) (k : ZK) : Prop := match ty, t with
  | .int, 0 => k l (zI (M a f) :: st) M
  | .boolean, 0 => k l (zI (M a f) :: st) M
  | .byte, 0 => k l (zI (M a f) :: st) M
  | .long, 1 => k l (zJ (M a f) :: st) M
  | .object _, 2 => k l (zA (M a f).toNat :: st) M
  | .object _, t + 3 => k l (zA t :: st) M
  | .array _, 2 => k l (zA (M a f).toNat :: st) M
  | .array _, t + 3 => k l (zA t :: st) M
  | _, _ => False
def z_getf (ty : FieldType) (a ci f : Nat) (l : ZL) (st : List ZV) (M : ZM) (k : ZK) : Prop := bif Nat.beq (zk a) ci && (Nat.blt f (zn a) && Nat.ble ci 900) then z_gty ty (zg a f) a f l st M k else False
def z_pty (ty : FieldType) (t a f : Nat) (v : ZV) (l : ZL) (st : List ZV) (M : ZM) (k : ZK) : Prop := match ty, t, v with
  | .int, 0, .inl x => ∀ M', M' = zup M a f x → k l st M'
  | .boolean, 0, .inl x => (x = 0 ∨ x = 1) ∧ ∀ M', M' = zup M a f x → k l st M'
  | .long, 1, .inr (.inl x) => ∀ M', M' = zup M a f x → k l st M'
  | .array _, 2, .inr (.inr b) => (b = 107 ∨ b = 108) ∧ ∀ M', M' = zup M a f b → k l st M'
  | _, _, _ => False
def z_putf (ty : FieldType) (a ci f : Nat) (v : ZV) (l : ZL) (st : List ZV) (M : ZM) (k : ZK) : Prop := bif Nat.beq (zk a) ci && (Nat.blt f (zn a) && (Nat.ble ci 900 && Nat.ble 29 a)) then z_pty ty (zg a f) a f v l st M k else False
def z_stp (i : Instr) (r1 r2 : Nat) (v : Value) (l : ZL) (st : List ZV) (M : ZM) (k : ZK) : Prop :=
  match i with
  | .iconst _ => z_const v l st M k
  | .bipush _ => z_const v l st M k
  | .sipush _ => z_const v l st M k
  | .lconst _ => z_const v l st M k
  | .ldc _ => z_const v l st M k
  | .ldc_w _ => z_const v l st M k
  | .ldc2_w _ => z_const v l st M k
  | .getstatic _ => z_const v l st M k
  | .iload n => z_ldI l n st M k
  | .iload_n n => z_ldI l n.val st M k
  | .lload n => z_ldL l n st M k
  | .lload_n n => z_ldL l n.val st M k
  | .aload n => z_ldR l n st M k
  | .aload_n n => z_ldR l n.val st M k
  | .istore n => match st with
    | .inl x :: st => k (z_s1 l n (.inl x)) st M
    | _ => False
  | .istore_n n => match st with
    | .inl x :: st => k (z_s1 l n.val (.inl x)) st M
    | _ => False
  | .lstore n => match st with
    | .inr (.inl x) :: st => k (z_s2 l n (.inr (.inl x))) st M
    | _ => False
  | .lstore_n n => match st with
    | .inr (.inl x) :: st => k (z_s2 l n.val (.inr (.inl x))) st M
    | _ => False
  | .astore n => match st with
    | .inr (.inr x) :: st => k (z_s1 l n (.inr (.inr x))) st M
    | _ => False
  | .astore_n n => match st with
    | .inr (.inr x) :: st => k (z_s1 l n.val (.inr (.inr x))) st M
    | _ => False
  | .iinc n _ => match am_look l n, v with
    | some (.inl x), .int y => r32 (x + y.toInt) ∧ k (z_s1 l n (zI (x + y.toInt))) st M
    | _, _ => False
  | .iadd => match st with
    | .inl y :: .inl x :: st => r32 (x + y) ∧ k l (zI (x + y) :: st) M
    | _ => False
  | .isub => match st with
    | .inl y :: .inl x :: st => r32 (x - y) ∧ k l (zI (x - y) :: st) M
    | _ => False
  | .imul => match st with
    | .inl y :: .inl x :: st => r32 (x * y) ∧ k l (zI (x * y) :: st) M
    | _ => False
  | .ladd => match st with
    | .inr (.inl y) :: .inr (.inl x) :: st => r64 (x + y) ∧ k l (zJ (x + y) :: st) M
    | _ => False
  | .lsub => match st with
    | .inr (.inl y) :: .inr (.inl x) :: st => r64 (x - y) ∧ k l (zJ (x - y) :: st) M
    | _ => False
  | .lmul => match st with
    | .inr (.inl y) :: .inr (.inl x) :: st => r64 (x * y) ∧ k l (zJ (x * y) :: st) M
    | _ => False
  | .iand => match st with
    | .inl y :: .inl x :: st => k l (zI (zand x y) :: st) M
    | _ => False
  | .ior => match st with
    | .inl y :: .inl x :: st => k l (zI (zor x y) :: st) M
    | _ => False
  | .ixor => match st with
    | .inl y :: .inl x :: st => k l (zI (zxor x y) :: st) M
    | _ => False
  | .ishl => match st with
    | .inl y :: .inl x :: st => k l (zI (zshl x y) :: st) M
    | _ => False
  | .ishr => match st with
    | .inl y :: .inl x :: st => k l (zI (zshr x y) :: st) M
    | _ => False
  | .iushr => match st with
    | .inl y :: .inl x :: st => k l (zI (zush x y) :: st) M
    | _ => False
  | .idiv => match st with
    | .inl y :: .inl x :: st => ¬ y = 0 ∧ r32 (x.tdiv y) ∧ k l (zI (x.tdiv y) :: st) M
    | _ => False
  | .irem => match st with
    | .inl y :: .inl x :: st => ¬ y = 0 ∧ k l (zI (x.tmod y) :: st) M
    | _ => False
  | .ldiv => match st with
    | .inr (.inl y) :: .inr (.inl x) :: st => ¬ y = 0 ∧ r64 (x.tdiv y) ∧ k l (zJ (x.tdiv y) :: st) M
    | _ => False
  | .lrem => match st with
    | .inr (.inl y) :: .inr (.inl x) :: st => ¬ y = 0 ∧ k l (zJ (x.tmod y) :: st) M
    | _ => False
  | .ineg => match st with
    | .inl x :: st => r32 (-x) ∧ k l (zI (-x) :: st) M
    | _ => False
  | .lneg => match st with
    | .inr (.inl x) :: st => r64 (-x) ∧ k l (zJ (-x) :: st) M
    | _ => False
  | .lcmp => match st with
    | .inr (.inl y) :: .inr (.inl x) :: st => k l (zI (if y < x then 1 else if x = y then 0 else -1) :: st) M
    | _ => False
  | .i2l => match st with
    | .inl x :: st => k l (zJ x :: st) M
    | _ => False
  | .l2i => match st with
    | .inr (.inl x) :: st => r32 x ∧ k l (zI x :: st) M
    | _ => False
  | .i2b => match st with
    | .inl x :: st => k l (zI (zi2b x) :: st) M
    | _ => False
  | .i2c => match st with
    | .inl x :: st => k l (zI (zi2c x) :: st) M
    | _ => False
  | .dup => match st with
    | .inl x :: st => k l (.inl x :: .inl x :: st) M
    | .inr (.inr x) :: st => k l (.inr (.inr x) :: .inr (.inr x) :: st) M
    | _ => False
  | .dup_x1 => match st with
    | .inl x :: .inr (.inr y) :: st => k l (.inl x :: .inr (.inr y) :: .inl x :: st) M
    | _ => False
  | .dup2 => match st with
    | .inl x :: .inr (.inr y) :: st => k l (.inl x :: .inr (.inr y) :: .inl x :: .inr (.inr y) :: st) M
    | .inr (.inl x) :: st => k l (.inr (.inl x) :: .inr (.inl x) :: st) M
    | _ => False
  | .pop => match st with
    | .inl _ :: st => k l st M
    | _ => False
  | .pop2 => match st with
    | .inr (.inl _) :: st => k l st M
    | _ => False
  | .arraylength => match st with
    | .inr (.inr a) :: st => bif Nat.ble 100 (zk a) && Nat.blt (zk a) 105 then k l (zI (zn a : Int) :: st) M else False
    | _ => False
  | .iaload => match st with
    | .inl j :: .inr (.inr a) :: st => bif Nat.beq (zk a) 100 then (0 ≤ j ∧ j < (zn a : Int)) ∧ k l (zI (M a j) :: st) M else False
    | _ => False
  | .laload => match st with
    | .inl j :: .inr (.inr a) :: st => bif Nat.beq (zk a) 101 then (0 ≤ j ∧ j < (zn a : Int)) ∧ k l (zJ (M a j) :: st) M else False
    | _ => False
  | .baload => match st with
    | .inl j :: .inr (.inr a) :: st => bif Nat.beq (zk a) 102 || Nat.beq (zk a) 103 then (0 ≤ j ∧ j < (zn a : Int)) ∧ k l (zI (M a j) :: st) M else False
    | _ => False
  | .aaload => match st with
    | .inl j :: .inr (.inr a) :: st => bif Nat.beq (zk a) 104 then (0 ≤ j ∧ j < (zn a : Int)) ∧ k l (zA (bif Nat.beq j.toNat 0 then 58 else 72) :: st) M else False
    | _ => False
  | .iastore => match st with
    | .inl x :: .inl j :: .inr (.inr a) :: st => bif Nat.beq (zk a) 100 && Nat.ble 29 a then (0 ≤ j ∧ j < (zn a : Int)) ∧ ∀ M', M' = zup M a j x → k l st M' else False
    | _ => False
  | .lastore => match st with
    | .inr (.inl x) :: .inl j :: .inr (.inr a) :: st => bif Nat.beq (zk a) 101 && Nat.ble 29 a then (0 ≤ j ∧ j < (zn a : Int)) ∧ ∀ M', M' = zup M a j x → k l st M' else False
    | _ => False
  | .bastore => match st with
    | .inl x :: .inl j :: .inr (.inr a) :: st => bif Nat.beq (zk a) 102 && Nat.ble 29 a then (0 ≤ j ∧ j < (zn a : Int)) ∧ (-128 ≤ x ∧ x ≤ 127) ∧ ∀ M', M' = zup M a j x → k l st M' else bif Nat.beq (zk a) 103 && Nat.ble 29 a then (0 ≤ j ∧ j < (zn a : Int)) ∧ (x = 0 ∨ x = 1) ∧ ∀ M', M' = zup M a j x → k l st M' else False
    | _ => False
  | .getfield _ => match st with
    | .inr (.inr a) :: st => z_getf (am_fty r1 r2) a r1 r2 l st M k
    | _ => False
  | .putfield _ => match st with
    | v :: .inr (.inr a) :: st => z_putf (am_fty r1 r2) a r1 r2 v l st M k
    | _ => False
  | _ => False
abbrev zml (l : ZL) : LV := l.map (fun q => (q.1, zv q.2))
abbrev zms (st : List ZV) : List Value := st.map zv
def okl (l : ZL) : Prop := ∀ q ∈ l, zr q.2
def oks (st : List ZV) : Prop := ∀ v ∈ st, zr v
theorem oks.cons {v : ZV} {st : List ZV} (h1 : zr v) (h2 : oks st) : oks (v :: st) := by
  intro w hw
  rcases List.mem_cons.mp hw with rfl | hw
  · exact h1
  · exact h2 w hw
theorem oks.hd {v : ZV} {st : List ZV} (h : oks (v :: st)) : zr v := h v List.mem_cons_self
theorem oks.tl {v : ZV} {st : List ZV} (h : oks (v :: st)) : oks st := fun w hw => h w (List.mem_cons_of_mem _ hw)
theorem z_look_map (n : Nat) : ∀ l : ZL, am_look (zml l) n = (am_look l n).map zv := by
  intro l
  induction l with
  | nil => rfl
  | cons q l ih =>
    show (bif Nat.beq q.1 n then some (zv q.2) else am_look (zml l) n) = Option.map zv (bif Nat.beq q.1 n then some q.2 else am_look l n)
    cases Nat.beq q.1 n with
    | true => rfl
    | false => exact ih
theorem z_look_ok {n : Nat} {v : ZV} : ∀ {l : ZL}, okl l → am_look l n = some v → zr v := by
  intro l
  induction l with
  | nil => intro _ h; cases h
  | cons q l ih =>
    intro hl h
    have h : (bif Nat.beq q.1 n then some q.2 else am_look l n) = some v := h
    cases hb : Nat.beq q.1 n with
    | true => rw [hb] at h; cases h; exact hl q List.mem_cons_self
    | false => rw [hb] at h; exact ih (fun w hw => hl w (List.mem_cons_of_mem _ hw)) h
theorem z_s1_map (l : ZL) (i : Nat) (v : ZV) : am_s1 (zml l) i (zv v) = zml (z_s1 l i v) := by
  unfold am_s1 z_s1
  show _ = (i, zv v) :: zml _
  rw [List.filter_map]
  rfl
theorem z_s2_map (l : ZL) (i : Nat) (v : ZV) : am_s2 (zml l) i (zv v) = zml (z_s2 l i v) := by
  unfold am_s2 z_s2
  show _ = (i, zv v) :: zml _
  rw [List.filter_map]
  rfl
theorem z_s1_ok {l : ZL} {i : Nat} {v : ZV} (hl : okl l) (hv : zr v) : okl (z_s1 l i v) := by
  intro q hq
  rcases List.mem_cons.mp hq with rfl | hq
  · exact hv
  · exact hl q (List.mem_filter.mp hq).1
theorem z_s2_ok {l : ZL} {i : Nat} {v : ZV} (hl : okl l) (hv : zr v) : okl (z_s2 l i v) := by
  intro q hq
  rcases List.mem_cons.mp hq with rfl | hq
  · exact hv
  · exact hl q (List.mem_filter.mp hq).1
theorem zbif {G : Bool} {P : Prop} (h : bif G then P else False) : G = true ∧ P := by
  cases G with
  | true => exact ⟨rfl, h⟩
  | false => exact h.elim
def zsel (g : Nat → AC) (F : KT → Option RS) (k : ZK) : Prop := ∃ l' st' M', (∀ K, F K = K (zml l') (zms st') (hp g M')) ∧ RG M' ∧ okl l' ∧ oks st' ∧ k l' st' M'
theorem zu_zv {v : Value} {w : ZV} (h : zu v = some w) : zv w = v ∧ zr w := by
  unfold zu at h
  split at h
  · cases h; exact ⟨congrArg Value.int (zi_self _), r32_toInt _⟩
  · cases h; exact ⟨congrArg Value.long (zl_self _), r64_toInt _⟩
  · cases h; exact ⟨rfl, trivial⟩
  · cases h
section Stp
variable {g : Nat → AC} {l : ZL} {st : List ZV} {M : ZM} {k : ZK} (R : RG M) (hl : okl l) (hs : oks st)
theorem zs_const {v : Value} (h : z_const v l st M k) (R : RG M) (hl : okl l) (hs : oks st) : zsel g (fun K => K (zml l) (v :: zms st) (hp g M)) k := by
  unfold z_const at h
  split at h
  · rename_i w hw
    obtain ⟨h1, h2⟩ := zu_zv hw
    exact ⟨l, w :: st, M, fun K => by rw [← h1]; rfl, R, hl, oks.cons h2 hs, h⟩
  · exact h.elim
theorem zs_ldI {n : Nat} (h : z_ldI l n st M k) (R : RG M) (hl : okl l) (hs : oks st) : zsel g (fun K => am_ldI (zml l) n (zms st) (hp g M) K) k := by
  unfold z_ldI at h
  split at h
  · rename_i x hx
    exact ⟨l, .inl x :: st, M, fun K => by unfold am_ldI; rw [z_look_map, hx]; rfl, R, hl, oks.cons (z_look_ok hl hx) hs, h⟩
  · exact h.elim
theorem zs_ldL {n : Nat} (h : z_ldL l n st M k) (R : RG M) (hl : okl l) (hs : oks st) : zsel g (fun K => am_ldL (zml l) n (zms st) (hp g M) K) k := by
  unfold z_ldL at h
  split at h
  · rename_i x hx
    exact ⟨l, .inr (.inl x) :: st, M, fun K => by unfold am_ldL; rw [z_look_map, hx]; rfl, R, hl, oks.cons (z_look_ok hl hx) hs, h⟩
  · exact h.elim
theorem zs_ldR {n : Nat} (h : z_ldR l n st M k) (R : RG M) (hl : okl l) (hs : oks st) : zsel g (fun K => am_ldR (zml l) n (zms st) (hp g M) K) k := by
  unfold z_ldR at h
  split at h
  · rename_i x hx
    exact ⟨l, .inr (.inr x) :: st, M, fun K => by unfold am_ldR; rw [z_look_map, hx]; rfl, R, hl, oks.cons (z_look_ok hl hx) hs, h⟩
  · exact h.elim
theorem zs_getf {ty : FieldType} {a ci f : Nat} (h : z_getf ty a ci f l st M k) (R : RG M) (hl : okl l) (hs : oks st) : zsel g (fun K => am_getf ty a ci f (zml l) (zms st) (hp g M) K) k := by
  have hb := zbif h
  clear h
  obtain ⟨hg, h⟩ := hb
  simp only [Bool.and_eq_true] at hg
  obtain ⟨g1, g2, g3⟩ := hg
  have g1 := Nat.eq_of_beq_eq_true g1
  have g2 : f < zn a := Nat.le_of_ble_eq_true g2
  have g3 := Nat.le_of_ble_eq_true g3
  have g9 : ci ≠ 999 := by omega
  have hf := hp_f (g := g) (M := M) g1 g9 g2
  have hr := (R a f (by rw [g1]; exact g9) g2).1
  generalize zg a f = t at h hf hr
  unfold z_gty at h
  split at h
  · exact ⟨l, zI (M a f) :: st, M, fun K => by unfold am_getf am_fI; rw [hf]; rfl, R, hl, oks.cons hr hs, h⟩
  · exact ⟨l, zI (M a f) :: st, M, fun K => by unfold am_getf am_fI; rw [hf]; rfl, R, hl, oks.cons hr hs, h⟩
  · exact ⟨l, zI (M a f) :: st, M, fun K => by unfold am_getf am_fI; rw [hf]; rfl, R, hl, oks.cons hr hs, h⟩
  · exact ⟨l, zJ (M a f) :: st, M, fun K => by unfold am_getf am_fL; rw [hf]; rfl, R, hl, oks.cons hr hs, h⟩
  · exact ⟨l, zA (M a f).toNat :: st, M, fun K => by unfold am_getf am_fR; rw [hf]; rfl, R, hl, oks.cons trivial hs, h⟩
  · rename_i t
    exact ⟨l, zA t :: st, M, fun K => by unfold am_getf am_fR; rw [hf]; rfl, R, hl, oks.cons trivial hs, h⟩
  · exact ⟨l, zA (M a f).toNat :: st, M, fun K => by unfold am_getf am_fR; rw [hf]; rfl, R, hl, oks.cons trivial hs, h⟩
  · rename_i t
    exact ⟨l, zA t :: st, M, fun K => by unfold am_getf am_fR; rw [hf]; rfl, R, hl, oks.cons trivial hs, h⟩
  · exact h.elim
theorem zs_putf {ty : FieldType} {a ci f : Nat} {v : ZV} (h : z_putf ty a ci f v l st M k) (R : RG M) (hl : okl l) (hv : zr v) (hs : oks st) : zsel g (fun K => am_putf ty a ci f (zv v) (zml l) (zms st) (hp g M) K) k := by
  have hb := zbif h
  clear h
  obtain ⟨hg, h⟩ := hb
  simp only [Bool.and_eq_true] at hg
  obtain ⟨g1, g2, g3, g4⟩ := hg
  have g1 := Nat.eq_of_beq_eq_true g1
  have g2 : f < zn a := Nat.le_of_ble_eq_true g2
  have g3 := Nat.le_of_ble_eq_true g3
  have g4 := Nat.le_of_ble_eq_true g4
  have g9 : ci ≠ 999 := by omega
  have hf : ∀ (x : Int) (v : Value), zval (zg a f) x = v → am_pf (hp g M) a ci f v = some (hp g (zup M a f x)) := fun x v hv => hp_pf g1 g9 g4 g2 hv
  have hr : ∀ x : Int, zrt (zg a f) x → RG (zup M a f x) := fun x hx => R.up g4 (by rw [Int.toNat_natCast]; exact hx) (by omega)
  generalize zg a f = t at h hf hr
  unfold z_pty at h
  split at h
  · rename_i x
    exact ⟨l, st, _, fun K => by unfold am_putf zv; dsimp only; rw [hf x (.int (zi x)) rfl]; rfl, hr x hv, hl, hs, h _ rfl⟩
  · rename_i x
    exact ⟨l, st, _, fun K => by
      unfold am_putf zv am_pz
      dsimp only
      rw [if_pos (by rcases h.1 with rfl | rfl <;> decide), hf x (.int (zi x)) rfl]
      rfl, hr x hv, hl, hs, h.2 _ rfl⟩
  · rename_i x
    exact ⟨l, st, _, fun K => by unfold am_putf zv; dsimp only; rw [hf x (.long (zl x)) rfl]; rfl, hr x hv, hl, hs, h _ rfl⟩
  · rename_i b
    exact ⟨l, st, _, fun K => by unfold am_putf zv; dsimp only; rw [hf (b : Int) (.ref b) rfl]; rfl, hr (b : Int) (by show (b : Int) = 107 ∨ (b : Int) = 108; omega), hl, hs, h.2 _ rfl⟩
  · exact h.elim
end Stp
theorem z_nb {x : Int} (h1 : -128 ≤ x) (h2 : x ≤ 127) : narrow .byte (.int (zi x)) = .int (zi x) := by
  show Value.int (zi x).toInt8.toInt32 = Value.int (zi x)
  congr 1
  apply Int32.toInt_inj.mp
  rw [Int8.toInt_toInt32, Int32.toInt_toInt8, zi_toInt (by omega) (by omega)]
  rw [Int.bmod_eq_of_le (by omega) (by omega)]
theorem zs_stp {g : Nat → AC} {i : Instr} {r1 r2 : Nat} {v : Value} {l : ZL} {st : List ZV} {M : ZM} {k : ZK} (h : z_stp i r1 r2 v l st M k) (R : RG M) (hl : okl l) (hs : oks st) : zsel g (am_stp i r1 r2 v (zml l) (zms st) (hp g M)) k := by
  cases i
  case iconst => exact zs_const h R hl hs
  case bipush => exact zs_const h R hl hs
  case sipush => exact zs_const h R hl hs
  case lconst => exact zs_const h R hl hs
  case ldc => exact zs_const h R hl hs
  case ldc_w => exact zs_const h R hl hs
  case ldc2_w => exact zs_const h R hl hs
  case getstatic => exact zs_const h R hl hs
  case iload => exact zs_ldI h R hl hs
  case iload_n => exact zs_ldI h R hl hs
  case lload => exact zs_ldL h R hl hs
  case lload_n => exact zs_ldL h R hl hs
  case aload => exact zs_ldR h R hl hs
  case aload_n => exact zs_ldR h R hl hs
  case istore n =>
    simp only [z_stp] at h
    split at h
    · rename_i x st
      exact ⟨_, st, M, fun K => congrArg (fun q => K q (zms st) (hp g M)) (z_s1_map l n (.inl x)), R, z_s1_ok hl hs.hd, hs.tl, h⟩
    · exact h.elim
  case istore_n n =>
    simp only [z_stp] at h
    split at h
    · rename_i x st
      exact ⟨_, st, M, fun K => congrArg (fun q => K q (zms st) (hp g M)) (z_s1_map l n.val (.inl x)), R, z_s1_ok hl hs.hd, hs.tl, h⟩
    · exact h.elim
  case lstore n =>
    simp only [z_stp] at h
    split at h
    · rename_i x st
      exact ⟨_, st, M, fun K => congrArg (fun q => K q (zms st) (hp g M)) (z_s2_map l n (.inr (.inl x))), R, z_s2_ok hl hs.hd, hs.tl, h⟩
    · exact h.elim
  case lstore_n n =>
    simp only [z_stp] at h
    split at h
    · rename_i x st
      exact ⟨_, st, M, fun K => congrArg (fun q => K q (zms st) (hp g M)) (z_s2_map l n.val (.inr (.inl x))), R, z_s2_ok hl hs.hd, hs.tl, h⟩
    · exact h.elim
  case astore n =>
    simp only [z_stp] at h
    split at h
    · rename_i x st
      exact ⟨_, st, M, fun K => congrArg (fun q => K q (zms st) (hp g M)) (z_s1_map l n (.inr (.inr x))), R, z_s1_ok hl hs.hd, hs.tl, h⟩
    · exact h.elim
  case astore_n n =>
    simp only [z_stp] at h
    split at h
    · rename_i x st
      exact ⟨_, st, M, fun K => congrArg (fun q => K q (zms st) (hp g M)) (z_s1_map l n.val (.inr (.inr x))), R, z_s1_ok hl hs.hd, hs.tl, h⟩
    · exact h.elim
  case iinc n c =>
    simp only [z_stp] at h
    split at h
    · rename_i x y hx
      exact ⟨z_s1 l n (zI (x + y.toInt)), st, M, fun K => by
        simp only [am_stp]
        rw [z_look_map, hx]
        show K (am_s1 (zml l) n (.int (zi x + y))) _ _ = _
        rw [← zi_self y, zi_add, zi_self]
        exact congrArg (fun q => K q (zms st) (hp g M)) (z_s1_map l n (zI (x + y.toInt))), R, z_s1_ok hl h.1, hs, h.2⟩
    · exact h.elim
  case iadd =>
    simp only [z_stp] at h
    split at h
    · rename_i y x st
      exact ⟨l, zI (x + y) :: st, M, fun K => by show K _ (.int (zi x + zi y) :: _) _ = K _ (.int (zi (x + y)) :: _) _; rw [zi_add], R, hl, oks.cons h.1 hs.tl.tl, h.2⟩
    · exact h.elim
  case isub =>
    simp only [z_stp] at h
    split at h
    · rename_i y x st
      exact ⟨l, zI (x - y) :: st, M, fun K => by show K _ (.int (zi x - zi y) :: _) _ = K _ (.int (zi (x - y)) :: _) _; rw [zi_sub], R, hl, oks.cons h.1 hs.tl.tl, h.2⟩
    · exact h.elim
  case imul =>
    simp only [z_stp] at h
    split at h
    · rename_i y x st
      exact ⟨l, zI (x * y) :: st, M, fun K => by show K _ (.int (zi x * zi y) :: _) _ = K _ (.int (zi (x * y)) :: _) _; rw [zi_mul], R, hl, oks.cons h.1 hs.tl.tl, h.2⟩
    · exact h.elim
  case ladd =>
    simp only [z_stp] at h
    split at h
    · rename_i y x st
      exact ⟨l, zJ (x + y) :: st, M, fun K => by show K _ (.long (zl x + zl y) :: _) _ = K _ (.long (zl (x + y)) :: _) _; rw [zl_add], R, hl, oks.cons h.1 hs.tl.tl, h.2⟩
    · exact h.elim
  case lsub =>
    simp only [z_stp] at h
    split at h
    · rename_i y x st
      exact ⟨l, zJ (x - y) :: st, M, fun K => by show K _ (.long (zl x - zl y) :: _) _ = K _ (.long (zl (x - y)) :: _) _; rw [zl_sub], R, hl, oks.cons h.1 hs.tl.tl, h.2⟩
    · exact h.elim
  case lmul =>
    simp only [z_stp] at h
    split at h
    · rename_i y x st
      exact ⟨l, zJ (x * y) :: st, M, fun K => by show K _ (.long (zl x * zl y) :: _) _ = K _ (.long (zl (x * y)) :: _) _; rw [zl_mul], R, hl, oks.cons h.1 hs.tl.tl, h.2⟩
    · exact h.elim
  case iand =>
    simp only [z_stp] at h
    split at h
    · rename_i y x st
      exact ⟨l, zI (zand x y) :: st, M, fun K => by
        show _ = K _ (.int (zi (zand x y)) :: _) _
        unfold zand
        rw [zi_self]
        rfl, R, hl, oks.cons (r32_toInt _) hs.tl.tl, h⟩
    · exact h.elim
  case ior =>
    simp only [z_stp] at h
    split at h
    · rename_i y x st
      exact ⟨l, zI (zor x y) :: st, M, fun K => by
        show _ = K _ (.int (zi (zor x y)) :: _) _
        unfold zor
        rw [zi_self]
        rfl, R, hl, oks.cons (r32_toInt _) hs.tl.tl, h⟩
    · exact h.elim
  case ixor =>
    simp only [z_stp] at h
    split at h
    · rename_i y x st
      exact ⟨l, zI (zxor x y) :: st, M, fun K => by
        show _ = K _ (.int (zi (zxor x y)) :: _) _
        unfold zxor
        rw [zi_self]
        rfl, R, hl, oks.cons (r32_toInt _) hs.tl.tl, h⟩
    · exact h.elim
  case ishl =>
    simp only [z_stp] at h
    split at h
    · rename_i y x st
      exact ⟨l, zI (zshl x y) :: st, M, fun K => by
        show _ = K _ (.int (zi (zshl x y)) :: _) _
        unfold zshl
        rw [zi_self]
        rfl, R, hl, oks.cons (r32_toInt _) hs.tl.tl, h⟩
    · exact h.elim
  case ishr =>
    simp only [z_stp] at h
    split at h
    · rename_i y x st
      exact ⟨l, zI (zshr x y) :: st, M, fun K => by
        show _ = K _ (.int (zi (zshr x y)) :: _) _
        unfold zshr
        rw [zi_self]
        rfl, R, hl, oks.cons (r32_toInt _) hs.tl.tl, h⟩
    · exact h.elim
  case iushr =>
    simp only [z_stp] at h
    split at h
    · rename_i y x st
      exact ⟨l, zI (zush x y) :: st, M, fun K => by
        show _ = K _ (.int (zi (zush x y)) :: _) _
        unfold zush
        rw [zi_self]
        rfl, R, hl, oks.cons (r32_toInt _) hs.tl.tl, h⟩
    · exact h.elim
  case idiv =>
    simp only [z_stp] at h
    split at h
    · rename_i y x st
      exact ⟨l, zI (x.tdiv y) :: st, M, fun K => by
        show (if zi y = 0 then none else K _ (.int (zi x / zi y) :: _) _) = K _ (.int (zi (x.tdiv y)) :: _) _
        have hy : r32 y := hs.hd
        rw [if_neg (by rw [show (0 : Int32) = zi 0 from zi_lit 0, zi_inj hy.1 hy.2 (by omega) (by omega)]; exact h.1), zi_div hs.tl.hd hs.hd], R, hl, oks.cons h.2.1 hs.tl.tl, h.2.2⟩
    · exact h.elim
  case irem =>
    simp only [z_stp] at h
    split at h
    · rename_i y x st
      exact ⟨l, zI (x.tmod y) :: st, M, fun K => by
        show (if zi y = 0 then none else K _ (.int (zi x - zi x / zi y * zi y) :: _) _) = K _ (.int (zi (x.tmod y)) :: _) _
        have hy : r32 y := hs.hd
        rw [if_neg (by rw [show (0 : Int32) = zi 0 from zi_lit 0, zi_inj hy.1 hy.2 (by omega) (by omega)]; exact h.1), zi_rem hs.tl.hd hs.hd], R, hl, oks.cons (r32_tmod hs.tl.hd) hs.tl.tl, h.2⟩
    · exact h.elim
  case ldiv =>
    simp only [z_stp] at h
    split at h
    · rename_i y x st
      exact ⟨l, zJ (x.tdiv y) :: st, M, fun K => by
        show (if zl y = 0 then none else K _ (.long (zl x / zl y) :: _) _) = K _ (.long (zl (x.tdiv y)) :: _) _
        have hy : r64 y := hs.hd
        rw [if_neg (by rw [show (0 : Int64) = zl 0 from zl_lit 0, zl_inj hy.1 hy.2 (by omega) (by omega)]; exact h.1), zl_div hs.tl.hd hs.hd], R, hl, oks.cons h.2.1 hs.tl.tl, h.2.2⟩
    · exact h.elim
  case lrem =>
    simp only [z_stp] at h
    split at h
    · rename_i y x st
      exact ⟨l, zJ (x.tmod y) :: st, M, fun K => by
        show (if zl y = 0 then none else K _ (.long (zl x - zl x / zl y * zl y) :: _) _) = K _ (.long (zl (x.tmod y)) :: _) _
        have hy : r64 y := hs.hd
        rw [if_neg (by rw [show (0 : Int64) = zl 0 from zl_lit 0, zl_inj hy.1 hy.2 (by omega) (by omega)]; exact h.1), zl_rem hs.tl.hd hs.hd], R, hl, oks.cons (r64_tmod hs.tl.hd) hs.tl.tl, h.2⟩
    · exact h.elim
  case ineg =>
    simp only [z_stp] at h
    split at h
    · rename_i x st
      exact ⟨l, zI (-x) :: st, M, fun K => by show K _ (.int (-zi x) :: _) _ = K _ (.int (zi (-x)) :: _) _; rw [zi_neg], R, hl, oks.cons h.1 hs.tl, h.2⟩
    · exact h.elim
  case lneg =>
    simp only [z_stp] at h
    split at h
    · rename_i x st
      exact ⟨l, zJ (-x) :: st, M, fun K => by show K _ (.long (-zl x) :: _) _ = K _ (.long (zl (-x)) :: _) _; rw [zl_neg], R, hl, oks.cons h.1 hs.tl, h.2⟩
    · exact h.elim
  case lcmp =>
    simp only [z_stp] at h
    split at h
    · rename_i y x st
      exact ⟨l, _ :: st, M, fun K => by
        show K _ (.int (lg_cmp (zl x) (zl y)) :: _) _ = _
        rw [zl_cmp hs.tl.hd hs.hd]
        rfl, R, hl, oks.cons (by show r32 _; unfold r32; omega) hs.tl.tl, h⟩
    · exact h.elim
  case i2l =>
    simp only [z_stp] at h
    split at h
    · rename_i x st
      have hx : r32 x := hs.hd
      exact ⟨l, zJ x :: st, M, fun K => by show K _ (.long (zi x).toInt64 :: _) _ = K _ (.long (zl x) :: _) _; rw [zi_i2l hx.1 hx.2], R, hl, oks.cons (by show r64 x; unfold r32 at hx; unfold r64; omega) hs.tl, h⟩
    · exact h.elim
  case l2i =>
    simp only [z_stp] at h
    split at h
    · rename_i x st
      exact ⟨l, zI x :: st, M, fun K => by show K _ (.int (zl x).toInt32 :: _) _ = K _ (.int (zi x) :: _) _; rw [zl_l2i h.1], R, hl, oks.cons h.1 hs.tl, h.2⟩
    · exact h.elim
  case i2b =>
    simp only [z_stp] at h
    split at h
    · rename_i x st
      exact ⟨l, zI (zi2b x) :: st, M, fun K => by
        show _ = K _ (.int (zi (zi2b x)) :: _) _
        unfold zi2b
        rw [zi_self]
        rfl, R, hl, oks.cons (r32_toInt _) hs.tl, h⟩
    · exact h.elim
  case i2c =>
    simp only [z_stp] at h
    split at h
    · rename_i x st
      exact ⟨l, zI (zi2c x) :: st, M, fun K => by
        show _ = K _ (.int (zi (zi2c x)) :: _) _
        unfold zi2c
        rw [zi_self]
        rfl, R, hl, oks.cons (r32_toInt _) hs.tl, h⟩
    · exact h.elim
  case dup =>
    simp only [z_stp] at h
    split at h
    · exact ⟨l, _, M, fun K => rfl, R, hl, oks.cons hs.hd hs, h⟩
    · exact ⟨l, _, M, fun K => rfl, R, hl, oks.cons hs.hd hs, h⟩
    · exact h.elim
  case dup_x1 =>
    simp only [z_stp] at h
    split at h
    · rename_i x y st
      exact ⟨l, .inl x :: .inr (.inr y) :: .inl x :: st, M, fun K => rfl, R, hl, oks.cons hs.hd (oks.cons hs.tl.hd (oks.cons hs.hd hs.tl.tl)), h⟩
    · exact h.elim
  case dup2 =>
    simp only [z_stp] at h
    split at h
    · rename_i x y st
      exact ⟨l, .inl x :: .inr (.inr y) :: .inl x :: .inr (.inr y) :: st, M, fun K => rfl, R, hl, oks.cons hs.hd (oks.cons hs.tl.hd hs), h⟩
    · exact ⟨l, _, M, fun K => rfl, R, hl, oks.cons hs.hd hs, h⟩
    · exact h.elim
  case pop =>
    simp only [z_stp] at h
    split at h
    · exact ⟨l, _, M, fun K => rfl, R, hl, hs.tl, h⟩
    · exact h.elim
  case pop2 =>
    simp only [z_stp] at h
    split at h
    · exact ⟨l, _, M, fun K => rfl, R, hl, hs.tl, h⟩
    · exact h.elim
  case arraylength =>
    simp only [z_stp] at h
    split at h
    · rename_i a st
      obtain ⟨hg, h⟩ := zbif h
      simp only [Bool.and_eq_true] at hg
      have hb := zn_big a
      exact ⟨l, zI (zn a : Int) :: st, M, fun K => by
        show (am_len (hp g M) a).bind _ = _
        rw [hp_len ⟨Nat.le_of_ble_eq_true hg.1, Nat.le_of_ble_eq_true hg.2⟩]
        rfl, R, hl, oks.cons (by show r32 _; unfold r32; omega) hs.tl, h⟩
    · exact h.elim
  case iaload =>
    simp only [z_stp] at h
    split at h
    · rename_i j a st
      obtain ⟨hg, h⟩ := zbif h
      have hg := Nat.eq_of_beq_eq_true hg
      have hr := R.at (by rw [hg]; decide) h.1.1 h.1.2
      rw [zg_100 hg] at hr
      exact ⟨l, zI (M a j) :: st, M, fun K => by
        show (am_aI (hp g M) a (zi j)).bind _ = _
        unfold am_aI
        rw [hp_a hg (by decide) h.1.1 h.1.2, zg_100 hg]
        rfl, R, hl, oks.cons hr hs.tl.tl, h.2⟩
    · exact h.elim
  case laload =>
    simp only [z_stp] at h
    split at h
    · rename_i j a st
      obtain ⟨hg, h⟩ := zbif h
      have hg := Nat.eq_of_beq_eq_true hg
      have hr := R.at (by rw [hg]; decide) h.1.1 h.1.2
      rw [zg_101 hg] at hr
      exact ⟨l, zJ (M a j) :: st, M, fun K => by
        show (am_aL (hp g M) a (zi j)).bind _ = _
        unfold am_aL
        rw [hp_a hg (by decide) h.1.1 h.1.2, zg_101 hg]
        rfl, R, hl, oks.cons hr hs.tl.tl, h.2⟩
    · exact h.elim
  case baload =>
    simp only [z_stp] at h
    split at h
    · rename_i j a st
      obtain ⟨hg, h⟩ := zbif h
      simp only [Bool.or_eq_true] at hg
      have hz : zg a j.toNat = 0 := by
        rcases hg with hg | hg
        · exact zg_102 (Nat.eq_of_beq_eq_true hg) _
        · exact zg_103 (Nat.eq_of_beq_eq_true hg) _
      have h9 : zk a ≠ 999 := by
        rcases hg with hg | hg
        · rw [Nat.eq_of_beq_eq_true hg]; decide
        · rw [Nat.eq_of_beq_eq_true hg]; decide
      have hr := R.at h9 h.1.1 h.1.2
      rw [hz] at hr
      refine ⟨l, zI (M a j) :: st, M, fun K => ?_, R, hl, oks.cons hr hs.tl.tl, h.2⟩
      show (am_aB (hp g M) a (zi j)).bind _ = _
      unfold am_aB
      rcases hg with hg | hg
      · have hg := Nat.eq_of_beq_eq_true hg
        rw [hp_a hg (by decide) h.1.1 h.1.2, hz]
        rfl
      · have hg := Nat.eq_of_beq_eq_true hg
        have e0 : am_a (hp g M) 102 a (zi j) = none := by
          unfold am_a
          rw [hp_cell h9]
          dsimp only
          rw [if_neg (fun q => by have := q.1; omega)]
        rw [e0, hp_a hg (by decide) h.1.1 h.1.2, hz]
        rfl
    · exact h.elim
  case aaload =>
    simp only [z_stp] at h
    split at h
    · rename_i j a st
      obtain ⟨hg, h⟩ := zbif h
      have hg := Nat.eq_of_beq_eq_true hg
      refine ⟨l, zA (bif Nat.beq j.toNat 0 then 58 else 72) :: st, M, fun K => ?_, R, hl, oks.cons trivial hs.tl.tl, h.2⟩
      show (am_aR (hp g M) a (zi j)).bind _ = _
      unfold am_aR
      rw [hp_a hg (by decide) h.1.1 h.1.2, zg_104 hg]
      cases Nat.beq j.toNat 0 <;> rfl
    · exact h.elim
  case iastore =>
    simp only [z_stp] at h
    split at h
    · rename_i x j a st
      obtain ⟨hg, h⟩ := zbif h
      simp only [Bool.and_eq_true] at hg
      have g1 := Nat.eq_of_beq_eq_true hg.1
      have g4 := Nat.le_of_ble_eq_true hg.2
      refine ⟨l, st, _, fun K => ?_, R.up g4 (x := x) (by rw [zg_100 g1]; exact hs.hd) h.1.1, hl, hs.tl.tl.tl, h.2 _ rfl⟩
      show (am_st (hp g M) 100 a (zi j) (.int (zi x))).bind _ = _
      rw [hp_st g1 (by decide) g4 h.1.1 h.1.2 (x := x) (v := .int (zi x)) (by rw [zg_100 g1]; rfl)]
      rfl
    · exact h.elim
  case lastore =>
    simp only [z_stp] at h
    split at h
    · rename_i x j a st
      obtain ⟨hg, h⟩ := zbif h
      simp only [Bool.and_eq_true] at hg
      have g1 := Nat.eq_of_beq_eq_true hg.1
      have g4 := Nat.le_of_ble_eq_true hg.2
      refine ⟨l, st, _, fun K => ?_, R.up g4 (x := x) (by rw [zg_101 g1]; exact hs.hd) h.1.1, hl, hs.tl.tl.tl, h.2 _ rfl⟩
      show (am_st (hp g M) 101 a (zi j) (.long (zl x))).bind _ = _
      rw [hp_st g1 (by decide) g4 h.1.1 h.1.2 (x := x) (v := .long (zl x)) (by rw [zg_101 g1]; rfl)]
      rfl
    · exact h.elim
  case bastore =>
    simp only [z_stp] at h
    split at h
    · rename_i x j a st
      cases hg : (Nat.beq (zk a) 102 && Nat.ble 29 a) with
      | true =>
        rw [hg] at h
        simp only [Bool.and_eq_true] at hg
        have g1 := Nat.eq_of_beq_eq_true hg.1
        have g4 := Nat.le_of_ble_eq_true hg.2
        have h : (0 ≤ j ∧ j < (zn a : Int)) ∧ (-128 ≤ x ∧ x ≤ 127) ∧ ∀ M', M' = zup M a j x → k l st M' := h
        refine ⟨l, st, _, fun K => ?_, R.up g4 (x := x) (by rw [zg_102 g1]; exact hs.hd) h.1.1, hl, hs.tl.tl.tl, h.2.2 _ rfl⟩
        show (am_stB (hp g M) a (zi j) (zi x)).bind _ = _
        unfold am_stB
        rw [hp_cell (by rw [g1]; decide)]
        dsimp only
        rw [if_pos g1, hp_st g1 (by decide) g4 h.1.1 h.1.2 (x := x) (by rw [zg_102 g1]; exact (z_nb h.2.1.1 h.2.1.2).symm)]
        rfl
      | false =>
        rw [hg] at h
        have h : (bif Nat.beq (zk a) 103 && Nat.ble 29 a then (0 ≤ j ∧ j < (zn a : Int)) ∧ (x = 0 ∨ x = 1) ∧ ∀ M', M' = zup M a j x → k l st M' else False) := h
        obtain ⟨hg, h⟩ := zbif h
        simp only [Bool.and_eq_true] at hg
        have g1 := Nat.eq_of_beq_eq_true hg.1
        have g4 := Nat.le_of_ble_eq_true hg.2
        refine ⟨l, st, _, fun K => ?_, R.up g4 (x := x) (by rw [zg_103 g1]; exact hs.hd) h.1.1, hl, hs.tl.tl.tl, h.2.2 _ rfl⟩
        show (am_stB (hp g M) a (zi j) (zi x)).bind _ = _
        unfold am_stB
        rw [hp_cell (by rw [g1]; decide)]
        dsimp only
        rw [if_neg (by omega), if_pos g1, hp_st g1 (by decide) g4 h.1.1 h.1.2 (x := x) (by rw [zg_103 g1]; rcases h.2.1 with rfl | rfl <;> rfl)]
        rfl
    · exact h.elim
  case getfield =>
    simp only [z_stp] at h
    split at h
    · exact zs_getf h R hl hs.tl
    · exact h.elim
  case putfield =>
    simp only [z_stp] at h
    split at h
    · exact zs_putf h R hl hs.hd hs.tl.tl
    · exact h.elim
  all_goals exact (h : False).elim
end
section
/-! from one cut to the next: what is wanted, as one proposition; and that it is enough -/
def zqV (k : ZM → Prop) (r : Option ZV) (M : ZM) : Prop := match r with
  | none => k M
  | _ => False
def zqI (k : Int → ZM → Prop) (r : Option ZV) (M : ZM) : Prop := match r with
  | some (.inl x) => k x M
  | _ => False
def zqL (k : Int → ZM → Prop) (r : Option ZV) (M : ZM) : Prop := match r with
  | some (.inr (.inl x)) => k x M
  | _ => False
/-- the small machine's answer, in whole numbers -/
def zok (o : Option RS) (g : Nat → AC) (Q : Option ZV → ZM → Prop) : Prop := ∃ r M', o = some (r.map zv, hp g M') ∧ (∀ v, r = some v → zr v) ∧ RG M' ∧ Q r M'
/-- a call of method j ends so that Q -/
def zcall (d j : Nat) (as : List ZV) (M : ZM) (Q : Option ZV → ZM → Prop) : Prop := ∀ g, RG M → oks as → zok (am_sem d j (zms as) (hp g M)) g Q
abbrev zcV (d j : Nat) (as : List ZV) (M : ZM) (k : ZM → Prop) : Prop := zcall d j as M (zqV k)
abbrev zcI (d j : Nat) (as : List ZV) (M : ZM) (k : Int → ZM → Prop) : Prop := zcall d j as M (zqI k)
abbrev zcL (d j : Nat) (as : List ZV) (M : ZM) (k : Int → ZM → Prop) : Prop := zcall d j as M (zqL k)
/-- a method, from a cut of it on, ends so that Q -/
def zlp (C : CD) (U : List (Nat × List Nat)) (rt d pc : Nat) (l : ZL) (M : ZM) (Q : Option ZV → ZM → Prop) : Prop := ∀ g, RG M → okl l → zok (am_rn C U rt (am_sem d) pc (zml l) (hp g M)) g Q
def z_pick : List Nat → ZL → Option ZL
  | [], _ => some []
  | i :: is, l => match am_look l i with
    | none => none
    | some v => match z_pick is l with
      | none => none
      | some r => some ((i, v) :: r)
def z_pop : Nat → List ZV → List ZV → Option (List ZV × List ZV)
  | 0, st, acc => some (acc, st)
  | n + 1, v :: st, acc => z_pop n st (v :: acc)
  | _ + 1, [], _ => none
abbrev LPT : Type := Nat → ZL → ZM → Prop
def znx (U : List (Nat × List Nat)) (L : LPT) (e : Nat → ZL → List ZV → ZM → Prop) (pc : Nat) (l : ZL) (st : List ZV) (M : ZM) : Prop :=
  match am_look U pc with
  | none => e pc l st M
  | some live => match st with
    | [] => match z_pick live l with
      | some l' => L pc l' M
      | none => False
    | _ => False
def z_sw (x : Int) (d : Prop) : Int → List Prop → Prop
  | _, [] => d
  | lo, r :: rs => (x = lo → r) ∧ (¬ x = lo → z_sw x d (lo + 1) rs)
def z_few (st : List ZV) : Bool := am_few (zms st)
def zgo (rt d j : Nat) (as : List ZV) (M : ZM) (st : List ZV) (k : List ZV → ZM → Prop) : Prop := match rt with
  | 0 => zcV d j as M (fun M => k st M)
  | 2 => zcL d j as M (fun x M => k (zJ x :: st) M)
  | _ => zcI d j as M (fun x M => k (zI x :: st) M)
def zbd (C : CD) (U : List (Nat × List Nat)) (rt d : Nat) (L : LPT) (Q : Option ZV → ZM → Prop) (e : Nat → ZL → List ZV → ZM → Prop) (pc : Nat) (l : ZL) (st : List ZV) (M : ZM) : Prop :=
  match am_code C pc with
  | none => False
  | some (i, len, r1, r2, _, v) =>
    match i with
    | .goto _ => znx U L e r1 l st M
    | .ifCond c _ => match st with
      | .inl x :: st => match c with
        | .eq => (x = 0 → znx U L e r1 l st M) ∧ (¬ x = 0 → znx U L e (pc + 3) l st M)
        | .ne => (¬ x = 0 → znx U L e r1 l st M) ∧ (x = 0 → znx U L e (pc + 3) l st M)
        | .lt => (x < 0 → znx U L e r1 l st M) ∧ (¬ x < 0 → znx U L e (pc + 3) l st M)
        | .ge => (0 ≤ x → znx U L e r1 l st M) ∧ (¬ 0 ≤ x → znx U L e (pc + 3) l st M)
        | .gt => (0 < x → znx U L e r1 l st M) ∧ (¬ 0 < x → znx U L e (pc + 3) l st M)
        | .le => (x ≤ 0 → znx U L e r1 l st M) ∧ (¬ x ≤ 0 → znx U L e (pc + 3) l st M)
      | _ => False
    | .if_icmp c _ => match st with
      | .inl y :: .inl x :: st => match c with
        | .eq => (x = y → znx U L e r1 l st M) ∧ (¬ x = y → znx U L e (pc + 3) l st M)
        | .ne => (¬ x = y → znx U L e r1 l st M) ∧ (x = y → znx U L e (pc + 3) l st M)
        | .lt => (x < y → znx U L e r1 l st M) ∧ (¬ x < y → znx U L e (pc + 3) l st M)
        | .ge => (y ≤ x → znx U L e r1 l st M) ∧ (¬ y ≤ x → znx U L e (pc + 3) l st M)
        | .gt => (y < x → znx U L e r1 l st M) ∧ (¬ y < x → znx U L e (pc + 3) l st M)
        | .le => (x ≤ y → znx U L e r1 l st M) ∧ (¬ x ≤ y → znx U L e (pc + 3) l st M)
      | _ => False
    | .tableswitch d' lo _ offs => match st with
      | .inl x :: st => (-1000 ≤ lo ∧ lo ≤ 1000 ∧ offs.toList.length ≤ 1000) ∧ z_sw x (znx U L e ((pc : Int) + d').toNat l st M) lo (offs.toList.map fun o => znx U L e ((pc : Int) + o).toNat l st M)
      | _ => False
    | .ireturn => match st with
      | [.inl x] => match rt with
        | 1 => Q (some (zI x)) M
        | 3 => (x = 0 ∨ x = 1) ∧ Q (some (zI x)) M
        | 4 => (-128 ≤ x ∧ x ≤ 127) ∧ Q (some (zI x)) M
        | 5 => (0 ≤ x ∧ x ≤ 65535) ∧ Q (some (zI x)) M
        | _ => False
      | _ => False
    | .lreturn => match st with
      | [.inr (.inl x)] => match rt with
        | 2 => Q (some (zJ x)) M
        | _ => False
      | _ => False
    | .return_ => match st with
      | [] => match rt with
        | 0 => Q none M
        | _ => False
      | _ => False
    | .invokevirtual _ => match z_pop (r2 % 100) st [] with
      | some (as, .inr (.inr b) :: st') => bif z_few st' && (Nat.beq (zk b) (r2 / 1000) && Nat.ble (r2 / 1000) 900) then zgo (r2 / 100 % 10) d r1 (zA b :: as) M st' (fun st M => znx U L e (pc + 3) l st M) else False
      | _ => False
    | .invokestatic _ => match r1 with
      | 9002 => match st with
        | .inl k :: .inl dp :: .inr (.inr b) :: .inl sp :: .inr (.inr a) :: st' => bif Nat.ble st'.length 3 && (Nat.beq (zk a) 100 && (Nat.beq (zk b) 100 && Nat.ble 29 b)) then (0 ≤ sp ∧ 0 ≤ dp ∧ 0 ≤ k ∧ sp + k ≤ (zn a : Int) ∧ dp + k ≤ (zn b : Int)) ∧ ∀ M', M' = zcp M a sp b dp k → znx U L e (pc + 3) l st' M' else False
        | _ => False
      | 9003 => match st with
        | .inl y :: .inl x :: st' => bif z_few st' then znx U L e (pc + 3) l (zI (max x y) :: st') M else False
        | _ => False
      | 9004 => match st with
        | .inl y :: .inl x :: st' => bif z_few st' then znx U L e (pc + 3) l (zI (min x y) :: st') M else False
        | _ => False
      | 9005 => match st with
        | .inr (.inl y) :: .inr (.inl x) :: st' => bif z_few st' then znx U L e (pc + 3) l (zJ (max x y) :: st') M else False
        | _ => False
      | 9006 => match st with
        | .inr (.inl y) :: .inr (.inl x) :: st' => bif z_few st' then znx U L e (pc + 3) l (zJ (min x y) :: st') M else False
        | _ => False
      | j => match z_pop (r2 % 100) st [] with
        | some (as, st') => bif z_few st' then zgo (r2 / 100 % 10) d j as M st' (fun st M => znx U L e (pc + 3) l st M) else False
        | _ => False
    | i => z_stp i r1 r2 v l st M (fun l st M => znx U L e (pc + len) l st M)

def zwp (C : CD) (U : List (Nat × List Nat)) (rt d : Nat) (L : LPT) (Q : Option ZV → ZM → Prop) : Nat → Nat → ZL → List ZV → ZM → Prop
  | 0, _, _, _, _ => False
  | n + 1, pc, l, st, M => zbd C U rt d L Q (zwp C U rt d L Q n) pc l st M
def am_bd (C : CD) (U : List (Nat × List Nat)) (rt : Nat) (G : GT) (L : Nat → LV → AH → Option RS) (e : Nat → LV → List Value → AH → Option RS) (pc : Nat) (l : LV) (st : List Value) (h : AH) : Option RS :=
  match am_code C pc with
  | none => none
  | some (i, len, r1, r2, _, v) =>
    match i with
    | .goto _ => am_nx U L e r1 l st h
    | .ifCond c _ => match st with
      | .int x :: st => match c with
        | .eq => if x = 0 then am_nx U L e r1 l st h else am_nx U L e (pc + 3) l st h
        | .ne => if ¬ x = 0 then am_nx U L e r1 l st h else am_nx U L e (pc + 3) l st h
        | .lt => if x < 0 then am_nx U L e r1 l st h else am_nx U L e (pc + 3) l st h
        | .ge => if 0 ≤ x then am_nx U L e r1 l st h else am_nx U L e (pc + 3) l st h
        | .gt => if 0 < x then am_nx U L e r1 l st h else am_nx U L e (pc + 3) l st h
        | .le => if x ≤ 0 then am_nx U L e r1 l st h else am_nx U L e (pc + 3) l st h
      | _ => none
    | .if_icmp c _ => match st with
      | .int y :: .int x :: st => match c with
        | .eq => if x = y then am_nx U L e r1 l st h else am_nx U L e (pc + 3) l st h
        | .ne => if ¬ x = y then am_nx U L e r1 l st h else am_nx U L e (pc + 3) l st h
        | .lt => if x < y then am_nx U L e r1 l st h else am_nx U L e (pc + 3) l st h
        | .ge => if y ≤ x then am_nx U L e r1 l st h else am_nx U L e (pc + 3) l st h
        | .gt => if y < x then am_nx U L e r1 l st h else am_nx U L e (pc + 3) l st h
        | .le => if x ≤ y then am_nx U L e r1 l st h else am_nx U L e (pc + 3) l st h
      | _ => none
    | .tableswitch d lo _ offs => match st with
      | .int x :: st => am_sw x (am_nx U L e ((pc : Int) + d).toNat l st h) lo (offs.toList.map fun o => am_nx U L e ((pc : Int) + o).toNat l st h)
      | _ => none
    | .ireturn => match st with
      | [.int x] => am_ret rt x h
      | _ => none
    | .lreturn => match st with
      | [.long x] => match rt with
        | 2 => some (some (.long x), h)
        | _ => none
      | _ => none
    | .return_ => match st with
      | [] => match rt with
        | 0 => some (none, h)
        | _ => none
      | _ => none
    | .invokevirtual _ => match am_pop (r2 % 100) st [] with
      | some (as, .ref b :: st') => bif am_few st' && am_isK h b (r2 / 1000) then am_go (r2 / 100 % 10) (G r1 (.ref b :: as) h) st' (fun st h => am_nx U L e (pc + 3) l st h) else none
      | _ => none
    | .invokestatic _ => match r1 with
      | 9002 => match st with
        | .int k :: .int dp :: .ref b :: .int sp :: .ref a :: st' => bif Nat.ble st'.length 3 then (am_copy h a sp b dp k).bind fun h => am_nx U L e (pc + 3) l st' h else none
        | _ => none
      | 9003 => match st with
        | .int y :: .int x :: st' => bif am_few st' then am_nx U L e (pc + 3) l (.int (if x < y then y else x) :: st') h else none
        | _ => none
      | 9004 => match st with
        | .int y :: .int x :: st' => bif am_few st' then am_nx U L e (pc + 3) l (.int (if y < x then y else x) :: st') h else none
        | _ => none
      | 9005 => match st with
        | .long y :: .long x :: st' => bif am_few st' then am_nx U L e (pc + 3) l (.long (if y < x then x else y) :: st') h else none
        | _ => none
      | 9006 => match st with
        | .long y :: .long x :: st' => bif am_few st' then am_nx U L e (pc + 3) l (.long (if y < x then y else x) :: st') h else none
        | _ => none
      | j => match am_pop (r2 % 100) st [] with
        | some (as, st') => bif am_few st' then am_go (r2 / 100 % 10) (G j as h) st' (fun st h => am_nx U L e (pc + 3) l st h) else none
        | _ => none
    | .invokespecial _ => match r1 with
      | 9001 => match st with
        | .ref _ :: st' => bif am_few st' then am_nx U L e (pc + 3) l st' h else none
        | _ => none
      | j => match am_pop (r2 % 100) st [] with
        | some (as, .ref b :: st') => bif am_few st' then am_go 0 (G j (.ref b :: as) h) st' (fun st h => am_nx U L e (pc + 3) l st h) else none
        | _ => none
    | i => am_stp i r1 r2 v l st h (fun l st h => am_nx U L e (pc + len) l st h)
theorem am_ev_bd (C : CD) (U : List (Nat × List Nat)) (rt : Nat) (G : GT) (L : Nat → LV → AH → Option RS) (n pc : Nat) (l : LV) (st : List Value) (h : AH) : am_ev C U rt G L (n + 1) pc l st h = am_bd C U rt G L (am_ev C U rt G L n) pc l st h := rfl
/-! it is enough -/
theorem z_pick_map (is : List Nat) (l : ZL) : am_pick is (zml l) = (z_pick is l).map zml := by
  induction is with
  | nil => rfl
  | cons i is ih =>
    unfold am_pick z_pick
    rw [z_look_map, ih]
    cases am_look l i with
    | none => rfl
    | some v =>
      cases z_pick is l with
      | none => rfl
      | some r => rfl
theorem z_pick_ok {l l' : ZL} (hl : okl l) : ∀ {is : List Nat}, z_pick is l = some l' → okl l' := by
  intro is
  induction is generalizing l' with
  | nil => intro h; cases h; intro q hq; cases hq
  | cons i is ih =>
    intro h
    unfold z_pick at h
    split at h
    · cases h
    · rename_i v hv
      split at h
      · cases h
      · rename_i r hr
        cases h
        intro q hq
        rcases List.mem_cons.mp hq with rfl | hq
        · exact z_look_ok hl hv
        · exact ih hr q hq
theorem z_pop_map (n : Nat) : ∀ (st acc : List ZV), am_pop n (zms st) (zms acc) = (z_pop n st acc).map (fun q => (zms q.1, zms q.2)) := by
  induction n with
  | zero => intro st acc; rfl
  | succ n ih =>
    intro st acc
    cases st with
    | nil => rfl
    | cons v st => exact ih st (v :: acc)
theorem z_pop_ok {n : Nat} : ∀ {st acc as st' : List ZV}, oks st → oks acc → z_pop n st acc = some (as, st') → oks as ∧ oks st' := by
  induction n with
  | zero => intro st acc as st' h1 h2 h; cases h; exact ⟨h2, h1⟩
  | succ n ih =>
    intro st acc as st' h1 h2 h
    cases st with
    | nil => cases h
    | cons v st => exact ih h1.tl (oks.cons h1.hd h2) h
theorem zok_go {g : Nat → AC} {rt : Nat} {d j : Nat} {as st : List ZV} {M : ZM} {k : List ZV → ZM → Prop} {Q : Option ZV → ZM → Prop} {K : List Value → AH → Option RS} (h : zgo rt d j as M st k) (R : RG M) (ha : oks as) (hs : oks st) (hk : ∀ st M, k st M → RG M → oks st → zok (K (zms st) (hp g M)) g Q) : zok (am_go rt (am_sem d j (zms as) (hp g M)) (zms st) K) g Q := by
  unfold zgo at h
  split at h
  · obtain ⟨r, M', e, h1, h2, h3⟩ := h g R ha
    rw [e]
    cases r with
    | none => exact hk _ _ h3 h2 hs
    | some v => exact h3.elim
  · obtain ⟨r, M', e, h1, h2, h3⟩ := h g R ha
    rw [e]
    match r, h1, h3 with
    | some (.inr (.inl x)), h1, h3 => exact hk (zJ x :: st) _ h3 h2 (oks.cons (h1 _ rfl) hs)
    | none, _, h3 => exact h3.elim
    | some (.inl _), _, h3 => exact h3.elim
    | some (.inr (.inr _)), _, h3 => exact h3.elim
  · rename_i n0 n2
    obtain ⟨r, M', e, h1, h2, h3⟩ := h g R ha
    rw [e]
    match r, h1, h3 with
    | some (.inl x), h1, h3 =>
      have := hk (zI x :: st) _ h3 h2 (oks.cons (h1 _ rfl) hs)
      match rt, n0, n2 with
      | 0, n0, _ => exact absurd rfl n0
      | 1, _, _ => exact this
      | 2, _, n2 => exact absurd rfl n2
      | n + 3, _, _ => exact this
    | none, _, h3 => exact h3.elim
    | some (.inr _), _, h3 => exact h3.elim
theorem zi_ite {x y : Int} {c : Prop} [Decidable c] : zi (if c then x else y) = if c then zi x else zi y := by
  by_cases h : c
  · rw [if_pos h, if_pos h]
  · rw [if_neg h, if_neg h]
theorem zok_if {g : Nat → AC} {Q : Option ZV → ZM → Prop} {c : Prop} [Decidable c] {p : Prop} {A B : Option RS} (hcp : c = p) (h1 : p → zok A g Q) (h2 : ¬ p → zok B g Q) : zok (if c then A else B) g Q := by
  subst hcp
  by_cases hc : c
  · rw [if_pos hc]; exact h1 hc
  · rw [if_neg hc]; exact h2 hc
theorem zok_sw {g : Nat → AC} {Q : Option ZV → ZM → Prop} {x : Int} (hx : r32 x) : ∀ (ps : List Prop) (os : List (Option RS)) (lo : Int) (D : Prop) (D' : Option RS), -1000 ≤ lo → lo + ps.length ≤ 2000 → z_sw x D lo ps → os.length = ps.length → (∀ (i : Nat) (p : Prop) (o : Option RS), ps[i]? = some p → os[i]? = some o → p → zok o g Q) → (D → zok D' g Q) → zok (am_sw (zi x) D' lo os) g Q := by
  intro ps
  induction ps with
  | nil =>
    intro os lo D D' h1 h2 h hl hk hd
    cases os with
    | nil => exact hd h
    | cons => simp at hl
  | cons p ps ih =>
    intro os lo D D' h1 h2 h hl hk hd
    cases os with
    | nil => simp at hl
    | cons o os =>
      unfold am_sw
      simp only [List.length_cons] at h2
      refine zok_if (p := x = lo) (zi_inj hx.1 hx.2 (by omega) (by omega)) (fun q => hk 0 p o rfl rfl (h.1 q)) (fun q => ?_)
      exact ih os (lo + 1) D D' (by omega) (by omega) (h.2 q) (by simpa using hl) (fun i p o a b => hk (i + 1) p o a b) hd
theorem z_nc {x : Int} (h1 : 0 ≤ x) (h2 : x ≤ 65535) : narrow .char (.int (zi x)) = .int (zi x) := by
  show Value.int (zi x).toUInt32.toUInt16.toUInt32.toInt32 = Value.int (zi x)
  congr 1
  obtain ⟨n, rfl⟩ : ∃ n : Nat, x = n := ⟨x.toNat, by omega⟩
  have hn : n ≤ 65535 := by omega
  unfold zi
  rw [Int32.ofInt_eq_ofNat]
  have e : (Int32.ofNat n).toUInt32 = UInt32.ofNat n := rfl
  rw [e]
  have e2 : (UInt32.ofNat n).toUInt16.toUInt32 = UInt32.ofNat n := by
    apply UInt32.toNat_inj.mp
    simp
    omega
  rw [e2]
  rfl
theorem z_max {x y : Int} (hx : r32 x) (hy : r32 y) : (if zi x < zi y then zi y else zi x) = zi (max x y) := by
  have e := zi_lt hx.1 hx.2 hy.1 hy.2
  by_cases h : x < y
  · rw [if_pos (by rw [e]; exact h), show max x y = y by omega]
  · rw [if_neg (by rw [e]; exact h), show max x y = x by omega]
theorem z_min {x y : Int} (hx : r32 x) (hy : r32 y) : (if zi y < zi x then zi y else zi x) = zi (min x y) := by
  have e := zi_lt hy.1 hy.2 hx.1 hx.2
  by_cases h : y < x
  · rw [if_pos (by rw [e]; exact h), show min x y = y by omega]
  · rw [if_neg (by rw [e]; exact h), show min x y = x by omega]
theorem z_maxL {x y : Int} (hx : r64 x) (hy : r64 y) : (if zl y < zl x then zl x else zl y) = zl (max x y) := by
  have e := zl_lt hy.1 hy.2 hx.1 hx.2
  by_cases h : y < x
  · rw [if_pos (by rw [e]; exact h), show max x y = x by omega]
  · rw [if_neg (by rw [e]; exact h), show max x y = y by omega]
theorem z_minL {x y : Int} (hx : r64 x) (hy : r64 y) : (if zl y < zl x then zl y else zl x) = zl (min x y) := by
  have e := zl_lt hy.1 hy.2 hx.1 hx.2
  by_cases h : y < x
  · rw [if_pos (by rw [e]; exact h), show min x y = y by omega]
  · rw [if_neg (by rw [e]; exact h), show min x y = x by omega]
theorem znx_ok {U : List (Nat × List Nat)} {g : Nat → AC} {Q : Option ZV → ZM → Prop} {L : LPT} {Lm : Nat → LV → AH → Option RS} {e : Nat → ZL → List ZV → ZM → Prop} {E : Nat → LV → List Value → AH → Option RS} (hL : ∀ pc l M, L pc l M → RG M → okl l → zok (Lm pc (zml l) (hp g M)) g Q) (he : ∀ pc l st M, e pc l st M → RG M → okl l → oks st → zok (E pc (zml l) (zms st) (hp g M)) g Q) (pc : Nat) (l : ZL) (st : List ZV) (M : ZM) (h : znx U L e pc l st M) (R : RG M) (hl : okl l) (hs : oks st) : zok (am_nx U Lm E pc (zml l) (zms st) (hp g M)) g Q := by
  unfold znx at h
  unfold am_nx
  generalize am_look U pc = c at h ⊢
  cases c with
  | none => exact he _ _ _ _ h R hl hs
  | some live =>
    cases st with
    | cons v st => exact h.elim
    | nil =>
      dsimp only at h ⊢
      show zok (match am_pick live (zml l) with
        | some l' => Lm pc l' (hp g M)
        | none => none) g Q
      rw [z_pick_map]
      cases hp' : z_pick live l with
      | none => rw [hp'] at h; exact h.elim
      | some l' => rw [hp'] at h; exact hL _ _ _ h R (z_pick_ok hl hp')
theorem zwp_ok {C : CD} {U : List (Nat × List Nat)} {rt d : Nat} {g : Nat → AC} {Q : Option ZV → ZM → Prop} {L : LPT} {Lm : Nat → LV → AH → Option RS} (hL : ∀ pc l M, L pc l M → RG M → okl l → zok (Lm pc (zml l) (hp g M)) g Q) : ∀ (n pc : Nat) (l : ZL) (st : List ZV) (M : ZM), zwp C U rt d L Q n pc l st M → RG M → okl l → oks st → zok (am_ev C U rt (am_sem d) Lm n pc (zml l) (zms st) (hp g M)) g Q := by
  intro n
  induction n with
  | zero => intro pc l st M h; exact h.elim
  | succ n ih =>
    intro pc l st M h R hl hs
    have nx := znx_ok (U := U) hL ih
    have key : ∀ (i : Instr) (r1 r2 : Nat) (v : Value) (len : Nat), z_stp i r1 r2 v l st M (fun l st M => znx U L (zwp C U rt d L Q n) (pc + len) l st M) → zok (am_stp i r1 r2 v (zml l) (zms st) (hp g M) (fun l st h => am_nx U Lm (am_ev C U rt (am_sem d) Lm n) (pc + len) l st h)) g Q := by
      intro i r1 r2 v len h
      obtain ⟨l', st', M', e, h1, h2, h3, h4⟩ := zs_stp (g := g) h R hl hs
      rw [e]
      exact nx _ _ _ _ h4 h1 h2 h3
    replace h : zbd C U rt d L Q (zwp C U rt d L Q n) pc l st M := h
    rw [am_ev_bd]
    unfold zbd at h
    unfold am_bd
    generalize am_code C pc = c at h ⊢
    cases c with
    | none => exact h.elim
    | some q =>
      obtain ⟨i, len, r1, r2, r3, v⟩ := q
      cases i
      case goto => exact nx _ _ _ _ h R hl hs
      case ifCond c o =>
        match st, h, hs with
        | .inl x :: st, h, hs =>
          have hx : r32 x := hs.hd
          have z : ((0 : Int32)) = zi 0 := zi_lit 0
          have e1 : (zi x = 0) = (x = 0) := by rw [z]; exact zi_inj hx.1 hx.2 (by omega) (by omega)
          have e2 : (zi x < 0) = (x < 0) := by rw [z]; exact zi_lt hx.1 hx.2 (by omega) (by omega)
          have e3 : (0 ≤ zi x) = (0 ≤ x) := by rw [z]; exact zi_le (by omega) (by omega) hx.1 hx.2
          have e4 : (0 < zi x) = (0 < x) := by rw [z]; exact zi_lt (by omega) (by omega) hx.1 hx.2
          have e5 : (zi x ≤ 0) = (x ≤ 0) := by rw [z]; exact zi_le hx.1 hx.2 (by omega) (by omega)
          cases c with
          | eq => exact zok_if e1 (fun q => nx _ _ _ _ (h.1 q) R hl hs.tl) (fun q => nx _ _ _ _ (h.2 q) R hl hs.tl)
          | ne => exact zok_if (p := ¬ x = 0) (congrArg Not e1) (fun q => nx _ _ _ _ (h.1 q) R hl hs.tl) (fun q => nx _ _ _ _ (h.2 (Classical.not_not.mp q)) R hl hs.tl)
          | lt => exact zok_if e2 (fun q => nx _ _ _ _ (h.1 q) R hl hs.tl) (fun q => nx _ _ _ _ (h.2 q) R hl hs.tl)
          | ge => exact zok_if e3 (fun q => nx _ _ _ _ (h.1 q) R hl hs.tl) (fun q => nx _ _ _ _ (h.2 q) R hl hs.tl)
          | gt => exact zok_if e4 (fun q => nx _ _ _ _ (h.1 q) R hl hs.tl) (fun q => nx _ _ _ _ (h.2 q) R hl hs.tl)
          | le => exact zok_if e5 (fun q => nx _ _ _ _ (h.1 q) R hl hs.tl) (fun q => nx _ _ _ _ (h.2 q) R hl hs.tl)
        | [], h, _ => exact (h : False).elim
        | .inr _ :: st, h, _ => exact (h : False).elim
      case if_icmp c o =>
        dsimp only at h
        split at h
        · rename_i y x st
          have hy : r32 y := hs.hd
          have hx : r32 x := hs.tl.hd
          have e1 : (zi x = zi y) = (x = y) := zi_inj hx.1 hx.2 hy.1 hy.2
          have e2 : (zi x < zi y) = (x < y) := zi_lt hx.1 hx.2 hy.1 hy.2
          have e3 : (zi y ≤ zi x) = (y ≤ x) := zi_le hy.1 hy.2 hx.1 hx.2
          have e4 : (zi y < zi x) = (y < x) := zi_lt hy.1 hy.2 hx.1 hx.2
          have e5 : (zi x ≤ zi y) = (x ≤ y) := zi_le hx.1 hx.2 hy.1 hy.2
          cases c with
          | eq => exact zok_if e1 (fun q => nx _ _ _ _ (h.1 q) R hl hs.tl.tl) (fun q => nx _ _ _ _ (h.2 q) R hl hs.tl.tl)
          | ne => exact zok_if (p := ¬ x = y) (congrArg Not e1) (fun q => nx _ _ _ _ (h.1 q) R hl hs.tl.tl) (fun q => nx _ _ _ _ (h.2 (Classical.not_not.mp q)) R hl hs.tl.tl)
          | lt => exact zok_if e2 (fun q => nx _ _ _ _ (h.1 q) R hl hs.tl.tl) (fun q => nx _ _ _ _ (h.2 q) R hl hs.tl.tl)
          | ge => exact zok_if e3 (fun q => nx _ _ _ _ (h.1 q) R hl hs.tl.tl) (fun q => nx _ _ _ _ (h.2 q) R hl hs.tl.tl)
          | gt => exact zok_if e4 (fun q => nx _ _ _ _ (h.1 q) R hl hs.tl.tl) (fun q => nx _ _ _ _ (h.2 q) R hl hs.tl.tl)
          | le => exact zok_if e5 (fun q => nx _ _ _ _ (h.1 q) R hl hs.tl.tl) (fun q => nx _ _ _ _ (h.2 q) R hl hs.tl.tl)
        · exact h.elim
      case tableswitch d' lo hi offs =>
        match st, h, hs with
        | .inl x :: st, h, hs =>
          have h : (-1000 ≤ lo ∧ lo ≤ 1000 ∧ offs.toList.length ≤ 1000) ∧ z_sw x (znx U L (zwp C U rt d L Q n) ((pc : Int) + d').toNat l st M) lo (offs.toList.map fun o => znx U L (zwp C U rt d L Q n) ((pc : Int) + o).toNat l st M) := h
          refine zok_sw hs.hd (offs.toList.map fun o => znx U L (zwp C U rt d L Q n) ((pc : Int) + o).toNat l st M) (offs.toList.map fun o => am_nx U Lm (am_ev C U rt (am_sem d) Lm n) ((pc : Int) + o).toNat (zml l) (zms st) (hp g M)) lo _ (am_nx U Lm (am_ev C U rt (am_sem d) Lm n) ((pc : Int) + d').toNat (zml l) (zms st) (hp g M)) h.1.1 (by simp only [List.length_map]; omega) h.2 (by simp) ?_ (fun q => nx _ _ _ _ q R hl hs.tl)
          intro i p o e1 e2 hp'
          rw [List.getElem?_map] at e1 e2
          cases ho : offs.toList[i]? with
          | none => rw [ho] at e1; cases e1
          | some w =>
            rw [ho] at e1 e2
            cases e1
            cases e2
            exact nx _ _ _ _ hp' R hl hs.tl
        | [], h, _ => exact (h : False).elim
        | .inr _ :: st, h, _ => exact (h : False).elim
      case ireturn =>
        dsimp only at h
        split at h
        · rename_i x
          split at h
          · exact ⟨some (zI x), M, rfl, fun v hv => by cases hv; exact hs.hd, R, h⟩
          · refine ⟨some (zI x), M, ?_, fun v hv => by cases hv; exact hs.hd, R, h.2⟩
            show (if zi x = 0 ∨ zi x = 1 then _ else _) = _
            rw [if_pos (by rcases h.1 with rfl | rfl <;> decide)]
            rfl
          · refine ⟨some (zI x), M, ?_, fun v hv => by cases hv; exact hs.hd, R, h.2⟩
            show (if narrow .byte (.int (zi x)) = .int (zi x) then _ else _) = _
            rw [if_pos (z_nb h.1.1 h.1.2)]
            rfl
          · refine ⟨some (zI x), M, ?_, fun v hv => by cases hv; exact hs.hd, R, h.2⟩
            show (if narrow .char (.int (zi x)) = .int (zi x) then _ else _) = _
            rw [if_pos (z_nc h.1.1 h.1.2)]
            rfl
          · exact h.elim
        · exact h.elim
      case lreturn =>
        dsimp only at h
        split at h
        · rename_i x
          split at h
          · exact ⟨some (zJ x), M, rfl, fun v hv => by cases hv; exact hs.hd, R, h⟩
          · exact h.elim
        · exact h.elim
      case return_ =>
        dsimp only at h
        split at h
        · split at h
          · exact ⟨none, M, rfl, (fun v hv => by cases hv), R, h⟩
          · exact h.elim
        · exact h.elim
      case invokevirtual o =>
        dsimp only at h ⊢
        have ep := z_pop_map (r2 % 100) st []
        rw [show am_pop (r2 % 100) (zms st) [] = _ from ep]
        generalize hp' : z_pop (r2 % 100) st [] = q at h
        split at h
        · rename_i as b st'
          have ok := z_pop_ok hs (fun _ hv => by cases hv) hp'
          obtain ⟨hg, h⟩ := zbif h
          simp only [Bool.and_eq_true] at hg
          show zok (bif am_few (zms st') && am_isK (hp g M) b (r2 / 1000) then _ else _) g Q
          rw [show am_few (zms st') = true from hg.1, hp_isK hg.2.1 (by have := Nat.le_of_ble_eq_true hg.2.2; omega)]
          exact zok_go h R (oks.cons trivial ok.1) ok.2.tl (fun st M h R hs => nx _ _ _ _ h R hl hs)
        · exact h.elim
      case invokespecial o => exact (h : False).elim
      case invokestatic o =>
        dsimp only at h
        split at h
        · split at h
          · rename_i k dp b sp a st'
            obtain ⟨hg, h⟩ := zbif h
            simp only [Bool.and_eq_true] at hg
            obtain ⟨g0, g1, g2, g3⟩ := hg
            have g1 := Nat.eq_of_beq_eq_true g1
            have g2 := Nat.eq_of_beq_eq_true g2
            have g3 := Nat.le_of_ble_eq_true g3
            obtain ⟨⟨c1, c2, c3, c4, c5⟩, h⟩ := h
            show zok (bif Nat.ble (zms st').length 3 then (am_copy (hp g M) a (zi sp) b (zi dp) (zi k)).bind _ else _) g Q
            rw [show (zms st').length = st'.length from List.length_map _, g0, hp_cp g1 g2 g3 c1 c2 c3 c4 c5]
            exact nx _ _ _ _ (h _ rfl) (R.cp g1 g2 g3 c1 c4) hl hs.tl.tl.tl.tl.tl
          · exact h.elim
        · split at h
          · rename_i y x st'
            obtain ⟨hg, h⟩ := zbif h
            show zok (bif am_few (zms st') then am_nx U Lm (am_ev C U rt (am_sem d) Lm n) (pc + 3) (zml l) (.int (if zi x < zi y then zi y else zi x) :: zms st') (hp g M) else _) g Q
            have hy : r32 y := hs.hd
            have hx : r32 x := hs.tl.hd
            rw [show am_few (zms st') = true from hg, show (if zi x < zi y then zi y else zi x) = zi (max x y) from z_max hx hy]
            exact nx _ _ (zI (max x y) :: st') _ h R hl (oks.cons (by show r32 _; unfold r32 at *; omega) hs.tl.tl)
          · exact h.elim
        · split at h
          · rename_i y x st'
            obtain ⟨hg, h⟩ := zbif h
            show zok (bif am_few (zms st') then am_nx U Lm (am_ev C U rt (am_sem d) Lm n) (pc + 3) (zml l) (.int (if zi y < zi x then zi y else zi x) :: zms st') (hp g M) else _) g Q
            have hy : r32 y := hs.hd
            have hx : r32 x := hs.tl.hd
            rw [show am_few (zms st') = true from hg, show (if zi y < zi x then zi y else zi x) = zi (min x y) from z_min hx hy]
            exact nx _ _ (zI (min x y) :: st') _ h R hl (oks.cons (by show r32 _; unfold r32 at *; omega) hs.tl.tl)
          · exact h.elim
        · split at h
          · rename_i y x st'
            obtain ⟨hg, h⟩ := zbif h
            show zok (bif am_few (zms st') then am_nx U Lm (am_ev C U rt (am_sem d) Lm n) (pc + 3) (zml l) (.long (if zl y < zl x then zl x else zl y) :: zms st') (hp g M) else _) g Q
            have hy : r64 y := hs.hd
            have hx : r64 x := hs.tl.hd
            rw [show am_few (zms st') = true from hg, show (if zl y < zl x then zl x else zl y) = zl (max x y) from z_maxL hx hy]
            exact nx _ _ (zJ (max x y) :: st') _ h R hl (oks.cons (by show r64 _; unfold r64 at *; omega) hs.tl.tl)
          · exact h.elim
        · split at h
          · rename_i y x st'
            obtain ⟨hg, h⟩ := zbif h
            show zok (bif am_few (zms st') then am_nx U Lm (am_ev C U rt (am_sem d) Lm n) (pc + 3) (zml l) (.long (if zl y < zl x then zl y else zl x) :: zms st') (hp g M) else _) g Q
            have hy : r64 y := hs.hd
            have hx : r64 x := hs.tl.hd
            rw [show am_few (zms st') = true from hg, show (if zl y < zl x then zl y else zl x) = zl (min x y) from z_minL hx hy]
            exact nx _ _ (zJ (min x y) :: st') _ h R hl (oks.cons (by show r64 _; unfold r64 at *; omega) hs.tl.tl)
          · exact h.elim
        · rename_i j n2 n3 n4 n5 n6
          have ep := z_pop_map (r2 % 100) st []
          generalize hp' : z_pop (r2 % 100) st [] = q at h
          split at h
          · rename_i as st'
            have ok := z_pop_ok hs (fun _ hv => by cases hv) hp'
            obtain ⟨hg, h⟩ := zbif h
            dsimp only
            split
            · exact absurd rfl n2
            · exact absurd rfl n3
            · exact absurd rfl n4
            · exact absurd rfl n5
            · exact absurd rfl n6
            · rw [show am_pop (r2 % 100) (zms st) [] = _ from ep, hp']
              show zok (bif am_few (zms st') then _ else _) g Q
              rw [show am_few (zms st') = true from hg]
              exact zok_go h R ok.1 ok.2 (fun st M h R hs => nx _ _ _ _ h R hl hs)
          · exact h.elim
      all_goals exact key _ _ _ _ _ h
/-! pieces and calls -/
theorem zlp_of {C : CD} {U : List (Nat × List Nat)} {rt d pc : Nat} {l : ZL} {M : ZM} {Q : Option ZV → ZM → Prop} (h : zwp C U rt d (fun pc l M => zlp C U rt d pc l M Q) Q 4000 pc l [] M) : zlp C U rt d pc l M Q := by
  intro g R hl
  rw [am_rn_eq _ _ _ (am_sem_mono d)]
  exact zwp_ok (fun pc l M h R hl => h g R hl) 4000 pc l [] M h R hl (fun _ hv => by cases hv)
def z_args : Nat → List ZV → ZL
  | _, [] => []
  | i, v :: vs => (i, v) :: z_args (if (zv v).category = 2 then i + 2 else i + 1) vs
theorem z_args_map : ∀ (as : List ZV) (i : Nat), lv_args i (zms as) = zml (z_args i as) := by
  intro as
  induction as with
  | nil => intro i; rfl
  | cons v vs ih => intro i; exact congrArg ((i, zv v) :: ·) (ih _)
theorem z_args_ok : ∀ {as : List ZV}, oks as → ∀ i, okl (z_args i as) := by
  intro as
  induction as with
  | nil => intro _ i q hq; cases hq
  | cons v vs ih =>
    intro h i q hq
    rcases List.mem_cons.mp hq with rfl | hq
    · exact h.hd
    · exact ih h.tl _ q hq
theorem zcall_of {d j : Nat} {as : List ZV} {M : ZM} {Q : Option ZV → ZM → Prop} {D : MD} (hM : am_prog[j]? = some D) (hj : Nat.beq j 260 = false) (hb : Nat.ble (lg_sl (zms as)).length D.2.2.2.1 = true) (h : zwp D.1 D.2.1 (am_rt D.2.2.2.2.1) d (fun pc l M => zlp D.1 D.2.1 (am_rt D.2.2.2.2.1) d pc l M Q) Q 4000 0 (z_args 0 as) [] M) : zcall (d + 1) j as M Q := by
  intro g R ha
  have e : am_sem (d + 1) j (zms as) (hp g M) = am_rn D.1 D.2.1 (am_rt D.2.2.2.2.1) (am_sem d) 0 (zml (z_args 0 as)) (hp g M) := by
    rw [am_sem]
    dsimp only
    split
    · cases hj
    · rw [hM]
      dsimp only
      rw [hb, z_args_map]
      rfl
  rw [e]
  exact zlp_of h g R (z_args_ok ha 0)
/-- the bounds of the numbers that lie in the memory, where a proof wants them -/
theorem zcall_rg {d j : Nat} {as : List ZV} {M : ZM} {Q : Option ZV → ZM → Prop} (h : RG M → zcall d j as M Q) : zcall d j as M Q := fun g R ha => h R g R ha
theorem zlp_rg {C : CD} {U : List (Nat × List Nat)} {rt d pc : Nat} {l : ZL} {M : ZM} {Q : Option ZV → ZM → Prop} (h : RG M → zlp C U rt d pc l M Q) : zlp C U rt d pc l M Q := fun g R ha => h R g R ha
theorem zok_mono {o : Option RS} {g : Nat → AC} {Q Q' : Option ZV → ZM → Prop} (h : zok o g Q) (hq : ∀ r M, RG M → Q r M → Q' r M) : zok o g Q' := by
  obtain ⟨r, M', h1, h2, h3, h4⟩ := h
  exact ⟨r, M', h1, h2, h3, hq _ _ h3 h4⟩
theorem zcV_mono {d j : Nat} {as : List ZV} {M : ZM} {k k' : ZM → Prop} (h : zcV d j as M k) (hq : ∀ M, RG M → k M → k' M) : zcV d j as M k' := fun g R ha => zok_mono (h g R ha) (fun r M R h => match r, h with
  | none, h => hq M R h)
theorem zcI_mono {d j : Nat} {as : List ZV} {M : ZM} {k k' : Int → ZM → Prop} (h : zcI d j as M k) (hq : ∀ x M, RG M → k x M → k' x M) : zcI d j as M k' := fun g R ha => zok_mono (h g R ha) (fun r M R h => match r, h with
  | some (.inl x), h => hq x M R h)
theorem zcL_mono {d j : Nat} {as : List ZV} {M : ZM} {k k' : Int → ZM → Prop} (h : zcL d j as M k) (hq : ∀ x M, RG M → k x M → k' x M) : zcL d j as M k' := fun g R ha => zok_mono (h g R ha) (fun r M R h => match r, h with
  | some (.inr (.inl x)), h => hq x M R h)
/-- String.checkIndex -/
theorem z_ci {d : Nat} {i n : Int} {M : ZM} {k : ZM → Prop} (h0 : 0 ≤ i) (h1 : i < n) (h : k M) : zcV (d + 1) 260 [zI i, zI n] M k := by
  intro g R ha
  have hi : r32 i := ha.hd
  have hn : r32 n := ha.tl.hd
  refine ⟨none, M, ?_, (fun v hv => by cases hv), R, h⟩
  show am_ci [.int (zi i), .int (zi n)] (hp g M) = _
  unfold am_ci
  dsimp only
  rw [if_neg]
  · rfl
  · intro q
    rcases q with q | q
    · exact zi_neg0 h0 hi.2 q
    · rw [zi_lt hi.1 hi.2 hn.1 hn.2] at q
      exact q h1
end
