/-! Part 04: the tables' words (the skeleton's PART A), names and fields of the classes (printed text of the program). -/
-- ===== PART A: goes FIRST, ahead of the names: the tables' words, and 'selects' of the private methods out of them =====
/-- a private method of a class that the tables say can be made, by its rows of tables_1 -/
def lw_okq (q : MethodName × Nat) : Prop := (q.1.cls ≠ "java/lang/invoke/MethodHandle" ∧ q.1.cls ≠ "java/lang/invoke/VarHandle") ∧ Cond.instantiable q.1.cls q.2 ∈ tables_1 ∧ Cond.privateMethod q.1 ∈ tables_1 ∧ Cond.instanceMethod q.1 ∈ tables_1
theorem lw_p0 : lw_okq (⟨"VillageShow$Reader", "step", "()V"⟩, 9) := ⟨⟨by decide +kernel, by decide +kernel⟩, List.mem_of_getElem? (i := 83) (by decide +kernel), List.mem_of_getElem? (i := 515) (by decide +kernel), List.mem_of_getElem? (i := 516) (by decide +kernel)⟩
theorem lw_p1 : lw_okq (⟨"VillageShow$Reader", "takeWord", "()V"⟩, 9) := ⟨⟨by decide +kernel, by decide +kernel⟩, List.mem_of_getElem? (i := 83) (by decide +kernel), List.mem_of_getElem? (i := 519) (by decide +kernel), List.mem_of_getElem? (i := 520) (by decide +kernel)⟩
theorem lw_p2 : lw_okq (⟨"VillageShow$Reader", "takeNumber", "()V"⟩, 9) := ⟨⟨by decide +kernel, by decide +kernel⟩, List.mem_of_getElem? (i := 83) (by decide +kernel), List.mem_of_getElem? (i := 523) (by decide +kernel), List.mem_of_getElem? (i := 524) (by decide +kernel)⟩
theorem lw_p3 : lw_okq (⟨"VillageShow$Reader", "readLine", "(I)V"⟩, 9) := ⟨⟨by decide +kernel, by decide +kernel⟩, List.mem_of_getElem? (i := 83) (by decide +kernel), List.mem_of_getElem? (i := 614) (by decide +kernel), List.mem_of_getElem? (i := 615) (by decide +kernel)⟩
theorem lw_p4 : lw_okq (⟨"VillageShow$Reader", "columnIn", "(Ljava/lang/String;)I"⟩, 9) := ⟨⟨by decide +kernel, by decide +kernel⟩, List.mem_of_getElem? (i := 83) (by decide +kernel), List.mem_of_getElem? (i := 619) (by decide +kernel), List.mem_of_getElem? (i := 620) (by decide +kernel)⟩
theorem lw_p5 : lw_okq (⟨"VillageShow$Reader", "isAt", "(Ljava/lang/String;II)Z"⟩, 9) := ⟨⟨by decide +kernel, by decide +kernel⟩, List.mem_of_getElem? (i := 83) (by decide +kernel), List.mem_of_getElem? (i := 644) (by decide +kernel), List.mem_of_getElem? (i := 645) (by decide +kernel)⟩
theorem lw_p6 : lw_okq (⟨"VillageShow$Reader", "fail", "(I)V"⟩, 9) := ⟨⟨by decide +kernel, by decide +kernel⟩, List.mem_of_getElem? (i := 83) (by decide +kernel), List.mem_of_getElem? (i := 650) (by decide +kernel), List.mem_of_getElem? (i := 651) (by decide +kernel)⟩
theorem lw_p7 : lw_okq (⟨"VillageShow$Reader", "readWant", "()V"⟩, 9) := ⟨⟨by decide +kernel, by decide +kernel⟩, List.mem_of_getElem? (i := 83) (by decide +kernel), List.mem_of_getElem? (i := 654) (by decide +kernel), List.mem_of_getElem? (i := 655) (by decide +kernel)⟩
theorem lw_p8 : lw_okq (⟨"VillageShow$Reader", "readNumber", "(II)I"⟩, 9) := ⟨⟨by decide +kernel, by decide +kernel⟩, List.mem_of_getElem? (i := 83) (by decide +kernel), List.mem_of_getElem? (i := 658) (by decide +kernel), List.mem_of_getElem? (i := 659) (by decide +kernel)⟩
theorem lw_p9 : lw_okq (⟨"VillageShow$Reader", "expectWord", "(Ljava/lang/String;)V"⟩, 9) := ⟨⟨by decide +kernel, by decide +kernel⟩, List.mem_of_getElem? (i := 83) (by decide +kernel), List.mem_of_getElem? (i := 664) (by decide +kernel), List.mem_of_getElem? (i := 665) (by decide +kernel)⟩
theorem lw_p10 : lw_okq (⟨"VillageShow$Reader", "isWord", "(Ljava/lang/String;)Z"⟩, 9) := ⟨⟨by decide +kernel, by decide +kernel⟩, List.mem_of_getElem? (i := 83) (by decide +kernel), List.mem_of_getElem? (i := 668) (by decide +kernel), List.mem_of_getElem? (i := 669) (by decide +kernel)⟩
theorem lw_p11 : lw_okq (⟨"VillageShow$Reader", "readBar", "()I"⟩, 9) := ⟨⟨by decide +kernel, by decide +kernel⟩, List.mem_of_getElem? (i := 83) (by decide +kernel), List.mem_of_getElem? (i := 672) (by decide +kernel), List.mem_of_getElem? (i := 673) (by decide +kernel)⟩
theorem lw_p12 : lw_okq (⟨"VillageShow$Reader", "readRule", "(IZ)I"⟩, 9) := ⟨⟨by decide +kernel, by decide +kernel⟩, List.mem_of_getElem? (i := 83) (by decide +kernel), List.mem_of_getElem? (i := 679) (by decide +kernel), List.mem_of_getElem? (i := 680) (by decide +kernel)⟩
theorem lw_p13 : lw_okq (⟨"VillageShow$Reader", "readExpression", "(I)V"⟩, 9) := ⟨⟨by decide +kernel, by decide +kernel⟩, List.mem_of_getElem? (i := 83) (by decide +kernel), List.mem_of_getElem? (i := 691) (by decide +kernel), List.mem_of_getElem? (i := 692) (by decide +kernel)⟩
theorem lw_p14 : lw_okq (⟨"VillageShow$Reader", "readTest", "(I)V"⟩, 9) := ⟨⟨by decide +kernel, by decide +kernel⟩, List.mem_of_getElem? (i := 83) (by decide +kernel), List.mem_of_getElem? (i := 695) (by decide +kernel), List.mem_of_getElem? (i := 696) (by decide +kernel)⟩
theorem lw_p15 : lw_okq (⟨"VillageShow$Reader", "readSum", "(I)V"⟩, 9) := ⟨⟨by decide +kernel, by decide +kernel⟩, List.mem_of_getElem? (i := 83) (by decide +kernel), List.mem_of_getElem? (i := 699) (by decide +kernel), List.mem_of_getElem? (i := 700) (by decide +kernel)⟩
def lw_privs_1 : List (MethodName × Nat) := [(⟨"VillageShow$Reader", "step", "()V"⟩, 9), (⟨"VillageShow$Reader", "takeWord", "()V"⟩, 9), (⟨"VillageShow$Reader", "takeNumber", "()V"⟩, 9), (⟨"VillageShow$Reader", "readLine", "(I)V"⟩, 9), (⟨"VillageShow$Reader", "columnIn", "(Ljava/lang/String;)I"⟩, 9), (⟨"VillageShow$Reader", "isAt", "(Ljava/lang/String;II)Z"⟩, 9), (⟨"VillageShow$Reader", "fail", "(I)V"⟩, 9), (⟨"VillageShow$Reader", "readWant", "()V"⟩, 9), (⟨"VillageShow$Reader", "readNumber", "(II)I"⟩, 9), (⟨"VillageShow$Reader", "expectWord", "(Ljava/lang/String;)V"⟩, 9), (⟨"VillageShow$Reader", "isWord", "(Ljava/lang/String;)Z"⟩, 9), (⟨"VillageShow$Reader", "readBar", "()I"⟩, 9), (⟨"VillageShow$Reader", "readRule", "(IZ)I"⟩, 9), (⟨"VillageShow$Reader", "readExpression", "(I)V"⟩, 9), (⟨"VillageShow$Reader", "readTest", "(I)V"⟩, 9), (⟨"VillageShow$Reader", "readSum", "(I)V"⟩, 9)]
theorem lw_r1 : ∀ q ∈ lw_privs_1, lw_okq q := List.forall_mem_cons.mpr ⟨lw_p0, List.forall_mem_cons.mpr ⟨lw_p1, List.forall_mem_cons.mpr ⟨lw_p2, List.forall_mem_cons.mpr ⟨lw_p3, List.forall_mem_cons.mpr ⟨lw_p4, List.forall_mem_cons.mpr ⟨lw_p5, List.forall_mem_cons.mpr ⟨lw_p6, List.forall_mem_cons.mpr ⟨lw_p7, List.forall_mem_cons.mpr ⟨lw_p8, List.forall_mem_cons.mpr ⟨lw_p9, List.forall_mem_cons.mpr ⟨lw_p10, List.forall_mem_cons.mpr ⟨lw_p11, List.forall_mem_cons.mpr ⟨lw_p12, List.forall_mem_cons.mpr ⟨lw_p13, List.forall_mem_cons.mpr ⟨lw_p14, List.forall_mem_cons.mpr ⟨lw_p15, fun _ h => absurd h List.not_mem_nil⟩⟩⟩⟩⟩⟩⟩⟩⟩⟩⟩⟩⟩⟩⟩⟩
theorem lw_p16 : lw_okq (⟨"VillageShow$Reader", "readProduct", "(I)V"⟩, 9) := ⟨⟨by decide +kernel, by decide +kernel⟩, List.mem_of_getElem? (i := 83) (by decide +kernel), List.mem_of_getElem? (i := 703) (by decide +kernel), List.mem_of_getElem? (i := 704) (by decide +kernel)⟩
theorem lw_p17 : lw_okq (⟨"VillageShow$Reader", "readPart", "(I)V"⟩, 9) := ⟨⟨by decide +kernel, by decide +kernel⟩, List.mem_of_getElem? (i := 83) (by decide +kernel), List.mem_of_getElem? (i := 707) (by decide +kernel), List.mem_of_getElem? (i := 708) (by decide +kernel)⟩
theorem lw_p18 : lw_okq (⟨"VillageShow$Reader", "isSign", "(C)Z"⟩, 9) := ⟨⟨by decide +kernel, by decide +kernel⟩, List.mem_of_getElem? (i := 83) (by decide +kernel), List.mem_of_getElem? (i := 712) (by decide +kernel), List.mem_of_getElem? (i := 713) (by decide +kernel)⟩
theorem lw_p19 : lw_okq (⟨"VillageShow$Reader", "expectSign", "(C)V"⟩, 9) := ⟨⟨by decide +kernel, by decide +kernel⟩, List.mem_of_getElem? (i := 83) (by decide +kernel), List.mem_of_getElem? (i := 720) (by decide +kernel), List.mem_of_getElem? (i := 721) (by decide +kernel)⟩
theorem lw_p20 : lw_okq (⟨"VillageShow", "scheduleOf", "(I)LVillageShow$Rules;"⟩, 16) := ⟨⟨by decide +kernel, by decide +kernel⟩, List.mem_of_getElem? (i := 29) (by decide +kernel), List.mem_of_getElem? (i := 742) (by decide +kernel), List.mem_of_getElem? (i := 743) (by decide +kernel)⟩
theorem lw_p21 : lw_okq (⟨"VillageShow$Sheet", "firstBar", "(LVillageShow$Rules;)I"⟩, 2) := ⟨⟨by decide +kernel, by decide +kernel⟩, List.mem_of_getElem? (i := 168) (by decide +kernel), List.mem_of_getElem? (i := 774) (by decide +kernel), List.mem_of_getElem? (i := 775) (by decide +kernel)⟩
theorem lw_p22 : lw_okq (⟨"VillageShow", "isKin", "(II)Z"⟩, 16) := ⟨⟨by decide +kernel, by decide +kernel⟩, List.mem_of_getElem? (i := 29) (by decide +kernel), List.mem_of_getElem? (i := 814) (by decide +kernel), List.mem_of_getElem? (i := 815) (by decide +kernel)⟩
theorem lw_p23 : lw_okq (⟨"VillageShow", "placeBy", "(II)I"⟩, 16) := ⟨⟨by decide +kernel, by decide +kernel⟩, List.mem_of_getElem? (i := 29) (by decide +kernel), List.mem_of_getElem? (i := 826) (by decide +kernel), List.mem_of_getElem? (i := 827) (by decide +kernel)⟩
theorem lw_p24 : lw_okq (⟨"VillageShow", "rank", "(II)V"⟩, 16) := ⟨⟨by decide +kernel, by decide +kernel⟩, List.mem_of_getElem? (i := 29) (by decide +kernel), List.mem_of_getElem? (i := 830) (by decide +kernel), List.mem_of_getElem? (i := 831) (by decide +kernel)⟩
theorem lw_p25 : lw_okq (⟨"VillageShow", "describeEntry", "(I)V"⟩, 16) := ⟨⟨by decide +kernel, by decide +kernel⟩, List.mem_of_getElem? (i := 29) (by decide +kernel), List.mem_of_getElem? (i := 839) (by decide +kernel), List.mem_of_getElem? (i := 840) (by decide +kernel)⟩
theorem lw_p26 : lw_okq (⟨"VillageShow", "marksBy", "(ILVillageShow$Rules;)I"⟩, 16) := ⟨⟨by decide +kernel, by decide +kernel⟩, List.mem_of_getElem? (i := 29) (by decide +kernel), List.mem_of_getElem? (i := 863) (by decide +kernel), List.mem_of_getElem? (i := 864) (by decide +kernel)⟩
theorem lw_p27 : lw_okq (⟨"VillageShow$Cards", "isAhead", "(II)Z"⟩, 11) := ⟨⟨by decide +kernel, by decide +kernel⟩, List.mem_of_getElem? (i := 313) (by decide +kernel), List.mem_of_getElem? (i := 876) (by decide +kernel), List.mem_of_getElem? (i := 877) (by decide +kernel)⟩
theorem lw_p28 : lw_okq (⟨"VillageShow", "measure", "(Z)V"⟩, 16) := ⟨⟨by decide +kernel, by decide +kernel⟩, List.mem_of_getElem? (i := 29) (by decide +kernel), List.mem_of_getElem? (i := 900) (by decide +kernel), List.mem_of_getElem? (i := 901) (by decide +kernel)⟩
theorem lw_p29 : lw_okq (⟨"VillageShow$Hall", "putFrom", "(II)Z"⟩, 7) := ⟨⟨by decide +kernel, by decide +kernel⟩, List.mem_of_getElem? (i := 246) (by decide +kernel), List.mem_of_getElem? (i := 924) (by decide +kernel), List.mem_of_getElem? (i := 925) (by decide +kernel)⟩
theorem lw_p30 : lw_okq (⟨"VillageShow", "judgesFor", "(I)I"⟩, 16) := ⟨⟨by decide +kernel, by decide +kernel⟩, List.mem_of_getElem? (i := 29) (by decide +kernel), List.mem_of_getElem? (i := 936) (by decide +kernel), List.mem_of_getElem? (i := 937) (by decide +kernel)⟩
theorem lw_p31 : lw_okq (⟨"VillageShow$Round", "hasWay", "()Z"⟩, 7) := ⟨⟨by decide +kernel, by decide +kernel⟩, List.mem_of_getElem? (i := 282) (by decide +kernel), List.mem_of_getElem? (i := 945) (by decide +kernel), List.mem_of_getElem? (i := 946) (by decide +kernel)⟩
def lw_privs_2 : List (MethodName × Nat) := [(⟨"VillageShow$Reader", "readProduct", "(I)V"⟩, 9), (⟨"VillageShow$Reader", "readPart", "(I)V"⟩, 9), (⟨"VillageShow$Reader", "isSign", "(C)Z"⟩, 9), (⟨"VillageShow$Reader", "expectSign", "(C)V"⟩, 9), (⟨"VillageShow", "scheduleOf", "(I)LVillageShow$Rules;"⟩, 16), (⟨"VillageShow$Sheet", "firstBar", "(LVillageShow$Rules;)I"⟩, 2), (⟨"VillageShow", "isKin", "(II)Z"⟩, 16), (⟨"VillageShow", "placeBy", "(II)I"⟩, 16), (⟨"VillageShow", "rank", "(II)V"⟩, 16), (⟨"VillageShow", "describeEntry", "(I)V"⟩, 16), (⟨"VillageShow", "marksBy", "(ILVillageShow$Rules;)I"⟩, 16), (⟨"VillageShow$Cards", "isAhead", "(II)Z"⟩, 11), (⟨"VillageShow", "measure", "(Z)V"⟩, 16), (⟨"VillageShow$Hall", "putFrom", "(II)Z"⟩, 7), (⟨"VillageShow", "judgesFor", "(I)I"⟩, 16), (⟨"VillageShow$Round", "hasWay", "()Z"⟩, 7)]
theorem lw_r2 : ∀ q ∈ lw_privs_2, lw_okq q := List.forall_mem_cons.mpr ⟨lw_p16, List.forall_mem_cons.mpr ⟨lw_p17, List.forall_mem_cons.mpr ⟨lw_p18, List.forall_mem_cons.mpr ⟨lw_p19, List.forall_mem_cons.mpr ⟨lw_p20, List.forall_mem_cons.mpr ⟨lw_p21, List.forall_mem_cons.mpr ⟨lw_p22, List.forall_mem_cons.mpr ⟨lw_p23, List.forall_mem_cons.mpr ⟨lw_p24, List.forall_mem_cons.mpr ⟨lw_p25, List.forall_mem_cons.mpr ⟨lw_p26, List.forall_mem_cons.mpr ⟨lw_p27, List.forall_mem_cons.mpr ⟨lw_p28, List.forall_mem_cons.mpr ⟨lw_p29, List.forall_mem_cons.mpr ⟨lw_p30, List.forall_mem_cons.mpr ⟨lw_p31, fun _ h => absurd h List.not_mem_nil⟩⟩⟩⟩⟩⟩⟩⟩⟩⟩⟩⟩⟩⟩⟩⟩
theorem lw_p32 : lw_okq (⟨"VillageShow$Round", "dealFrom", "(II)Z"⟩, 7) := ⟨⟨by decide +kernel, by decide +kernel⟩, List.mem_of_getElem? (i := 282) (by decide +kernel), List.mem_of_getElem? (i := 950) (by decide +kernel), List.mem_of_getElem? (i := 951) (by decide +kernel)⟩
theorem lw_p33 : lw_okq (⟨"VillageShow$Round", "dealTo", "(III)Z"⟩, 7) := ⟨⟨by decide +kernel, by decide +kernel⟩, List.mem_of_getElem? (i := 282) (by decide +kernel), List.mem_of_getElem? (i := 954) (by decide +kernel), List.mem_of_getElem? (i := 955) (by decide +kernel)⟩
theorem lw_p34 : lw_okq (⟨"VillageShow", "sumUp", "()V"⟩, 16) := ⟨⟨by decide +kernel, by decide +kernel⟩, List.mem_of_getElem? (i := 29) (by decide +kernel), List.mem_of_getElem? (i := 972) (by decide +kernel), List.mem_of_getElem? (i := 973) (by decide +kernel)⟩
theorem lw_p35 : lw_okq (⟨"VillageShow", "leaders", "()I"⟩, 16) := ⟨⟨by decide +kernel, by decide +kernel⟩, List.mem_of_getElem? (i := 29) (by decide +kernel), List.mem_of_getElem? (i := 988) (by decide +kernel), List.mem_of_getElem? (i := 989) (by decide +kernel)⟩
theorem lw_p36 : lw_okq (⟨"VillageShow", "listOpenClasses", "(I)Z"⟩, 16) := ⟨⟨by decide +kernel, by decide +kernel⟩, List.mem_of_getElem? (i := 29) (by decide +kernel), List.mem_of_getElem? (i := 999) (by decide +kernel), List.mem_of_getElem? (i := 1000) (by decide +kernel)⟩
theorem lw_p37 : lw_okq (⟨"VillageShow", "listOpenEntries", "(II)I"⟩, 16) := ⟨⟨by decide +kernel, by decide +kernel⟩, List.mem_of_getElem? (i := 29) (by decide +kernel), List.mem_of_getElem? (i := 1003) (by decide +kernel), List.mem_of_getElem? (i := 1004) (by decide +kernel)⟩
theorem lw_p38 : lw_okq (⟨"VillageShow$CupSearch", "mostIn", "(I)I"⟩, 8) := ⟨⟨by decide +kernel, by decide +kernel⟩, List.mem_of_getElem? (i := 359) (by decide +kernel), List.mem_of_getElem? (i := 1020) (by decide +kernel), List.mem_of_getElem? (i := 1021) (by decide +kernel)⟩
theorem lw_p39 : lw_okq (⟨"VillageShow$CupSearch", "deal", "(III)Z"⟩, 8) := ⟨⟨by decide +kernel, by decide +kernel⟩, List.mem_of_getElem? (i := 359) (by decide +kernel), List.mem_of_getElem? (i := 1026) (by decide +kernel), List.mem_of_getElem? (i := 1027) (by decide +kernel)⟩
theorem lw_p40 : lw_okq (⟨"VillageShow$CupSearch", "leads", "()Z"⟩, 8) := ⟨⟨by decide +kernel, by decide +kernel⟩, List.mem_of_getElem? (i := 359) (by decide +kernel), List.mem_of_getElem? (i := 1030) (by decide +kernel), List.mem_of_getElem? (i := 1031) (by decide +kernel)⟩
theorem lw_p41 : lw_okq (⟨"VillageShow$CupSearch", "isBeaten", "(I)Z"⟩, 8) := ⟨⟨by decide +kernel, by decide +kernel⟩, List.mem_of_getElem? (i := 359) (by decide +kernel), List.mem_of_getElem? (i := 1034) (by decide +kernel), List.mem_of_getElem? (i := 1035) (by decide +kernel)⟩
theorem lw_p42 : lw_okq (⟨"VillageShow", "rankIfJudged", "(I)V"⟩, 16) := ⟨⟨by decide +kernel, by decide +kernel⟩, List.mem_of_getElem? (i := 29) (by decide +kernel), List.mem_of_getElem? (i := 1042) (by decide +kernel), List.mem_of_getElem? (i := 1043) (by decide +kernel)⟩
theorem lw_p43 : lw_okq (⟨"VillageShow", "fateOf", "(ILVillageShow$Rules;)I"⟩, 16) := ⟨⟨by decide +kernel, by decide +kernel⟩, List.mem_of_getElem? (i := 29) (by decide +kernel), List.mem_of_getElem? (i := 1063) (by decide +kernel), List.mem_of_getElem? (i := 1064) (by decide +kernel)⟩
theorem lw_p44 : lw_okq (⟨"VillageShow", "partnerOf", "(II)I"⟩, 16) := ⟨⟨by decide +kernel, by decide +kernel⟩, List.mem_of_getElem? (i := 29) (by decide +kernel), List.mem_of_getElem? (i := 1084) (by decide +kernel), List.mem_of_getElem? (i := 1085) (by decide +kernel)⟩
theorem lw_p45 : lw_okq (⟨"VillageShow", "classesTold", "()I"⟩, 16) := ⟨⟨by decide +kernel, by decide +kernel⟩, List.mem_of_getElem? (i := 29) (by decide +kernel), List.mem_of_getElem? (i := 1117) (by decide +kernel), List.mem_of_getElem? (i := 1118) (by decide +kernel)⟩
theorem lw_p46 : lw_okq (⟨"VillageShow", "standingOut", "()I"⟩, 16) := ⟨⟨by decide +kernel, by decide +kernel⟩, List.mem_of_getElem? (i := 29) (by decide +kernel), List.mem_of_getElem? (i := 1121) (by decide +kernel), List.mem_of_getElem? (i := 1122) (by decide +kernel)⟩
theorem lw_p47 : lw_okq (⟨"VillageShow", "wordOf", "(I)I"⟩, 16) := ⟨⟨by decide +kernel, by decide +kernel⟩, List.mem_of_getElem? (i := 29) (by decide +kernel), List.mem_of_getElem? (i := 1125) (by decide +kernel), List.mem_of_getElem? (i := 1126) (by decide +kernel)⟩
def lw_privs_3 : List (MethodName × Nat) := [(⟨"VillageShow$Round", "dealFrom", "(II)Z"⟩, 7), (⟨"VillageShow$Round", "dealTo", "(III)Z"⟩, 7), (⟨"VillageShow", "sumUp", "()V"⟩, 16), (⟨"VillageShow", "leaders", "()I"⟩, 16), (⟨"VillageShow", "listOpenClasses", "(I)Z"⟩, 16), (⟨"VillageShow", "listOpenEntries", "(II)I"⟩, 16), (⟨"VillageShow$CupSearch", "mostIn", "(I)I"⟩, 8), (⟨"VillageShow$CupSearch", "deal", "(III)Z"⟩, 8), (⟨"VillageShow$CupSearch", "leads", "()Z"⟩, 8), (⟨"VillageShow$CupSearch", "isBeaten", "(I)Z"⟩, 8), (⟨"VillageShow", "rankIfJudged", "(I)V"⟩, 16), (⟨"VillageShow", "fateOf", "(ILVillageShow$Rules;)I"⟩, 16), (⟨"VillageShow", "partnerOf", "(II)I"⟩, 16), (⟨"VillageShow", "classesTold", "()I"⟩, 16), (⟨"VillageShow", "standingOut", "()I"⟩, 16), (⟨"VillageShow", "wordOf", "(I)I"⟩, 16)]
theorem lw_r3 : ∀ q ∈ lw_privs_3, lw_okq q := List.forall_mem_cons.mpr ⟨lw_p32, List.forall_mem_cons.mpr ⟨lw_p33, List.forall_mem_cons.mpr ⟨lw_p34, List.forall_mem_cons.mpr ⟨lw_p35, List.forall_mem_cons.mpr ⟨lw_p36, List.forall_mem_cons.mpr ⟨lw_p37, List.forall_mem_cons.mpr ⟨lw_p38, List.forall_mem_cons.mpr ⟨lw_p39, List.forall_mem_cons.mpr ⟨lw_p40, List.forall_mem_cons.mpr ⟨lw_p41, List.forall_mem_cons.mpr ⟨lw_p42, List.forall_mem_cons.mpr ⟨lw_p43, List.forall_mem_cons.mpr ⟨lw_p44, List.forall_mem_cons.mpr ⟨lw_p45, List.forall_mem_cons.mpr ⟨lw_p46, List.forall_mem_cons.mpr ⟨lw_p47, fun _ h => absurd h List.not_mem_nil⟩⟩⟩⟩⟩⟩⟩⟩⟩⟩⟩⟩⟩⟩⟩⟩
theorem lw_p48 : lw_okq (⟨"java/lang/Throwable", "fillInStackTrace", "(I)Ljava/lang/Throwable;"⟩, 6) := ⟨⟨by decide +kernel, by decide +kernel⟩, List.mem_of_getElem? (i := 1185) (by decide +kernel), List.mem_of_getElem? (i := 1183) (by decide +kernel), List.mem_of_getElem? (i := 1184) (by decide +kernel)⟩
theorem lw_p49 : lw_okq (⟨"VillageShow", "listFreePieces", "(I)I"⟩, 16) := ⟨⟨by decide +kernel, by decide +kernel⟩, List.mem_of_getElem? (i := 29) (by decide +kernel), List.mem_of_getElem? (i := 1246) (by decide +kernel), List.mem_of_getElem? (i := 1247) (by decide +kernel)⟩
theorem lw_p50 : lw_okq (⟨"VillageShow", "fillBestWithin", "(IILVillageShow$Rules;I)V"⟩, 16) := ⟨⟨by decide +kernel, by decide +kernel⟩, List.mem_of_getElem? (i := 29) (by decide +kernel), List.mem_of_getElem? (i := 1251) (by decide +kernel), List.mem_of_getElem? (i := 1252) (by decide +kernel)⟩
theorem lw_p51 : lw_okq (⟨"VillageShow", "worthOf", "(IILVillageShow$Rules;I)J"⟩, 16) := ⟨⟨by decide +kernel, by decide +kernel⟩, List.mem_of_getElem? (i := 29) (by decide +kernel), List.mem_of_getElem? (i := 1255) (by decide +kernel), List.mem_of_getElem? (i := 1256) (by decide +kernel)⟩
theorem lw_p52 : lw_okq (⟨"VillageShow", "bitsOf", "(I)J"⟩, 16) := ⟨⟨by decide +kernel, by decide +kernel⟩, List.mem_of_getElem? (i := 29) (by decide +kernel), List.mem_of_getElem? (i := 1261) (by decide +kernel), List.mem_of_getElem? (i := 1262) (by decide +kernel)⟩
theorem lw_p53 : lw_okq (⟨"VillageShowModel", "isExhibitor", "(I)Z"⟩, 87) := ⟨⟨by decide +kernel, by decide +kernel⟩, List.mem_of_getElem? (i := 1265) (by decide +kernel), List.mem_of_getElem? (i := 1548) (by decide +kernel), List.mem_of_getElem? (i := 1549) (by decide +kernel)⟩
theorem lw_p54 : lw_okq (⟨"VillageShowModel", "laidOut", "()J"⟩, 87) := ⟨⟨by decide +kernel, by decide +kernel⟩, List.mem_of_getElem? (i := 1265) (by decide +kernel), List.mem_of_getElem? (i := 1552) (by decide +kernel), List.mem_of_getElem? (i := 1553) (by decide +kernel)⟩
theorem lw_p55 : lw_okq (⟨"VillageShowModel", "isClass", "(I)Z"⟩, 87) := ⟨⟨by decide +kernel, by decide +kernel⟩, List.mem_of_getElem? (i := 1265) (by decide +kernel), List.mem_of_getElem? (i := 1560) (by decide +kernel), List.mem_of_getElem? (i := 1561) (by decide +kernel)⟩
theorem lw_p56 : lw_okq (⟨"VillageShowModel", "areTheirs", "(JI)Z"⟩, 87) := ⟨⟨by decide +kernel, by decide +kernel⟩, List.mem_of_getElem? (i := 1265) (by decide +kernel), List.mem_of_getElem? (i := 1568) (by decide +kernel), List.mem_of_getElem? (i := 1569) (by decide +kernel)⟩
theorem lw_p57 : lw_okq (⟨"VillageShowModel", "standsAt", "(I)Z"⟩, 87) := ⟨⟨by decide +kernel, by decide +kernel⟩, List.mem_of_getElem? (i := 1265) (by decide +kernel), List.mem_of_getElem? (i := 1576) (by decide +kernel), List.mem_of_getElem? (i := 1577) (by decide +kernel)⟩
theorem lw_p58 : lw_okq (⟨"VillageShowModel", "isEntry", "(I)Z"⟩, 87) := ⟨⟨by decide +kernel, by decide +kernel⟩, List.mem_of_getElem? (i := 1265) (by decide +kernel), List.mem_of_getElem? (i := 1580) (by decide +kernel), List.mem_of_getElem? (i := 1581) (by decide +kernel)⟩
theorem lw_p59 : lw_okq (⟨"VillageShowModel", "starts", "()V"⟩, 87) := ⟨⟨by decide +kernel, by decide +kernel⟩, List.mem_of_getElem? (i := 1265) (by decide +kernel), List.mem_of_getElem? (i := 1597) (by decide +kernel), List.mem_of_getElem? (i := 1598) (by decide +kernel)⟩
theorem lw_p60 : lw_okq (⟨"VillageShowModel", "nextToken", "()V"⟩, 87) := ⟨⟨by decide +kernel, by decide +kernel⟩, List.mem_of_getElem? (i := 1265) (by decide +kernel), List.mem_of_getElem? (i := 1601) (by decide +kernel), List.mem_of_getElem? (i := 1602) (by decide +kernel)⟩
theorem lw_p61 : lw_okq (⟨"VillageShowModel", "signAt", "(I)I"⟩, 87) := ⟨⟨by decide +kernel, by decide +kernel⟩, List.mem_of_getElem? (i := 1265) (by decide +kernel), List.mem_of_getElem? (i := 1605) (by decide +kernel), List.mem_of_getElem? (i := 1606) (by decide +kernel)⟩
theorem lw_p62 : lw_okq (⟨"VillageShowModel", "readsFor", "(I)I"⟩, 87) := ⟨⟨by decide +kernel, by decide +kernel⟩, List.mem_of_getElem? (i := 1265) (by decide +kernel), List.mem_of_getElem? (i := 1611) (by decide +kernel), List.mem_of_getElem? (i := 1612) (by decide +kernel)⟩
theorem lw_p63 : lw_okq (⟨"VillageShowModel", "readsPlanLine", "()Z"⟩, 87) := ⟨⟨by decide +kernel, by decide +kernel⟩, List.mem_of_getElem? (i := 1265) (by decide +kernel), List.mem_of_getElem? (i := 1615) (by decide +kernel), List.mem_of_getElem? (i := 1616) (by decide +kernel)⟩
def lw_privs_4 : List (MethodName × Nat) := [(⟨"java/lang/Throwable", "fillInStackTrace", "(I)Ljava/lang/Throwable;"⟩, 6), (⟨"VillageShow", "listFreePieces", "(I)I"⟩, 16), (⟨"VillageShow", "fillBestWithin", "(IILVillageShow$Rules;I)V"⟩, 16), (⟨"VillageShow", "worthOf", "(IILVillageShow$Rules;I)J"⟩, 16), (⟨"VillageShow", "bitsOf", "(I)J"⟩, 16), (⟨"VillageShowModel", "isExhibitor", "(I)Z"⟩, 87), (⟨"VillageShowModel", "laidOut", "()J"⟩, 87), (⟨"VillageShowModel", "isClass", "(I)Z"⟩, 87), (⟨"VillageShowModel", "areTheirs", "(JI)Z"⟩, 87), (⟨"VillageShowModel", "standsAt", "(I)Z"⟩, 87), (⟨"VillageShowModel", "isEntry", "(I)Z"⟩, 87), (⟨"VillageShowModel", "starts", "()V"⟩, 87), (⟨"VillageShowModel", "nextToken", "()V"⟩, 87), (⟨"VillageShowModel", "signAt", "(I)I"⟩, 87), (⟨"VillageShowModel", "readsFor", "(I)I"⟩, 87), (⟨"VillageShowModel", "readsPlanLine", "()Z"⟩, 87)]
theorem lw_r4 : ∀ q ∈ lw_privs_4, lw_okq q := List.forall_mem_cons.mpr ⟨lw_p48, List.forall_mem_cons.mpr ⟨lw_p49, List.forall_mem_cons.mpr ⟨lw_p50, List.forall_mem_cons.mpr ⟨lw_p51, List.forall_mem_cons.mpr ⟨lw_p52, List.forall_mem_cons.mpr ⟨lw_p53, List.forall_mem_cons.mpr ⟨lw_p54, List.forall_mem_cons.mpr ⟨lw_p55, List.forall_mem_cons.mpr ⟨lw_p56, List.forall_mem_cons.mpr ⟨lw_p57, List.forall_mem_cons.mpr ⟨lw_p58, List.forall_mem_cons.mpr ⟨lw_p59, List.forall_mem_cons.mpr ⟨lw_p60, List.forall_mem_cons.mpr ⟨lw_p61, List.forall_mem_cons.mpr ⟨lw_p62, List.forall_mem_cons.mpr ⟨lw_p63, fun _ h => absurd h List.not_mem_nil⟩⟩⟩⟩⟩⟩⟩⟩⟩⟩⟩⟩⟩⟩⟩⟩
theorem lw_p64 : lw_okq (⟨"VillageShowModel", "isWord", "(J)Z"⟩, 87) := ⟨⟨by decide +kernel, by decide +kernel⟩, List.mem_of_getElem? (i := 1265) (by decide +kernel), List.mem_of_getElem? (i := 1620) (by decide +kernel), List.mem_of_getElem? (i := 1621) (by decide +kernel)⟩
theorem lw_p65 : lw_okq (⟨"VillageShowModel", "fails", "(I)Z"⟩, 87) := ⟨⟨by decide +kernel, by decide +kernel⟩, List.mem_of_getElem? (i := 1265) (by decide +kernel), List.mem_of_getElem? (i := 1626) (by decide +kernel), List.mem_of_getElem? (i := 1627) (by decide +kernel)⟩
theorem lw_p66 : lw_okq (⟨"VillageShowModel", "readsOnce", "(IZ)Z"⟩, 87) := ⟨⟨by decide +kernel, by decide +kernel⟩, List.mem_of_getElem? (i := 1265) (by decide +kernel), List.mem_of_getElem? (i := 1630) (by decide +kernel), List.mem_of_getElem? (i := 1631) (by decide +kernel)⟩
theorem lw_p67 : lw_okq (⟨"VillageShowModel", "readsWhen", "(I)Z"⟩, 87) := ⟨⟨by decide +kernel, by decide +kernel⟩, List.mem_of_getElem? (i := 1265) (by decide +kernel), List.mem_of_getElem? (i := 1634) (by decide +kernel), List.mem_of_getElem? (i := 1635) (by decide +kernel)⟩
theorem lw_p68 : lw_okq (⟨"VillageShowModel", "readsE", "(I)Z"⟩, 87) := ⟨⟨by decide +kernel, by decide +kernel⟩, List.mem_of_getElem? (i := 1265) (by decide +kernel), List.mem_of_getElem? (i := 1639) (by decide +kernel), List.mem_of_getElem? (i := 1640) (by decide +kernel)⟩
theorem lw_p69 : lw_okq (⟨"VillageShowModel", "reads", "()Z"⟩, 87) := ⟨⟨by decide +kernel, by decide +kernel⟩, List.mem_of_getElem? (i := 1265) (by decide +kernel), List.mem_of_getElem? (i := 1643) (by decide +kernel), List.mem_of_getElem? (i := 1644) (by decide +kernel)⟩
theorem lw_p70 : lw_okq (⟨"VillageShowModel", "factAt", "()I"⟩, 87) := ⟨⟨by decide +kernel, by decide +kernel⟩, List.mem_of_getElem? (i := 1265) (by decide +kernel), List.mem_of_getElem? (i := 1647) (by decide +kernel), List.mem_of_getElem? (i := 1648) (by decide +kernel)⟩
theorem lw_p71 : lw_okq (⟨"VillageShowModel", "planFact", "()I"⟩, 87) := ⟨⟨by decide +kernel, by decide +kernel⟩, List.mem_of_getElem? (i := 1265) (by decide +kernel), List.mem_of_getElem? (i := 1651) (by decide +kernel), List.mem_of_getElem? (i := 1652) (by decide +kernel)⟩
theorem lw_p72 : lw_okq (⟨"VillageShowModel", "entryFact", "()I"⟩, 87) := ⟨⟨by decide +kernel, by decide +kernel⟩, List.mem_of_getElem? (i := 1265) (by decide +kernel), List.mem_of_getElem? (i := 1663) (by decide +kernel), List.mem_of_getElem? (i := 1664) (by decide +kernel)⟩
theorem lw_p73 : lw_okq (⟨"VillageShowModel", "isSign", "(I)Z"⟩, 87) := ⟨⟨by decide +kernel, by decide +kernel⟩, List.mem_of_getElem? (i := 1265) (by decide +kernel), List.mem_of_getElem? (i := 1679) (by decide +kernel), List.mem_of_getElem? (i := 1680) (by decide +kernel)⟩
theorem lw_p74 : lw_okq (⟨"VillageShowModel", "puts", "(I)V"⟩, 87) := ⟨⟨by decide +kernel, by decide +kernel⟩, List.mem_of_getElem? (i := 1265) (by decide +kernel), List.mem_of_getElem? (i := 1683) (by decide +kernel), List.mem_of_getElem? (i := 1684) (by decide +kernel)⟩
theorem lw_p75 : lw_okq (⟨"VillageShowModel", "readsClassLine", "(Z)Z"⟩, 87) := ⟨⟨by decide +kernel, by decide +kernel⟩, List.mem_of_getElem? (i := 1265) (by decide +kernel), List.mem_of_getElem? (i := 1689) (by decide +kernel), List.mem_of_getElem? (i := 1690) (by decide +kernel)⟩
theorem lw_p76 : lw_okq (⟨"VillageShowModel", "readsBar", "()Z"⟩, 87) := ⟨⟨by decide +kernel, by decide +kernel⟩, List.mem_of_getElem? (i := 1265) (by decide +kernel), List.mem_of_getElem? (i := 1694) (by decide +kernel), List.mem_of_getElem? (i := 1695) (by decide +kernel)⟩
theorem lw_p77 : lw_okq (⟨"VillageShowModel", "readsWant", "()Z"⟩, 87) := ⟨⟨by decide +kernel, by decide +kernel⟩, List.mem_of_getElem? (i := 1265) (by decide +kernel), List.mem_of_getElem? (i := 1699) (by decide +kernel), List.mem_of_getElem? (i := 1700) (by decide +kernel)⟩
theorem lw_p78 : lw_okq (⟨"VillageShowModel", "verdictOf", "(I)I"⟩, 87) := ⟨⟨by decide +kernel, by decide +kernel⟩, List.mem_of_getElem? (i := 1265) (by decide +kernel), List.mem_of_getElem? (i := 1717) (by decide +kernel), List.mem_of_getElem? (i := 1718) (by decide +kernel)⟩
theorem lw_p79 : lw_okq (⟨"VillageShowModel", "laysEntry", "(I)V"⟩, 87) := ⟨⟨by decide +kernel, by decide +kernel⟩, List.mem_of_getElem? (i := 1265) (by decide +kernel), List.mem_of_getElem? (i := 1721) (by decide +kernel), List.mem_of_getElem? (i := 1722) (by decide +kernel)⟩
def lw_privs_5 : List (MethodName × Nat) := [(⟨"VillageShowModel", "isWord", "(J)Z"⟩, 87), (⟨"VillageShowModel", "fails", "(I)Z"⟩, 87), (⟨"VillageShowModel", "readsOnce", "(IZ)Z"⟩, 87), (⟨"VillageShowModel", "readsWhen", "(I)Z"⟩, 87), (⟨"VillageShowModel", "readsE", "(I)Z"⟩, 87), (⟨"VillageShowModel", "reads", "()Z"⟩, 87), (⟨"VillageShowModel", "factAt", "()I"⟩, 87), (⟨"VillageShowModel", "planFact", "()I"⟩, 87), (⟨"VillageShowModel", "entryFact", "()I"⟩, 87), (⟨"VillageShowModel", "isSign", "(I)Z"⟩, 87), (⟨"VillageShowModel", "puts", "(I)V"⟩, 87), (⟨"VillageShowModel", "readsClassLine", "(Z)Z"⟩, 87), (⟨"VillageShowModel", "readsBar", "()Z"⟩, 87), (⟨"VillageShowModel", "readsWant", "()Z"⟩, 87), (⟨"VillageShowModel", "verdictOf", "(I)I"⟩, 87), (⟨"VillageShowModel", "laysEntry", "(I)V"⟩, 87)]
theorem lw_r5 : ∀ q ∈ lw_privs_5, lw_okq q := List.forall_mem_cons.mpr ⟨lw_p64, List.forall_mem_cons.mpr ⟨lw_p65, List.forall_mem_cons.mpr ⟨lw_p66, List.forall_mem_cons.mpr ⟨lw_p67, List.forall_mem_cons.mpr ⟨lw_p68, List.forall_mem_cons.mpr ⟨lw_p69, List.forall_mem_cons.mpr ⟨lw_p70, List.forall_mem_cons.mpr ⟨lw_p71, List.forall_mem_cons.mpr ⟨lw_p72, List.forall_mem_cons.mpr ⟨lw_p73, List.forall_mem_cons.mpr ⟨lw_p74, List.forall_mem_cons.mpr ⟨lw_p75, List.forall_mem_cons.mpr ⟨lw_p76, List.forall_mem_cons.mpr ⟨lw_p77, List.forall_mem_cons.mpr ⟨lw_p78, List.forall_mem_cons.mpr ⟨lw_p79, fun _ h => absurd h List.not_mem_nil⟩⟩⟩⟩⟩⟩⟩⟩⟩⟩⟩⟩⟩⟩⟩⟩
theorem lw_p80 : lw_okq (⟨"VillageShowModel", "standing", "(II)I"⟩, 87) := ⟨⟨by decide +kernel, by decide +kernel⟩, List.mem_of_getElem? (i := 1265) (by decide +kernel), List.mem_of_getElem? (i := 1725) (by decide +kernel), List.mem_of_getElem? (i := 1726) (by decide +kernel)⟩
theorem lw_p81 : lw_okq (⟨"VillageShowModel", "lays", "(IIJI)V"⟩, 87) := ⟨⟨by decide +kernel, by decide +kernel⟩, List.mem_of_getElem? (i := 1265) (by decide +kernel), List.mem_of_getElem? (i := 1729) (by decide +kernel), List.mem_of_getElem? (i := 1730) (by decide +kernel)⟩
theorem lw_p82 : lw_okq (⟨"VillageShowModel", "outBy", "(I)I"⟩, 87) := ⟨⟨by decide +kernel, by decide +kernel⟩, List.mem_of_getElem? (i := 1265) (by decide +kernel), List.mem_of_getElem? (i := 1735) (by decide +kernel), List.mem_of_getElem? (i := 1736) (by decide +kernel)⟩
theorem lw_p83 : lw_okq (⟨"VillageShowModel", "barBy", "(I)I"⟩, 87) := ⟨⟨by decide +kernel, by decide +kernel⟩, List.mem_of_getElem? (i := 1265) (by decide +kernel), List.mem_of_getElem? (i := 1739) (by decide +kernel), List.mem_of_getElem? (i := 1740) (by decide +kernel)⟩
theorem lw_p84 : lw_okq (⟨"VillageShowModel", "worth", "(I)I"⟩, 87) := ⟨⟨by decide +kernel, by decide +kernel⟩, List.mem_of_getElem? (i := 1265) (by decide +kernel), List.mem_of_getElem? (i := 1743) (by decide +kernel), List.mem_of_getElem? (i := 1744) (by decide +kernel)⟩
theorem lw_p85 : lw_okq (⟨"VillageShowModel", "opens", "(I)V"⟩, 87) := ⟨⟨by decide +kernel, by decide +kernel⟩, List.mem_of_getElem? (i := 1265) (by decide +kernel), List.mem_of_getElem? (i := 1747) (by decide +kernel), List.mem_of_getElem? (i := 1748) (by decide +kernel)⟩
theorem lw_p86 : lw_okq (⟨"VillageShowModel", "sums", "(I)V"⟩, 87) := ⟨⟨by decide +kernel, by decide +kernel⟩, List.mem_of_getElem? (i := 1265) (by decide +kernel), List.mem_of_getElem? (i := 1751) (by decide +kernel), List.mem_of_getElem? (i := 1752) (by decide +kernel)⟩
theorem lw_p87 : lw_okq (⟨"VillageShowModel", "tests", "(I)V"⟩, 87) := ⟨⟨by decide +kernel, by decide +kernel⟩, List.mem_of_getElem? (i := 1265) (by decide +kernel), List.mem_of_getElem? (i := 1755) (by decide +kernel), List.mem_of_getElem? (i := 1756) (by decide +kernel)⟩
theorem lw_p88 : lw_okq (⟨"VillageShowModel", "isTellingJudge", "(I)Z"⟩, 87) := ⟨⟨by decide +kernel, by decide +kernel⟩, List.mem_of_getElem? (i := 1265) (by decide +kernel), List.mem_of_getElem? (i := 1775) (by decide +kernel), List.mem_of_getElem? (i := 1776) (by decide +kernel)⟩
theorem lw_p89 : lw_okq (⟨"VillageShowModel", "isKin", "(II)Z"⟩, 87) := ⟨⟨by decide +kernel, by decide +kernel⟩, List.mem_of_getElem? (i := 1265) (by decide +kernel), List.mem_of_getElem? (i := 1783) (by decide +kernel), List.mem_of_getElem? (i := 1784) (by decide +kernel)⟩
theorem lw_p90 : lw_okq (⟨"VillageShowModel", "marksBy", "(II)I"⟩, 87) := ⟨⟨by decide +kernel, by decide +kernel⟩, List.mem_of_getElem? (i := 1265) (by decide +kernel), List.mem_of_getElem? (i := 1791) (by decide +kernel), List.mem_of_getElem? (i := 1792) (by decide +kernel)⟩
theorem lw_p91 : lw_okq (⟨"VillageShowModel", "plainMarks", "(I)I"⟩, 87) := ⟨⟨by decide +kernel, by decide +kernel⟩, List.mem_of_getElem? (i := 1265) (by decide +kernel), List.mem_of_getElem? (i := 1795) (by decide +kernel), List.mem_of_getElem? (i := 1796) (by decide +kernel)⟩
theorem lw_p92 : lw_okq (⟨"VillageShowModel", "placeOf", "(I)I"⟩, 87) := ⟨⟨by decide +kernel, by decide +kernel⟩, List.mem_of_getElem? (i := 1265) (by decide +kernel), List.mem_of_getElem? (i := 1803) (by decide +kernel), List.mem_of_getElem? (i := 1804) (by decide +kernel)⟩
theorem lw_p93 : lw_okq (⟨"VillageShowModel", "placeBy", "(II)I"⟩, 87) := ⟨⟨by decide +kernel, by decide +kernel⟩, List.mem_of_getElem? (i := 1265) (by decide +kernel), List.mem_of_getElem? (i := 1807) (by decide +kernel), List.mem_of_getElem? (i := 1808) (by decide +kernel)⟩
theorem lw_p94 : lw_okq (⟨"VillageShowModel", "isIn", "(I)Z"⟩, 87) := ⟨⟨by decide +kernel, by decide +kernel⟩, List.mem_of_getElem? (i := 1265) (by decide +kernel), List.mem_of_getElem? (i := 1811) (by decide +kernel), List.mem_of_getElem? (i := 1812) (by decide +kernel)⟩
theorem lw_p95 : lw_okq (⟨"VillageShowModel", "tieOf", "(I)I"⟩, 87) := ⟨⟨by decide +kernel, by decide +kernel⟩, List.mem_of_getElem? (i := 1265) (by decide +kernel), List.mem_of_getElem? (i := 1815) (by decide +kernel), List.mem_of_getElem? (i := 1816) (by decide +kernel)⟩
def lw_privs_6 : List (MethodName × Nat) := [(⟨"VillageShowModel", "standing", "(II)I"⟩, 87), (⟨"VillageShowModel", "lays", "(IIJI)V"⟩, 87), (⟨"VillageShowModel", "outBy", "(I)I"⟩, 87), (⟨"VillageShowModel", "barBy", "(I)I"⟩, 87), (⟨"VillageShowModel", "worth", "(I)I"⟩, 87), (⟨"VillageShowModel", "opens", "(I)V"⟩, 87), (⟨"VillageShowModel", "sums", "(I)V"⟩, 87), (⟨"VillageShowModel", "tests", "(I)V"⟩, 87), (⟨"VillageShowModel", "isTellingJudge", "(I)Z"⟩, 87), (⟨"VillageShowModel", "isKin", "(II)Z"⟩, 87), (⟨"VillageShowModel", "marksBy", "(II)I"⟩, 87), (⟨"VillageShowModel", "plainMarks", "(I)I"⟩, 87), (⟨"VillageShowModel", "placeOf", "(I)I"⟩, 87), (⟨"VillageShowModel", "placeBy", "(II)I"⟩, 87), (⟨"VillageShowModel", "isIn", "(I)Z"⟩, 87), (⟨"VillageShowModel", "tieOf", "(I)I"⟩, 87)]
theorem lw_r6 : ∀ q ∈ lw_privs_6, lw_okq q := List.forall_mem_cons.mpr ⟨lw_p80, List.forall_mem_cons.mpr ⟨lw_p81, List.forall_mem_cons.mpr ⟨lw_p82, List.forall_mem_cons.mpr ⟨lw_p83, List.forall_mem_cons.mpr ⟨lw_p84, List.forall_mem_cons.mpr ⟨lw_p85, List.forall_mem_cons.mpr ⟨lw_p86, List.forall_mem_cons.mpr ⟨lw_p87, List.forall_mem_cons.mpr ⟨lw_p88, List.forall_mem_cons.mpr ⟨lw_p89, List.forall_mem_cons.mpr ⟨lw_p90, List.forall_mem_cons.mpr ⟨lw_p91, List.forall_mem_cons.mpr ⟨lw_p92, List.forall_mem_cons.mpr ⟨lw_p93, List.forall_mem_cons.mpr ⟨lw_p94, List.forall_mem_cons.mpr ⟨lw_p95, fun _ h => absurd h List.not_mem_nil⟩⟩⟩⟩⟩⟩⟩⟩⟩⟩⟩⟩⟩⟩⟩⟩
theorem lw_p96 : lw_okq (⟨"VillageShowModel", "needsOf", "(IZ)I"⟩, 87) := ⟨⟨by decide +kernel, by decide +kernel⟩, List.mem_of_getElem? (i := 1265) (by decide +kernel), List.mem_of_getElem? (i := 1839) (by decide +kernel), List.mem_of_getElem? (i := 1840) (by decide +kernel)⟩
theorem lw_p97 : lw_okq (⟨"VillageShowModel", "seats", "(II)V"⟩, 87) := ⟨⟨by decide +kernel, by decide +kernel⟩, List.mem_of_getElem? (i := 1265) (by decide +kernel), List.mem_of_getElem? (i := 1847) (by decide +kernel), List.mem_of_getElem? (i := 1848) (by decide +kernel)⟩
theorem lw_p98 : lw_okq (⟨"VillageShowModel", "deals", "(I)V"⟩, 87) := ⟨⟨by decide +kernel, by decide +kernel⟩, List.mem_of_getElem? (i := 1265) (by decide +kernel), List.mem_of_getElem? (i := 1859) (by decide +kernel), List.mem_of_getElem? (i := 1860) (by decide +kernel)⟩
theorem lw_p99 : lw_okq (⟨"VillageShowModel", "walks", "()I"⟩, 87) := ⟨⟨by decide +kernel, by decide +kernel⟩, List.mem_of_getElem? (i := 1265) (by decide +kernel), List.mem_of_getElem? (i := 1863) (by decide +kernel), List.mem_of_getElem? (i := 1864) (by decide +kernel)⟩
theorem lw_p100 : lw_okq (⟨"VillageShowModel", "counts", "()V"⟩, 87) := ⟨⟨by decide +kernel, by decide +kernel⟩, List.mem_of_getElem? (i := 1265) (by decide +kernel), List.mem_of_getElem? (i := 1879) (by decide +kernel), List.mem_of_getElem? (i := 1880) (by decide +kernel)⟩
theorem lw_p101 : lw_okq (⟨"VillageShowModel", "gives", "(II)V"⟩, 87) := ⟨⟨by decide +kernel, by decide +kernel⟩, List.mem_of_getElem? (i := 1265) (by decide +kernel), List.mem_of_getElem? (i := 1883) (by decide +kernel), List.mem_of_getElem? (i := 1884) (by decide +kernel)⟩
theorem lw_p102 : lw_okq (⟨"VillageShowModel", "cupSet", "()I"⟩, 87) := ⟨⟨by decide +kernel, by decide +kernel⟩, List.mem_of_getElem? (i := 1265) (by decide +kernel), List.mem_of_getElem? (i := 1891) (by decide +kernel), List.mem_of_getElem? (i := 1892) (by decide +kernel)⟩
theorem lw_p103 : lw_okq (⟨"VillageShowModel", "opens", "()Z"⟩, 87) := ⟨⟨by decide +kernel, by decide +kernel⟩, List.mem_of_getElem? (i := 1265) (by decide +kernel), List.mem_of_getElem? (i := 1899) (by decide +kernel), List.mem_of_getElem? (i := 1900) (by decide +kernel)⟩
theorem lw_p104 : lw_okq (⟨"VillageShowModel", "wins", "(IIII)Z"⟩, 87) := ⟨⟨by decide +kernel, by decide +kernel⟩, List.mem_of_getElem? (i := 1265) (by decide +kernel), List.mem_of_getElem? (i := 1903) (by decide +kernel), List.mem_of_getElem? (i := 1904) (by decide +kernel)⟩
theorem lw_p105 : lw_okq (⟨"VillageShowModel", "takesBack", "(II)V"⟩, 87) := ⟨⟨by decide +kernel, by decide +kernel⟩, List.mem_of_getElem? (i := 1265) (by decide +kernel), List.mem_of_getElem? (i := 1907) (by decide +kernel), List.mem_of_getElem? (i := 1908) (by decide +kernel)⟩
theorem lw_p106 : lw_okq (⟨"VillageShowModel", "finds", "(I)Z"⟩, 87) := ⟨⟨by decide +kernel, by decide +kernel⟩, List.mem_of_getElem? (i := 1265) (by decide +kernel), List.mem_of_getElem? (i := 1923) (by decide +kernel), List.mem_of_getElem? (i := 1924) (by decide +kernel)⟩
theorem lw_p107 : lw_okq (⟨"VillageShowModel", "values", "(III)V"⟩, 87) := ⟨⟨by decide +kernel, by decide +kernel⟩, List.mem_of_getElem? (i := 1265) (by decide +kernel), List.mem_of_getElem? (i := 1927) (by decide +kernel), List.mem_of_getElem? (i := 1928) (by decide +kernel)⟩
theorem lw_p108 : lw_okq (⟨"VillageShowModel", "piecesBy", "(I)J"⟩, 87) := ⟨⟨by decide +kernel, by decide +kernel⟩, List.mem_of_getElem? (i := 1265) (by decide +kernel), List.mem_of_getElem? (i := 1931) (by decide +kernel), List.mem_of_getElem? (i := 1932) (by decide +kernel)⟩
theorem lw_p109 : lw_okq (⟨"VillageShowModel", "plannedAs", "(I)I"⟩, 87) := ⟨⟨by decide +kernel, by decide +kernel⟩, List.mem_of_getElem? (i := 1265) (by decide +kernel), List.mem_of_getElem? (i := 1943) (by decide +kernel), List.mem_of_getElem? (i := 1944) (by decide +kernel)⟩
theorem lw_p110 : lw_okq (⟨"VillageShowModel", "joinedWith", "(I)I"⟩, 87) := ⟨⟨by decide +kernel, by decide +kernel⟩, List.mem_of_getElem? (i := 1265) (by decide +kernel), List.mem_of_getElem? (i := 1947) (by decide +kernel), List.mem_of_getElem? (i := 1948) (by decide +kernel)⟩
def lw_privs_7 : List (MethodName × Nat) := [(⟨"VillageShowModel", "needsOf", "(IZ)I"⟩, 87), (⟨"VillageShowModel", "seats", "(II)V"⟩, 87), (⟨"VillageShowModel", "deals", "(I)V"⟩, 87), (⟨"VillageShowModel", "walks", "()I"⟩, 87), (⟨"VillageShowModel", "counts", "()V"⟩, 87), (⟨"VillageShowModel", "gives", "(II)V"⟩, 87), (⟨"VillageShowModel", "cupSet", "()I"⟩, 87), (⟨"VillageShowModel", "opens", "()Z"⟩, 87), (⟨"VillageShowModel", "wins", "(IIII)Z"⟩, 87), (⟨"VillageShowModel", "takesBack", "(II)V"⟩, 87), (⟨"VillageShowModel", "finds", "(I)Z"⟩, 87), (⟨"VillageShowModel", "values", "(III)V"⟩, 87), (⟨"VillageShowModel", "piecesBy", "(I)J"⟩, 87), (⟨"VillageShowModel", "plannedAs", "(I)I"⟩, 87), (⟨"VillageShowModel", "joinedWith", "(I)I"⟩, 87)]
theorem lw_r7 : ∀ q ∈ lw_privs_7, lw_okq q := List.forall_mem_cons.mpr ⟨lw_p96, List.forall_mem_cons.mpr ⟨lw_p97, List.forall_mem_cons.mpr ⟨lw_p98, List.forall_mem_cons.mpr ⟨lw_p99, List.forall_mem_cons.mpr ⟨lw_p100, List.forall_mem_cons.mpr ⟨lw_p101, List.forall_mem_cons.mpr ⟨lw_p102, List.forall_mem_cons.mpr ⟨lw_p103, List.forall_mem_cons.mpr ⟨lw_p104, List.forall_mem_cons.mpr ⟨lw_p105, List.forall_mem_cons.mpr ⟨lw_p106, List.forall_mem_cons.mpr ⟨lw_p107, List.forall_mem_cons.mpr ⟨lw_p108, List.forall_mem_cons.mpr ⟨lw_p109, List.forall_mem_cons.mpr ⟨lw_p110, fun _ h => absurd h List.not_mem_nil⟩⟩⟩⟩⟩⟩⟩⟩⟩⟩⟩⟩⟩⟩⟩
def lw_privs : List (MethodName × Nat) := lw_privs_1 ++ (lw_privs_2 ++ (lw_privs_3 ++ (lw_privs_4 ++ (lw_privs_5 ++ (lw_privs_6 ++ (lw_privs_7))))))
def lw_tbl : List Cond := k2_sels lw_privs ++ tables_1
theorem lw_privs_ok : ∀ q ∈ lw_privs, lw_okq q := by
  show ∀ q ∈ lw_privs_1 ++ (lw_privs_2 ++ (lw_privs_3 ++ (lw_privs_4 ++ (lw_privs_5 ++ (lw_privs_6 ++ (lw_privs_7)))))), lw_okq q
  exact List.forall_mem_append.mpr ⟨lw_r1, List.forall_mem_append.mpr ⟨lw_r2, List.forall_mem_append.mpr ⟨lw_r3, List.forall_mem_append.mpr ⟨lw_r4, List.forall_mem_append.mpr ⟨lw_r5, List.forall_mem_append.mpr ⟨lw_r6, lw_r7⟩⟩⟩⟩⟩⟩

def RX0 : String := "VillageShow$Cards"
def TX0 : u_T := fun k => match k with
  | 0 => ("VillageShow$Cards", "place", "[I", true)
  | 1 => ("VillageShow$Cards", "before", "[I", true)
  | 2 => ("VillageShow$Cards", "mark", "[I", true)
  | 3 => ("VillageShow$Cards", "tie", "[I", true)
  | 4 => ("VillageShow$Cards", "pointsFor", "[I", true)
  | 5 => ("VillageShow$Cards", "moneyFor", "[I", true)
  | 6 => ("VillageShow$Cards", "fee", "I", false)
  | 7 => ("VillageShow$Cards", "jarFee", "I", false)
  | 8 => ("VillageShow$Cards", "points", "[I", true)
  | 9 => ("VillageShow$Cards", "firsts", "[I", true)
  | _ => ("VillageShow$Cards", "money", "[I", true)
def tyX0 : Nat → FieldType := fun k => match k with
  | 0 => .array .int
  | 1 => .array .int
  | 2 => .array .int
  | 3 => .array .int
  | 4 => .array .int
  | 5 => .array .int
  | 6 => .int
  | 7 => .int
  | 8 => .array .int
  | 9 => .array .int
  | _ => .array .int
abbrev wsX00 : List Cond := u_ws RX0 TX0 11
theorem nmX0 : ∀ a, a < 11 → ∀ b, b < 11 → a ≠ b → (TX0 a).2.1 ≠ (TX0 b).2.1 := by decide +kernel
theorem tyX0_ok : ∀ k, k < 11 → parseFieldDescriptor (TX0 k).2.2.1 = some (tyX0 k) := by decide +kernel
def RX1 : String := "VillageShow$CupSearch"
def TX1 : u_T := fun k => match k with
  | 0 => ("VillageShow$CupSearch", "points", "[I", true)
  | 1 => ("VillageShow$CupSearch", "firsts", "[I", true)
  | 2 => ("VillageShow$CupSearch", "classes", "I", false)
  | 3 => ("VillageShow$CupSearch", "sizes", "[I", true)
  | 4 => ("VillageShow$CupSearch", "names", "[I", true)
  | 5 => ("VillageShow$CupSearch", "hopes", "[I", true)
  | 6 => ("VillageShow$CupSearch", "prizes", "[I", true)
  | _ => ("VillageShow$CupSearch", "target", "I", false)
def tyX1 : Nat → FieldType := fun k => match k with
  | 0 => .array .int
  | 1 => .array .int
  | 2 => .int
  | 3 => .array .int
  | 4 => .array .int
  | 5 => .array .int
  | 6 => .array .int
  | _ => .int
abbrev wsX10 : List Cond := u_ws RX1 TX1 8
theorem nmX1 : ∀ a, a < 8 → ∀ b, b < 8 → a ≠ b → (TX1 a).2.1 ≠ (TX1 b).2.1 := by decide +kernel
theorem tyX1_ok : ∀ k, k < 8 → parseFieldDescriptor (TX1 k).2.2.1 = some (tyX1 k) := by decide +kernel
def RX2 : String := "VillageShow$Entries"
def TX2 : u_T := fun k => match k with
  | 0 => ("VillageShow$Entries", "size", "I", false)
  | 1 => ("VillageShow$Entries", "standing", "J", false)
  | 2 => ("VillageShow$Entries", "kind", "[I", true)
  | 3 => ("VillageShow$Entries", "by", "[I", true)
  | 4 => ("VillageShow$Entries", "pieces", "[J", true)
  | 5 => ("VillageShow$Entries", "jars", "[I", true)
  | _ => ("VillageShow$Entries", "jarsLost", "[I", true)
def tyX2 : Nat → FieldType := fun k => match k with
  | 0 => .int
  | 1 => .long
  | 2 => .array .int
  | 3 => .array .int
  | 4 => .array .long
  | 5 => .array .int
  | _ => .array .int
abbrev wsX20 : List Cond := u_ws RX2 TX2 7
theorem nmX2 : ∀ a, a < 7 → ∀ b, b < 7 → a ≠ b → (TX2 a).2.1 ≠ (TX2 b).2.1 := by decide +kernel
theorem tyX2_ok : ∀ k, k < 7 → parseFieldDescriptor (TX2 k).2.2.1 = some (tyX2 k) := by decide +kernel
def RX3 : String := "VillageShow$Hall"
def TX3 : u_T := fun k => match k with
  | 0 => ("VillageShow$Hall", "feet", "[I", true)
  | 1 => ("VillageShow$Hall", "home", "[I", true)
  | 2 => ("VillageShow$Hall", "foot", "[I", true)
  | 3 => ("VillageShow$Hall", "years", "[I", true)
  | 4 => ("VillageShow$Hall", "takes", "[I", true)
  | 5 => ("VillageShow$Hall", "put", "[I", true)
  | _ => ("VillageShow$Hall", "room", "[I", true)
def tyX3 : Nat → FieldType := fun k => match k with
  | 0 => .array .int
  | 1 => .array .int
  | 2 => .array .int
  | 3 => .array .int
  | 4 => .array .int
  | 5 => .array .int
  | _ => .array .int
abbrev wsX30 : List Cond := u_ws RX3 TX3 7
theorem nmX3 : ∀ a, a < 7 → ∀ b, b < 7 → a ≠ b → (TX3 a).2.1 ≠ (TX3 b).2.1 := by decide +kernel
theorem tyX3_ok : ∀ k, k < 7 → parseFieldDescriptor (TX3 k).2.2.1 = some (tyX3 k) := by decide +kernel
def RX4 : String := "VillageShow$Judges"
def TX4 : u_T := fun k => match k with
  | 0 => ("VillageShow$Judges", "house", "[I", true)
  | 1 => ("VillageShow$Judges", "leans", "[I", true)
  | 2 => ("VillageShow$Judges", "of", "[I", true)
  | _ => ("VillageShow$Judges", "most", "I", false)
def tyX4 : Nat → FieldType := fun k => match k with
  | 0 => .array .int
  | 1 => .array .int
  | 2 => .array .int
  | _ => .int
abbrev wsX40 : List Cond := u_ws RX4 TX4 4
theorem nmX4 : ∀ a, a < 4 → ∀ b, b < 4 → a ≠ b → (TX4 a).2.1 ≠ (TX4 b).2.1 := by decide +kernel
theorem tyX4_ok : ∀ k, k < 4 → parseFieldDescriptor (TX4 k).2.2.1 = some (tyX4 k) := by decide +kernel
def RX5 : String := "VillageShow$Reader"
def TX5 : u_T := fun k => match k with
  | 0 => ("VillageShow$Reader", "tape", "[B", true)
  | 1 => ("VillageShow$Reader", "length", "I", false)
  | 2 => ("VillageShow$Reader", "draft", "LVillageShow$Rules;", false)
  | 3 => ("VillageShow$Reader", "fault", "I", false)
  | 4 => ("VillageShow$Reader", "next", "I", false)
  | 5 => ("VillageShow$Reader", "at", "I", false)
  | 6 => ("VillageShow$Reader", "type", "I", false)
  | 7 => ("VillageShow$Reader", "number", "I", false)
  | _ => ("VillageShow$Reader", "facts", "Ljava/lang/String;", false)
def tyX5 : Nat → FieldType := fun k => match k with
  | 0 => .array .byte
  | 1 => .int
  | 2 => .object "VillageShow$Rules"
  | 3 => .int
  | 4 => .int
  | 5 => .int
  | 6 => .int
  | 7 => .int
  | _ => .object "java/lang/String"
abbrev wsX50 : List Cond := u_ws RX5 TX5 9
theorem nmX5 : ∀ a, a < 9 → ∀ b, b < 9 → a ≠ b → (TX5 a).2.1 ≠ (TX5 b).2.1 := by decide +kernel
theorem tyX5_ok : ∀ k, k < 9 → parseFieldDescriptor (TX5 k).2.2.1 = some (tyX5 k) := by decide +kernel
def RX6 : String := "VillageShow$Round"
def TX6 : u_T := fun k => match k with
  | 0 => ("VillageShow$Round", "choice", "[I", true)
  | 1 => ("VillageShow$Round", "at", "[I", true)
  | 2 => ("VillageShow$Round", "dealt", "[I", true)
  | 3 => ("VillageShow$Round", "load", "[I", true)
  | 4 => ("VillageShow$Round", "low", "[I", true)
  | 5 => ("VillageShow$Round", "high", "[I", true)
  | _ => ("VillageShow$Round", "cap", "I", false)
def tyX6 : Nat → FieldType := fun k => match k with
  | 0 => .array .int
  | 1 => .array .int
  | 2 => .array .int
  | 3 => .array .int
  | 4 => .array .int
  | 5 => .array .int
  | _ => .int
abbrev wsX60 : List Cond := u_ws RX6 TX6 7
theorem nmX6 : ∀ a, a < 7 → ∀ b, b < 7 → a ≠ b → (TX6 a).2.1 ≠ (TX6 b).2.1 := by decide +kernel
theorem tyX6_ok : ∀ k, k < 7 → parseFieldDescriptor (TX6 k).2.2.1 = some (tyX6 k) := by decide +kernel
def RX7 : String := "VillageShow$Rules"
def TX7 : u_T := fun k => match k with
  | 0 => ("VillageShow$Rules", "want", "I", false)
  | 1 => ("VillageShow$Rules", "kind", "I", false)
  | 2 => ("VillageShow$Rules", "bars", "I", false)
  | 3 => ("VillageShow$Rules", "words", "[I", true)
  | 4 => ("VillageShow$Rules", "from", "[I", true)
  | 5 => ("VillageShow$Rules", "to", "[I", true)
  | 6 => ("VillageShow$Rules", "code", "[I", true)
  | _ => ("VillageShow$Rules", "length", "I", false)
def tyX7 : Nat → FieldType := fun k => match k with
  | 0 => .int
  | 1 => .int
  | 2 => .int
  | 3 => .array .int
  | 4 => .array .int
  | 5 => .array .int
  | 6 => .array .int
  | _ => .int
abbrev wsX70 : List Cond := u_ws RX7 TX7 8
theorem nmX7 : ∀ a, a < 8 → ∀ b, b < 8 → a ≠ b → (TX7 a).2.1 ≠ (TX7 b).2.1 := by decide +kernel
theorem tyX7_ok : ∀ k, k < 8 → parseFieldDescriptor (TX7 k).2.2.1 = some (tyX7 k) := by decide +kernel
def RX8 : String := "VillageShow$Sheet"
def TX8 : u_T := fun k => match k with
  | 0 => ("VillageShow$Sheet", "row", "[I", true)
  | _ => ("VillageShow$Sheet", "stack", "[I", true)
def tyX8 : Nat → FieldType := fun k => match k with
  | 0 => .array .int
  | _ => .array .int
abbrev wsX80 : List Cond := u_ws RX8 TX8 2
theorem nmX8 : ∀ a, a < 2 → ∀ b, b < 2 → a ≠ b → (TX8 a).2.1 ≠ (TX8 b).2.1 := by decide +kernel
theorem tyX8_ok : ∀ k, k < 2 → parseFieldDescriptor (TX8 k).2.2.1 = some (tyX8 k) := by decide +kernel
def RX9 : String := "VillageShow$Shelf"
def TX9 : u_T := fun k => match k with
  | 0 => ("VillageShow$Shelf", "laid", "[I", true)
  | 1 => ("VillageShow$Shelf", "size", "[I", true)
  | 2 => ("VillageShow$Shelf", "standing", "[J", true)
  | 3 => ("VillageShow$Shelf", "jarsLost", "[[I", true)
  | 4 => ("VillageShow$Shelf", "judgedBy", "[[I", true)
  | _ => ("VillageShow$Shelf", "layings", "I", false)
def tyX9 : Nat → FieldType := fun k => match k with
  | 0 => .array .int
  | 1 => .array .int
  | 2 => .array .long
  | 3 => .array (.array .int)
  | 4 => .array (.array .int)
  | _ => .int
abbrev wsX90 : List Cond := u_ws RX9 TX9 6
theorem nmX9 : ∀ a, a < 6 → ∀ b, b < 6 → a ≠ b → (TX9 a).2.1 ≠ (TX9 b).2.1 := by decide +kernel
theorem tyX9_ok : ∀ k, k < 6 → parseFieldDescriptor (TX9 k).2.2.1 = some (tyX9 k) := by decide +kernel
def RX10 : String := "VillageShow$Village"
def TX10 : u_T := fun k => match k with
  | 0 => ("VillageShow$Village", "house", "[I", true)
  | 1 => ("VillageShow$Village", "age", "[I", true)
  | 2 => ("VillageShow$Village", "won", "[Z", true)
  | 3 => ("VillageShow$Village", "owner", "[I", true)
  | 4 => ("VillageShow$Village", "kind", "[I", true)
  | 5 => ("VillageShow$Village", "size", "[I", true)
  | _ => ("VillageShow$Village", "grade", "[I", true)
def tyX10 : Nat → FieldType := fun k => match k with
  | 0 => .array .int
  | 1 => .array .int
  | 2 => .array .boolean
  | 3 => .array .int
  | 4 => .array .int
  | 5 => .array .int
  | _ => .array .int
abbrev wsX100 : List Cond := u_ws RX10 TX10 7
theorem nmX10 : ∀ a, a < 7 → ∀ b, b < 7 → a ≠ b → (TX10 a).2.1 ≠ (TX10 b).2.1 := by decide +kernel
theorem tyX10_ok : ∀ k, k < 7 → parseFieldDescriptor (TX10 k).2.2.1 = some (tyX10 k) := by decide +kernel
def RX11 : String := "VillageShow"
def TX11 : u_T := fun k => match k with
  | 0 => ("VillageShow", "village", "LVillageShow$Village;", true)
  | 1 => ("VillageShow", "reader", "LVillageShow$Reader;", true)
  | 2 => ("VillageShow", "schedules", "[LVillageShow$Rules;", true)
  | 3 => ("VillageShow", "bookRules", "LVillageShow$Rules;", false)
  | 4 => ("VillageShow", "planRules", "LVillageShow$Rules;", false)
  | 5 => ("VillageShow", "sheet", "LVillageShow$Sheet;", true)
  | 6 => ("VillageShow", "entries", "LVillageShow$Entries;", true)
  | 7 => ("VillageShow", "judges", "LVillageShow$Judges;", true)
  | 8 => ("VillageShow", "hall", "LVillageShow$Hall;", true)
  | 9 => ("VillageShow", "dealing", "LVillageShow$Round;", true)
  | 10 => ("VillageShow", "cards", "LVillageShow$Cards;", true)
  | 11 => ("VillageShow", "cupSearch", "LVillageShow$CupSearch;", true)
  | 12 => ("VillageShow", "shelf", "LVillageShow$Shelf;", true)
  | 13 => ("VillageShow", "freePieces", "[I", true)
  | 14 => ("VillageShow", "bestWithin", "[J", true)
  | _ => ("VillageShow", "pickWithin", "[I", true)
def tyX11 : Nat → FieldType := fun k => match k with
  | 0 => .object "VillageShow$Village"
  | 1 => .object "VillageShow$Reader"
  | 2 => .array (.object "VillageShow$Rules")
  | 3 => .object "VillageShow$Rules"
  | 4 => .object "VillageShow$Rules"
  | 5 => .object "VillageShow$Sheet"
  | 6 => .object "VillageShow$Entries"
  | 7 => .object "VillageShow$Judges"
  | 8 => .object "VillageShow$Hall"
  | 9 => .object "VillageShow$Round"
  | 10 => .object "VillageShow$Cards"
  | 11 => .object "VillageShow$CupSearch"
  | 12 => .object "VillageShow$Shelf"
  | 13 => .array .int
  | 14 => .array .long
  | _ => .array .int
abbrev wsX110 : List Cond := u_ws RX11 TX11 16
theorem nmX11 : ∀ a, a < 16 → ∀ b, b < 16 → a ≠ b → (TX11 a).2.1 ≠ (TX11 b).2.1 := by decide +kernel
theorem tyX11_ok : ∀ k, k < 16 → parseFieldDescriptor (TX11 k).2.2.1 = some (tyX11 k) := by decide +kernel
def RX12 : String := "VillageShowModel"
def TX12 : u_T := fun k => match k with
  | 0 => ("VillageShowModel", "thrown", "I", false)
  | 1 => ("VillageShowModel", "isShown", "[Z", true)
  | 2 => ("VillageShowModel", "houseOf", "[I", true)
  | 3 => ("VillageShowModel", "ageOf", "[I", true)
  | 4 => ("VillageShowModel", "wonOf", "[Z", true)
  | 5 => ("VillageShowModel", "isPiece", "[Z", true)
  | 6 => ("VillageShowModel", "ownerOf", "[I", true)
  | 7 => ("VillageShowModel", "kindOf", "[I", true)
  | 8 => ("VillageShowModel", "sizeOf", "[I", true)
  | 9 => ("VillageShowModel", "gradeOf", "[I", true)
  | 10 => ("VillageShowModel", "entries", "I", false)
  | 11 => ("VillageShowModel", "classOf", "[I", true)
  | 12 => ("VillageShowModel", "whoseOf", "[I", true)
  | 13 => ("VillageShowModel", "piecesOf", "[J", true)
  | 14 => ("VillageShowModel", "jarsOf", "[I", true)
  | 15 => ("VillageShowModel", "lostOf", "[I", true)
  | 16 => ("VillageShowModel", "isStruck", "[Z", true)
  | 17 => ("VillageShowModel", "taped", "I", false)
  | 18 => ("VillageShowModel", "tape", "[I", true)
  | 19 => ("VillageShowModel", "size", "I", false)
  | 20 => ("VillageShowModel", "place", "I", false)
  | 21 => ("VillageShowModel", "begin", "I", false)
  | 22 => ("VillageShowModel", "token", "I", false)
  | 23 => ("VillageShowModel", "word", "J", false)
  | 24 => ("VillageShowModel", "told", "I", false)
  | 25 => ("VillageShowModel", "wrong", "I", false)
  | 26 => ("VillageShowModel", "isTold", "[Z", true)
  | 27 => ("VillageShowModel", "want", "[I", true)
  | 28 => ("VillageShowModel", "wantKind", "[I", true)
  | 29 => ("VillageShowModel", "bars", "[I", true)
  | 30 => ("VillageShowModel", "has", "[Z", true)
  | 31 => ("VillageShowModel", "wordOf", "[I", true)
  | 32 => ("VillageShowModel", "lineFrom", "[I", true)
  | 33 => ("VillageShowModel", "lineTo", "[I", true)
  | 34 => ("VillageShowModel", "codes", "[I", true)
  | 35 => ("VillageShowModel", "code", "I", false)
  | 36 => ("VillageShowModel", "isPlan", "Z", false)
  | 37 => ("VillageShowModel", "opened", "[I", true)
  | 38 => ("VillageShowModel", "compared", "[Z", true)
  | 39 => ("VillageShowModel", "kept", "[I", true)
  | 40 => ("VillageShowModel", "keptBy", "[I", true)
  | 41 => ("VillageShowModel", "ahead", "[I", true)
  | 42 => ("VillageShowModel", "against", "[I", true)
  | 43 => ("VillageShowModel", "sum", "[I", true)
  | 44 => ("VillageShowModel", "sumBy", "[I", true)
  | 45 => ("VillageShowModel", "term", "[I", true)
  | 46 => ("VillageShowModel", "termBy", "[I", true)
  | 47 => ("VillageShowModel", "byNot", "[I", true)
  | 48 => ("VillageShowModel", "valueOf", "[I", true)
  | 49 => ("VillageShowModel", "isJudge", "[Z", true)
  | 50 => ("VillageShowModel", "judgeHouse", "[I", true)
  | 51 => ("VillageShowModel", "leans", "[I", true)
  | 52 => ("VillageShowModel", "judgeOf", "[I", true)
  | 53 => ("VillageShowModel", "feetOf", "[I", true)
  | 54 => ("VillageShowModel", "tableOf", "[I", true)
  | 55 => ("VillageShowModel", "footOf", "[I", true)
  | 56 => ("VillageShowModel", "needs", "[I", true)
  | 57 => ("VillageShowModel", "full", "[I", true)
  | 58 => ("VillageShowModel", "way", "[I", true)
  | 59 => ("VillageShowModel", "bestWay", "[I", true)
  | 60 => ("VillageShowModel", "bestMany", "I", false)
  | 61 => ("VillageShowModel", "capEach", "I", false)
  | 62 => ("VillageShowModel", "dealt", "[I", true)
  | 63 => ("VillageShowModel", "first", "[I", true)
  | 64 => ("VillageShowModel", "last", "[I", true)
  | 65 => ("VillageShowModel", "kinOf", "[I", true)
  | 66 => ("VillageShowModel", "pointsFor", "[I", true)
  | 67 => ("VillageShowModel", "moneyFor", "[I", true)
  | 68 => ("VillageShowModel", "feeEach", "I", false)
  | 69 => ("VillageShowModel", "jarEach", "I", false)
  | 70 => ("VillageShowModel", "pointsOf", "[I", true)
  | 71 => ("VillageShowModel", "firsts", "[I", true)
  | 72 => ("VillageShowModel", "open", "I", false)
  | 73 => ("VillageShowModel", "openMany", "[I", true)
  | 74 => ("VillageShowModel", "openEntry", "[I", true)
  | 75 => ("VillageShowModel", "placed", "[I", true)
  | 76 => ("VillageShowModel", "frees", "I", false)
  | 77 => ("VillageShowModel", "free", "[I", true)
  | 78 => ("VillageShowModel", "isGood", "[Z", true)
  | 79 => ("VillageShowModel", "goodMarks", "[I", true)
  | 80 => ("VillageShowModel", "yearOf", "[I", true)
  | 81 => ("VillageShowModel", "laid", "I", false)
  | 82 => ("VillageShowModel", "markLaid", "[I", true)
  | 83 => ("VillageShowModel", "markEntries", "[I", true)
  | 84 => ("VillageShowModel", "markStruck", "[Z", true)
  | 85 => ("VillageShowModel", "markLost", "[I", true)
  | _ => ("VillageShowModel", "markJudge", "[I", true)
def tyX12 : Nat → FieldType := fun k => match k with
  | 0 => .int
  | 1 => .array .boolean
  | 2 => .array .int
  | 3 => .array .int
  | 4 => .array .boolean
  | 5 => .array .boolean
  | 6 => .array .int
  | 7 => .array .int
  | 8 => .array .int
  | 9 => .array .int
  | 10 => .int
  | 11 => .array .int
  | 12 => .array .int
  | 13 => .array .long
  | 14 => .array .int
  | 15 => .array .int
  | 16 => .array .boolean
  | 17 => .int
  | 18 => .array .int
  | 19 => .int
  | 20 => .int
  | 21 => .int
  | 22 => .int
  | 23 => .long
  | 24 => .int
  | 25 => .int
  | 26 => .array .boolean
  | 27 => .array .int
  | 28 => .array .int
  | 29 => .array .int
  | 30 => .array .boolean
  | 31 => .array .int
  | 32 => .array .int
  | 33 => .array .int
  | 34 => .array .int
  | 35 => .int
  | 36 => .boolean
  | 37 => .array .int
  | 38 => .array .boolean
  | 39 => .array .int
  | 40 => .array .int
  | 41 => .array .int
  | 42 => .array .int
  | 43 => .array .int
  | 44 => .array .int
  | 45 => .array .int
  | 46 => .array .int
  | 47 => .array .int
  | 48 => .array .int
  | 49 => .array .boolean
  | 50 => .array .int
  | 51 => .array .int
  | 52 => .array .int
  | 53 => .array .int
  | 54 => .array .int
  | 55 => .array .int
  | 56 => .array .int
  | 57 => .array .int
  | 58 => .array .int
  | 59 => .array .int
  | 60 => .int
  | 61 => .int
  | 62 => .array .int
  | 63 => .array .int
  | 64 => .array .int
  | 65 => .array .int
  | 66 => .array .int
  | 67 => .array .int
  | 68 => .int
  | 69 => .int
  | 70 => .array .int
  | 71 => .array .int
  | 72 => .int
  | 73 => .array .int
  | 74 => .array .int
  | 75 => .array .int
  | 76 => .int
  | 77 => .array .int
  | 78 => .array .boolean
  | 79 => .array .int
  | 80 => .array .int
  | 81 => .int
  | 82 => .array .int
  | 83 => .array .int
  | 84 => .array .boolean
  | 85 => .array .int
  | _ => .array .int
abbrev wsX120 : List Cond := u_ws RX12 TX12 87
theorem nmX12 : ∀ a, a < 87 → ∀ b, b < 87 → a ≠ b → (TX12 a).2.1 ≠ (TX12 b).2.1 := by decide +kernel
theorem tyX12_ok : ∀ k, k < 87 → parseFieldDescriptor (TX12 k).2.2.1 = some (tyX12 k) := by decide +kernel
def vwCl : List vw_C := [(RX0, TX0, 11), (RX1, TX1, 8), (RX2, TX2, 7), (RX3, TX3, 7), (RX4, TX4, 4), (RX5, TX5, 9), (RX6, TX6, 7), (RX7, TX7, 8), (RX8, TX8, 2), (RX9, TX9, 6), (RX10, TX10, 7), (RX11, TX11, 16), (RX12, TX12, 87)]
theorem cwX0 : u_ws RX0 TX0 11 = ([335, 337, 339, 341, 343, 345, 347, 349, 351, 353, 355] : List Nat).filterMap (fun i => tables_1[i]?) := by decide +kernel
theorem cwX1 : u_ws RX1 TX1 8 = ([375, 377, 379, 381, 383, 385, 387, 389] : List Nat).filterMap (fun i => tables_1[i]?) := by decide +kernel
theorem cwX2 : u_ws RX2 TX2 7 = ([204, 206, 208, 210, 212, 214, 216] : List Nat).filterMap (fun i => tables_1[i]?) := by decide +kernel
theorem cwX3 : u_ws RX3 TX3 7 = ([266, 268, 270, 272, 274, 276, 278] : List Nat).filterMap (fun i => tables_1[i]?) := by decide +kernel
theorem cwX4 : u_ws RX4 TX4 4 = ([236, 238, 240, 242] : List Nat).filterMap (fun i => tables_1[i]?) := by decide +kernel
theorem cwX5 : u_ws RX5 TX5 9 = ([145, 147, 149, 151, 153, 155, 157, 159, 161] : List Nat).filterMap (fun i => tables_1[i]?) := by decide +kernel
theorem cwX6 : u_ws RX6 TX6 7 = ([297, 299, 301, 303, 305, 307, 309] : List Nat).filterMap (fun i => tables_1[i]?) := by decide +kernel
theorem cwX7 : u_ws RX7 TX7 8 = ([115, 117, 119, 121, 123, 125, 127, 129] : List Nat).filterMap (fun i => tables_1[i]?) := by decide +kernel
theorem cwX8 : u_ws RX8 TX8 2 = ([176, 178] : List Nat).filterMap (fun i => tables_1[i]?) := by decide +kernel
theorem cwX9 : u_ws RX9 TX9 6 = ([406, 408, 410, 412, 414, 416] : List Nat).filterMap (fun i => tables_1[i]?) := by decide +kernel
theorem cwX10 : u_ws RX10 TX10 7 = ([65, 67, 69, 71, 73, 75, 77] : List Nat).filterMap (fun i => tables_1[i]?) := by decide +kernel
theorem cwX11 : u_ws RX11 TX11 16 = ([435, 437, 439, 441, 443, 445, 447, 449, 451, 453, 455, 457, 459, 461, 463, 465] : List Nat).filterMap (fun i => tables_1[i]?) := by decide +kernel
theorem cwX12 : u_ws RX12 TX12 87 = ([1357, 1359, 1361, 1363, 1365, 1367, 1369, 1371, 1373, 1375, 1377, 1379, 1381, 1383, 1385, 1387, 1389, 1391, 1393, 1395, 1397, 1399, 1401, 1403, 1405, 1407, 1409, 1411, 1413, 1415, 1417, 1419, 1421, 1423, 1425, 1427, 1429, 1431, 1433, 1435, 1437, 1439, 1441, 1443, 1445, 1447, 1449, 1451, 1453, 1455, 1457, 1459, 1461, 1463, 1465, 1467, 1469, 1471, 1473, 1475, 1477, 1479, 1481, 1483, 1485, 1487, 1489, 1491, 1493, 1495, 1497, 1499, 1501, 1503, 1505, 1507, 1509, 1511, 1513, 1515, 1517, 1519, 1521, 1523, 1525, 1527, 1529] : List Nat).filterMap (fun i => tables_1[i]?) := by decide +kernel
