section
-- ===== PART A: goes FIRST, ahead of the names: the tables' words, and 'selects' of the private methods out of them =====
/-- a private method of a class that the tables say can be made, by its rows of tables_1 -/
def lw_okq (q : MethodName × Nat) : Prop := (q.1.cls ≠ "java/lang/invoke/MethodHandle" ∧ q.1.cls ≠ "java/lang/invoke/VarHandle") ∧ Cond.instantiable q.1.cls q.2 ∈ tables_1 ∧ Cond.privateMethod q.1 ∈ tables_1 ∧ Cond.instanceMethod q.1 ∈ tables_1
theorem lw_p0 : lw_okq (⟨"OneBook$Book", "parse", "()V"⟩, 6) := ⟨⟨by decide +kernel, by decide +kernel⟩, List.mem_of_getElem? (i := 25) (by decide +kernel), List.mem_of_getElem? (i := 316) (by decide +kernel), List.mem_of_getElem? (i := 317) (by decide +kernel)⟩
theorem lw_p1 : lw_okq (⟨"OneBook$Book", "findFault", "()I"⟩, 6) := ⟨⟨by decide +kernel, by decide +kernel⟩, List.mem_of_getElem? (i := 25) (by decide +kernel), List.mem_of_getElem? (i := 320) (by decide +kernel), List.mem_of_getElem? (i := 321) (by decide +kernel)⟩
theorem lw_p2 : lw_okq (⟨"OneBook$Book", "goesOn", "(I)Z"⟩, 6) := ⟨⟨by decide +kernel, by decide +kernel⟩, List.mem_of_getElem? (i := 25) (by decide +kernel), List.mem_of_getElem? (i := 324) (by decide +kernel), List.mem_of_getElem? (i := 325) (by decide +kernel)⟩
theorem lw_p3 : lw_okq (⟨"OneBook$Book", "kindAt", "(I)I"⟩, 6) := ⟨⟨by decide +kernel, by decide +kernel⟩, List.mem_of_getElem? (i := 25) (by decide +kernel), List.mem_of_getElem? (i := 328) (by decide +kernel), List.mem_of_getElem? (i := 329) (by decide +kernel)⟩
theorem lw_p4 : lw_okq (⟨"OneBook$Book", "figureAt", "(I)I"⟩, 6) := ⟨⟨by decide +kernel, by decide +kernel⟩, List.mem_of_getElem? (i := 25) (by decide +kernel), List.mem_of_getElem? (i := 332) (by decide +kernel), List.mem_of_getElem? (i := 333) (by decide +kernel)⟩
theorem lw_p5 : lw_okq (⟨"OneBook", "isChapter", "(I)Z"⟩, 12) := ⟨⟨by decide +kernel, by decide +kernel⟩, List.mem_of_getElem? (i := 17) (by decide +kernel), List.mem_of_getElem? (i := 360) (by decide +kernel), List.mem_of_getElem? (i := 361) (by decide +kernel)⟩
theorem lw_p6 : lw_okq (⟨"OneBook", "found", "(I)I"⟩, 12) := ⟨⟨by decide +kernel, by decide +kernel⟩, List.mem_of_getElem? (i := 17) (by decide +kernel), List.mem_of_getElem? (i := 412) (by decide +kernel), List.mem_of_getElem? (i := 413) (by decide +kernel)⟩
theorem lw_p7 : lw_okq (⟨"OneBook$Evening", "readOrStop", "(III)V"⟩, 5) := ⟨⟨by decide +kernel, by decide +kernel⟩, List.mem_of_getElem? (i := 85) (by decide +kernel), List.mem_of_getElem? (i := 497) (by decide +kernel), List.mem_of_getElem? (i := 498) (by decide +kernel)⟩
theorem lw_p8 : lw_okq (⟨"OneBook$Plan", "choose", "(IIIIII)V"⟩, 11) := ⟨⟨by decide +kernel, by decide +kernel⟩, List.mem_of_getElem? (i := 107) (by decide +kernel), List.mem_of_getElem? (i := 562) (by decide +kernel), List.mem_of_getElem? (i := 563) (by decide +kernel)⟩
theorem lw_p9 : lw_okq (⟨"OneBook$Plan", "isNoBetter", "(III)Z"⟩, 11) := ⟨⟨by decide +kernel, by decide +kernel⟩, List.mem_of_getElem? (i := 107) (by decide +kernel), List.mem_of_getElem? (i := 566) (by decide +kernel), List.mem_of_getElem? (i := 567) (by decide +kernel)⟩
theorem lw_p10 : lw_okq (⟨"OneBook$Plan", "keep", "(III)V"⟩, 11) := ⟨⟨by decide +kernel, by decide +kernel⟩, List.mem_of_getElem? (i := 107) (by decide +kernel), List.mem_of_getElem? (i := 570) (by decide +kernel), List.mem_of_getElem? (i := 571) (by decide +kernel)⟩
theorem lw_p11 : lw_okq (⟨"OneBook$Seeming", "isRest", "(II)Z"⟩, 5) := ⟨⟨by decide +kernel, by decide +kernel⟩, List.mem_of_getElem? (i := 147) (by decide +kernel), List.mem_of_getElem? (i := 627) (by decide +kernel), List.mem_of_getElem? (i := 628) (by decide +kernel)⟩
theorem lw_p12 : lw_okq (⟨"OneBook$Seating", "leastPartner", "(II)I"⟩, 5) := ⟨⟨by decide +kernel, by decide +kernel⟩, List.mem_of_getElem? (i := 169) (by decide +kernel), List.mem_of_getElem? (i := 664) (by decide +kernel), List.mem_of_getElem? (i := 665) (by decide +kernel)⟩
theorem lw_p13 : lw_okq (⟨"OneBook$Seating", "waitWith", "(III)I"⟩, 5) := ⟨⟨by decide +kernel, by decide +kernel⟩, List.mem_of_getElem? (i := 169) (by decide +kernel), List.mem_of_getElem? (i := 668) (by decide +kernel), List.mem_of_getElem? (i := 669) (by decide +kernel)⟩
theorem lw_p14 : lw_okq (⟨"OneBook$Turns", "fitsAll", "(III)Z"⟩, 5) := ⟨⟨by decide +kernel, by decide +kernel⟩, List.mem_of_getElem? (i := 191) (by decide +kernel), List.mem_of_getElem? (i := 711) (by decide +kernel), List.mem_of_getElem? (i := 712) (by decide +kernel)⟩
theorem lw_p15 : lw_okq (⟨"OneBook$Turns", "tellsOf", "(III)Z"⟩, 5) := ⟨⟨by decide +kernel, by decide +kernel⟩, List.mem_of_getElem? (i := 191) (by decide +kernel), List.mem_of_getElem? (i := 715) (by decide +kernel), List.mem_of_getElem? (i := 716) (by decide +kernel)⟩
def lw_privs_1 : List (MethodName × Nat) := [(⟨"OneBook$Book", "parse", "()V"⟩, 6), (⟨"OneBook$Book", "findFault", "()I"⟩, 6), (⟨"OneBook$Book", "goesOn", "(I)Z"⟩, 6), (⟨"OneBook$Book", "kindAt", "(I)I"⟩, 6), (⟨"OneBook$Book", "figureAt", "(I)I"⟩, 6), (⟨"OneBook", "isChapter", "(I)Z"⟩, 12), (⟨"OneBook", "found", "(I)I"⟩, 12), (⟨"OneBook$Evening", "readOrStop", "(III)V"⟩, 5), (⟨"OneBook$Plan", "choose", "(IIIIII)V"⟩, 11), (⟨"OneBook$Plan", "isNoBetter", "(III)Z"⟩, 11), (⟨"OneBook$Plan", "keep", "(III)V"⟩, 11), (⟨"OneBook$Seeming", "isRest", "(II)Z"⟩, 5), (⟨"OneBook$Seating", "leastPartner", "(II)I"⟩, 5), (⟨"OneBook$Seating", "waitWith", "(III)I"⟩, 5), (⟨"OneBook$Turns", "fitsAll", "(III)Z"⟩, 5), (⟨"OneBook$Turns", "tellsOf", "(III)Z"⟩, 5)]
theorem lw_r1 : ∀ q ∈ lw_privs_1, lw_okq q := List.forall_mem_cons.mpr ⟨lw_p0, List.forall_mem_cons.mpr ⟨lw_p1, List.forall_mem_cons.mpr ⟨lw_p2, List.forall_mem_cons.mpr ⟨lw_p3, List.forall_mem_cons.mpr ⟨lw_p4, List.forall_mem_cons.mpr ⟨lw_p5, List.forall_mem_cons.mpr ⟨lw_p6, List.forall_mem_cons.mpr ⟨lw_p7, List.forall_mem_cons.mpr ⟨lw_p8, List.forall_mem_cons.mpr ⟨lw_p9, List.forall_mem_cons.mpr ⟨lw_p10, List.forall_mem_cons.mpr ⟨lw_p11, List.forall_mem_cons.mpr ⟨lw_p12, List.forall_mem_cons.mpr ⟨lw_p13, List.forall_mem_cons.mpr ⟨lw_p14, List.forall_mem_cons.mpr ⟨lw_p15, fun _ h => absurd h List.not_mem_nil⟩⟩⟩⟩⟩⟩⟩⟩⟩⟩⟩⟩⟩⟩⟩⟩
theorem lw_p16 : lw_okq (⟨"OneBook$Turns", "isThere", "(I)Z"⟩, 5) := ⟨⟨by decide +kernel, by decide +kernel⟩, List.mem_of_getElem? (i := 191) (by decide +kernel), List.mem_of_getElem? (i := 719) (by decide +kernel), List.mem_of_getElem? (i := 720) (by decide +kernel)⟩
theorem lw_p17 : lw_okq (⟨"OneBook$Moods", "findOutcomes", "(II)V"⟩, 9) := ⟨⟨by decide +kernel, by decide +kernel⟩, List.mem_of_getElem? (i := 213) (by decide +kernel), List.mem_of_getElem? (i := 755) (by decide +kernel), List.mem_of_getElem? (i := 756) (by decide +kernel)⟩
theorem lw_p18 : lw_okq (⟨"OneBook$Moods", "addOutcome", "(II)V"⟩, 9) := ⟨⟨by decide +kernel, by decide +kernel⟩, List.mem_of_getElem? (i := 213) (by decide +kernel), List.mem_of_getElem? (i := 767) (by decide +kernel), List.mem_of_getElem? (i := 768) (by decide +kernel)⟩
theorem lw_p19 : lw_okq (⟨"OneBook$Moods", "readOn", "(I)V"⟩, 9) := ⟨⟨by decide +kernel, by decide +kernel⟩, List.mem_of_getElem? (i := 213) (by decide +kernel), List.mem_of_getElem? (i := 771) (by decide +kernel), List.mem_of_getElem? (i := 772) (by decide +kernel)⟩
theorem lw_p20 : lw_okq (⟨"OneBook$Moods", "reduce", "(JJ)V"⟩, 9) := ⟨⟨by decide +kernel, by decide +kernel⟩, List.mem_of_getElem? (i := 213) (by decide +kernel), List.mem_of_getElem? (i := 779) (by decide +kernel), List.mem_of_getElem? (i := 780) (by decide +kernel)⟩
theorem lw_p21 : lw_okq (⟨"OneBook$Sheet", "narrow", "(I)I"⟩, 4) := ⟨⟨by decide +kernel, by decide +kernel⟩, List.mem_of_getElem? (i := 249) (by decide +kernel), List.mem_of_getElem? (i := 840) (by decide +kernel), List.mem_of_getElem? (i := 841) (by decide +kernel)⟩
theorem lw_p22 : lw_okq (⟨"OneBook", "mixChapter", "(JI)J"⟩, 12) := ⟨⟨by decide +kernel, by decide +kernel⟩, List.mem_of_getElem? (i := 17) (by decide +kernel), List.mem_of_getElem? (i := 889) (by decide +kernel), List.mem_of_getElem? (i := 890) (by decide +kernel)⟩
theorem lw_p23 : lw_okq (⟨"OneBook", "mixPlan", "(J)J"⟩, 12) := ⟨⟨by decide +kernel, by decide +kernel⟩, List.mem_of_getElem? (i := 17) (by decide +kernel), List.mem_of_getElem? (i := 894) (by decide +kernel), List.mem_of_getElem? (i := 895) (by decide +kernel)⟩
theorem lw_p24 : lw_okq (⟨"OneBook", "mixSeeming", "(J)J"⟩, 12) := ⟨⟨by decide +kernel, by decide +kernel⟩, List.mem_of_getElem? (i := 17) (by decide +kernel), List.mem_of_getElem? (i := 898) (by decide +kernel), List.mem_of_getElem? (i := 899) (by decide +kernel)⟩
theorem lw_p25 : lw_okq (⟨"OneBook", "mixSeats", "(J)J"⟩, 12) := ⟨⟨by decide +kernel, by decide +kernel⟩, List.mem_of_getElem? (i := 17) (by decide +kernel), List.mem_of_getElem? (i := 902) (by decide +kernel), List.mem_of_getElem? (i := 903) (by decide +kernel)⟩
theorem lw_p26 : lw_okq (⟨"OneBook", "mixMoods", "(J)J"⟩, 12) := ⟨⟨by decide +kernel, by decide +kernel⟩, List.mem_of_getElem? (i := 17) (by decide +kernel), List.mem_of_getElem? (i := 907) (by decide +kernel), List.mem_of_getElem? (i := 908) (by decide +kernel)⟩
theorem lw_p27 : lw_okq (⟨"OneBookModel", "met", "(I)I"⟩, 34) := ⟨⟨by decide +kernel, by decide +kernel⟩, List.mem_of_getElem? (i := 911) (by decide +kernel), List.mem_of_getElem? (i := 1032) (by decide +kernel), List.mem_of_getElem? (i := 1033) (by decide +kernel)⟩
theorem lw_p28 : lw_okq (⟨"OneBookModel", "lacks", "(III)I"⟩, 34) := ⟨⟨by decide +kernel, by decide +kernel⟩, List.mem_of_getElem? (i := 911) (by decide +kernel), List.mem_of_getElem? (i := 1044) (by decide +kernel), List.mem_of_getElem? (i := 1045) (by decide +kernel)⟩
theorem lw_p29 : lw_okq (⟨"OneBookModel", "reads", "()I"⟩, 34) := ⟨⟨by decide +kernel, by decide +kernel⟩, List.mem_of_getElem? (i := 911) (by decide +kernel), List.mem_of_getElem? (i := 1073) (by decide +kernel), List.mem_of_getElem? (i := 1074) (by decide +kernel)⟩
theorem lw_p30 : lw_okq (⟨"OneBookModel", "readsPart", "()Z"⟩, 34) := ⟨⟨by decide +kernel, by decide +kernel⟩, List.mem_of_getElem? (i := 911) (by decide +kernel), List.mem_of_getElem? (i := 1077) (by decide +kernel), List.mem_of_getElem? (i := 1078) (by decide +kernel)⟩
theorem lw_p31 : lw_okq (⟨"OneBookModel", "here", "()I"⟩, 34) := ⟨⟨by decide +kernel, by decide +kernel⟩, List.mem_of_getElem? (i := 911) (by decide +kernel), List.mem_of_getElem? (i := 1081) (by decide +kernel), List.mem_of_getElem? (i := 1082) (by decide +kernel)⟩
def lw_privs_2 : List (MethodName × Nat) := [(⟨"OneBook$Turns", "isThere", "(I)Z"⟩, 5), (⟨"OneBook$Moods", "findOutcomes", "(II)V"⟩, 9), (⟨"OneBook$Moods", "addOutcome", "(II)V"⟩, 9), (⟨"OneBook$Moods", "readOn", "(I)V"⟩, 9), (⟨"OneBook$Moods", "reduce", "(JJ)V"⟩, 9), (⟨"OneBook$Sheet", "narrow", "(I)I"⟩, 4), (⟨"OneBook", "mixChapter", "(JI)J"⟩, 12), (⟨"OneBook", "mixPlan", "(J)J"⟩, 12), (⟨"OneBook", "mixSeeming", "(J)J"⟩, 12), (⟨"OneBook", "mixSeats", "(J)J"⟩, 12), (⟨"OneBook", "mixMoods", "(J)J"⟩, 12), (⟨"OneBookModel", "met", "(I)I"⟩, 34), (⟨"OneBookModel", "lacks", "(III)I"⟩, 34), (⟨"OneBookModel", "reads", "()I"⟩, 34), (⟨"OneBookModel", "readsPart", "()Z"⟩, 34), (⟨"OneBookModel", "here", "()I"⟩, 34)]
theorem lw_r2 : ∀ q ∈ lw_privs_2, lw_okq q := List.forall_mem_cons.mpr ⟨lw_p16, List.forall_mem_cons.mpr ⟨lw_p17, List.forall_mem_cons.mpr ⟨lw_p18, List.forall_mem_cons.mpr ⟨lw_p19, List.forall_mem_cons.mpr ⟨lw_p20, List.forall_mem_cons.mpr ⟨lw_p21, List.forall_mem_cons.mpr ⟨lw_p22, List.forall_mem_cons.mpr ⟨lw_p23, List.forall_mem_cons.mpr ⟨lw_p24, List.forall_mem_cons.mpr ⟨lw_p25, List.forall_mem_cons.mpr ⟨lw_p26, List.forall_mem_cons.mpr ⟨lw_p27, List.forall_mem_cons.mpr ⟨lw_p28, List.forall_mem_cons.mpr ⟨lw_p29, List.forall_mem_cons.mpr ⟨lw_p30, List.forall_mem_cons.mpr ⟨lw_p31, fun _ h => absurd h List.not_mem_nil⟩⟩⟩⟩⟩⟩⟩⟩⟩⟩⟩⟩⟩⟩⟩⟩
theorem lw_p32 : lw_okq (⟨"OneBookModel", "none", "()I"⟩, 34) := ⟨⟨by decide +kernel, by decide +kernel⟩, List.mem_of_getElem? (i := 911) (by decide +kernel), List.mem_of_getElem? (i := 1087) (by decide +kernel), List.mem_of_getElem? (i := 1088) (by decide +kernel)⟩
theorem lw_p33 : lw_okq (⟨"OneBookModel", "isChapter", "(I)Z"⟩, 34) := ⟨⟨by decide +kernel, by decide +kernel⟩, List.mem_of_getElem? (i := 911) (by decide +kernel), List.mem_of_getElem? (i := 1095) (by decide +kernel), List.mem_of_getElem? (i := 1096) (by decide +kernel)⟩
theorem lw_p34 : lw_okq (⟨"OneBookModel", "chapterOf", "(II)I"⟩, 34) := ⟨⟨by decide +kernel, by decide +kernel⟩, List.mem_of_getElem? (i := 911) (by decide +kernel), List.mem_of_getElem? (i := 1099) (by decide +kernel), List.mem_of_getElem? (i := 1100) (by decide +kernel)⟩
theorem lw_p35 : lw_okq (⟨"OneBookModel", "timeOf", "(II)I"⟩, 34) := ⟨⟨by decide +kernel, by decide +kernel⟩, List.mem_of_getElem? (i := 911) (by decide +kernel), List.mem_of_getElem? (i := 1147) (by decide +kernel), List.mem_of_getElem? (i := 1148) (by decide +kernel)⟩
theorem lw_p36 : lw_okq (⟨"OneBookModel", "timeBy", "(III)I"⟩, 34) := ⟨⟨by decide +kernel, by decide +kernel⟩, List.mem_of_getElem? (i := 911) (by decide +kernel), List.mem_of_getElem? (i := 1151) (by decide +kernel), List.mem_of_getElem? (i := 1152) (by decide +kernel)⟩
theorem lw_p37 : lw_okq (⟨"OneBookModel", "eveningOf", "(III)I"⟩, 34) := ⟨⟨by decide +kernel, by decide +kernel⟩, List.mem_of_getElem? (i := 911) (by decide +kernel), List.mem_of_getElem? (i := 1166) (by decide +kernel), List.mem_of_getElem? (i := 1167) (by decide +kernel)⟩
theorem lw_p38 : lw_okq (⟨"OneBookModel", "findEvening", "(II)V"⟩, 34) := ⟨⟨by decide +kernel, by decide +kernel⟩, List.mem_of_getElem? (i := 911) (by decide +kernel), List.mem_of_getElem? (i := 1170) (by decide +kernel), List.mem_of_getElem? (i := 1171) (by decide +kernel)⟩
theorem lw_p39 : lw_okq (⟨"OneBookModel", "isRead", "(I)Z"⟩, 34) := ⟨⟨by decide +kernel, by decide +kernel⟩, List.mem_of_getElem? (i := 911) (by decide +kernel), List.mem_of_getElem? (i := 1174) (by decide +kernel), List.mem_of_getElem? (i := 1175) (by decide +kernel)⟩
theorem lw_p40 : lw_okq (⟨"OneBookModel", "together", "(II)I"⟩, 34) := ⟨⟨by decide +kernel, by decide +kernel⟩, List.mem_of_getElem? (i := 911) (by decide +kernel), List.mem_of_getElem? (i := 1178) (by decide +kernel), List.mem_of_getElem? (i := 1179) (by decide +kernel)⟩
theorem lw_p41 : lw_okq (⟨"OneBookModel", "waitedOf", "(IIII)I"⟩, 34) := ⟨⟨by decide +kernel, by decide +kernel⟩, List.mem_of_getElem? (i := 911) (by decide +kernel), List.mem_of_getElem? (i := 1186) (by decide +kernel), List.mem_of_getElem? (i := 1187) (by decide +kernel)⟩
theorem lw_p42 : lw_okq (⟨"OneBookModel", "findBest", "(II)V"⟩, 34) := ⟨⟨by decide +kernel, by decide +kernel⟩, List.mem_of_getElem? (i := 911) (by decide +kernel), List.mem_of_getElem? (i := 1197) (by decide +kernel), List.mem_of_getElem? (i := 1198) (by decide +kernel)⟩
theorem lw_p43 : lw_okq (⟨"OneBookModel", "tries", "(II)V"⟩, 34) := ⟨⟨by decide +kernel, by decide +kernel⟩, List.mem_of_getElem? (i := 911) (by decide +kernel), List.mem_of_getElem? (i := 1201) (by decide +kernel), List.mem_of_getElem? (i := 1202) (by decide +kernel)⟩
theorem lw_p44 : lw_okq (⟨"OneBookModel", "bestOf", "(I)I"⟩, 34) := ⟨⟨by decide +kernel, by decide +kernel⟩, List.mem_of_getElem? (i := 911) (by decide +kernel), List.mem_of_getElem? (i := 1208) (by decide +kernel), List.mem_of_getElem? (i := 1209) (by decide +kernel)⟩
theorem lw_p45 : lw_okq (⟨"OneBookModel", "gainOf", "(IIII)I"⟩, 34) := ⟨⟨by decide +kernel, by decide +kernel⟩, List.mem_of_getElem? (i := 911) (by decide +kernel), List.mem_of_getElem? (i := 1223) (by decide +kernel), List.mem_of_getElem? (i := 1224) (by decide +kernel)⟩
theorem lw_p46 : lw_okq (⟨"OneBookModel", "restsOf", "(III)I"⟩, 34) := ⟨⟨by decide +kernel, by decide +kernel⟩, List.mem_of_getElem? (i := 911) (by decide +kernel), List.mem_of_getElem? (i := 1231) (by decide +kernel), List.mem_of_getElem? (i := 1232) (by decide +kernel)⟩
theorem lw_p47 : lw_okq (⟨"OneBookModel", "isRest", "(IIII)Z"⟩, 34) := ⟨⟨by decide +kernel, by decide +kernel⟩, List.mem_of_getElem? (i := 911) (by decide +kernel), List.mem_of_getElem? (i := 1235) (by decide +kernel), List.mem_of_getElem? (i := 1236) (by decide +kernel)⟩
def lw_privs_3 : List (MethodName × Nat) := [(⟨"OneBookModel", "none", "()I"⟩, 34), (⟨"OneBookModel", "isChapter", "(I)Z"⟩, 34), (⟨"OneBookModel", "chapterOf", "(II)I"⟩, 34), (⟨"OneBookModel", "timeOf", "(II)I"⟩, 34), (⟨"OneBookModel", "timeBy", "(III)I"⟩, 34), (⟨"OneBookModel", "eveningOf", "(III)I"⟩, 34), (⟨"OneBookModel", "findEvening", "(II)V"⟩, 34), (⟨"OneBookModel", "isRead", "(I)Z"⟩, 34), (⟨"OneBookModel", "together", "(II)I"⟩, 34), (⟨"OneBookModel", "waitedOf", "(IIII)I"⟩, 34), (⟨"OneBookModel", "findBest", "(II)V"⟩, 34), (⟨"OneBookModel", "tries", "(II)V"⟩, 34), (⟨"OneBookModel", "bestOf", "(I)I"⟩, 34), (⟨"OneBookModel", "gainOf", "(IIII)I"⟩, 34), (⟨"OneBookModel", "restsOf", "(III)I"⟩, 34), (⟨"OneBookModel", "isRest", "(IIII)Z"⟩, 34)]
theorem lw_r3 : ∀ q ∈ lw_privs_3, lw_okq q := List.forall_mem_cons.mpr ⟨lw_p32, List.forall_mem_cons.mpr ⟨lw_p33, List.forall_mem_cons.mpr ⟨lw_p34, List.forall_mem_cons.mpr ⟨lw_p35, List.forall_mem_cons.mpr ⟨lw_p36, List.forall_mem_cons.mpr ⟨lw_p37, List.forall_mem_cons.mpr ⟨lw_p38, List.forall_mem_cons.mpr ⟨lw_p39, List.forall_mem_cons.mpr ⟨lw_p40, List.forall_mem_cons.mpr ⟨lw_p41, List.forall_mem_cons.mpr ⟨lw_p42, List.forall_mem_cons.mpr ⟨lw_p43, List.forall_mem_cons.mpr ⟨lw_p44, List.forall_mem_cons.mpr ⟨lw_p45, List.forall_mem_cons.mpr ⟨lw_p46, List.forall_mem_cons.mpr ⟨lw_p47, fun _ h => absurd h List.not_mem_nil⟩⟩⟩⟩⟩⟩⟩⟩⟩⟩⟩⟩⟩⟩⟩⟩
theorem lw_p48 : lw_okq (⟨"OneBookModel", "pairsOf", "(II)I"⟩, 34) := ⟨⟨by decide +kernel, by decide +kernel⟩, List.mem_of_getElem? (i := 911) (by decide +kernel), List.mem_of_getElem? (i := 1246) (by decide +kernel), List.mem_of_getElem? (i := 1247) (by decide +kernel)⟩
theorem lw_p49 : lw_okq (⟨"OneBookModel", "findPairs", "()V"⟩, 34) := ⟨⟨by decide +kernel, by decide +kernel⟩, List.mem_of_getElem? (i := 911) (by decide +kernel), List.mem_of_getElem? (i := 1250) (by decide +kernel), List.mem_of_getElem? (i := 1251) (by decide +kernel)⟩
theorem lw_p50 : lw_okq (⟨"OneBookModel", "apart", "(II)I"⟩, 34) := ⟨⟨by decide +kernel, by decide +kernel⟩, List.mem_of_getElem? (i := 911) (by decide +kernel), List.mem_of_getElem? (i := 1258) (by decide +kernel), List.mem_of_getElem? (i := 1259) (by decide +kernel)⟩
theorem lw_p51 : lw_okq (⟨"OneBookModel", "pacesOf", "(II)I"⟩, 34) := ⟨⟨by decide +kernel, by decide +kernel⟩, List.mem_of_getElem? (i := 911) (by decide +kernel), List.mem_of_getElem? (i := 1274) (by decide +kernel), List.mem_of_getElem? (i := 1275) (by decide +kernel)⟩
theorem lw_p52 : lw_okq (⟨"OneBookModel", "unlikeNow", "()I"⟩, 34) := ⟨⟨by decide +kernel, by decide +kernel⟩, List.mem_of_getElem? (i := 911) (by decide +kernel), List.mem_of_getElem? (i := 1282) (by decide +kernel), List.mem_of_getElem? (i := 1283) (by decide +kernel)⟩
theorem lw_p53 : lw_okq (⟨"OneBookModel", "doneOf", "(III)J"⟩, 34) := ⟨⟨by decide +kernel, by decide +kernel⟩, List.mem_of_getElem? (i := 911) (by decide +kernel), List.mem_of_getElem? (i := 1295) (by decide +kernel), List.mem_of_getElem? (i := 1296) (by decide +kernel)⟩
theorem lw_p54 : lw_okq (⟨"OneBookModel", "findMinutes", "(I)V"⟩, 34) := ⟨⟨by decide +kernel, by decide +kernel⟩, List.mem_of_getElem? (i := 911) (by decide +kernel), List.mem_of_getElem? (i := 1299) (by decide +kernel), List.mem_of_getElem? (i := 1300) (by decide +kernel)⟩
theorem lw_p55 : lw_okq (⟨"OneBookModel", "quarters", "(II)J"⟩, 34) := ⟨⟨by decide +kernel, by decide +kernel⟩, List.mem_of_getElem? (i := 911) (by decide +kernel), List.mem_of_getElem? (i := 1303) (by decide +kernel), List.mem_of_getElem? (i := 1304) (by decide +kernel)⟩
theorem lw_p56 : lw_okq (⟨"OneBookModel", "togetherSo", "(III)I"⟩, 34) := ⟨⟨by decide +kernel, by decide +kernel⟩, List.mem_of_getElem? (i := 911) (by decide +kernel), List.mem_of_getElem? (i := 1307) (by decide +kernel), List.mem_of_getElem? (i := 1308) (by decide +kernel)⟩
theorem lw_p57 : lw_okq (⟨"OneBookModel", "meanOf", "(II)J"⟩, 34) := ⟨⟨by decide +kernel, by decide +kernel⟩, List.mem_of_getElem? (i := 911) (by decide +kernel), List.mem_of_getElem? (i := 1318) (by decide +kernel), List.mem_of_getElem? (i := 1319) (by decide +kernel)⟩
def lw_privs_4 : List (MethodName × Nat) := [(⟨"OneBookModel", "pairsOf", "(II)I"⟩, 34), (⟨"OneBookModel", "findPairs", "()V"⟩, 34), (⟨"OneBookModel", "apart", "(II)I"⟩, 34), (⟨"OneBookModel", "pacesOf", "(II)I"⟩, 34), (⟨"OneBookModel", "unlikeNow", "()I"⟩, 34), (⟨"OneBookModel", "doneOf", "(III)J"⟩, 34), (⟨"OneBookModel", "findMinutes", "(I)V"⟩, 34), (⟨"OneBookModel", "quarters", "(II)J"⟩, 34), (⟨"OneBookModel", "togetherSo", "(III)I"⟩, 34), (⟨"OneBookModel", "meanOf", "(II)J"⟩, 34)]
theorem lw_r4 : ∀ q ∈ lw_privs_4, lw_okq q := List.forall_mem_cons.mpr ⟨lw_p48, List.forall_mem_cons.mpr ⟨lw_p49, List.forall_mem_cons.mpr ⟨lw_p50, List.forall_mem_cons.mpr ⟨lw_p51, List.forall_mem_cons.mpr ⟨lw_p52, List.forall_mem_cons.mpr ⟨lw_p53, List.forall_mem_cons.mpr ⟨lw_p54, List.forall_mem_cons.mpr ⟨lw_p55, List.forall_mem_cons.mpr ⟨lw_p56, List.forall_mem_cons.mpr ⟨lw_p57, fun _ h => absurd h List.not_mem_nil⟩⟩⟩⟩⟩⟩⟩⟩⟩⟩
def lw_privs : List (MethodName × Nat) := lw_privs_1 ++ (lw_privs_2 ++ (lw_privs_3 ++ (lw_privs_4)))
def lw_tbl : List Cond := k2_sels lw_privs ++ tables_1
theorem lw_privs_ok : ∀ q ∈ lw_privs, lw_okq q := by
  show ∀ q ∈ lw_privs_1 ++ (lw_privs_2 ++ (lw_privs_3 ++ (lw_privs_4))), lw_okq q
  exact List.forall_mem_append.mpr ⟨lw_r1, List.forall_mem_append.mpr ⟨lw_r2, List.forall_mem_append.mpr ⟨lw_r3, lw_r4⟩⟩⟩
end
section
-- values, stores, the layout of the two objects' cells (by program: wip/gen/gen_lay.py)
abbrev AV : Type := Int32 ⊕ Int64 ⊕ (Nat × Nat)
abbrev vI (x : Int32) : AV := .inl x
abbrev vJ (x : Int64) : AV := .inr (.inl x)
abbrev vR (k i : Nat) : AV := .inr (.inr (k, i))
abbrev AD : Type := Nat → Nat → Nat
def cv (ad : AD) : AV → Value
  | .inl x => .int x
  | .inr (.inl y) => .long y
  | .inr (.inr (k, i)) => .ref (ad k i)
abbrev ST : Type := (Nat → Nat → Nat → Int32) × (Nat → Nat → Nat → Int64)
def setI (σ : ST) (k i f : Nat) (v : Int32) : ST := (fun a b c => if a = k ∧ b = i ∧ c = f then v else σ.1 a b c, σ.2)
def setJ (σ : ST) (k i f : Nat) (v : Int64) : ST := (σ.1, fun a b c => if a = k ∧ b = i ∧ c = f then v else σ.2 a b c)
/-- a field: its type (0 int, 1 long, 2 a reference, 3 boolean), the kind it points to, whether its index is the object's own -/
abbrev FL : Type := Nat × Nat × Nat
abbrev KD : Type := (Nat × List FL) ⊕ (Nat × Nat × Nat)
abbrev fi : FL := (0, 0, 0)
abbrev fj : FL := (1, 0, 0)
abbrev fz : FL := (3, 0, 0)
abbrev fr (k : Nat) : FL := (2, k, 0)
abbrev fo (k : Nat) : FL := (2, k, 1)
def kd (k : Nat) : KD := match k with
  | 0 => .inl (0, [fr 1, fr 2, fr 4, fr 5, fr 6, fr 7, fr 8, fr 9, fr 40, fi, fi, fi])
  | 1 => .inl (1, [fr 12, fr 13, fr 14, fi, fi, fi])
  | 2 => .inl (2, [fr 1, fr 15, fr 16])
  | 3 => .inl (3, [fo 17, fo 18, fo 19])
  | 4 => .inl (4, [fr 2, fr 20, fi, fi, fi])
  | 5 => .inl (5, [fr 2, fr 21, fr 22, fr 23, fr 24, fr 25, fi, fi, fi, fi, fi])
  | 6 => .inl (6, [fr 2, fr 26, fr 27, fr 28, fi])
  | 7 => .inl (7, [fr 2, fr 29, fr 30, fr 31, fi])
  | 8 => .inl (8, [fr 2, fr 32, fr 33, fr 34, fi])
  | 9 => .inl (9, [fr 2, fr 35, fr 36, fr 37, fr 38, fr 39, fi, fj, fj])
  | 10 => .inl (10, [fo 41, fz, fi, fi])
  | 11 => .inl (11, [fr 42, fr 43, fr 44, fr 45, fi, fr 46, fi, fi, fi, fr 47, fr 48, fi, fr 49, fr 50, fr 51, fr 52, fr 53, fr 54, fi, fi, fi, fr 55, fr 56, fr 57, fi, fi, fi, fr 58, fr 59, fi, fr 60, fr 61, fr 62, fj])
  | 12 => .inr (0, 60, 0)
  | 13 => .inr (0, 8, 0)
  | 14 => .inr (0, 8, 0)
  | 15 => .inr (3, 6, 3)
  | 16 => .inr (1, 8, 0)
  | 17 => .inr (0, 3, 0)
  | 18 => .inr (1, 8, 0)
  | 19 => .inr (0, 3, 0)
  | 20 => .inr (0, 6, 0)
  | 21 => .inr (0, 8, 0)
  | 22 => .inr (0, 8, 0)
  | 23 => .inr (0, 8, 0)
  | 24 => .inr (0, 8, 0)
  | 25 => .inr (0, 9, 0)
  | 26 => .inr (0, 16, 0)
  | 27 => .inr (0, 16, 0)
  | 28 => .inr (0, 16, 0)
  | 29 => .inr (0, 36, 0)
  | 30 => .inr (0, 64, 0)
  | 31 => .inr (0, 6, 0)
  | 32 => .inr (0, 8, 0)
  | 33 => .inr (0, 8, 0)
  | 34 => .inr (0, 8, 0)
  | 35 => .inr (2, 3169, 0)
  | 36 => .inr (0, 3, 0)
  | 37 => .inr (0, 3, 0)
  | 38 => .inr (0, 8, 0)
  | 39 => .inr (0, 8, 0)
  | 40 => .inr (4, 4, 10)
  | 41 => .inr (0, 60, 0)
  | 42 => .inr (0, 4, 0)
  | 43 => .inr (0, 4, 0)
  | 44 => .inr (0, 240, 0)
  | 45 => .inr (0, 60, 0)
  | 46 => .inr (0, 60, 0)
  | 47 => .inr (0, 8, 0)
  | 48 => .inr (0, 8, 0)
  | 49 => .inr (0, 18, 0)
  | 50 => .inr (0, 6, 0)
  | 51 => .inr (0, 6, 0)
  | 52 => .inr (0, 6, 0)
  | 53 => .inr (0, 6, 0)
  | 54 => .inr (0, 2, 0)
  | 55 => .inr (0, 6, 0)
  | 56 => .inr (0, 8, 0)
  | 57 => .inr (0, 8, 0)
  | 58 => .inr (0, 64, 0)
  | 59 => .inr (0, 64, 0)
  | 60 => .inr (0, 24, 0)
  | 61 => .inr (2, 3200, 0)
  | 62 => .inr (2, 3200, 0)
  | _ => .inr (0, 0, 0)
def cnt (k : Nat) : Nat := match k with
  | 3 => 6
  | 10 => 4
  | 17 => 6
  | 18 => 6
  | 19 => 6
  | 41 => 4
  | _ => 1
def kT0 : u_T := fun k => match k with
  | 0 => ("OneBook", "book", "LOneBook$Book;", true)
  | 1 => ("OneBook", "company", "LOneBook$Company;", true)
  | 2 => ("OneBook", "sitting", "LOneBook$Evening;", true)
  | 3 => ("OneBook", "plan", "LOneBook$Plan;", true)
  | 4 => ("OneBook", "seeming", "LOneBook$Seeming;", true)
  | 5 => ("OneBook", "seating", "LOneBook$Seating;", true)
  | 6 => ("OneBook", "turns", "LOneBook$Turns;", true)
  | 7 => ("OneBook", "moods", "LOneBook$Moods;", true)
  | 8 => ("OneBook", "sheets", "[LOneBook$Sheet;", true)
  | 9 => ("OneBook", "candle", "I", false)
  | 10 => ("OneBook", "day", "I", false)
  | _ => ("OneBook", "finding", "I", false)
def ky0 : Nat → FieldType := fun k => match k with
  | 0 => .object "OneBook$Book"
  | 1 => .object "OneBook$Company"
  | 2 => .object "OneBook$Evening"
  | 3 => .object "OneBook$Plan"
  | 4 => .object "OneBook$Seeming"
  | 5 => .object "OneBook$Seating"
  | 6 => .object "OneBook$Turns"
  | 7 => .object "OneBook$Moods"
  | 8 => .array (.object "OneBook$Sheet")
  | 9 => .int
  | 10 => .int
  | _ => .int
def kT1 : u_T := fun k => match k with
  | 0 => ("OneBook$Book", "bytes", "[I", true)
  | 1 => ("OneBook$Book", "kinds", "[I", true)
  | 2 => ("OneBook$Book", "lines", "[I", true)
  | 3 => ("OneBook$Book", "size", "I", false)
  | 4 => ("OneBook$Book", "chapters", "I", false)
  | _ => ("OneBook$Book", "fault", "I", false)
def ky1 : Nat → FieldType := fun k => match k with
  | 0 => .array .int
  | 1 => .array .int
  | 2 => .array .int
  | 3 => .int
  | 4 => .int
  | _ => .int
def kT2 : u_T := fun k => match k with
  | 0 => ("OneBook$Company", "book", "LOneBook$Book;", true)
  | 1 => ("OneBook$Company", "people", "[LOneBook$Reader;", true)
  | _ => ("OneBook$Company", "skipped", "[Z", true)
def ky2 : Nat → FieldType := fun k => match k with
  | 0 => .object "OneBook$Book"
  | 1 => .array (.object "OneBook$Reader")
  | _ => .array .boolean
def kT3 : u_T := fun k => match k with
  | 0 => ("OneBook$Reader", "speeds", "[I", true)
  | 1 => ("OneBook$Reader", "liked", "[Z", true)
  | _ => ("OneBook$Reader", "traits", "[I", true)
def ky3 : Nat → FieldType := fun k => match k with
  | 0 => .array .int
  | 1 => .array .boolean
  | _ => .array .int
def kT4 : u_T := fun k => match k with
  | 0 => ("OneBook$Evening", "company", "LOneBook$Company;", true)
  | 1 => ("OneBook$Evening", "waits", "[I", true)
  | 2 => ("OneBook$Evening", "chapters", "I", false)
  | 3 => ("OneBook$Evening", "minute", "I", false)
  | _ => ("OneBook$Evening", "next", "I", false)
def ky4 : Nat → FieldType := fun k => match k with
  | 0 => .object "OneBook$Company"
  | 1 => .array .int
  | 2 => .int
  | 3 => .int
  | _ => .int
def kT5 : u_T := fun k => match k with
  | 0 => ("OneBook$Plan", "company", "LOneBook$Company;", true)
  | 1 => ("OneBook$Plan", "timesA", "[I", true)
  | 2 => ("OneBook$Plan", "timesB", "[I", true)
  | 3 => ("OneBook$Plan", "row", "[I", true)
  | 4 => ("OneBook$Plan", "bestRow", "[I", true)
  | 5 => ("OneBook$Plan", "linesFrom", "[I", true)
  | 6 => ("OneBook$Plan", "candle", "I", false)
  | 7 => ("OneBook$Plan", "day", "I", false)
  | 8 => ("OneBook$Plan", "bestLines", "I", false)
  | 9 => ("OneBook$Plan", "bestWaits", "I", false)
  | _ => ("OneBook$Plan", "bestMinutes", "I", false)
def ky5 : Nat → FieldType := fun k => match k with
  | 0 => .object "OneBook$Company"
  | 1 => .array .int
  | 2 => .array .int
  | 3 => .array .int
  | 4 => .array .int
  | 5 => .array .int
  | 6 => .int
  | 7 => .int
  | 8 => .int
  | 9 => .int
  | _ => .int
def kT6 : u_T := fun k => match k with
  | 0 => ("OneBook$Seeming", "company", "LOneBook$Company;", true)
  | 1 => ("OneBook$Seeming", "gainsA", "[I", true)
  | 2 => ("OneBook$Seeming", "gainsB", "[I", true)
  | 3 => ("OneBook$Seeming", "restCases", "[I", true)
  | _ => ("OneBook$Seeming", "restCount", "I", false)
def ky6 : Nat → FieldType := fun k => match k with
  | 0 => .object "OneBook$Company"
  | 1 => .array .int
  | 2 => .array .int
  | 3 => .array .int
  | _ => .int
def kT7 : u_T := fun k => match k with
  | 0 => ("OneBook$Seating", "company", "LOneBook$Company;", true)
  | 1 => ("OneBook$Seating", "waits", "[I", true)
  | 2 => ("OneBook$Seating", "leastWaits", "[I", true)
  | 3 => ("OneBook$Seating", "partners", "[I", true)
  | _ => ("OneBook$Seating", "minutes", "I", false)
def ky7 : Nat → FieldType := fun k => match k with
  | 0 => .object "OneBook$Company"
  | 1 => .array .int
  | 2 => .array .int
  | 3 => .array .int
  | _ => .int
def kT8 : u_T := fun k => match k with
  | 0 => ("OneBook$Turns", "company", "LOneBook$Company;", true)
  | 1 => ("OneBook$Turns", "chapters", "[I", true)
  | 2 => ("OneBook$Turns", "sets", "[I", true)
  | 3 => ("OneBook$Turns", "minutes", "[I", true)
  | _ => ("OneBook$Turns", "size", "I", false)
def ky8 : Nat → FieldType := fun k => match k with
  | 0 => .object "OneBook$Company"
  | 1 => .array .int
  | 2 => .array .int
  | 3 => .array .int
  | _ => .int
def kT9 : u_T := fun k => match k with
  | 0 => ("OneBook$Moods", "company", "LOneBook$Company;", true)
  | 1 => ("OneBook$Moods", "ways", "[J", true)
  | 2 => ("OneBook$Moods", "times", "[I", true)
  | 3 => ("OneBook$Moods", "quarters", "[I", true)
  | 4 => ("OneBook$Moods", "lengths", "[I", true)
  | 5 => ("OneBook$Moods", "shares", "[I", true)
  | 6 => ("OneBook$Moods", "outcomes", "I", false)
  | 7 => ("OneBook$Moods", "above", "J", false)
  | _ => ("OneBook$Moods", "below", "J", false)
def ky9 : Nat → FieldType := fun k => match k with
  | 0 => .object "OneBook$Company"
  | 1 => .array .long
  | 2 => .array .int
  | 3 => .array .int
  | 4 => .array .int
  | 5 => .array .int
  | 6 => .int
  | 7 => .long
  | _ => .long
def kT10 : u_T := fun k => match k with
  | 0 => ("OneBook$Sheet", "items", "[I", true)
  | 1 => ("OneBook$Sheet", "lost", "Z", false)
  | 2 => ("OneBook$Sheet", "form", "I", false)
  | _ => ("OneBook$Sheet", "size", "I", false)
def ky10 : Nat → FieldType := fun k => match k with
  | 0 => .array .int
  | 1 => .boolean
  | 2 => .int
  | _ => .int
def kT11 : u_T := fun k => match k with
  | 0 => ("OneBookModel", "forms", "[I", true)
  | 1 => ("OneBookModel", "sizes", "[I", true)
  | 2 => ("OneBookModel", "items", "[I", true)
  | 3 => ("OneBookModel", "moved", "[I", true)
  | 4 => ("OneBookModel", "latest", "I", false)
  | 5 => ("OneBookModel", "text", "[I", true)
  | 6 => ("OneBookModel", "typed", "I", false)
  | 7 => ("OneBookModel", "at", "I", false)
  | 8 => ("OneBookModel", "chapters", "I", false)
  | 9 => ("OneBookModel", "kinds", "[I", true)
  | 10 => ("OneBookModel", "lines", "[I", true)
  | 11 => ("OneBookModel", "skipped", "I", false)
  | 12 => ("OneBookModel", "paceOf", "[I", true)
  | 13 => ("OneBookModel", "likes", "[I", true)
  | 14 => ("OneBookModel", "works", "[I", true)
  | 15 => ("OneBookModel", "joys", "[I", true)
  | 16 => ("OneBookModel", "moods", "[I", true)
  | 17 => ("OneBookModel", "settings", "[I", true)
  | 18 => ("OneBookModel", "readMany", "I", false)
  | 19 => ("OneBookModel", "minutes", "I", false)
  | 20 => ("OneBookModel", "nextOne", "I", false)
  | 21 => ("OneBookModel", "waits", "[I", true)
  | 22 => ("OneBookModel", "ways", "[I", true)
  | 23 => ("OneBookModel", "bestWays", "[I", true)
  | 24 => ("OneBookModel", "bestLines", "I", false)
  | 25 => ("OneBookModel", "bestWaits", "I", false)
  | 26 => ("OneBookModel", "bestMinutes", "I", false)
  | 27 => ("OneBookModel", "pairLeast", "[I", true)
  | 28 => ("OneBookModel", "pairWith", "[I", true)
  | 29 => ("OneBookModel", "turns", "I", false)
  | 30 => ("OneBookModel", "told", "[I", true)
  | 31 => ("OneBookModel", "byMinute", "[J", true)
  | 32 => ("OneBookModel", "nextByMinute", "[J", true)
  | _ => ("OneBookModel", "whole", "J", false)
def ky11 : Nat → FieldType := fun k => match k with
  | 0 => .array .int
  | 1 => .array .int
  | 2 => .array .int
  | 3 => .array .int
  | 4 => .int
  | 5 => .array .int
  | 6 => .int
  | 7 => .int
  | 8 => .int
  | 9 => .array .int
  | 10 => .array .int
  | 11 => .int
  | 12 => .array .int
  | 13 => .array .int
  | 14 => .array .int
  | 15 => .array .int
  | 16 => .array .int
  | 17 => .array .int
  | 18 => .int
  | 19 => .int
  | 20 => .int
  | 21 => .array .int
  | 22 => .array .int
  | 23 => .array .int
  | 24 => .int
  | 25 => .int
  | 26 => .int
  | 27 => .array .int
  | 28 => .array .int
  | 29 => .int
  | 30 => .array .int
  | 31 => .array .long
  | 32 => .array .long
  | _ => .long
abbrev cls : List vw_C := [("OneBook", kT0, 12), ("OneBook$Book", kT1, 6), ("OneBook$Company", kT2, 3), ("OneBook$Reader", kT3, 3), ("OneBook$Evening", kT4, 5), ("OneBook$Plan", kT5, 11), ("OneBook$Seeming", kT6, 5), ("OneBook$Seating", kT7, 5), ("OneBook$Turns", kT8, 5), ("OneBook$Moods", kT9, 9), ("OneBook$Sheet", kT10, 4), ("OneBookModel", kT11, 34)]
def fv (ad : AD) (σ : ST) (k i f : Nat) (t : FL) : Value := match t.1 with
  | 0 => .int (σ.1 k i f)
  | 1 => .long (σ.2 k i f)
  | 2 => .ref (ad t.2.1 (if t.2.2 = 0 then 0 else i))
  | _ => .int (σ.1 k i f)
def arc (ad : AD) (σ : ST) (k i t k' : Nat) : (Nat → Int32) ⊕ (Nat → Int64) ⊕ (Nat → UInt32) ⊕ (Nat → UInt64) ⊕ (Nat → Option Nat) := match t with
  | 0 => .inl (σ.1 k i)
  | 1 => .inl (σ.1 k i)
  | 2 => .inr (.inl (σ.2 k i))
  | _ => .inr (.inr (.inr (.inr (fun j => some (ad k' j)))))
def cel (ad : AD) (aC : Nat → ClassId) (σ : ST) (k i : Nat) : va_E := match kd k with
  | .inl (c, fs) => .inr (c, fs.mapIdx (fun f t => fv ad σ k i f t))
  | .inr (t, n, k') => .inl (aC t, n, arc ad σ k i t k')
def cellList : List (Nat × Nat) := (List.range 63).flatMap (fun k => (List.range (cnt k)).map (fun i => (k, i)))
def wld (ad : AD) (aC : Nat → ClassId) (σ : ST) : va_W := cellList.map (fun q => (ad q.1 q.2, cel ad aC σ q.1 q.2))
def tys (aC : Nat → ClassId) : List (ClassId × FieldType) := [(aC 0, .int), (aC 1, .boolean), (aC 2, .long), (aC 3, .object "OneBook$Reader"), (aC 4, .object "OneBook$Sheet")]
theorem mem_cells {k i : Nat} (hk : k < 63) (hi : i < cnt k) : (k, i) ∈ cellList :=
  List.mem_flatMap.mpr ⟨k, List.mem_range.mpr hk, List.mem_map.mpr ⟨i, List.mem_range.mpr hi, rfl⟩⟩
theorem cells_nodup : cellList.Nodup := by decide +kernel
theorem wld_pos {k i : Nat} (hk : k < 63) (hi : i < cnt k) : ∃ q0 : Nat, cellList[q0]? = some (k, i) := List.getElem?_of_mem (mem_cells hk hi)
theorem wld_get {ad : AD} {aC : Nat → ClassId} {σ : ST} {q0 k i : Nat} (h : cellList[q0]? = some (k, i)) : (wld ad aC σ)[q0]? = some (ad k i, cel ad aC σ k i) := by
  unfold wld
  rw [List.getElem?_map, h]
  rfl
theorem cel_other {ad : AD} {aC : Nat → ClassId} {σ σ' : ST} {a b : Nat} (h1 : σ'.1 a b = σ.1 a b) (h2 : σ'.2 a b = σ.2 a b) : cel ad aC σ' a b = cel ad aC σ a b := by
  unfold cel
  split
  · have e : (fun f t => fv ad σ' a b f t) = (fun f t => fv ad σ a b f t) := by
      funext f t
      unfold fv
      rw [h1, h2]
    rw [e]
  · congr 3
    unfold arc
    rw [h1, h2]
theorem nodup_pos {α : Type} : ∀ {l : List α} {i j : Nat} {a : α}, l.Nodup → l[i]? = some a → l[j]? = some a → i = j
  | [], i, j, a, _, h, _ => by simp at h
  | b :: l, i, j, a, hn, h1, h2 => by
    obtain ⟨n1, n2⟩ := List.nodup_cons.mp hn
    cases i with
    | zero =>
      cases j with
      | zero => rfl
      | succ j =>
        rw [List.getElem?_cons_zero] at h1
        rw [List.getElem?_cons_succ] at h2
        cases h1
        exact absurd (List.mem_of_getElem? h2) n1
    | succ i =>
      rw [List.getElem?_cons_succ] at h1
      cases j with
      | zero =>
        rw [List.getElem?_cons_zero] at h2
        cases h2
        exact absurd (List.mem_of_getElem? h1) n1
      | succ j =>
        rw [List.getElem?_cons_succ] at h2
        rw [nodup_pos n2 h1 h2]
theorem wld_set {ad : AD} {aC : Nat → ClassId} {σ σ' : ST} {q0 k i : Nat} {E : va_E} (h : cellList[q0]? = some (k, i)) (hσ : ∀ a b : Nat, ¬ (a = k ∧ b = i) → σ'.1 a b = σ.1 a b ∧ σ'.2 a b = σ.2 a b) (e : cel ad aC σ' k i = E) : (wld ad aC σ).set q0 (ad k i, E) = wld ad aC σ' := by
  have hl : q0 < cellList.length := (List.getElem?_eq_some_iff.mp h).1
  apply List.ext_getElem?
  intro j
  by_cases hj : j = q0
  · subst hj
    rw [List.getElem?_set_self (by simpa [wld] using hl), wld_get h, e]
  · rw [List.getElem?_set_ne (Ne.symm hj)]
    unfold wld
    rw [List.getElem?_map, List.getElem?_map]
    cases hc : cellList[j]? with
    | none => rfl
    | some q =>
      have hq : ¬ (q.1 = k ∧ q.2 = i) := by
        rintro ⟨e1, e2⟩
        have hq' : q = (k, i) := Prod.ext e1 e2
        rw [hq'] at hc
        exact hj (nodup_pos cells_nodup hc h)
      obtain ⟨z1, z2⟩ := hσ q.1 q.2 hq
      show some (ad q.1 q.2, cel ad aC σ q.1 q.2) = some (ad q.1 q.2, cel ad aC σ' q.1 q.2)
      rw [cel_other z1 z2]
end
section
-- the judgement Ev: a frame of a method over the cells of the two objects; and what it gives
abbrev MD : Type := MethodName × ByteArray × Nat × Option FieldType
def lw_gd : List Cond := lw_tbl.filter goodWord
def nests : List Cond := [.methodLinkNest "OneBook$Company" 51 ⟨"OneBook", "holds", "(II)Z"⟩ "OneBook", .methodLinkNest "OneBook$Evening" 46 ⟨"OneBook", "holds", "(II)Z"⟩ "OneBook", .methodLinkNest "OneBook$Seating" 46 ⟨"OneBook", "holds", "(II)Z"⟩ "OneBook", .methodLinkNest "OneBook$Turns" 62 ⟨"OneBook", "holds", "(II)Z"⟩ "OneBook", .methodLinkNest "OneBook$Moods" 81 ⟨"OneBook", "holds", "(II)Z"⟩ "OneBook"]
def Wo (D : va_G) (ad : AD) (aC : Nat → ClassId) (σ : ST) (A : Nat → Prop) (H0 H : Heap) (locs : List Loc) : Prop :=
  va_P D cls (wld ad aC σ) H ∧ va_D A (wld ad aC σ) ∧ va_S A H0 H locs
def Lc (ad : AD) (ls : Array Slot) (n : Nat) (L : List (Option AV)) : Prop := ls.size = n ∧ lv_wf ls ∧ ∀ (i : Nat) (v : AV), L[i]? = some (some v) → ls[i]? = some (.val (cv ad v))
/-- which answer a method of a return type may give, and by which instruction -/
def rok (ret : Option FieldType) (r : Option AV) (op : Instr) : Prop := match ret, r with
  | none, none => op = .return_
  | some .int, some (.inl _) => op = .ireturn
  | some .boolean, some (.inl x) => op = .ireturn ∧ (x = 0 ∨ x = 1)
  | some .long, some (.inr (.inl _)) => op = .lreturn
  | some (.object _), some (.inr (.inr _)) => op = .areturn
  | _, _ => False
abbrev SX : Type := Option (Nat × (Nat → Int32))
/-- the script: kind 63 -/
def Xok (X : SX) (ad : AD) (A : Nat → Prop) (s : State) : Prop := match X with
  | none => True
  | some q => va_X (ad 63 0) q.1 q.2 s s.heap ∧ ad 63 0 < s.heap.size ∧ ¬ A (ad 63 0)
def Cx (X : SX) (d : Nat) (M : MD) (post : Option AV → ST → Prop) (D : va_G) (ad : AD) (aC : Nat → ClassId) (p : Program) (l : Launch) (e : Env) (R : Room) (s : State) (m : MethodId) (args : Array Value) (below : List Frame) (meth : Method) (c : Code) (cells slots : Nat) (A : Nat → Prop) (Q : State → Prop) : Prop :=
  p.tables.exec = Jvm.exec ∧ c.code = M.2.1 ∧ c.maxLocals = M.2.2.1 ∧ s.vm.findClass M.1.cls = some m.cls ∧ (∀ w ∈ lw_gd, w.before args s = true) ∧ (∀ w ∈ nests, va_Nw w s) ∧ va_K D cls (tys aC) s ∧ (d ≤ R.frames ∧ 64 * d ≤ R.locals ∧ cells ≤ R.cells ∧ slots ≤ R.slots) ∧ (∀ q, s.heap.size ≤ q → A q) ∧ Xok X ad A s ∧
  ∀ (r : Option AV) (σ : ST) (H : Heap) (locs : List Loc) (ls : Array Slot) (pc : Nat) (op : Instr), post r σ → rok M.2.2.2 r op → Wo D ad aC σ A s.heap H locs → decode M.2.1 pc = .ok (op, 1) → W p l e R s m args below meth c H locs cells slots Q (F0 m pc ls (r.toList.map (cv ad)))
def Ev (X : SX) (d : Nat) (M : MD) (pc : Nat) (L : List (Option AV)) (st : List AV) (σ : ST) (post : Option AV → ST → Prop) : Prop :=
  ∀ (D : va_G) (ad : AD) (aC : Nat → ClassId) (p : Program) (l : Launch) (e : Env) (R : Room) (s : State) (m : MethodId) (args : Array Value) (below : List Frame) (meth : Method) (c : Code) (cells slots : Nat) (A : Nat → Prop) (Q : State → Prop), Cx X d M post D ad aC p l e R s m args below meth c cells slots A Q →
    ∀ (H : Heap) (locs : List Loc) (ls : Array Slot), Wo D ad aC σ A s.heap H locs → Lc ad ls M.2.2.1 L → W p l e R s m args below meth c H locs cells slots Q (F0 m pc ls (st.map (cv ad)))
/-- Ev with its context named: what a rule is proved from -/
theorem Ev.at {X : SX} {d : Nat} {M : MD} {pc : Nat} {L : List (Option AV)} {st : List AV} {σ : ST} {post : Option AV → ST → Prop} (h : Ev X d M pc L st σ post) {D : va_G} {ad : AD} {aC : Nat → ClassId} {p : Program} {l : Launch} {e : Env} {R : Room} {s : State} {m : MethodId} {args : Array Value} {below : List Frame} {meth : Method} {c : Code} {cells slots : Nat} {A : Nat → Prop} {Q : State → Prop} (C : Cx X d M post D ad aC p l e R s m args below meth c cells slots A Q)
    {H : Heap} {locs : List Loc} {ls : Array Slot} (w : Wo D ad aC σ A s.heap H locs) (hl : Lc ad ls M.2.2.1 L) : W p l e R s m args below meth c H locs cells slots Q (F0 m pc ls (st.map (cv ad))) := h D ad aC p l e R s m args below meth c cells slots A Q C H locs ls w hl
theorem Ev.mono {X : SX} {d : Nat} {M : MD} {pc : Nat} {L : List (Option AV)} {st : List AV} {σ : ST} {post post' : Option AV → ST → Prop} (h : Ev X d M pc L st σ post) (hp : ∀ r σ', post r σ' → post' r σ') : Ev X d M pc L st σ post' := by
  intro D ad aC p l e R s m args below meth c cells slots A Q C H locs ls w hl
  obtain ⟨c1, c2, c3, c4, c5, c6, c7, c8, c9, c10, c11⟩ := C
  exact h.at ⟨c1, c2, c3, c4, c5, c6, c7, c8, c9, c10, fun r σ' H locs ls pc op h1 => c11 r σ' H locs ls pc op (hp r σ' h1)⟩ w hl
theorem Ev.up {X : SX} {d d' : Nat} {M : MD} {pc : Nat} {L : List (Option AV)} {st : List AV} {σ : ST} {post : Option AV → ST → Prop} (h : Ev X d M pc L st σ post) (hd : d ≤ d') : Ev X d' M pc L st σ post := by
  intro D ad aC p l e R s m args below meth c cells slots A Q C H locs ls w hl
  obtain ⟨c1, c2, c3, c4, c5, c6, c7, ⟨r1, r2, r3, r4⟩, c9, c10, c11⟩ := C
  exact h.at ⟨c1, c2, c3, c4, c5, c6, c7, ⟨by omega, by omega, r3, r4⟩, c9, c10, c11⟩ w hl
-- locals
def prs (ad : AD) (L : List (Option AV)) : List (Nat × Value) := (List.range L.length).filterMap (fun i => match L[i]? with | some (some v) => some (i, cv ad v) | _ => none)
theorem mem_prs {ad : AD} {L : List (Option AV)} {i : Nat} {w : Value} : (i, w) ∈ prs ad L ↔ ∃ v, L[i]? = some (some v) ∧ w = cv ad v := by
  unfold prs
  rw [List.mem_filterMap]
  constructor
  · rintro ⟨j, -, h⟩
    split at h
    next v hv =>
      cases h
      exact ⟨v, hv, rfl⟩
    next => cases h
  · rintro ⟨v, hv, rfl⟩
    refine ⟨i, List.mem_range.mpr (List.getElem?_eq_some_iff.mp hv).1, ?_⟩
    rw [hv]
theorem Lc.has {ad : AD} {ls : Array Slot} {n : Nat} {L : List (Option AV)} (h : Lc ad ls n L) : lv_has ls n (prs ad L) := by
  refine ⟨h.1, h.2.1, ?_⟩
  rintro ⟨i, w⟩ hq
  obtain ⟨v, hv, rfl⟩ := mem_prs.mp hq
  exact h.2.2 i v hv
def isJ : Option (Option AV) → Bool
  | some (some (.inr (.inl _))) => true
  | _ => false
/-- what a store leaves of the slot ahead of it -/
def kil (L : List (Option AV)) (i : Nat) : List (Option AV) := match i with
  | 0 => L
  | j + 1 => match isJ L[j]? with
    | true => L.set j none
    | false => L
def sto1 (L : List (Option AV)) (i : Nat) (v : AV) : List (Option AV) := (kil L i).set i (some v)
def sto2 (L : List (Option AV)) (i : Nat) (v : AV) : List (Option AV) := ((kil L i).set i (some v)).set (i + 1) none
theorem cv_cat2 {ad : AD} {v : AV} : (cv ad v).category = 2 ↔ isJ (some (some v)) = true := by
  rcases v with x | x | ⟨k, i⟩ <;> simp [cv, isJ, Value.category]
theorem kil_at {L : List (Option AV)} {i j : Nat} {v : AV} (h : (kil L i)[j]? = some (some v)) : L[j]? = some (some v) ∧ ¬ (j + 1 = i ∧ isJ (some (some v)) = true) := by
  unfold kil at h
  cases i with
  | zero => exact ⟨h, fun q => by omega⟩
  | succ i =>
    dsimp only at h
    split at h
    next hq =>
      by_cases hj : j = i
      · subst hj
        have hlt : j < L.length := by
          have := (List.getElem?_eq_some_iff.mp h).1
          simpa using this
        rw [List.getElem?_set_self hlt] at h
        cases h
      · rw [List.getElem?_set_ne (Ne.symm hj)] at h
        exact ⟨h, fun q => hj (by omega)⟩
    next hq =>
      refine ⟨h, fun q => ?_⟩
      have e : j = i := by omega
      subst e
      rw [h, q.2] at hq
      cases hq
theorem set_at {L : List (Option AV)} {i j : Nat} {v w : AV} (h : (L.set i (some v))[j]? = some (some w)) : (j = i ∧ w = v) ∨ (j ≠ i ∧ L[j]? = some (some w)) := by
  by_cases hj : j = i
  · subst hj
    have hlt : j < L.length := by
      have := (List.getElem?_eq_some_iff.mp h).1
      simpa using this
    rw [List.getElem?_set_self hlt] at h
    cases h
    exact Or.inl ⟨rfl, rfl⟩
  · rw [List.getElem?_set_ne (Ne.symm hj)] at h
    exact Or.inr ⟨hj, h⟩
theorem setn_at {L : List (Option AV)} {i j : Nat} {w : AV} (h : (L.set i none)[j]? = some (some w)) : j ≠ i ∧ L[j]? = some (some w) := by
  by_cases hj : j = i
  · subst hj
    have hlt : j < L.length := by
      have := (List.getElem?_eq_some_iff.mp h).1
      simpa using this
    rw [List.getElem?_set_self hlt] at h
    cases h
  · rw [List.getElem?_set_ne (Ne.symm hj)] at h
    exact ⟨hj, h⟩
theorem Lc.of1 {ad : AD} {ls : Array Slot} {n i : Nat} {L : List (Option AV)} {v : AV} (h : lv_has ls n ((i, cv ad v) :: (prs ad L).filter (fun q => !(q.1 == i) && !(q.1 + 1 == i && q.2.category == 2)))) : Lc ad ls n (sto1 L i v) := by
  refine ⟨h.1, h.2.1, fun j w hw => ?_⟩
  rcases set_at hw with ⟨rfl, rfl⟩ | ⟨hj, hk⟩
  · exact h.2.2 _ List.mem_cons_self
  · obtain ⟨h1, h2⟩ := kil_at hk
    refine h.2.2 (j, cv ad w) (List.mem_cons_of_mem _ (List.mem_filter.mpr ⟨mem_prs.mpr ⟨w, h1, rfl⟩, ?_⟩))
    have n1 : (j == i) = false := beq_eq_false_iff_ne.mpr hj
    have n2 : (j + 1 == i && (cv ad w).category == 2) = false := by
      rw [Bool.and_eq_false_iff]
      by_cases a : j + 1 = i
      · right
        rw [beq_eq_false_iff_ne]
        exact fun q => h2 ⟨a, cv_cat2.mp q⟩
      · left
        exact beq_eq_false_iff_ne.mpr a
    simp only [n1, n2]
    rfl
theorem Lc.of2 {ad : AD} {ls : Array Slot} {n i : Nat} {L : List (Option AV)} {v : AV} (h : lv_has ls n ((i, cv ad v) :: (prs ad L).filter (fun q => !(q.1 == i) && (!(q.1 == i + 1) && !(q.1 + 1 == i && q.2.category == 2))))) : Lc ad ls n (sto2 L i v) := by
  refine ⟨h.1, h.2.1, fun j w hw => ?_⟩
  obtain ⟨g1, hw⟩ := setn_at hw
  rcases set_at hw with ⟨rfl, rfl⟩ | ⟨hj, hk⟩
  · exact h.2.2 _ List.mem_cons_self
  · obtain ⟨h1, h2⟩ := kil_at hk
    refine h.2.2 (j, cv ad w) (List.mem_cons_of_mem _ (List.mem_filter.mpr ⟨mem_prs.mpr ⟨w, h1, rfl⟩, ?_⟩))
    have n1 : (j == i) = false := beq_eq_false_iff_ne.mpr hj
    have n3 : (j == i + 1) = false := beq_eq_false_iff_ne.mpr g1
    have n2 : (j + 1 == i && (cv ad w).category == 2) = false := by
      rw [Bool.and_eq_false_iff]
      by_cases a : j + 1 = i
      · right
        rw [beq_eq_false_iff_ne]
        exact fun q => h2 ⟨a, cv_cat2.mp q⟩
      · left
        exact beq_eq_false_iff_ne.mpr a
    simp only [n1, n2, n3]
    rfl
def entL : List AV → List (Option AV)
  | [] => []
  | v :: vs => match isJ (some (some v)) with
    | true => some v :: none :: entL vs
    | false => some v :: entL vs
def entP (n : Nat) (as : List AV) : List (Option AV) := entL as ++ List.replicate (n - (entL as).length) none
theorem entL_cons (v : AV) (vs : List AV) : entL (v :: vs) = if isJ (some (some v)) = true then some v :: none :: entL vs else some v :: entL vs := by
  show (match isJ (some (some v)) with | true => some v :: none :: entL vs | false => some v :: entL vs) = _
  cases isJ (some (some v)) <;> rfl
theorem entL_len {ad : AD} : ∀ as : List AV, (lg_sl (as.map (cv ad))).length = (entL as).length
  | [] => rfl
  | v :: vs => by
    have ih := entL_len (ad := ad) vs
    have e : lg_sl ((v :: vs).map (cv ad)) = (if (cv ad v).category = 2 then [.val (cv ad v), .second] else [.val (cv ad v)]) ++ lg_sl (vs.map (cv ad)) := rfl
    rw [e, List.length_append, ih, entL_cons]
    by_cases h : isJ (some (some v)) = true
    · rw [if_pos h, if_pos (cv_cat2.mpr h)]
      simp
      omega
    · rw [if_neg h, if_neg (fun q => h (cv_cat2.mp q))]
      simp
      omega
theorem entL_at {ad : AD} : ∀ (as : List AV) (o j : Nat) (v : AV), (entL as)[j]? = some (some v) → (o + j, cv ad v) ∈ lv_args o (as.map (cv ad))
  | [], o, j, v, h => by simp [entL] at h
  | a :: as, o, j, v, h => by
    show _ ∈ (o, cv ad a) :: lv_args (if (cv ad a).category = 2 then o + 2 else o + 1) (as.map (cv ad))
    rw [entL_cons] at h
    by_cases hq : isJ (some (some a)) = true
    · rw [if_pos hq] at h
      rw [if_pos (cv_cat2.mpr hq)]
      match j, h with
      | 0, h =>
        cases h
        exact List.mem_cons_self
      | 1, h => cases h
      | j + 2, h =>
        have h' : (entL as)[j]? = some (some v) := h
        have := entL_at (ad := ad) as (o + 2) j v h'
        rw [show o + (j + 2) = o + 2 + j by omega]
        exact List.mem_cons_of_mem _ this
    · rw [if_neg hq] at h
      rw [if_neg (fun q => hq (cv_cat2.mp q))]
      match j, h with
      | 0, h =>
        cases h
        exact List.mem_cons_self
      | j + 1, h =>
        have h' : (entL as)[j]? = some (some v) := h
        have := entL_at (ad := ad) as (o + 1) j v h'
        rw [show o + (j + 1) = o + 1 + j by omega]
        exact List.mem_cons_of_mem _ this
theorem Lc.entry (ad : AD) (as : List AV) {n : Nat} (h : (entL as).length ≤ n) : Lc ad ((lg_sl (as.map (cv ad)) ++ List.replicate (n - (lg_sl (as.map (cv ad))).length) Slot.unset).toArray) n (entP n as) := by
  have hl := lv_entry (as.map (cv ad)) (n := n) (by rw [entL_len]; exact h)
  refine ⟨hl.1, hl.2.1, fun i v hv => ?_⟩
  have hv' : (entL as)[i]? = some (some v) := by
    unfold entP at hv
    by_cases hi : i < (entL as).length
    · rwa [List.getElem?_append_left hi] at hv
    · rw [List.getElem?_append_right (by omega)] at hv
      have := List.mem_of_getElem? hv
      rw [List.mem_replicate] at this
      exact absurd this.2 (by intro q; cases q)
  have := entL_at (ad := ad) as 0 i v hv'
  rw [Nat.zero_add] at this
  exact hl.2.2 _ this
end
section
-- the rules of Ev, an instruction each (by program: wip/gen/gen_rules.py)
def bi (p : Prop) [Decidable p] : Int32 := if p then 1 else 0
theorem bi_01 (p : Prop) [Decidable p] : bi p = 0 ∨ bi p = 1 := by
  unfold bi
  split
  · exact Or.inr rfl
  · exact Or.inl rfl
theorem bi_0 {p : Prop} [Decidable p] : bi p = 0 ↔ ¬ p := by
  unfold bi
  split
  next h => exact ⟨fun q => absurd q (by decide), fun q => absurd h q⟩
  next h => exact ⟨fun _ => h, fun _ => rfl⟩
theorem bi_t {p : Prop} [Decidable p] (h : p) : bi p = 1 := if_pos h
theorem bi_f {p : Prop} [Decidable p] (h : ¬ p) : bi p = 0 := if_neg h
def imax (x y : Int32) : Int32 := if x < y then y else x
def imin (x y : Int32) : Int32 := if y < x then y else x
def iabs (x : Int32) : Int32 := if 0 ≤ x then x else 0 - x
def irm (x y : Int32) : Int32 := x - x / y * y
def lrm (x y : Int64) : Int64 := x - x / y * y
def isl (x y : Int32) : Int32 := x <<< (y &&& 31)
def isr (x y : Int32) : Int32 := x >>> (y &&& 31)
def ius (x y : Int32) : Int32 := (x.toUInt32 >>> (y.toUInt32 &&& Int32.toUInt32 31)).toInt32
def lsl (x : Int64) (y : Int32) : Int64 := x <<< (y.toInt64 &&& 63)
section EVR
variable {X : SX} {d : Nat} {M : MD} {pc : Nat} {L L' : List (Option AV)} {st : List AV} {σ : ST} {post : Option AV → ST → Prop}
theorem ev_iconst {n : Int} {v : Int32} (hd : decode M.2.1 pc = .ok (.iconst n, 1)) (hv : Int32.ofInt n = v) (k : Ev X d M (pc + 1) L (vI v :: st) σ post) : Ev X d M pc L (st) σ post := by
  intro D ad aC p l e R s m args below meth c cells slots A Q C H locs ls w hl
  exact lv_iconst C.1 C.2.1 hd hv (k.at C w hl)
theorem ev_bipush {n : Int} {v : Int32} (hd : decode M.2.1 pc = .ok (.bipush n, 2)) (hv : (Int8.ofInt n).toInt32 = v) (k : Ev X d M (pc + 2) L (vI v :: st) σ post) : Ev X d M pc L (st) σ post := by
  intro D ad aC p l e R s m args below meth c cells slots A Q C H locs ls w hl
  exact lv_bipush C.1 C.2.1 hd hv (k.at C w hl)
theorem ev_sipush {n : Int} {v : Int32} (hd : decode M.2.1 pc = .ok (.sipush n, 3)) (hv : (Int16.ofInt n).toInt32 = v) (k : Ev X d M (pc + 3) L (vI v :: st) σ post) : Ev X d M pc L (st) σ post := by
  intro D ad aC p l e R s m args below meth c cells slots A Q C H locs ls w hl
  exact lv_sipush C.1 C.2.1 hd hv (k.at C w hl)
theorem ev_lconst {n : Fin 2} {v : Int64} (hd : decode M.2.1 pc = .ok (.lconst n, 1)) (hv : Int64.ofNat (n : Nat) = v) (k : Ev X d M (pc + 1) L (vJ v :: st) σ post) : Ev X d M pc L (st) σ post := by
  intro D ad aC p l e R s m args below meth c cells slots A Q C H locs ls w hl
  exact lv_lconst C.1 C.2.1 hd hv (k.at C w hl)
theorem ev_ldc {idx : Nat} {v : Int32} (hd : decode M.2.1 pc = .ok (.ldc idx, 2)) (hc : Cond.constant M.1.cls idx v ∈ lw_gd) (k : Ev X d M (pc + 2) L (vI v :: st) σ post) : Ev X d M pc L st σ post := by
  intro D ad aC p l e R s m args below meth c cells slots A Q C H locs ls w hl
  exact lv_ldc C.1 C.2.1 C.2.2.2.1 (C.2.2.2.2.1 _ hc) hd (k.at C w hl)
theorem ev_ldcw {idx : Nat} {v : Int32} (hd : decode M.2.1 pc = .ok (.ldc_w idx, 3)) (hc : Cond.constant M.1.cls idx v ∈ lw_gd) (k : Ev X d M (pc + 3) L (vI v :: st) σ post) : Ev X d M pc L st σ post := by
  intro D ad aC p l e R s m args below meth c cells slots A Q C H locs ls w hl
  exact lv_ldcw C.1 C.2.1 C.2.2.2.1 (C.2.2.2.2.1 _ hc) hd (k.at C w hl)
theorem ev_ldc2 {idx : Nat} {v : Int64} (hd : decode M.2.1 pc = .ok (.ldc2_w idx, 3)) (hc : Cond.constantLong M.1.cls idx v ∈ lw_gd) (k : Ev X d M (pc + 3) L (vJ v :: st) σ post) : Ev X d M pc L st σ post := by
  intro D ad aC p l e R s m args below meth c cells slots A Q C H locs ls w hl
  exact lv_ldc2 C.1 C.2.1 C.2.2.2.1 (C.2.2.2.2.1 _ hc) hd (k.at C w hl)
theorem ev_iload_n {j : Fin 4} {i : Nat} {x : Int32} (hd : decode M.2.1 pc = .ok (.iload_n j, 1)) (hi : (j : Nat) = i) (hx : L[i]? = some (some (vI x))) (k : Ev X d M (pc + 1) L (vI x :: st) σ post) : Ev X d M pc L st σ post := by
  intro D ad aC p l e R s m args below meth c cells slots A Q C H locs ls w hl
  exact lv_iload_n C.1 C.2.1 hd hi (hl.2.2 _ _ hx) (k.at C w hl)
theorem ev_iload {i : Nat} {x : Int32} (hd : decode M.2.1 pc = .ok (.iload i, 2)) (hx : L[i]? = some (some (vI x))) (k : Ev X d M (pc + 2) L (vI x :: st) σ post) : Ev X d M pc L st σ post := by
  intro D ad aC p l e R s m args below meth c cells slots A Q C H locs ls w hl
  exact lv_iload C.1 C.2.1 hd (hl.2.2 _ _ hx) (k.at C w hl)
theorem ev_lload_n {j : Fin 4} {i : Nat} {x : Int64} (hd : decode M.2.1 pc = .ok (.lload_n j, 1)) (hi : (j : Nat) = i) (hx : L[i]? = some (some (vJ x))) (k : Ev X d M (pc + 1) L (vJ x :: st) σ post) : Ev X d M pc L st σ post := by
  intro D ad aC p l e R s m args below meth c cells slots A Q C H locs ls w hl
  exact lv_lload_n C.1 C.2.1 hd hi (hl.2.2 _ _ hx) (k.at C w hl)
theorem ev_lload {i : Nat} {x : Int64} (hd : decode M.2.1 pc = .ok (.lload i, 2)) (hx : L[i]? = some (some (vJ x))) (k : Ev X d M (pc + 2) L (vJ x :: st) σ post) : Ev X d M pc L st σ post := by
  intro D ad aC p l e R s m args below meth c cells slots A Q C H locs ls w hl
  exact lv_lload C.1 C.2.1 hd (hl.2.2 _ _ hx) (k.at C w hl)
theorem ev_aload_n {j : Fin 4} {i a b : Nat} (hd : decode M.2.1 pc = .ok (.aload_n j, 1)) (hi : (j : Nat) = i) (hx : L[i]? = some (some (vR a b))) (k : Ev X d M (pc + 1) L (vR a b :: st) σ post) : Ev X d M pc L st σ post := by
  intro D ad aC p l e R s m args below meth c cells slots A Q C H locs ls w hl
  exact lv_aload_n C.1 C.2.1 hd hi (hl.2.2 _ _ hx) (k.at C w hl)
theorem ev_aload {i a b : Nat} (hd : decode M.2.1 pc = .ok (.aload i, 2)) (hx : L[i]? = some (some (vR a b))) (k : Ev X d M (pc + 2) L (vR a b :: st) σ post) : Ev X d M pc L st σ post := by
  intro D ad aC p l e R s m args below meth c cells slots A Q C H locs ls w hl
  exact lv_aload C.1 C.2.1 hd (hl.2.2 _ _ hx) (k.at C w hl)
theorem ev_istore_n {j : Fin 4} {i : Nat} {x : Int32} (hd : decode M.2.1 pc = .ok (.istore_n j, 1)) (hi : (j : Nat) = i) (hn : i < M.2.2.1) (hL : sto1 L i (vI x) = L') (k : Ev X d M (pc + 1) L' st σ post) : Ev X d M pc L (vI x :: st) σ post := by
  intro D ad aC p l e R s m args below meth c cells slots A Q C H locs ls w hl
  exact lv_istore_n C.1 C.2.1 hd hi hl.has hn rfl (fun ls' h' => k.at C w (hL ▸ Lc.of1 (v := vI x) h'))
theorem ev_istore {i : Nat} {x : Int32} (hd : decode M.2.1 pc = .ok (.istore i, 2)) (hn : i < M.2.2.1) (hL : sto1 L i (vI x) = L') (k : Ev X d M (pc + 2) L' st σ post) : Ev X d M pc L (vI x :: st) σ post := by
  intro D ad aC p l e R s m args below meth c cells slots A Q C H locs ls w hl
  exact lv_istore C.1 C.2.1 hd hl.has hn rfl (fun ls' h' => k.at C w (hL ▸ Lc.of1 (v := vI x) h'))
theorem ev_lstore_n {j : Fin 4} {i : Nat} {x : Int64} (hd : decode M.2.1 pc = .ok (.lstore_n j, 1)) (hi : (j : Nat) = i) (hn : i + 1 < M.2.2.1) (hL : sto2 L i (vJ x) = L') (k : Ev X d M (pc + 1) L' st σ post) : Ev X d M pc L (vJ x :: st) σ post := by
  intro D ad aC p l e R s m args below meth c cells slots A Q C H locs ls w hl
  exact lv_lstore_n C.1 C.2.1 hd hi hl.has hn rfl (fun ls' h' => k.at C w (hL ▸ Lc.of2 (v := vJ x) h'))
theorem ev_lstore {i : Nat} {x : Int64} (hd : decode M.2.1 pc = .ok (.lstore i, 2)) (hn : i + 1 < M.2.2.1) (hL : sto2 L i (vJ x) = L') (k : Ev X d M (pc + 2) L' st σ post) : Ev X d M pc L (vJ x :: st) σ post := by
  intro D ad aC p l e R s m args below meth c cells slots A Q C H locs ls w hl
  exact lv_lstore C.1 C.2.1 hd hl.has hn rfl (fun ls' h' => k.at C w (hL ▸ Lc.of2 (v := vJ x) h'))
theorem ev_astore_n {j : Fin 4} {i : Nat} {a b : Nat} (hd : decode M.2.1 pc = .ok (.astore_n j, 1)) (hi : (j : Nat) = i) (hn : i < M.2.2.1) (hL : sto1 L i (vR a b) = L') (k : Ev X d M (pc + 1) L' st σ post) : Ev X d M pc L (vR a b :: st) σ post := by
  intro D ad aC p l e R s m args below meth c cells slots A Q C H locs ls w hl
  exact lv_astore_n C.1 C.2.1 hd hi hl.has hn rfl (fun ls' h' => k.at C w (hL ▸ Lc.of1 (v := vR a b) h'))
theorem ev_astore {i : Nat} {a b : Nat} (hd : decode M.2.1 pc = .ok (.astore i, 2)) (hn : i < M.2.2.1) (hL : sto1 L i (vR a b) = L') (k : Ev X d M (pc + 2) L' st σ post) : Ev X d M pc L (vR a b :: st) σ post := by
  intro D ad aC p l e R s m args below meth c cells slots A Q C H locs ls w hl
  exact lv_astore C.1 C.2.1 hd hl.has hn rfl (fun ls' h' => k.at C w (hL ▸ Lc.of1 (v := vR a b) h'))
theorem ev_iinc {i : Nat} {n : Int} {x v : Int32} (hd : decode M.2.1 pc = .ok (.iinc i n, 3)) (hx : L[i]? = some (some (vI x))) (hv : x + Int32.ofInt n = v) (hn : i < M.2.2.1) (hL : sto1 L i (vI v) = L') (k : Ev X d M (pc + 3) L' st σ post) : Ev X d M pc L st σ post := by
  intro D ad aC p l e R s m args below meth c cells slots A Q C H locs ls w hl
  obtain ⟨q, hq⟩ := List.getElem?_of_mem (mem_prs.mpr ⟨vI x, hx, rfl⟩ : (i, cv ad (vI x)) ∈ prs ad L)
  exact lv_iinc C.1 C.2.1 hd hl.has hq hv hn rfl (fun ls' h' => k.at C w (hL ▸ Lc.of1 (v := vI v) h'))
theorem ev_iadd {x y : Int32} (hd : decode M.2.1 pc = .ok (.iadd, 1)) (k : Ev X d M (pc + 1) L (vI (x + y) :: st) σ post) : Ev X d M pc L (vI y :: vI x :: st) σ post := by
  intro D ad aC p l e R s m args below meth c cells slots A Q C H locs ls w hl
  exact lv_iadd C.1 C.2.1 hd (k.at C w hl)
theorem ev_isub {x y : Int32} (hd : decode M.2.1 pc = .ok (.isub, 1)) (k : Ev X d M (pc + 1) L (vI (x - y) :: st) σ post) : Ev X d M pc L (vI y :: vI x :: st) σ post := by
  intro D ad aC p l e R s m args below meth c cells slots A Q C H locs ls w hl
  exact lv_isub C.1 C.2.1 hd (k.at C w hl)
theorem ev_imul {x y : Int32} (hd : decode M.2.1 pc = .ok (.imul, 1)) (k : Ev X d M (pc + 1) L (vI (x * y) :: st) σ post) : Ev X d M pc L (vI y :: vI x :: st) σ post := by
  intro D ad aC p l e R s m args below meth c cells slots A Q C H locs ls w hl
  exact lv_imul C.1 C.2.1 hd (k.at C w hl)
theorem ev_iand {x y : Int32} (hd : decode M.2.1 pc = .ok (.iand, 1)) (k : Ev X d M (pc + 1) L (vI (x &&& y) :: st) σ post) : Ev X d M pc L (vI y :: vI x :: st) σ post := by
  intro D ad aC p l e R s m args below meth c cells slots A Q C H locs ls w hl
  exact lv_iand C.1 C.2.1 hd (k.at C w hl)
theorem ev_ior {x y : Int32} (hd : decode M.2.1 pc = .ok (.ior, 1)) (k : Ev X d M (pc + 1) L (vI (x ||| y) :: st) σ post) : Ev X d M pc L (vI y :: vI x :: st) σ post := by
  intro D ad aC p l e R s m args below meth c cells slots A Q C H locs ls w hl
  exact lv_ior C.1 C.2.1 hd (k.at C w hl)
theorem ev_ixor {x y : Int32} (hd : decode M.2.1 pc = .ok (.ixor, 1)) (k : Ev X d M (pc + 1) L (vI (x ^^^ y) :: st) σ post) : Ev X d M pc L (vI y :: vI x :: st) σ post := by
  intro D ad aC p l e R s m args below meth c cells slots A Q C H locs ls w hl
  exact lv_ixor C.1 C.2.1 hd (k.at C w hl)
theorem ev_ishl {x y : Int32} (hd : decode M.2.1 pc = .ok (.ishl, 1)) (k : Ev X d M (pc + 1) L (vI (isl x y) :: st) σ post) : Ev X d M pc L (vI y :: vI x :: st) σ post := by
  intro D ad aC p l e R s m args below meth c cells slots A Q C H locs ls w hl
  exact lv_ishl C.1 C.2.1 hd (k.at C w hl)
theorem ev_ishr {x y : Int32} (hd : decode M.2.1 pc = .ok (.ishr, 1)) (k : Ev X d M (pc + 1) L (vI (isr x y) :: st) σ post) : Ev X d M pc L (vI y :: vI x :: st) σ post := by
  intro D ad aC p l e R s m args below meth c cells slots A Q C H locs ls w hl
  exact lv_ishr C.1 C.2.1 hd (k.at C w hl)
theorem ev_iushr {x y : Int32} (hd : decode M.2.1 pc = .ok (.iushr, 1)) (k : Ev X d M (pc + 1) L (vI (ius x y) :: st) σ post) : Ev X d M pc L (vI y :: vI x :: st) σ post := by
  intro D ad aC p l e R s m args below meth c cells slots A Q C H locs ls w hl
  exact lv_iushr C.1 C.2.1 hd rfl (k.at C w hl)
theorem ev_idiv {x y : Int32} (hd : decode M.2.1 pc = .ok (.idiv, 1)) (hy : ¬ y = 0) (k : Ev X d M (pc + 1) L (vI (x / y) :: st) σ post) : Ev X d M pc L (vI y :: vI x :: st) σ post := by
  intro D ad aC p l e R s m args below meth c cells slots A Q C H locs ls w hl
  exact lv_idiv C.1 C.2.1 hd hy (k.at C w hl)
theorem ev_irem {x y : Int32} (hd : decode M.2.1 pc = .ok (.irem, 1)) (hy : ¬ y = 0) (k : Ev X d M (pc + 1) L (vI (irm x y) :: st) σ post) : Ev X d M pc L (vI y :: vI x :: st) σ post := by
  intro D ad aC p l e R s m args below meth c cells slots A Q C H locs ls w hl
  exact lv_irem C.1 C.2.1 hd hy (k.at C w hl)
theorem ev_ladd {x y : Int64} (hd : decode M.2.1 pc = .ok (.ladd, 1)) (k : Ev X d M (pc + 1) L (vJ (x + y) :: st) σ post) : Ev X d M pc L (vJ y :: vJ x :: st) σ post := by
  intro D ad aC p l e R s m args below meth c cells slots A Q C H locs ls w hl
  exact lv_ladd C.1 C.2.1 hd (k.at C w hl)
theorem ev_lsub {x y : Int64} (hd : decode M.2.1 pc = .ok (.lsub, 1)) (k : Ev X d M (pc + 1) L (vJ (x - y) :: st) σ post) : Ev X d M pc L (vJ y :: vJ x :: st) σ post := by
  intro D ad aC p l e R s m args below meth c cells slots A Q C H locs ls w hl
  exact lv_lsub C.1 C.2.1 hd (k.at C w hl)
theorem ev_lmul {x y : Int64} (hd : decode M.2.1 pc = .ok (.lmul, 1)) (k : Ev X d M (pc + 1) L (vJ (x * y) :: st) σ post) : Ev X d M pc L (vJ y :: vJ x :: st) σ post := by
  intro D ad aC p l e R s m args below meth c cells slots A Q C H locs ls w hl
  exact lv_lmul C.1 C.2.1 hd (k.at C w hl)
theorem ev_ldiv {x y : Int64} (hd : decode M.2.1 pc = .ok (.ldiv, 1)) (hy : ¬ y = 0) (k : Ev X d M (pc + 1) L (vJ (x / y) :: st) σ post) : Ev X d M pc L (vJ y :: vJ x :: st) σ post := by
  intro D ad aC p l e R s m args below meth c cells slots A Q C H locs ls w hl
  exact lv_ldiv C.1 C.2.1 hd hy (k.at C w hl)
theorem ev_lrem {x y : Int64} (hd : decode M.2.1 pc = .ok (.lrem, 1)) (hy : ¬ y = 0) (k : Ev X d M (pc + 1) L (vJ (lrm x y) :: st) σ post) : Ev X d M pc L (vJ y :: vJ x :: st) σ post := by
  intro D ad aC p l e R s m args below meth c cells slots A Q C H locs ls w hl
  exact lv_lrem C.1 C.2.1 hd hy (k.at C w hl)
theorem ev_lshl {x : Int64} {y : Int32} (hd : decode M.2.1 pc = .ok (.lshl, 1)) (k : Ev X d M (pc + 1) L (vJ (lsl x y) :: st) σ post) : Ev X d M pc L (vI y :: vJ x :: st) σ post := by
  intro D ad aC p l e R s m args below meth c cells slots A Q C H locs ls w hl
  exact lv_lshl C.1 C.2.1 hd rfl (k.at C w hl)
theorem ev_ineg {x : Int32} (hd : decode M.2.1 pc = .ok (.ineg, 1)) (k : Ev X d M (pc + 1) L (vI (-x) :: st) σ post) : Ev X d M pc L (vI x :: st) σ post := by
  intro D ad aC p l e R s m args below meth c cells slots A Q C H locs ls w hl
  exact lv_ineg C.1 C.2.1 hd (k.at C w hl)
theorem ev_i2l {x : Int32} (hd : decode M.2.1 pc = .ok (.i2l, 1)) (k : Ev X d M (pc + 1) L (vJ x.toInt64 :: st) σ post) : Ev X d M pc L (vI x :: st) σ post := by
  intro D ad aC p l e R s m args below meth c cells slots A Q C H locs ls w hl
  exact lv_i2l C.1 C.2.1 hd rfl (k.at C w hl)
theorem ev_i2b {x : Int32} (hd : decode M.2.1 pc = .ok (.i2b, 1)) (k : Ev X d M (pc + 1) L (vI x.toInt8.toInt32 :: st) σ post) : Ev X d M pc L (vI x :: st) σ post := by
  intro D ad aC p l e R s m args below meth c cells slots A Q C H locs ls w hl
  exact lv_i2b C.1 C.2.1 hd rfl (k.at C w hl)
theorem ev_i2s {x : Int32} (hd : decode M.2.1 pc = .ok (.i2s, 1)) (k : Ev X d M (pc + 1) L (vI x.toInt16.toInt32 :: st) σ post) : Ev X d M pc L (vI x :: st) σ post := by
  intro D ad aC p l e R s m args below meth c cells slots A Q C H locs ls w hl
  exact lv_i2s C.1 C.2.1 hd rfl (k.at C w hl)
theorem ev_lcmp {x y : Int64} (hd : decode M.2.1 pc = .ok (.lcmp, 1)) (k : Ev X d M (pc + 1) L (vI (lg_cmp x y) :: st) σ post) : Ev X d M pc L (vJ y :: vJ x :: st) σ post := by
  intro D ad aC p l e R s m args below meth c cells slots A Q C H locs ls w hl
  exact W.lcmp C.1 C.2.1 hd (k.at C w hl)
theorem cat1 {ad : AD} {v : AV} (h : isJ (some (some v)) = false) : (cv ad v).category = 1 := by
  rcases lv_cat (cv ad v) with q | q
  · exact q
  · rw [cv_cat2.mp q] at h; cases h
theorem ev_dup {v : AV} (hd : decode M.2.1 pc = .ok (.dup, 1)) (hc : isJ (some (some v)) = false) (k : Ev X d M (pc + 1) L (v :: v :: st) σ post) : Ev X d M pc L (v :: st) σ post := by
  intro D ad aC p l e R s m args below meth c cells slots A Q C H locs ls w hl
  exact lv_dup C.1 C.2.1 hd (cat1 hc) (k.at C w hl)
theorem ev_pop {v : AV} (hd : decode M.2.1 pc = .ok (.pop, 1)) (hc : isJ (some (some v)) = false) (k : Ev X d M (pc + 1) L (st) σ post) : Ev X d M pc L (v :: st) σ post := by
  intro D ad aC p l e R s m args below meth c cells slots A Q C H locs ls w hl
  exact lv_pop C.1 C.2.1 hd (cat1 hc) (k.at C w hl)
theorem ev_dup2 {u v : AV} (hd : decode M.2.1 pc = .ok (.dup2, 1)) (hc : isJ (some (some u)) = false) (hc2 : isJ (some (some v)) = false) (k : Ev X d M (pc + 1) L (u :: v :: u :: v :: st) σ post) : Ev X d M pc L (u :: v :: st) σ post := by
  intro D ad aC p l e R s m args below meth c cells slots A Q C H locs ls w hl
  exact lv_dup2_11 C.1 C.2.1 hd (cat1 hc) (cat1 hc2) (k.at C w hl)
theorem ev_if_eq {x : Int32} {off : Int} {tgt : Nat} (hd : decode M.2.1 pc = .ok (.ifCond .eq off, 3)) (ht : (pc : Int) + off = (tgt : Int)) (kt : x = 0 → Ev X d M tgt L st σ post) (kf : ¬ x = 0 → Ev X d M (pc + 3) L st σ post) : Ev X d M pc L (vI x :: st) σ post := by
  intro D ad aC p l e R s m args below meth c cells slots A Q C H locs ls w hl
  exact lv_if_eq C.1 C.2.1 hd ht (fun h => (kt h).at C w hl) (fun h => (kf h).at C w hl)
theorem ev_if_ne {x : Int32} {off : Int} {tgt : Nat} (hd : decode M.2.1 pc = .ok (.ifCond .ne off, 3)) (ht : (pc : Int) + off = (tgt : Int)) (kt : ¬ x = 0 → Ev X d M tgt L st σ post) (kf : x = 0 → Ev X d M (pc + 3) L st σ post) : Ev X d M pc L (vI x :: st) σ post := by
  intro D ad aC p l e R s m args below meth c cells slots A Q C H locs ls w hl
  exact lv_if_ne C.1 C.2.1 hd ht (fun h => (kt h).at C w hl) (fun h => (kf h).at C w hl)
theorem ev_if_lt {x : Int32} {off : Int} {tgt : Nat} (hd : decode M.2.1 pc = .ok (.ifCond .lt off, 3)) (ht : (pc : Int) + off = (tgt : Int)) (kt : x < 0 → Ev X d M tgt L st σ post) (kf : ¬ x < 0 → Ev X d M (pc + 3) L st σ post) : Ev X d M pc L (vI x :: st) σ post := by
  intro D ad aC p l e R s m args below meth c cells slots A Q C H locs ls w hl
  exact lv_if_lt C.1 C.2.1 hd ht (fun h => (kt h).at C w hl) (fun h => (kf h).at C w hl)
theorem ev_if_ge {x : Int32} {off : Int} {tgt : Nat} (hd : decode M.2.1 pc = .ok (.ifCond .ge off, 3)) (ht : (pc : Int) + off = (tgt : Int)) (kt : 0 ≤ x → Ev X d M tgt L st σ post) (kf : ¬ 0 ≤ x → Ev X d M (pc + 3) L st σ post) : Ev X d M pc L (vI x :: st) σ post := by
  intro D ad aC p l e R s m args below meth c cells slots A Q C H locs ls w hl
  exact lv_if_ge C.1 C.2.1 hd ht (fun h => (kt h).at C w hl) (fun h => (kf h).at C w hl)
theorem ev_if_gt {x : Int32} {off : Int} {tgt : Nat} (hd : decode M.2.1 pc = .ok (.ifCond .gt off, 3)) (ht : (pc : Int) + off = (tgt : Int)) (kt : 0 < x → Ev X d M tgt L st σ post) (kf : ¬ 0 < x → Ev X d M (pc + 3) L st σ post) : Ev X d M pc L (vI x :: st) σ post := by
  intro D ad aC p l e R s m args below meth c cells slots A Q C H locs ls w hl
  exact lv_if_gt C.1 C.2.1 hd ht (fun h => (kt h).at C w hl) (fun h => (kf h).at C w hl)
theorem ev_if_le {x : Int32} {off : Int} {tgt : Nat} (hd : decode M.2.1 pc = .ok (.ifCond .le off, 3)) (ht : (pc : Int) + off = (tgt : Int)) (kt : x ≤ 0 → Ev X d M tgt L st σ post) (kf : ¬ x ≤ 0 → Ev X d M (pc + 3) L st σ post) : Ev X d M pc L (vI x :: st) σ post := by
  intro D ad aC p l e R s m args below meth c cells slots A Q C H locs ls w hl
  exact lv_if_le C.1 C.2.1 hd ht (fun h => (kt h).at C w hl) (fun h => (kf h).at C w hl)
theorem ev_icmp_eq {x y : Int32} {off : Int} {tgt : Nat} (hd : decode M.2.1 pc = .ok (.if_icmp .eq off, 3)) (ht : (pc : Int) + off = (tgt : Int)) (kt : x = y → Ev X d M tgt L st σ post) (kf : ¬ x = y → Ev X d M (pc + 3) L st σ post) : Ev X d M pc L (vI y :: vI x :: st) σ post := by
  intro D ad aC p l e R s m args below meth c cells slots A Q C H locs ls w hl
  exact lv_icmp_eq C.1 C.2.1 hd ht (fun h => (kt h).at C w hl) (fun h => (kf h).at C w hl)
theorem ev_icmp_ne {x y : Int32} {off : Int} {tgt : Nat} (hd : decode M.2.1 pc = .ok (.if_icmp .ne off, 3)) (ht : (pc : Int) + off = (tgt : Int)) (kt : ¬ x = y → Ev X d M tgt L st σ post) (kf : x = y → Ev X d M (pc + 3) L st σ post) : Ev X d M pc L (vI y :: vI x :: st) σ post := by
  intro D ad aC p l e R s m args below meth c cells slots A Q C H locs ls w hl
  exact lv_icmp_ne C.1 C.2.1 hd ht (fun h => (kt h).at C w hl) (fun h => (kf h).at C w hl)
theorem ev_icmp_lt {x y : Int32} {off : Int} {tgt : Nat} (hd : decode M.2.1 pc = .ok (.if_icmp .lt off, 3)) (ht : (pc : Int) + off = (tgt : Int)) (kt : x < y → Ev X d M tgt L st σ post) (kf : ¬ x < y → Ev X d M (pc + 3) L st σ post) : Ev X d M pc L (vI y :: vI x :: st) σ post := by
  intro D ad aC p l e R s m args below meth c cells slots A Q C H locs ls w hl
  exact lv_icmp_lt C.1 C.2.1 hd ht (fun h => (kt h).at C w hl) (fun h => (kf h).at C w hl)
theorem ev_icmp_ge {x y : Int32} {off : Int} {tgt : Nat} (hd : decode M.2.1 pc = .ok (.if_icmp .ge off, 3)) (ht : (pc : Int) + off = (tgt : Int)) (kt : y ≤ x → Ev X d M tgt L st σ post) (kf : ¬ y ≤ x → Ev X d M (pc + 3) L st σ post) : Ev X d M pc L (vI y :: vI x :: st) σ post := by
  intro D ad aC p l e R s m args below meth c cells slots A Q C H locs ls w hl
  exact lv_icmp_ge C.1 C.2.1 hd ht (fun h => (kt h).at C w hl) (fun h => (kf h).at C w hl)
theorem ev_icmp_gt {x y : Int32} {off : Int} {tgt : Nat} (hd : decode M.2.1 pc = .ok (.if_icmp .gt off, 3)) (ht : (pc : Int) + off = (tgt : Int)) (kt : y < x → Ev X d M tgt L st σ post) (kf : ¬ y < x → Ev X d M (pc + 3) L st σ post) : Ev X d M pc L (vI y :: vI x :: st) σ post := by
  intro D ad aC p l e R s m args below meth c cells slots A Q C H locs ls w hl
  exact lv_icmp_gt C.1 C.2.1 hd ht (fun h => (kt h).at C w hl) (fun h => (kf h).at C w hl)
theorem ev_icmp_le {x y : Int32} {off : Int} {tgt : Nat} (hd : decode M.2.1 pc = .ok (.if_icmp .le off, 3)) (ht : (pc : Int) + off = (tgt : Int)) (kt : x ≤ y → Ev X d M tgt L st σ post) (kf : ¬ x ≤ y → Ev X d M (pc + 3) L st σ post) : Ev X d M pc L (vI y :: vI x :: st) σ post := by
  intro D ad aC p l e R s m args below meth c cells slots A Q C H locs ls w hl
  exact lv_icmp_le C.1 C.2.1 hd ht (fun h => (kt h).at C w hl) (fun h => (kf h).at C w hl)
theorem ev_goto {off : Int} {tgt : Nat} (hd : decode M.2.1 pc = .ok (.goto off, 3)) (ht : (pc : Int) + off = (tgt : Int)) (k : Ev X d M tgt L st σ post) : Ev X d M pc L st σ post := by
  intro D ad aC p l e R s m args below meth c cells slots A Q C H locs ls w hl
  exact lv_goto C.1 C.2.1 hd ht (k.at C w hl)
theorem ev_tableIn {dflt lo hi : Int} {offs : Array Int} {len : Nat} {x : Int32} {off : Int} {tgt : Nat} (hd : decode M.2.1 pc = .ok (.tableswitch dflt lo hi offs, len)) (h1 : ¬ x.toInt < lo) (h2 : ¬ hi < x.toInt) (ho : offs[(x.toInt - lo).toNat]? = some off) (ht : (pc : Int) + off = (tgt : Int)) (k : Ev X d M tgt L st σ post) : Ev X d M pc L (vI x :: st) σ post := by
  intro D ad aC p l e R s m args below meth c cells slots A Q C H locs ls w hl
  exact lv_tableIn C.1 C.2.1 hd h1 h2 ho ht (k.at C w hl)
theorem ev_tableOut {dflt lo hi : Int} {offs : Array Int} {len : Nat} {x : Int32} {tgt : Nat} (hd : decode M.2.1 pc = .ok (.tableswitch dflt lo hi offs, len)) (h : x.toInt < lo ∨ hi < x.toInt) (ht : (pc : Int) + dflt = (tgt : Int)) (k : Ev X d M tgt L st σ post) : Ev X d M pc L (vI x :: st) σ post := by
  intro D ad aC p l e R s m args below meth c cells slots A Q C H locs ls w hl
  exact lv_tableOut C.1 C.2.1 hd h ht (k.at C w hl)
theorem ev_lookup {dflt : Int} {ps : Array (Int × Int)} {len : Nat} {x : Int32} {off : Int} {tgt : Nat} (hd : decode M.2.1 pc = .ok (.lookupswitch dflt ps, len)) (hp : (ps.toList.zip (ps.toList.drop 1)).all (fun (a, next) => a.1 < next.1) = true) (ho : Op.lookupswitch.offset ps.toList dflt x.toInt = off) (ht : (pc : Int) + off = (tgt : Int)) (k : Ev X d M tgt L st σ post) : Ev X d M pc L (vI x :: st) σ post := by
  intro D ad aC p l e R s m args below meth c cells slots A Q C H locs ls w hl
  exact lv_lookup C.1 C.2.1 hd hp ho ht (k.at C w hl)
theorem ev_ret {r : Option AV} {op : Instr} (hd : decode M.2.1 pc = .ok (op, 1)) (hs : st = r.toList) (hr : rok M.2.2.2 r op) (h : post r σ) : Ev X d M pc L st σ post := by
  intro D ad aC p l e R s m args below meth c cells slots A Q C H locs ls w hl
  subst hs
  exact C.2.2.2.2.2.2.2.2.2.2 r σ H locs ls pc op h hr w hd
theorem ev_ifb_eq {P : Prop} [Decidable P] {off : Int} {tgt : Nat} (hd : decode M.2.1 pc = .ok (.ifCond .eq off, 3)) (ht : (pc : Int) + off = (tgt : Int)) (kt : ¬ P → Ev X d M tgt L st σ post) (kf : P → Ev X d M (pc + 3) L st σ post) : Ev X d M pc L (vI (bi P) :: st) σ post := ev_if_eq hd ht (fun h => kt (bi_0.mp h)) (fun h => kf (Decidable.of_not_not (fun q => h (bi_0.mpr q))))
theorem ev_ifb_ne {P : Prop} [Decidable P] {off : Int} {tgt : Nat} (hd : decode M.2.1 pc = .ok (.ifCond .ne off, 3)) (ht : (pc : Int) + off = (tgt : Int)) (kt : P → Ev X d M tgt L st σ post) (kf : ¬ P → Ev X d M (pc + 3) L st σ post) : Ev X d M pc L (vI (bi P) :: st) σ post := ev_if_ne hd ht (fun h => kt (Decidable.of_not_not (fun q => h (bi_0.mpr q)))) (fun h => kf (bi_0.mp h))
theorem lc_lt {x y : Int64} : lg_cmp x y < 0 ↔ x < y := lg_cmp_lt x y
theorem lc_ge {x y : Int64} : 0 ≤ lg_cmp x y ↔ y ≤ x := lg_cmp_ge x y
theorem lc_gt {x y : Int64} : 0 < lg_cmp x y ↔ y < x := lg_cmp_gt x y
theorem lc_le {x y : Int64} : lg_cmp x y ≤ 0 ↔ x ≤ y := lg_cmp_le x y
theorem lc_eq {x y : Int64} : lg_cmp x y = 0 ↔ x = y := by
  unfold lg_cmp
  split
  next h => exact ⟨fun q => absurd q (by decide), fun q => by subst q; exact absurd h Int64.lt_irrefl⟩
  next h =>
    split
    next h2 => exact ⟨fun _ => h2, fun _ => rfl⟩
    next h2 => exact ⟨fun q => absurd q (by decide), fun q => absurd q h2⟩
theorem ev_ifc_lt {x y : Int64} {off : Int} {tgt : Nat} (hd : decode M.2.1 pc = .ok (.ifCond .lt off, 3)) (ht : (pc : Int) + off = (tgt : Int)) (kt : x < y → Ev X d M tgt L st σ post) (kf : ¬ (x < y) → Ev X d M (pc + 3) L st σ post) : Ev X d M pc L (vI (lg_cmp x y) :: st) σ post := ev_if_lt hd ht (fun h => kt (lc_lt.mp h)) (fun h => kf (fun q => h (lc_lt.mpr q)))
theorem ev_ifc_ge {x y : Int64} {off : Int} {tgt : Nat} (hd : decode M.2.1 pc = .ok (.ifCond .ge off, 3)) (ht : (pc : Int) + off = (tgt : Int)) (kt : y ≤ x → Ev X d M tgt L st σ post) (kf : ¬ (y ≤ x) → Ev X d M (pc + 3) L st σ post) : Ev X d M pc L (vI (lg_cmp x y) :: st) σ post := ev_if_ge hd ht (fun h => kt (lc_ge.mp h)) (fun h => kf (fun q => h (lc_ge.mpr q)))
theorem ev_ifc_eq {x y : Int64} {off : Int} {tgt : Nat} (hd : decode M.2.1 pc = .ok (.ifCond .eq off, 3)) (ht : (pc : Int) + off = (tgt : Int)) (kt : x = y → Ev X d M tgt L st σ post) (kf : ¬ (x = y) → Ev X d M (pc + 3) L st σ post) : Ev X d M pc L (vI (lg_cmp x y) :: st) σ post := ev_if_eq hd ht (fun h => kt (lc_eq.mp h)) (fun h => kf (fun q => h (lc_eq.mpr q)))
theorem ev_ifc_gt {x y : Int64} {off : Int} {tgt : Nat} (hd : decode M.2.1 pc = .ok (.ifCond .gt off, 3)) (ht : (pc : Int) + off = (tgt : Int)) (kt : y < x → Ev X d M tgt L st σ post) (kf : ¬ (y < x) → Ev X d M (pc + 3) L st σ post) : Ev X d M pc L (vI (lg_cmp x y) :: st) σ post := ev_if_gt hd ht (fun h => kt (lc_gt.mp h)) (fun h => kf (fun q => h (lc_gt.mpr q)))
theorem ev_ifc_le {x y : Int64} {off : Int} {tgt : Nat} (hd : decode M.2.1 pc = .ok (.ifCond .le off, 3)) (ht : (pc : Int) + off = (tgt : Int)) (kt : x ≤ y → Ev X d M tgt L st σ post) (kf : ¬ (x ≤ y) → Ev X d M (pc + 3) L st σ post) : Ev X d M pc L (vI (lg_cmp x y) :: st) σ post := ev_if_le hd ht (fun h => kt (lc_le.mp h)) (fun h => kf (fun q => h (lc_le.mpr q)))
theorem ev_ifc_ne {x y : Int64} {off : Int} {tgt : Nat} (hd : decode M.2.1 pc = .ok (.ifCond .ne off, 3)) (ht : (pc : Int) + off = (tgt : Int)) (kt : ¬ x = y → Ev X d M tgt L st σ post) (kf : x = y → Ev X d M (pc + 3) L st σ post) : Ev X d M pc L (vI (lg_cmp x y) :: st) σ post := ev_if_ne hd ht (fun h => kt (fun q => h (lc_eq.mpr q))) (fun h => kf (lc_eq.mp h))
end EVR
end
section
-- the rules of Ev over the cells
theorem gd_self {w : Cond} (h : w ∈ lw_gd) : w ∈ lw_tbl ∧ goodWord w = true := List.mem_filter.mp h
theorem gd_of {w : Cond} (h : w ∈ lw_tbl) (hg : goodWord w = true) : w ∈ lw_gd := List.mem_filter.mpr ⟨h, hg⟩
theorem gd_t {w : Cond} (h : w ∈ tables_1) (hg : goodWord w = true) : w ∈ lw_gd := gd_of (List.mem_append_right _ h) hg
theorem good_gd : GoodIn lw_gd lw_gd := fun _ h => ⟨h, good_of_word (gd_self h).2⟩
def clsP (q : vw_C) (ty : Nat → FieldType) : Prop := (∀ w ∈ u_ws q.1 q.2.1 q.2.2, w ∈ tables_1) ∧ (∀ f, f < q.2.2 → parseFieldDescriptor (q.2.1 f).2.2.1 = some (ty f)) ∧ (∀ a, a < q.2.2 → ∀ b, b < q.2.2 → a ≠ b → (q.2.1 a).2.1 ≠ (q.2.1 b).2.1) ∧ (∀ f, f < q.2.2 → (q.2.1 f).1 = q.1)
theorem clsP_0 : clsP ("OneBook", kT0, 12) ky0 := ⟨by decide +kernel, by decide +kernel, by decide +kernel, by decide +kernel⟩
theorem clsP_1 : clsP ("OneBook$Book", kT1, 6) ky1 := ⟨by decide +kernel, by decide +kernel, by decide +kernel, by decide +kernel⟩
theorem clsP_2 : clsP ("OneBook$Company", kT2, 3) ky2 := ⟨by decide +kernel, by decide +kernel, by decide +kernel, by decide +kernel⟩
theorem clsP_3 : clsP ("OneBook$Reader", kT3, 3) ky3 := ⟨by decide +kernel, by decide +kernel, by decide +kernel, by decide +kernel⟩
theorem clsP_4 : clsP ("OneBook$Evening", kT4, 5) ky4 := ⟨by decide +kernel, by decide +kernel, by decide +kernel, by decide +kernel⟩
theorem clsP_5 : clsP ("OneBook$Plan", kT5, 11) ky5 := ⟨by decide +kernel, by decide +kernel, by decide +kernel, by decide +kernel⟩
theorem clsP_6 : clsP ("OneBook$Seeming", kT6, 5) ky6 := ⟨by decide +kernel, by decide +kernel, by decide +kernel, by decide +kernel⟩
theorem clsP_7 : clsP ("OneBook$Seating", kT7, 5) ky7 := ⟨by decide +kernel, by decide +kernel, by decide +kernel, by decide +kernel⟩
theorem clsP_8 : clsP ("OneBook$Turns", kT8, 5) ky8 := ⟨by decide +kernel, by decide +kernel, by decide +kernel, by decide +kernel⟩
theorem clsP_9 : clsP ("OneBook$Moods", kT9, 9) ky9 := ⟨by decide +kernel, by decide +kernel, by decide +kernel, by decide +kernel⟩
theorem clsP_10 : clsP ("OneBook$Sheet", kT10, 4) ky10 := ⟨by decide +kernel, by decide +kernel, by decide +kernel, by decide +kernel⟩
theorem clsP_11 : clsP ("OneBookModel", kT11, 34) ky11 := ⟨by decide +kernel, by decide +kernel, by decide +kernel, by decide +kernel⟩
theorem cls_ok : ∀ (k : Nat) (q : vw_C), cls[k]? = some q → ∃ ty, clsP q ty
  | 0, _, h => by cases h; exact ⟨_, clsP_0⟩
  | 1, _, h => by cases h; exact ⟨_, clsP_1⟩
  | 2, _, h => by cases h; exact ⟨_, clsP_2⟩
  | 3, _, h => by cases h; exact ⟨_, clsP_3⟩
  | 4, _, h => by cases h; exact ⟨_, clsP_4⟩
  | 5, _, h => by cases h; exact ⟨_, clsP_5⟩
  | 6, _, h => by cases h; exact ⟨_, clsP_6⟩
  | 7, _, h => by cases h; exact ⟨_, clsP_7⟩
  | 8, _, h => by cases h; exact ⟨_, clsP_8⟩
  | 9, _, h => by cases h; exact ⟨_, clsP_9⟩
  | 10, _, h => by cases h; exact ⟨_, clsP_10⟩
  | 11, _, h => by cases h; exact ⟨_, clsP_11⟩
  | k + 12, _, h => by cases h
theorem u_good {C : String} {T : u_T} {N : Nat} {w : Cond} (h : w ∈ u_ws C T N) : goodWord w = true := by
  obtain ⟨k, -, rfl⟩ := List.mem_map.mp h
  unfold u_lay
  split <;> rfl
def fldT (k f : Nat) : Option FL := match kd k with
  | .inl q => q.2[f]?
  | .inr _ => none
def arT (k : Nat) : Option (Nat × Nat × Nat) := match kd k with
  | .inl _ => none
  | .inr q => some q
theorem kd_inl {k : Nat} {q : Nat × List FL} (h : kd k = .inl q) : q.1 = k ∧ k < 12 := by
  unfold kd at h
  split at h <;> first | (cases h; exact ⟨rfl, by decide⟩) | cases h
theorem fldT_kd {k f : Nat} {t : FL} (h : fldT k f = some t) : ∃ fs : List FL, kd k = .inl (k, fs) ∧ fs[f]? = some t ∧ k < 63 := by
  unfold fldT at h
  split at h
  next q hq =>
    obtain ⟨e1, e2⟩ := kd_inl hq
    exact ⟨q.2, by rw [hq, ← e1], h, by omega⟩
  next => cases h
theorem arT_kd {k t n k' : Nat} (h : arT k = some (t, n, k')) : kd k = .inr (t, n, k') := by
  unfold arT at h
  split at h
  next => cases h
  next q hq => cases h; exact hq
theorem cel_obj {ad : AD} {aC : Nat → ClassId} {σ : ST} {k i : Nat} {fs : List FL} (h : kd k = .inl (k, fs)) : cel ad aC σ k i = .inr (k, fs.mapIdx (fun f t => fv ad σ k i f t)) := by
  unfold cel
  rw [h]
theorem cel_arr {ad : AD} {aC : Nat → ClassId} {σ : ST} {k i t n k' : Nat} (h : kd k = .inr (t, n, k')) : cel ad aC σ k i = .inl (aC t, n, arc ad σ k i t k') := by
  unfold cel
  rw [h]
theorem cel_fld {ad : AD} {σ : ST} {k i f : Nat} {fs : List FL} {t : FL} (h : fs[f]? = some t) : (fs.mapIdx (fun f t => fv ad σ k i f t))[f]? = some (fv ad σ k i f t) := by
  rw [List.getElem?_mapIdx, h]
  rfl
theorem setI_at (σ : ST) (k i f : Nat) (v : Int32) : (setI σ k i f v).1 k i f = v := by simp [setI]
theorem setI_ne (σ : ST) (k i f : Nat) (v : Int32) {a b g : Nat} (h : ¬ (a = k ∧ b = i ∧ g = f)) : (setI σ k i f v).1 a b g = σ.1 a b g := by simp only [setI]; rw [if_neg h]
theorem setJ_at (σ : ST) (k i f : Nat) (v : Int64) : (setJ σ k i f v).2 k i f = v := by simp [setJ]
theorem setJ_ne (σ : ST) (k i f : Nat) (v : Int64) {a b g : Nat} (h : ¬ (a = k ∧ b = i ∧ g = f)) : (setJ σ k i f v).2 a b g = σ.2 a b g := by simp only [setJ]; rw [if_neg h]
theorem setI_off (σ : ST) (k i f : Nat) (v : Int32) (a b : Nat) (h : ¬ (a = k ∧ b = i)) : (setI σ k i f v).1 a b = σ.1 a b ∧ (setI σ k i f v).2 a b = σ.2 a b :=
  ⟨funext fun g => setI_ne σ k i f v (fun q => h ⟨q.1, q.2.1⟩), rfl⟩
theorem setJ_off (σ : ST) (k i f : Nat) (v : Int64) (a b : Nat) (h : ¬ (a = k ∧ b = i)) : (setJ σ k i f v).1 a b = σ.1 a b ∧ (setJ σ k i f v).2 a b = σ.2 a b :=
  ⟨rfl, funext fun g => setJ_ne σ k i f v (fun q => h ⟨q.1, q.2.1⟩)⟩
/-- an object's cell behind a store to its field -/
theorem cel_setF {ad : AD} {aC : Nat → ClassId} {σ σ' : ST} {k i f : Nat} {fs : List FL} {t : FL} {v : Value} (h : kd k = .inl (k, fs)) (hf : fs[f]? = some t) (hv : fv ad σ' k i f t = v) (ho : ∀ g, g ≠ f → σ'.1 k i g = σ.1 k i g ∧ σ'.2 k i g = σ.2 k i g) :
    cel ad aC σ' k i = .inr (k, (fs.mapIdx (fun f t => fv ad σ k i f t)).set f v) := by
  rw [cel_obj h]
  congr 2
  apply List.ext_getElem?
  intro j
  by_cases hj : j = f
  · subst hj
    rw [List.getElem?_set_self (by rw [List.length_mapIdx]; exact (List.getElem?_eq_some_iff.mp hf).1), cel_fld hf, hv]
  · rw [List.getElem?_set_ne (Ne.symm hj), List.getElem?_mapIdx, List.getElem?_mapIdx]
    congr 1
    funext t'
    unfold fv
    rw [(ho j hj).1, (ho j hj).2]
/-- a field's link -/
def GF (own : String) (idx k f : Nat) : Prop := ∃ q : vw_C, cls[k]? = some q ∧ f < q.2.2 ∧ Cond.fieldLink own idx q.1 (q.2.1 f).2.1 (q.2.1 f).2.2.1 ∈ lw_gd
def GP (own : String) (idx k f : Nat) (dsc : String) : Prop := ∃ q : vw_C, cls[k]? = some q ∧ f < q.2.2 ∧ Cond.fieldLink own idx q.1 (q.2.1 f).2.1 (q.2.1 f).2.2.1 ∈ lw_gd ∧ (q.2.1 f).2.2.2 = false ∧ (q.2.1 f).2.2.1 = dsc
section EVH
variable {X : SX} {d : Nat} {M : MD} {pc : Nat} {L L' : List (Option AV)} {st : List AV} {σ : ST} {post : Option AV → ST → Prop}
theorem ev_getV {idx k f i : Nat} {t : FL} {v : AV} (g : GF M.1.cls idx k f) (ht : fldT k f = some t) (hi : i < cnt k) (hd : decode M.2.1 pc = .ok (.getfield idx, 3)) (hv : ∀ ad, fv ad σ k i f t = cv ad v) (kk : Ev X d M (pc + 3) L (v :: st) σ post) : Ev X d M pc L (vR k i :: st) σ post := by
  intro D ad aC p l e R s m args below meth c cells slots A Q C H locs ls w hl
  obtain ⟨q, hq, hf, hlk⟩ := g
  obtain ⟨ty, c1, c2, c3, c4⟩ := cls_ok k q hq
  obtain ⟨fs, hkd, hfs, hk⟩ := fldT_kd ht
  obtain ⟨q0, hq0⟩ := wld_pos hk hi
  have he := wld_get (ad := ad) (aC := aC) (σ := σ) hq0
  rw [cel_obj hkd] at he
  exact va_get (C := q.1) (T := q.2.1) (N := q.2.2) (ref := q.1) (D := D) C.1 C.2.1 C.2.2.2.2.1 (fun w hw => gd_t (c1 w hw) (u_good hw)) C.2.2.2.1 C.2.2.2.2.2.2.1 w.1 q0 he hq f hf (C.2.2.2.2.1 _ hlk) (fun x hx => by rw [← c4 f hf]; exact hx) (v := cv ad v) (by rw [cel_fld hfs, hv ad]) hd (kk.at C w hl)
theorem ev_getI {idx k f i : Nat} (g : GF M.1.cls idx k f) (ht : fldT k f = some fi) (hi : i < cnt k) (hd : decode M.2.1 pc = .ok (.getfield idx, 3)) (kk : Ev X d M (pc + 3) L (vI (σ.1 k i f) :: st) σ post) : Ev X d M pc L (vR k i :: st) σ post := ev_getV g ht hi hd (v := vI (σ.1 k i f)) (fun _ => rfl) kk
theorem ev_getZ {idx k f i : Nat} (g : GF M.1.cls idx k f) (ht : fldT k f = some fz) (hi : i < cnt k) (hd : decode M.2.1 pc = .ok (.getfield idx, 3)) (kk : Ev X d M (pc + 3) L (vI (σ.1 k i f) :: st) σ post) : Ev X d M pc L (vR k i :: st) σ post := ev_getV g ht hi hd (v := vI (σ.1 k i f)) (fun _ => rfl) kk
theorem ev_getJ {idx k f i : Nat} (g : GF M.1.cls idx k f) (ht : fldT k f = some fj) (hi : i < cnt k) (hd : decode M.2.1 pc = .ok (.getfield idx, 3)) (kk : Ev X d M (pc + 3) L (vJ (σ.2 k i f) :: st) σ post) : Ev X d M pc L (vR k i :: st) σ post := ev_getV g ht hi hd (v := vJ (σ.2 k i f)) (fun _ => rfl) kk
theorem ev_getR {idx k f i k' : Nat} (g : GF M.1.cls idx k f) (ht : fldT k f = some (fr k')) (hi : i < cnt k) (hd : decode M.2.1 pc = .ok (.getfield idx, 3)) (kk : Ev X d M (pc + 3) L (vR k' 0 :: st) σ post) : Ev X d M pc L (vR k i :: st) σ post := ev_getV g ht hi hd (v := vR k' 0) (fun _ => rfl) kk
theorem ev_getO {idx k f i k' : Nat} (g : GF M.1.cls idx k f) (ht : fldT k f = some (fo k')) (hi : i < cnt k) (hd : decode M.2.1 pc = .ok (.getfield idx, 3)) (kk : Ev X d M (pc + 3) L (vR k' i :: st) σ post) : Ev X d M pc L (vR k i :: st) σ post := ev_getV g ht hi hd (v := vR k' i) (fun _ => rfl) kk
theorem ev_putV {idx k f i : Nat} {t : FL} {v : AV} {σ' : ST} {dsc : String} {ty : FieldType} (g : GP M.1.cls idx k f dsc) (hdsc : parseFieldDescriptor dsc = some ty) (ht : fldT k f = some t) (hi : i < cnt k) (hd : decode M.2.1 pc = .ok (.putfield idx, 3)) (hv : ∀ ad, fv ad σ' k i f t = cv ad v) (hn : ∀ ad, narrow ty (cv ad v) = cv ad v ∧ fits ty (cv ad v) = true)
    (ho : ∀ a b : Nat, ¬ (a = k ∧ b = i) → σ'.1 a b = σ.1 a b ∧ σ'.2 a b = σ.2 a b) (ho2 : ∀ h, h ≠ f → σ'.1 k i h = σ.1 k i h ∧ σ'.2 k i h = σ.2 k i h) (kk : Ev X d M (pc + 3) L st σ' post) : Ev X d M pc L (v :: vR k i :: st) σ post := by
  intro D ad aC p l e R s m args below meth c cells slots A Q C H locs ls w hl
  obtain ⟨q, hq, hf, hlk, hfin, hds⟩ := g
  obtain ⟨ty0, c1, c2, c3, c4⟩ := cls_ok k q hq
  obtain ⟨fs, hkd, hfs, hk⟩ := fldT_kd ht
  obtain ⟨q0, hq0⟩ := wld_pos hk hi
  have he := wld_get (ad := ad) (aC := aC) (σ := σ) hq0
  rw [cel_obj hkd] at he
  refine va_put (C := q.1) (T := q.2.1) (N := q.2.2) (ref := q.1) (D := D) C.1 C.2.1 C.2.2.2.2.1 (fun w hw => gd_t (c1 w hw) (u_good hw)) ty0 c2 c3 C.2.2.2.1 C.2.2.2.2.2.2.1 w.1 w.2.1 w.2.2 q0 he hq f hf (C.2.2.2.2.1 _ hlk) (fun x hx => by rw [← c4 f hf]; exact hx) hfin (ty := ty) (v := cv ad v) (by rw [hds]; exact hdsc) (hn ad).1 (hn ad).2 (by rw [List.length_mapIdx]; exact (List.getElem?_eq_some_iff.mp hfs).1) hd (fun H1 locs1 hP hD hS => ?_)
  have E : (wld ad aC σ).set q0 (ad k i, .inr (k, (fs.mapIdx (fun f t => fv ad σ k i f t)).set f (cv ad v))) = wld ad aC σ' := wld_set hq0 ho (cel_setF hkd hfs (hv ad) ho2)
  rw [E] at hP hD
  exact kk.at C ⟨hP, hD, hS⟩ hl
theorem ev_putI {idx k f i : Nat} {x : Int32} (g : GP M.1.cls idx k f "I") (ht : fldT k f = some fi) (hi : i < cnt k) (hd : decode M.2.1 pc = .ok (.putfield idx, 3)) (kk : Ev X d M (pc + 3) L st (setI σ k i f x) post) : Ev X d M pc L (vI x :: vR k i :: st) σ post :=
  ev_putV g (ty := .int) (by decide +kernel) ht hi hd (v := vI x) (fun _ => by show Value.int _ = Value.int _; rw [setI_at]) (fun _ => ⟨rfl, rfl⟩) (setI_off σ k i f x) (fun h hh => ⟨setI_ne σ k i f x (fun q => hh q.2.2), rfl⟩) kk
theorem nar_fz {x : Int32} (hx : x = 0 ∨ x = 1) : narrow .boolean (.int x) = .int x ∧ fits .boolean (.int x) = true := by rcases hx with rfl | rfl <;> exact ⟨by decide +kernel, by decide +kernel⟩
theorem ev_putZ {idx k f i : Nat} {x : Int32} (g : GP M.1.cls idx k f "Z") (ht : fldT k f = some fz) (hi : i < cnt k) (hd : decode M.2.1 pc = .ok (.putfield idx, 3)) (hx : x = 0 ∨ x = 1) (kk : Ev X d M (pc + 3) L st (setI σ k i f x) post) : Ev X d M pc L (vI x :: vR k i :: st) σ post :=
  ev_putV g (ty := .boolean) (by decide +kernel) ht hi hd (v := vI x) (fun _ => by show Value.int _ = Value.int _; rw [setI_at]) (fun _ => nar_fz hx) (setI_off σ k i f x) (fun h hh => ⟨setI_ne σ k i f x (fun q => hh q.2.2), rfl⟩) kk
theorem ev_putJ {idx k f i : Nat} {x : Int64} (g : GP M.1.cls idx k f "J") (ht : fldT k f = some fj) (hi : i < cnt k) (hd : decode M.2.1 pc = .ok (.putfield idx, 3)) (kk : Ev X d M (pc + 3) L st (setJ σ k i f x) post) : Ev X d M pc L (vJ x :: vR k i :: st) σ post :=
  ev_putV g (ty := .long) (by decide +kernel) ht hi hd (v := vJ x) (fun _ => by show Value.long _ = Value.long _; rw [setJ_at]) (fun _ => ⟨rfl, rfl⟩) (setJ_off σ k i f x) (fun h hh => ⟨rfl, setJ_ne σ k i f x (fun q => hh q.2.2)⟩) kk
-- arrays
theorem ev_iald {k i n k' : Nat} {x : Int32} (ha : arT k = some (0, n, k')) (hk : k < 63) (hi : i < cnt k) (hin : vp_in x n) (hd : decode M.2.1 pc = .ok (.iaload, 1)) (kk : Ev X d M (pc + 1) L (vI (σ.1 k i x.toNatClampNeg) :: st) σ post) : Ev X d M pc L (vI x :: vR k i :: st) σ post := by
  intro D ad aC p l e R s m args below meth c cells slots A Q C H locs ls w hl
  obtain ⟨q0, hq0⟩ := wld_pos hk hi
  have he := wld_get (ad := ad) (aC := aC) (σ := σ) hq0
  rw [cel_arr (arT_kd ha)] at he
  exact va_iald C.1 C.2.1 C.2.2.2.2.2.2.1 w.1 q0 0 he rfl hin hd (kk.at C w hl)
theorem ev_zald {k i n k' : Nat} {x : Int32} (ha : arT k = some (1, n, k')) (hk : k < 63) (hi : i < cnt k) (hin : vp_in x n) (hd : decode M.2.1 pc = .ok (.baload, 1)) (kk : Ev X d M (pc + 1) L (vI (σ.1 k i x.toNatClampNeg) :: st) σ post) : Ev X d M pc L (vI x :: vR k i :: st) σ post := by
  intro D ad aC p l e R s m args below meth c cells slots A Q C H locs ls w hl
  obtain ⟨q0, hq0⟩ := wld_pos hk hi
  have he := wld_get (ad := ad) (aC := aC) (σ := σ) hq0
  rw [cel_arr (arT_kd ha)] at he
  exact va_zald C.1 C.2.1 C.2.2.2.2.2.2.1 w.1 q0 1 he rfl hin hd (kk.at C w hl)
theorem ev_lald {k i n k' : Nat} {x : Int32} (ha : arT k = some (2, n, k')) (hk : k < 63) (hi : i < cnt k) (hin : vp_in x n) (hd : decode M.2.1 pc = .ok (.laload, 1)) (kk : Ev X d M (pc + 1) L (vJ (σ.2 k i x.toNatClampNeg) :: st) σ post) : Ev X d M pc L (vI x :: vR k i :: st) σ post := by
  intro D ad aC p l e R s m args below meth c cells slots A Q C H locs ls w hl
  obtain ⟨q0, hq0⟩ := wld_pos hk hi
  have he := wld_get (ad := ad) (aC := aC) (σ := σ) hq0
  rw [cel_arr (arT_kd ha)] at he
  exact va_lald C.1 C.2.1 C.2.2.2.2.2.2.1 w.1 q0 2 he rfl hin hd (kk.at C w hl)
theorem ev_aald3 {k i n k' : Nat} {x : Int32} (ha : arT k = some (3, n, k')) (hk : k < 63) (hi : i < cnt k) (hin : vp_in x n) (hd : decode M.2.1 pc = .ok (.aaload, 1)) (kk : Ev X d M (pc + 1) L (vR k' x.toNatClampNeg :: st) σ post) : Ev X d M pc L (vI x :: vR k i :: st) σ post := by
  intro D ad aC p l e R s m args below meth c cells slots A Q C H locs ls w hl
  obtain ⟨q0, hq0⟩ := wld_pos hk hi
  have he := wld_get (ad := ad) (aC := aC) (σ := σ) hq0
  rw [cel_arr (arT_kd ha)] at he
  exact va_aldq C.1 C.2.1 C.2.2.2.2.2.2.1 w.1 q0 3 he rfl hin hd (kk.at C w hl)
theorem ev_aald4 {k i n k' : Nat} {x : Int32} (ha : arT k = some (4, n, k')) (hk : k < 63) (hi : i < cnt k) (hin : vp_in x n) (hd : decode M.2.1 pc = .ok (.aaload, 1)) (kk : Ev X d M (pc + 1) L (vR k' x.toNatClampNeg :: st) σ post) : Ev X d M pc L (vI x :: vR k i :: st) σ post := by
  intro D ad aC p l e R s m args below meth c cells slots A Q C H locs ls w hl
  obtain ⟨q0, hq0⟩ := wld_pos hk hi
  have he := wld_get (ad := ad) (aC := aC) (σ := σ) hq0
  rw [cel_arr (arT_kd ha)] at he
  exact va_aldq C.1 C.2.1 C.2.2.2.2.2.2.1 w.1 q0 4 he rfl hin hd (kk.at C w hl)
def setA (σ : ST) (k i : Nat) (g : Nat → Int32) : ST := (fun a b => if a = k ∧ b = i then g else σ.1 a b, σ.2)
theorem setA_at (σ : ST) (k i : Nat) (g : Nat → Int32) : (setA σ k i g).1 k i = g := by simp [setA]
theorem setA_off (σ : ST) (k i : Nat) (g : Nat → Int32) (a b : Nat) (h : ¬ (a = k ∧ b = i)) : (setA σ k i g).1 a b = σ.1 a b ∧ (setA σ k i g).2 a b = σ.2 a b := ⟨by simp only [setA]; rw [if_neg h], rfl⟩
theorem setI_A (σ : ST) (k i f : Nat) (v : Int32) : setI σ k i f v = setA σ k i (upd (σ.1 k i) f v) := by
  unfold setI setA
  congr 1
  funext a b c
  by_cases h : a = k ∧ b = i
  · obtain ⟨rfl, rfl⟩ := h
    simp [upd]
  · rw [if_neg (fun q => h ⟨q.1, q.2.1⟩), if_neg h]
theorem cel_setA {ad : AD} {aC : Nat → ClassId} {σ : ST} {k i t n k' : Nat} {g : Nat → Int32} (h : kd k = .inr (t, n, k')) (ht : t = 0 ∨ t = 1) : cel ad aC (setA σ k i g) k i = .inl (aC t, n, .inl g) := by
  rw [cel_arr h]
  rcases ht with rfl | rfl
  · show Sum.inl (aC 0, n, Sum.inl ((setA σ k i g).1 k i)) = _
    rw [setA_at]
  · show Sum.inl (aC 1, n, Sum.inl ((setA σ k i g).1 k i)) = _
    rw [setA_at]
theorem ev_iast {k i n k' : Nat} {x v : Int32} (ha : arT k = some (0, n, k')) (hk : k < 63) (hi : i < cnt k) (hin : vp_in x n) (hd : decode M.2.1 pc = .ok (.iastore, 1)) (kk : Ev X d M (pc + 1) L st (setI σ k i x.toNatClampNeg v) post) : Ev X d M pc L (vI v :: vI x :: vR k i :: st) σ post := by
  intro D ad aC p l e R s m args below meth c cells slots A Q C H locs ls w hl
  obtain ⟨q0, hq0⟩ := wld_pos hk hi
  have he := wld_get (ad := ad) (aC := aC) (σ := σ) hq0
  rw [cel_arr (arT_kd ha)] at he
  refine va_iast C.1 C.2.1 C.2.2.2.2.2.2.1 w.1 w.2.1 w.2.2 q0 0 he rfl hin hd (fun H1 locs1 hP hD hS => ?_)
  have E : (wld ad aC σ).set q0 (ad k i, .inl (aC 0, n, .inl (upd (σ.1 k i) x.toNatClampNeg v))) = wld ad aC (setI σ k i x.toNatClampNeg v) := by
    rw [setI_A]
    exact wld_set hq0 (setA_off σ k i _) (cel_setA (arT_kd ha) (Or.inl rfl))
  rw [E] at hP hD
  exact kk.at C ⟨hP, hD, hS⟩ hl
theorem nar_z {x : Int32} (hx : x = 0 ∨ x = 1) : vp_nar .boolean x = x := by rcases hx with rfl | rfl <;> decide +kernel
theorem ev_zast {k i n k' : Nat} {x v : Int32} (ha : arT k = some (1, n, k')) (hk : k < 63) (hi : i < cnt k) (hin : vp_in x n) (hv : v = 0 ∨ v = 1) (hd : decode M.2.1 pc = .ok (.bastore, 1)) (kk : Ev X d M (pc + 1) L st (setI σ k i x.toNatClampNeg v) post) : Ev X d M pc L (vI v :: vI x :: vR k i :: st) σ post := by
  intro D ad aC p l e R s m args below meth c cells slots A Q C H locs ls w hl
  obtain ⟨q0, hq0⟩ := wld_pos hk hi
  have he := wld_get (ad := ad) (aC := aC) (σ := σ) hq0
  rw [cel_arr (arT_kd ha)] at he
  refine va_zast C.1 C.2.1 C.2.2.2.2.2.2.1 w.1 w.2.1 w.2.2 q0 1 he rfl hin hd (fun H1 locs1 hP hD hS => ?_)
  rw [nar_z hv] at hP hD
  have E : (wld ad aC σ).set q0 (ad k i, .inl (aC 1, n, .inl (upd (σ.1 k i) x.toNatClampNeg v))) = wld ad aC (setI σ k i x.toNatClampNeg v) := by
    rw [setI_A]
    exact wld_set hq0 (setA_off σ k i _) (cel_setA (arT_kd ha) (Or.inr rfl))
  rw [E] at hP hD
  exact kk.at C ⟨hP, hD, hS⟩ hl
theorem ev_last {k i n k' : Nat} {x : Int32} {v : Int64} (ha : arT k = some (2, n, k')) (hk : k < 63) (hi : i < cnt k) (hin : vp_in x n) (hd : decode M.2.1 pc = .ok (.lastore, 1)) (kk : Ev X d M (pc + 1) L st (setJ σ k i x.toNatClampNeg v) post) : Ev X d M pc L (vJ v :: vI x :: vR k i :: st) σ post := by
  intro D ad aC p l e R s m args below meth c cells slots A Q C H locs ls w hl
  obtain ⟨q0, hq0⟩ := wld_pos hk hi
  have he := wld_get (ad := ad) (aC := aC) (σ := σ) hq0
  rw [cel_arr (arT_kd ha)] at he
  refine va_last C.1 C.2.1 C.2.2.2.2.2.2.1 w.1 w.2.1 w.2.2 q0 2 he rfl hin hd (fun H1 locs1 hP hD hS => ?_)
  have E : (wld ad aC σ).set q0 (ad k i, .inl (aC 2, n, .inr (.inl (vp_updL (σ.2 k i) x.toNatClampNeg v)))) = wld ad aC (setJ σ k i x.toNatClampNeg v) := by
    refine wld_set hq0 (setJ_off σ k i _ v) ?_
    rw [cel_arr (arT_kd ha)]
    show Sum.inl (aC 2, n, Sum.inr (Sum.inl ((setJ σ k i x.toNatClampNeg v).2 k i))) = _
    congr 5
    funext j
    simp [setJ, vp_updL]
  rw [E] at hP hD
  exact kk.at C ⟨hP, hD, hS⟩ hl
def cats (st : List AV) : Nat := (st.map (fun v => match isJ (some (some v)) with | true => 2 | false => 1)).sum
theorem cats_eq (ad : AD) : ∀ st : List AV, ((st.map (cv ad)).map fun v => v.category).sum = cats st
  | [] => rfl
  | v :: st => by
    have ih := cats_eq ad st
    have e : (cv ad v).category = (match isJ (some (some v)) with | true => 2 | false => 1) := by rcases v with x | x | ⟨k, i⟩ <;> rfl
    show (cv ad v).category + ((st.map (cv ad)).map fun v => v.category).sum = (match isJ (some (some v)) with | true => 2 | false => 1) + cats st
    rw [ih, e]
theorem fitInt (x : Int32) : fits .int (.int x) = true := rfl
theorem ev_copy {idx k0 i0 k1 i1 n0 n1 k0' k1' : Nat} {sp dp n : Int32} (hlk : Cond.methodLink M.1.cls idx arraycopyName ∈ lw_gd) (ha0 : arT k0 = some (0, n0, k0')) (hk0 : k0 < 63) (hi0 : i0 < cnt k0) (ha1 : arT k1 = some (0, n1, k1')) (hk1 : k1 < 63) (hi1 : i1 < cnt k1) (h1 : ¬ sp < 0) (h2 : ¬ dp < 0) (h3 : ¬ n < 0) (h4 : sp.toNatClampNeg + n.toNatClampNeg ≤ n0) (h5 : dp.toNatClampNeg + n.toNatClampNeg ≤ n1) (hr : cats st ≤ 8)
    (hd : decode M.2.1 pc = .ok (.invokestatic idx, 3)) (kk : Ev X (d + 1) M (pc + 3) L st (setA σ k1 i1 (va_cpy (σ.1 k0 i0) (σ.1 k1 i1) sp.toNatClampNeg dp.toNatClampNeg n.toNatClampNeg)) post) : Ev X (d + 1) M pc L (vI n :: vI dp :: vR k1 i1 :: vI sp :: vR k0 i0 :: st) σ post := by
  intro D ad aC p l e R s m args below meth c cells slots A Q C H locs ls w hl
  obtain ⟨q0, hq0⟩ := wld_pos hk0 hi0
  have he0 := wld_get (ad := ad) (aC := aC) (σ := σ) hq0
  rw [cel_arr (arT_kd ha0)] at he0
  obtain ⟨q1, hq1⟩ := wld_pos hk1 hi1
  have he1 := wld_get (ad := ad) (aC := aC) (σ := σ) hq1
  rw [cel_arr (arT_kd ha1)] at he1
  have hts := C.2.2.2.2.1
  refine va_copyi C.1 C.2.1 (C.2.2.1.trans hl.1.symm) C.2.2.2.1 (hts _ hlk) (hts _ (by decide +kernel)) (hts _ (by decide +kernel)) (hts _ (by decide +kernel)) C.2.2.2.2.2.2.1 w.1 w.2.1 w.2.2 q0 q1 0 0 he0 he1 rfl rfl rfl h1 h2 h3 h4 h5 (fun _ _ => rfl) ?_ ?_ hd (fun H1 locs1 hP hD hS => ?_)
  · have := C.2.2.2.2.2.2.2.1.1
    omega
  · have h9 := C.2.2.2.2.2.2.2.1.2.1
    rw [cats_eq]
    have h8 : nativeFrameWords "java/lang/System" "arraycopy" 5 + 11 ≤ 40 := by decide +kernel
    omega
  · have E : (wld ad aC σ).set q1 (ad k1 i1, .inl (aC 0, n1, .inl (va_cpy (σ.1 k0 i0) (σ.1 k1 i1) sp.toNatClampNeg dp.toNatClampNeg n.toNatClampNeg))) = wld ad aC (setA σ k1 i1 (va_cpy (σ.1 k0 i0) (σ.1 k1 i1) sp.toNatClampNeg dp.toNatClampNeg n.toNatClampNeg)) :=
      wld_set hq1 (setA_off σ k1 i1 _) (cel_setA (arT_kd ha1) (Or.inl rfl))
    have hP' := hP
    have hD' := hD
    change va_P D cls ((wld ad aC σ).set q1 (ad k1 i1, .inl (aC 0, n1, .inl (va_cpy (σ.1 k0 i0) (σ.1 k1 i1) sp.toNatClampNeg dp.toNatClampNeg n.toNatClampNeg)))) H1 at hP'
    change va_D A ((wld ad aC σ).set q1 (ad k1 i1, .inl (aC 0, n1, .inl (va_cpy (σ.1 k0 i0) (σ.1 k1 i1) sp.toNatClampNeg dp.toNatClampNeg n.toNatClampNeg)))) at hD'
    rw [E] at hP' hD'
    exact kk.at C ⟨hP', hD', hS⟩ hl
-- Math
theorem ev_mmax {idx : Nat} {x y : Int32} (hlk : Cond.methodLink M.1.cls idx Lib.Math.max.name ∈ lw_gd) (hr : cats st ≤ 8) (hd : decode M.2.1 pc = .ok (.invokestatic idx, 3)) (kk : Ev X (d + 1) M (pc + 3) L (vI (imax x y) :: st) σ post) : Ev X (d + 1) M pc L (vI y :: vI x :: st) σ post := by
  intro D ad aC p l e R s m args below meth c cells slots A Q C H locs ls w hl
  have hts := C.2.2.2.2.1
  obtain ⟨f1, f2, f3, f4⟩ := C.2.2.2.2.2.2.2.1
  exact va_mmax C.1 C.2.1 (C.2.2.1.trans hl.1.symm) C.2.2.2.1 (hts _ hlk) (hts _ (by decide +kernel)) (hts _ (by decide +kernel)) (hts _ (by decide +kernel)) (by omega) (by rw [cats_eq]; omega) f3 f4 hd (kk.at C w hl)
theorem ev_mmin {idx : Nat} {x y : Int32} (hlk : Cond.methodLink M.1.cls idx Lib.Math.min.name ∈ lw_gd) (hr : cats st ≤ 8) (hd : decode M.2.1 pc = .ok (.invokestatic idx, 3)) (kk : Ev X (d + 1) M (pc + 3) L (vI (imin x y) :: st) σ post) : Ev X (d + 1) M pc L (vI y :: vI x :: st) σ post := by
  intro D ad aC p l e R s m args below meth c cells slots A Q C H locs ls w hl
  have hts := C.2.2.2.2.1
  obtain ⟨f1, f2, f3, f4⟩ := C.2.2.2.2.2.2.2.1
  exact va_mmin C.1 C.2.1 (C.2.2.1.trans hl.1.symm) C.2.2.2.1 (hts _ hlk) (hts _ (by decide +kernel)) (hts _ (by decide +kernel)) (hts _ (by decide +kernel)) (by omega) (by rw [cats_eq]; omega) f3 f4 hd (kk.at C w hl)
theorem ev_mabs {idx : Nat} {x : Int32} (hlk : Cond.methodLink M.1.cls idx Lib.Math.abs.name ∈ lw_gd) (hr : cats st ≤ 8) (hd : decode M.2.1 pc = .ok (.invokestatic idx, 3)) (kk : Ev X (d + 1) M (pc + 3) L (vI (iabs x) :: st) σ post) : Ev X (d + 1) M pc L (vI x :: st) σ post := by
  intro D ad aC p l e R s m args below meth c cells slots A Q C H locs ls w hl
  have hts := C.2.2.2.2.1
  obtain ⟨f1, f2, f3, f4⟩ := C.2.2.2.2.2.2.2.1
  exact va_mabs C.1 C.2.1 (C.2.2.1.trans hl.1.symm) C.2.2.2.1 (hts _ hlk) (hts _ (by decide +kernel)) (hts _ (by decide +kernel)) (hts _ (by decide +kernel)) (by omega) (by rw [cats_eq]; omega) f3 f4 hd (kk.at C w hl)
-- the script
theorem ev_sld {n : Nat} {xs : Nat → Int32} {x : Int32} (hin : vp_in x n) (hd : decode M.2.1 pc = .ok (.iaload, 1)) (kk : Ev (some (n, xs)) d M (pc + 1) L (vI (xs x.toNatClampNeg) :: st) σ post) : Ev (some (n, xs)) d M pc L (vI x :: vR 63 0 :: st) σ post := by
  intro D ad aC p l e R s m args below meth c cells slots A Q C H locs ls w hl
  obtain ⟨x1, x2, x3⟩ := C.2.2.2.2.2.2.2.2.2.1
  exact va_sld C.1 C.2.1 x1 x2 x3 w.2.2 hin hd (kk.at C w hl)
theorem ev_slen {n : Nat} {xs : Nat → Int32} (hd : decode M.2.1 pc = .ok (.arraylength, 1)) (kk : Ev (some (n, xs)) d M (pc + 1) L (vI (Int32.ofNat n) :: st) σ post) : Ev (some (n, xs)) d M pc L (vR 63 0 :: st) σ post := by
  intro D ad aC p l e R s m args below meth c cells slots A Q C H locs ls w hl
  obtain ⟨x1, x2, x3⟩ := C.2.2.2.2.2.2.2.2.2.1
  exact va_slen C.1 C.2.1 x1 x2 x3 w.2.2 hd (kk.at C w hl)
end EVH
end
section
-- a method's contract out of Ev of its body; the rules of the calls
abbrev rmd (n : Nat) : Room := { frames := n, cells := 0, slots := 0, locals := 64 * n }
abbrev wsM (M : MD) : List Cond := Cond.code M.1 M.2.1 M.2.2.1 M.2.2.2 :: lw_gd
def PcM (D : va_G) (ad : AD) (aC : Nat → ClassId) (as : List AV) (σ : ST) (sz : Nat) : Array Value → State → Prop :=
  va_Pc (as.map (cv ad)) (fun U => U.heap.size = sz ∧ va_P D cls (wld ad aC σ) U.heap ∧ va_K D cls (tys aC) U ∧ va_D (fun _ => True) (wld ad aC σ) ∧ ∀ w ∈ nests, va_Nw w U)
def Qg (D : va_G) (ad : AD) (aC : Nat → ClassId) (post : Option AV → ST → Prop) (A : Nat → Prop) : Array Value → State → Outcome → State → Prop := fun _ st oc t =>
  (∃ (r : Option AV) (σ' : ST), oc = .returned (r.map (cv ad)) ∧ post r σ' ∧ va_P D cls (wld ad aC σ') t.heap ∧ va_D A (wld ad aC σ')) ∧ va_F A st t
/-- what the tables have of a method -/
def MG (M : MD) (n : Nat) : Prop := Cond.code M.1 M.2.1 M.2.2.1 M.2.2.2 ∈ lw_gd ∧ Cond.initialized M.1.cls ∈ lw_gd ∧ plainName M.1.cls = true ∧ (M.1.cls ≠ "java/lang/invoke/MethodHandle" ∧ M.1.cls ≠ "java/lang/invoke/VarHandle" ∧ (parseMethodDescriptor M.1.desc).map (fun d => d.parameters.length) = some n) ∧ M.2.2.1 ≤ 40
def MGv (M : MD) (n : Nat) : Prop := MG M n ∧ Cond.instanceMethod M.1 ∈ lw_gd ∧ Cond.selects M.1.cls M.1 M.1 ∈ lw_gd
def MGs (M : MD) (n : Nat) : Prop := MG M n ∧ Cond.static M.1 ∈ lw_gd
theorem nests_all : ∀ w ∈ nests, ∃ a i x h, w = Cond.methodLinkNest a i x h := by
  intro w hw
  simp only [nests, List.mem_cons, List.not_mem_nil, or_false] at hw
  rcases hw with rfl | rfl | rfl | rfl | rfl <;> exact ⟨_, _, _, _, rfl⟩
set_option maxHeartbeats 1000000 in
theorem met_of_ev {M : MD} {n dd : Nat} {as : List AV} {σ : ST} {post : Option AV → ST → Prop} (hM : MG M n) (hn : (entL as).length ≤ M.2.2.1) (h : Ev none dd M 0 (entP M.2.2.1 as) [] σ post) (l : Launch) (D : va_G) (ad : AD) (aC : Nat → ClassId) (sz : Nat) :
    Met l M.1 (wsM M) (rmd dd) (PcM D ad aC as σ sz) (Qg D ad aC post (va_A (wld ad aC σ) sz)) 0 0 (va_A (wld ad aC σ) sz) := by
  refine Met.ofW (cc := M.2.1) (maxL := M.2.2.1) (ret := M.2.2.2) hM.2.2.1 rfl ?_
  intro p e s m args below meth c s₁ B hml hv
  obtain ⟨rfl, hsz, hP, hK, hD0, hN⟩ := hv
  have hx := B.exec
  have hb := B.bytes
  have hr := B.returns
  have hts := atoms_spec (ws := wsM M) B.pre
  have hown : s.vm.findClass M.1.cls = some m.cls := findClass_of_methodNamed B.named
  have hlocks := B.notSynchronized
  subst hsz
  have hD := hD0.self (sz := s.heap.size)
  rw [lg_entry_eq]
  refine h.at (A := va_A (wld ad aC σ) s.heap.size) (aC := aC) (D := D) ⟨hx, hb, hml, hown, fun w hw => hts w (List.mem_cons_of_mem _ hw), hN, hK, ⟨Nat.le_refl _, Nat.le_refl _, Nat.le_refl _, Nat.le_refl _⟩, fun q hq => Or.inr hq, trivial, ?_⟩ ⟨hP, hD, va_S.rf⟩ (Lc.entry ad as hn)
  intro r σ' H locs ls pc op hp hok hw hdg
  have key : ∀ t : State, t.heap = H → Qg D ad aC post (va_A (wld ad aC σ) s.heap.size) ((as.map (cv ad)).toArray) s (.returned (r.map (cv ad))) t := fun t ht =>
    ⟨⟨r, σ', rfl, hp, by rw [ht]; exact hw.1, hw.2.1⟩, hw.2.2.F ht⟩
  obtain ⟨y, bytes, maxL, ret⟩ := M
  dsimp only at *
  unfold rok at hok
  split at hok
  · subst hok
    exact W.vret hx hb hr (fun t ht _ => key t ht) hw.2.2.2.2 hdg
  · subst hok
    exact W.iret hx hb hr (fun t ht _ => key t ht) hw.2.2.2.2 hdg
  · obtain ⟨rfl, hz⟩ := hok
    exact W.zret hx hb hr (nar_fz hz).1 (fun t ht _ => key t ht) hw.2.2.2.2 hdg
  · subst hok
    exact W.lret hx hb hr (fun t ht _ => key t ht) hw.2.2.2.2 hdg
  · subst hok
    exact W.aret hx hb hr (Or.inl ⟨_, rfl⟩) (Or.inr ⟨_, rfl⟩) (fun t ht _ => key t ht) hw.2.2.2.2 hdg
  · exact hok.elim
section VG
variable {p : Program} {l : Launch} {e : Env} {R : Room} {s : State} {m : MethodId} {args : Array Value} {below : List Frame} {meth : Method} {c : Code} {H : Heap} {locs : List Loc} {cells slots : Nat} {Q : State → Prop}
variable {pc : Nat} {ls : Array Slot} {rest st0 : List Value} {a : Array Value} {A0 A1 : Nat → Prop} {H0 : Heap} {free : Addr → Prop}
theorem vg_call {D : va_G} {ad : AD} {aC : Nat → ClassId} {post : Option AV → ST → Prop} (hr : va_Run p l e R s m args below meth c H locs cells slots 0 0 (F0 m pc ls st0) rest (Qg D ad aC post A1 a) free) (hS : va_S A0 H0 H locs) (hA : ∀ q, A1 q → A0 q) (hf : ∀ q, free q → A0 q)
    (kk : ∀ (r : Option AV) (σ' : ST) (H1 : Heap) (locs1 : List Loc), post r σ' → Wo D ad aC σ' A0 H0 H1 locs1 → W p l e R s m args below meth c H1 locs1 cells slots Q (F0 m (pc + 3) ls ((r.map (cv ad)).toList ++ rest))) : W p l e R s m args below meth c H locs cells slots Q (F0 m pc ls st0) := by
  intro T hT X
  obtain ⟨v, st₀, t, T', L, h0, X', hL, e1, e2, ⟨⟨r, σ', hv, hp, hP, hD⟩, hz, hk⟩, st⟩ := hr T hT X
  cases hv
  rw [h0] at hz hk
  obtain ⟨t2, a1, b1⟩ := kk r σ' T'.heap (locs ++ L) hp ⟨by rw [e1]; exact hP, hD.weaken (fun _ _ _ q => hA _ q), 
    ⟨Nat.le_trans hS.1 (by rw [e1]; exact hz), fun q h1 h2 => by rw [e1, hk q (Nat.lt_of_lt_of_le h1 hS.1) (fun z => h2 (hA q z))]; exact hS.2.1 q h1 h2, fun q hq => by
      rcases List.mem_append.mp hq with h | h
      · exact hS.2.2 q h
      · exact hf _ (hL q h)⟩⟩ T' rfl X'
  exact ⟨t2, st t2 a1, b1⟩
end VG
theorem wld_free {ad : AD} {aC : Nat → ClassId} {σ : ST} {A : Nat → Prop} {H0 H : Heap} {locs : List Loc} (hD : va_D A (wld ad aC σ)) (hS : va_S A H0 H locs) (hA : ∀ q, H0.size ≤ q → A q) : ∀ q, va_A (wld ad aC σ) H.size q → A q := by
  intro q h
  rcases h with ⟨k, e, h⟩ | h
  · exact hD.2 k (q, e) h
  · exact hA q (Nat.le_trans hS.1 h)
theorem pcm_blind {D : va_G} {ad : AD} {aC : Nat → ClassId} {as : List AV} {σ : ST} {sz : Nat} : FrameBlind (PcM D ad aC as σ sz) := by
  intro a U g mk q
  obtain ⟨q0, q1, qP, qK, qD, qN⟩ := q
  exact ⟨q0, q1, qP, va_K.moved (u := U) (U := U.calling g mk a) (Vm.Alike.refl U.vm) qK, qD, fun w hw => by
    obtain ⟨z1, z2, z3, z4, rfl⟩ := nests_all w hw
    exact va_Nw.same (u := U) rfl rfl (qN _ hw)⟩
theorem pcm_at {D : va_G} {ad : AD} {aC : Nat → ClassId} {as : List AV} {σ : ST} {s : State} {H : Heap} {A : Nat → Prop} (hP : va_P D cls (wld ad aC σ) H) (hK : va_K D cls (tys aC) s) (hD : va_D A (wld ad aC σ)) (hN : ∀ w ∈ nests, va_Nw w s) (U : State) (hU : U.heap = H) (hW : s.WarmedH U.vm) : PcM D ad aC as σ H.size ((as.map (cv ad)).toArray) U :=
  ⟨rfl, by rw [hU], by rw [hU]; exact hP, va_K.moved hW.alike hK, hD.weaken (fun _ _ _ _ => trivial), fun w hw => by
    obtain ⟨z1, z2, z3, z4, rfl⟩ := nests_all w hw
    exact va_Nw.warmM hW (hN _ hw)⟩
theorem good_M {M : MD} {n : Nat} (hM : MG M n) : GoodIn lw_gd (wsM M) := by
  intro w hw
  rcases List.mem_cons.mp hw with rfl | h
  · exact good_gd _ hM.1
  · exact good_gd _ h
section EVC
variable {X : SX} {d : Nat} {M M' : MD} {pc : Nat} {L L0 : List (Option AV)} {st stk : List AV} {σ : ST} {post : Option AV → ST → Prop}
set_option maxHeartbeats 1000000 in
theorem ev_callV {idx k i n : Nat} {as : List AV} {q : vw_C} (g : MGv M' n) (hlk : Cond.methodLink M.1.cls idx M'.1 ∈ lw_gd) (hq : cls[k]? = some q) (hqc : q.1 = M'.1.cls) (hk : k < 12) (hi : i < cnt k) (hd : decode M.2.1 pc = .ok (.invokevirtual idx, 3)) (hst : stk = as.reverse ++ vR k i :: st) (hn : as.length = n) (hr : cats st ≤ 8) (hL : entP M'.2.2.1 (vR k i :: as) = L0) (hl0 : (entL (vR k i :: as)).length ≤ M'.2.2.1)
    (h : Ev none d M' 0 L0 [] σ (fun r σ' => Ev X (d + 1) M (pc + 3) L (r.toList ++ st) σ' post)) : Ev X (d + 1) M pc L stk σ post := by
  intro D ad aC p l e R s m args below meth c cells slots A Q C H locs ls w hl
  subst hL
  subst hst
  obtain ⟨f1, f2, f3, f4⟩ := C.2.2.2.2.2.2.2.1
  obtain ⟨gM, gi, gs⟩ := g
  have hmet := met_of_ev gM hl0 h l D ad aC H.size
  have hF := wld_free w.2.1 w.2.2 C.2.2.2.2.2.2.2.2.1
  have hkd : ∃ fs, kd k = .inl (k, fs) := by
    match k, hk with
    | 0, _ => exact ⟨_, rfl⟩
    | 1, _ => exact ⟨_, rfl⟩
    | 2, _ => exact ⟨_, rfl⟩
    | 3, _ => exact ⟨_, rfl⟩
    | 4, _ => exact ⟨_, rfl⟩
    | 5, _ => exact ⟨_, rfl⟩
    | 6, _ => exact ⟨_, rfl⟩
    | 7, _ => exact ⟨_, rfl⟩
    | 8, _ => exact ⟨_, rfl⟩
    | 9, _ => exact ⟨_, rfl⟩
    | 10, _ => exact ⟨_, rfl⟩
    | 11, _ => exact ⟨_, rfl⟩
    | k + 12, h => omega
  obtain ⟨fs, hkd⟩ := hkd
  obtain ⟨q0, hq0⟩ := wld_pos (show k < 63 by omega) hi
  have he := wld_get (ad := ad) (aC := aC) (σ := σ) hq0
  rw [cel_obj hkd] at he
  have hrecv := va_recv C.2.2.2.2.2.2.1 w.1 hq he
  rw [hqc] at hrecv
  have hT : GoodIn lw_gd (wsV M.1.cls idx M'.1.cls M'.1 (wsM M')) := by
    intro z hz
    unfold wsV at hz
    rcases List.mem_append.mp hz with hz | hz
    · simp only [List.mem_cons, List.not_mem_nil, or_false] at hz
      rcases hz with rfl | rfl | rfl | rfl
      · exact good_gd _ hlk
      · exact good_gd _ gi
      · exact good_gd _ gs
      · exact good_gd _ gM.2.1
    · exact good_M gM z hz
  have hrl := gM.2.2.2.2
  refine vg_call (va_runV (As := as.map (cv ad)) (rest := st.map (cv ad)) (nL := M.2.2.1) (Ts := lw_gd) (own := M.1.cls) ⟨C.1, C.2.1, C.2.2.1, C.2.2.2.1, C.2.2.2.2.1⟩ hmet (cwV (C := M'.1.cls) n C.2.2.2.2.1 hT rfl rfl rfl ⟨rfl, gM.2.2.2.1⟩ ⟨f1, ?_⟩) ⟨pcm_blind, hrecv, fun U hU hW => ?_⟩ rfl (by rw [List.length_map]; exact hn) hl.1 ?_ (lv_room (by rw [cats_eq]; exact hr)) hd ⟨f3, f4⟩) w.2.2 hF hF (fun r σ' H1 locs1 hp hw => ?_)
  · show 8 + (M'.2.2.1 + 11) + 64 * d ≤ R.locals
    omega
  · exact pcm_at (as := vR k i :: as) w.1 C.2.2.2.2.2.2.1 w.2.1 C.2.2.2.2.2.1 U hU hW
  · show ((as.reverse ++ vR k i :: st).map (cv ad)) = _
    rw [List.map_append, List.map_cons, List.map_reverse]
    rfl
  · have := hp.at C hw hl
    rw [List.map_append] at this
    cases r <;> exact this
set_option maxHeartbeats 1000000 in
theorem ev_callS {idx n : Nat} {as : List AV} (g : MGs M' n) (hlk : Cond.methodLink M.1.cls idx M'.1 ∈ lw_gd) (hd : decode M.2.1 pc = .ok (.invokestatic idx, 3)) (hst : stk = as.reverse ++ st) (hn : as.length = n) (hr : cats st ≤ 8) (hL : entP M'.2.2.1 as = L0) (hl0 : (entL as).length ≤ M'.2.2.1)
    (h : Ev none d M' 0 L0 [] σ (fun r σ' => Ev X (d + 1) M (pc + 3) L (r.toList ++ st) σ' post)) : Ev X (d + 1) M pc L stk σ post := by
  intro D ad aC p l e R s m args below meth c cells slots A Q C H locs ls w hl
  subst hL
  subst hst
  obtain ⟨f1, f2, f3, f4⟩ := C.2.2.2.2.2.2.2.1
  obtain ⟨gM, gi⟩ := g
  have hmet := met_of_ev gM hl0 h l D ad aC H.size
  have hF := wld_free w.2.1 w.2.2 C.2.2.2.2.2.2.2.2.1
  have hT : GoodIn lw_gd (va_wsS M.1.cls idx M'.1 (wsM M')) := by
    intro z hz
    unfold va_wsS at hz
    rcases List.mem_append.mp hz with hz | hz
    · simp only [List.mem_cons, List.not_mem_nil, or_false] at hz
      rcases hz with rfl | rfl | rfl
      · exact good_gd _ hlk
      · exact good_gd _ gi
      · exact good_gd _ gM.2.1
    · exact good_M gM z hz
  have hrl := gM.2.2.2.2
  refine vg_call (va_runS (As := as.map (cv ad)) (rest := st.map (cv ad)) (nL := M.2.2.1) (Ts := lw_gd) (own := M.1.cls) ⟨C.1, C.2.1, C.2.2.1, C.2.2.2.1, C.2.2.2.2.1⟩ hmet (va_cwS n C.2.2.2.2.1 hT rfl rfl rfl gM.2.2.2.1 ⟨f1, ?_⟩) ⟨pcm_blind, fun U hU hW => ?_⟩ rfl (by rw [List.length_map]; exact hn) hl.1 ?_ (lv_room (by rw [cats_eq]; exact hr)) hd ⟨f3, f4⟩) w.2.2 hF hF (fun r σ' H1 locs1 hp hw => ?_)
  · show 8 + (M'.2.2.1 + 11) + 64 * d ≤ R.locals
    omega
  · exact pcm_at (as := as) w.1 C.2.2.2.2.2.2.1 w.2.1 C.2.2.2.2.2.1 U hU hW
  · show ((as.reverse ++ st).map (cv ad)) = _
    rw [List.map_append, List.map_reverse]
  · have := hp.at C hw hl
    rw [List.map_append] at this
    cases r <;> exact this
set_option maxHeartbeats 1000000 in
theorem ev_callN {idx n : Nat} {as : List AV} {host : String} (g : MGs M' n) (hlk : Cond.methodLinkNest M.1.cls idx M'.1 host ∈ nests) (hd : decode M.2.1 pc = .ok (.invokestatic idx, 3)) (hst : stk = as.reverse ++ st) (hn : as.length = n) (hr : cats st ≤ 8) (hL : entP M'.2.2.1 as = L0) (hl0 : (entL as).length ≤ M'.2.2.1)
    (h : Ev none d M' 0 L0 [] σ (fun r σ' => Ev X (d + 1) M (pc + 3) L (r.toList ++ st) σ' post)) : Ev X (d + 1) M pc L stk σ post := by
  intro D ad aC p l e R s m args below meth c cells slots A Q C H locs ls w hl
  subst hL
  subst hst
  obtain ⟨f1, f2, f3, f4⟩ := C.2.2.2.2.2.2.2.1
  obtain ⟨gM, gi⟩ := g
  have hmet := met_of_ev gM hl0 h l D ad aC H.size
  have hF := wld_free w.2.1 w.2.2 C.2.2.2.2.2.2.2.2.1
  have hrl := gM.2.2.2.2
  refine vg_call (va_runSN (As := as.map (cv ad)) (rest := st.map (cv ad)) (nL := M.2.2.1) (Ts := lw_gd) (own := M.1.cls) ⟨C.1, C.2.1, C.2.2.1, C.2.2.2.1, C.2.2.2.2.1⟩ hmet ⟨va_cnB n C.2.2.2.2.1 (good_M gM) rfl rfl rfl (C.2.2.2.2.2.1 _ hlk) (C.2.2.2.2.1 _ gM.2.1) gM.2.2.2.1 ⟨f1, ?_⟩, C.2.2.2.2.1 _ gi, trivial⟩ ⟨pcm_blind, fun U hU hW => ?_⟩ rfl (by rw [List.length_map]; exact hn) hl.1 ?_ (lv_room (by rw [cats_eq]; exact hr)) hd ⟨f3, f4⟩) w.2.2 hF hF (fun r σ' H1 locs1 hp hw => ?_)
  · show 8 + (M'.2.2.1 + 11) + 64 * d ≤ R.locals
    omega
  · exact pcm_at (as := as) w.1 C.2.2.2.2.2.2.1 w.2.1 C.2.2.2.2.2.1 U hU hW
  · show ((as.reverse ++ st).map (cv ad)) = _
    rw [List.map_append, List.map_reverse]
  · have := hp.at C hw hl
    rw [List.map_append] at this
    cases r <;> exact this
end EVC
end
section
-- the methods, and what the tables have of them (by program: wip/gen/gen_meth.py)
theorem tb {w : Cond} (i : Nat) (h : tables_1[i]? = some w) (hg : goodWord w = true) : w ∈ lw_gd := gd_t (List.mem_of_getElem? h) hg
theorem tbp {w : Cond} (h : w ∈ k2_sels lw_privs) (hg : goodWord w = true) : w ∈ lw_gd := gd_of (List.mem_append_left _ h) hg
theorem ix_lt {x : Int32} {n : Nat} (h : vp_in x n) : x.toNatClampNeg < n := Nat.not_le.mp fun q => h (Or.inr q)
abbrev m_B_init : MD := (⟨"OneBook$Book", "<init>", "()V"⟩, prog_2_method_1_code, 1, none)
abbrev m_B_append : MD := (⟨"OneBook$Book", "append", "(I)Z"⟩, prog_2_method_2_code, 2, some .boolean)
abbrev m_B_clear : MD := (⟨"OneBook$Book", "clear", "()V"⟩, prog_2_method_3_code, 1, none)
abbrev m_B_size : MD := (⟨"OneBook$Book", "size", "()I"⟩, prog_2_method_4_code, 1, some .int)
abbrev m_B_faultPlace : MD := (⟨"OneBook$Book", "faultPlace", "()I"⟩, prog_2_method_5_code, 1, some .int)
abbrev m_B_chapters : MD := (⟨"OneBook$Book", "chapters", "()I"⟩, prog_2_method_6_code, 1, some .int)
abbrev m_B_kindOf : MD := (⟨"OneBook$Book", "kindOf", "(I)I"⟩, prog_2_method_7_code, 2, some .int)
abbrev m_B_linesOf : MD := (⟨"OneBook$Book", "linesOf", "(I)I"⟩, prog_2_method_8_code, 2, some .int)
abbrev m_B_allLines : MD := (⟨"OneBook$Book", "allLines", "()I"⟩, prog_2_method_9_code, 3, some .int)
abbrev m_B_parse : MD := (⟨"OneBook$Book", "parse", "()V"⟩, prog_2_method_10_code, 2, none)
abbrev m_B_findFault : MD := (⟨"OneBook$Book", "findFault", "()I"⟩, prog_2_method_11_code, 2, some .int)
abbrev m_B_goesOn : MD := (⟨"OneBook$Book", "goesOn", "(I)Z"⟩, prog_2_method_12_code, 2, some .boolean)
abbrev m_B_kindAt : MD := (⟨"OneBook$Book", "kindAt", "(I)I"⟩, prog_2_method_13_code, 2, some .int)
abbrev m_B_figureAt : MD := (⟨"OneBook$Book", "figureAt", "(I)I"⟩, prog_2_method_14_code, 3, some .int)
abbrev m_C_init : MD := (⟨"OneBook$Company", "<init>", "(LOneBook$Book;)V"⟩, prog_3_method_1_code, 3, none)
abbrev m_C_person : MD := (⟨"OneBook$Company", "person", "(I)LOneBook$Reader;"⟩, prog_3_method_2_code, 2, some (.object "OneBook$Reader"))
abbrev m_C_chapters : MD := (⟨"OneBook$Company", "chapters", "()I"⟩, prog_3_method_3_code, 1, some .int)
abbrev m_C_kindOf : MD := (⟨"OneBook$Company", "kindOf", "(I)I"⟩, prog_3_method_4_code, 2, some .int)
abbrev m_C_linesOf : MD := (⟨"OneBook$Company", "linesOf", "(I)I"⟩, prog_3_method_5_code, 2, some .int)
abbrev m_C_isSkipped : MD := (⟨"OneBook$Company", "isSkipped", "(I)Z"⟩, prog_3_method_6_code, 2, some .boolean)
abbrev m_C_changeSkip : MD := (⟨"OneBook$Company", "changeSkip", "(IZ)Z"⟩, prog_3_method_7_code, 4, some .boolean)
abbrev m_C_countSkipped : MD := (⟨"OneBook$Company", "countSkipped", "()I"⟩, prog_3_method_8_code, 3, some .int)
abbrev m_C_countLikes : MD := (⟨"OneBook$Company", "countLikes", "()I"⟩, prog_3_method_9_code, 4, some .int)
abbrev m_C_minutes : MD := (⟨"OneBook$Company", "minutes", "(II)I"⟩, prog_3_method_10_code, 3, some .int)
abbrev m_C_minutesAt : MD := (⟨"OneBook$Company", "minutesAt", "(III)I"⟩, prog_3_method_11_code, 5, some .int)
abbrev m_C_together : MD := (⟨"OneBook$Company", "together", "(II)I"⟩, prog_3_method_12_code, 6, some .int)
abbrev m_C_waitOfTwo : MD := (⟨"OneBook$Company", "waitOfTwo", "(II)I"⟩, prog_3_method_13_code, 5, some .int)
abbrev m_E_init : MD := (⟨"OneBook$Evening", "<init>", "(LOneBook$Company;)V"⟩, prog_4_method_1_code, 2, none)
abbrev m_E_sit : MD := (⟨"OneBook$Evening", "sit", "(III)V"⟩, prog_4_method_2_code, 5, none)
abbrev m_E_readOrStop : MD := (⟨"OneBook$Evening", "readOrStop", "(III)V"⟩, prog_4_method_3_code, 6, none)
abbrev m_E_chapters : MD := (⟨"OneBook$Evening", "chapters", "()I"⟩, prog_4_method_4_code, 1, some .int)
abbrev m_E_minute : MD := (⟨"OneBook$Evening", "minute", "()I"⟩, prog_4_method_5_code, 1, some .int)
abbrev m_E_next : MD := (⟨"OneBook$Evening", "next", "()I"⟩, prog_4_method_6_code, 1, some .int)
abbrev m_E_waitOf : MD := (⟨"OneBook$Evening", "waitOf", "(I)I"⟩, prog_4_method_7_code, 2, some .int)
abbrev m_E_workLeft : MD := (⟨"OneBook$Evening", "workLeft", "(I)I"⟩, prog_4_method_8_code, 2, some .int)
abbrev m_D_init : MD := (⟨"OneBook$Moods", "<init>", "(LOneBook$Company;)V"⟩, prog_5_method_1_code, 2, none)
abbrev m_D_chanceBy : MD := (⟨"OneBook$Moods", "chanceBy", "(II)V"⟩, prog_5_method_2_code, 9, none)
abbrev m_D_meanMinutes : MD := (⟨"OneBook$Moods", "meanMinutes", "(I)V"⟩, prog_5_method_3_code, 6, none)
abbrev m_D_casesOf : MD := (⟨"OneBook$Moods", "casesOf", "(I)J"⟩, prog_5_method_4_code, 1, some .long)
abbrev m_D_findOutcomes : MD := (⟨"OneBook$Moods", "findOutcomes", "(II)V"⟩, prog_5_method_5_code, 9, none)
abbrev m_D_addOutcome : MD := (⟨"OneBook$Moods", "addOutcome", "(II)V"⟩, prog_5_method_6_code, 4, none)
abbrev m_D_readOn : MD := (⟨"OneBook$Moods", "readOn", "(I)V"⟩, prog_5_method_7_code, 6, none)
abbrev m_D_reduce : MD := (⟨"OneBook$Moods", "reduce", "(JJ)V"⟩, prog_5_method_8_code, 7, none)
abbrev m_D_commonDivisor : MD := (⟨"OneBook$Moods", "commonDivisor", "(JJ)J"⟩, prog_5_method_9_code, 11, some .long)
abbrev m_D_above : MD := (⟨"OneBook$Moods", "above", "()J"⟩, prog_5_method_10_code, 1, some .long)
abbrev m_D_below : MD := (⟨"OneBook$Moods", "below", "()J"⟩, prog_5_method_11_code, 1, some .long)
abbrev m_P_init : MD := (⟨"OneBook$Plan", "<init>", "(LOneBook$Company;)V"⟩, prog_6_method_1_code, 2, none)
abbrev m_P_search : MD := (⟨"OneBook$Plan", "search", "(IIII)V"⟩, prog_6_method_2_code, 6, none)
abbrev m_P_choose : MD := (⟨"OneBook$Plan", "choose", "(IIIIII)V"⟩, prog_6_method_3_code, 10, none)
abbrev m_P_isNoBetter : MD := (⟨"OneBook$Plan", "isNoBetter", "(III)Z"⟩, prog_6_method_4_code, 5, some .boolean)
abbrev m_P_keep : MD := (⟨"OneBook$Plan", "keep", "(III)V"⟩, prog_6_method_5_code, 4, none)
abbrev m_P_lines : MD := (⟨"OneBook$Plan", "lines", "()I"⟩, prog_6_method_6_code, 1, some .int)
abbrev m_P_waits : MD := (⟨"OneBook$Plan", "waits", "()I"⟩, prog_6_method_7_code, 1, some .int)
abbrev m_P_minutes : MD := (⟨"OneBook$Plan", "minutes", "()I"⟩, prog_6_method_8_code, 1, some .int)
abbrev m_P_wayOf : MD := (⟨"OneBook$Plan", "wayOf", "(I)I"⟩, prog_6_method_9_code, 2, some .int)
abbrev m_R_init : MD := (⟨"OneBook$Reader", "<init>", "()V"⟩, prog_7_method_1_code, 1, none)
abbrev m_R_speedFor : MD := (⟨"OneBook$Reader", "speedFor", "(I)I"⟩, prog_7_method_2_code, 2, some .int)
abbrev m_R_changePace : MD := (⟨"OneBook$Reader", "changePace", "(II)I"⟩, prog_7_method_3_code, 4, some .int)
abbrev m_R_likes : MD := (⟨"OneBook$Reader", "likes", "(I)Z"⟩, prog_7_method_4_code, 2, some .boolean)
abbrev m_R_changeLike : MD := (⟨"OneBook$Reader", "changeLike", "(IZ)Z"⟩, prog_7_method_5_code, 4, some .boolean)
abbrev m_R_work : MD := (⟨"OneBook$Reader", "work", "()I"⟩, prog_7_method_6_code, 1, some .int)
abbrev m_R_joy : MD := (⟨"OneBook$Reader", "joy", "()I"⟩, prog_7_method_7_code, 1, some .int)
abbrev m_R_mood : MD := (⟨"OneBook$Reader", "mood", "()I"⟩, prog_7_method_8_code, 1, some .int)
abbrev m_R_changeTrait : MD := (⟨"OneBook$Reader", "changeTrait", "(II)I"⟩, prog_7_method_9_code, 4, some .int)
abbrev m_T_init : MD := (⟨"OneBook$Seating", "<init>", "(LOneBook$Company;)V"⟩, prog_8_method_1_code, 2, none)
abbrev m_T_seat : MD := (⟨"OneBook$Seating", "seat", "(I)V"⟩, prog_8_method_2_code, 5, none)
abbrev m_T_leastPartner : MD := (⟨"OneBook$Seating", "leastPartner", "(II)I"⟩, prog_8_method_3_code, 5, some .int)
abbrev m_T_leastOf : MD := (⟨"OneBook$Seating", "leastOf", "(I)I"⟩, prog_8_method_4_code, 2, some .int)
abbrev m_T_waitWith : MD := (⟨"OneBook$Seating", "waitWith", "(III)I"⟩, prog_8_method_5_code, 4, some .int)
abbrev m_T_without : MD := (⟨"OneBook$Seating", "without", "(III)I"⟩, prog_8_method_6_code, 3, some .int)
abbrev m_T_minutes : MD := (⟨"OneBook$Seating", "minutes", "()I"⟩, prog_8_method_7_code, 1, some .int)
abbrev m_T_partnerOf : MD := (⟨"OneBook$Seating", "partnerOf", "(I)I"⟩, prog_8_method_8_code, 2, some .int)
abbrev m_S_init : MD := (⟨"OneBook$Seeming", "<init>", "(LOneBook$Company;)V"⟩, prog_9_method_1_code, 2, none)
abbrev m_S_gainOf : MD := (⟨"OneBook$Seeming", "gainOf", "(IIII)I"⟩, prog_9_method_2_code, 9, some .int)
abbrev m_S_findRests : MD := (⟨"OneBook$Seeming", "findRests", "(II)V"⟩, prog_9_method_3_code, 4, none)
abbrev m_S_isRest : MD := (⟨"OneBook$Seeming", "isRest", "(II)Z"⟩, prog_9_method_4_code, 5, some .boolean)
abbrev m_S_restCount : MD := (⟨"OneBook$Seeming", "restCount", "()I"⟩, prog_9_method_5_code, 1, some .int)
abbrev m_S_restAt : MD := (⟨"OneBook$Seeming", "restAt", "(I)I"⟩, prog_9_method_6_code, 2, some .int)
abbrev m_H_init : MD := (⟨"OneBook$Sheet", "<init>", "()V"⟩, prog_10_method_1_code, 1, none)
abbrev m_H_renew : MD := (⟨"OneBook$Sheet", "renew", "(II)V"⟩, prog_10_method_2_code, 4, none)
abbrev m_H_drop : MD := (⟨"OneBook$Sheet", "drop", "()V"⟩, prog_10_method_3_code, 1, none)
abbrev m_H_isLost : MD := (⟨"OneBook$Sheet", "isLost", "()Z"⟩, prog_10_method_4_code, 1, some .boolean)
abbrev m_H_form : MD := (⟨"OneBook$Sheet", "form", "()I"⟩, prog_10_method_5_code, 1, some .int)
abbrev m_H_size : MD := (⟨"OneBook$Sheet", "size", "()I"⟩, prog_10_method_6_code, 1, some .int)
abbrev m_H_spans : MD := (⟨"OneBook$Sheet", "spans", "(II)Z"⟩, prog_10_method_7_code, 3, some .boolean)
abbrev m_H_item : MD := (⟨"OneBook$Sheet", "item", "(I)I"⟩, prog_10_method_8_code, 2, some .int)
abbrev m_H_put : MD := (⟨"OneBook$Sheet", "put", "(II)V"⟩, prog_10_method_9_code, 3, none)
abbrev m_H_narrow : MD := (⟨"OneBook$Sheet", "narrow", "(I)I"⟩, prog_10_method_10_code, 2, some .int)
abbrev m_H_takeFrom : MD := (⟨"OneBook$Sheet", "takeFrom", "(LOneBook$Sheet;III)V"⟩, prog_10_method_11_code, 5, none)
abbrev m_U_init : MD := (⟨"OneBook$Turns", "<init>", "(LOneBook$Company;)V"⟩, prog_11_method_1_code, 2, none)
abbrev m_U_append : MD := (⟨"OneBook$Turns", "append", "(III)Z"⟩, prog_11_method_2_code, 4, some .boolean)
abbrev m_U_clear : MD := (⟨"OneBook$Turns", "clear", "()V"⟩, prog_11_method_3_code, 1, none)
abbrev m_U_size : MD := (⟨"OneBook$Turns", "size", "()I"⟩, prog_11_method_4_code, 1, some .int)
abbrev m_U_countUnlike : MD := (⟨"OneBook$Turns", "countUnlike", "()I"⟩, prog_11_method_5_code, 3, some .int)
abbrev m_U_fittingPaces : MD := (⟨"OneBook$Turns", "fittingPaces", "(II)I"⟩, prog_11_method_6_code, 5, some .int)
abbrev m_U_fitsAll : MD := (⟨"OneBook$Turns", "fitsAll", "(III)Z"⟩, prog_11_method_7_code, 7, some .boolean)
abbrev m_U_isThere : MD := (⟨"OneBook$Turns", "isThere", "(I)Z"⟩, prog_11_method_8_code, 2, some .boolean)
abbrev m_U_tellsOf : MD := (⟨"OneBook$Turns", "tellsOf", "(III)Z"⟩, prog_11_method_9_code, 4, some .boolean)
abbrev m_O_init : MD := (⟨"OneBook", "<init>", "()V"⟩, prog_1_method_1_code, 2, none)
abbrev m_O_type : MD := (⟨"OneBook", "type", "(I)I"⟩, prog_1_method_2_code, 2, some .int)
abbrev m_O_wipe : MD := (⟨"OneBook", "wipe", "()I"⟩, prog_1_method_3_code, 2, some .int)
abbrev m_O_fault : MD := (⟨"OneBook", "fault", "()I"⟩, prog_1_method_4_code, 1, some .int)
abbrev m_O_chapter : MD := (⟨"OneBook", "chapter", "(II)I"⟩, prog_1_method_5_code, 3, some .int)
abbrev m_O_pace : MD := (⟨"OneBook", "pace", "(III)I"⟩, prog_1_method_6_code, 4, some .int)
abbrev m_O_read : MD := (⟨"OneBook", "read", "(II)I"⟩, prog_1_method_7_code, 6, some .int)
abbrev m_O_like : MD := (⟨"OneBook", "like", "(III)I"⟩, prog_1_method_8_code, 4, some .int)
abbrev m_O_skip : MD := (⟨"OneBook", "skip", "(II)I"⟩, prog_1_method_9_code, 3, some .int)
abbrev m_O_reader : MD := (⟨"OneBook", "reader", "(III)I"⟩, prog_1_method_10_code, 4, some .int)
abbrev m_O_set : MD := (⟨"OneBook", "set", "(II)I"⟩, prog_1_method_11_code, 4, some .int)
abbrev m_O_time : MD := (⟨"OneBook", "time", "(II)I"⟩, prog_1_method_12_code, 3, some .int)
abbrev m_O_evening : MD := (⟨"OneBook", "evening", "(III)I"⟩, prog_1_method_13_code, 4, some .int)
abbrev m_O_waited : MD := (⟨"OneBook", "waited", "(IIII)I"⟩, prog_1_method_14_code, 5, some .int)
abbrev m_O_best : MD := (⟨"OneBook", "best", "(III)I"⟩, prog_1_method_15_code, 4, some .int)
abbrev m_O_how : MD := (⟨"OneBook", "how", "(III)I"⟩, prog_1_method_16_code, 4, some .int)
abbrev m_O_gain : MD := (⟨"OneBook", "gain", "(IIII)I"⟩, prog_1_method_17_code, 5, some .int)
abbrev m_O_rests : MD := (⟨"OneBook", "rests", "(III)I"⟩, prog_1_method_18_code, 4, some .int)
abbrev m_O_pairs : MD := (⟨"OneBook", "pairs", "(II)I"⟩, prog_1_method_19_code, 3, some .int)
abbrev m_O_turn : MD := (⟨"OneBook", "turn", "(III)I"⟩, prog_1_method_20_code, 4, some .int)
abbrev m_O_forget : MD := (⟨"OneBook", "forget", "()I"⟩, prog_1_method_21_code, 2, some .int)
abbrev m_O_paces : MD := (⟨"OneBook", "paces", "(II)I"⟩, prog_1_method_22_code, 3, some .int)
abbrev m_O_unlike : MD := (⟨"OneBook", "unlike", "()I"⟩, prog_1_method_23_code, 1, some .int)
abbrev m_O_done : MD := (⟨"OneBook", "done", "(III)J"⟩, prog_1_method_24_code, 4, some .long)
abbrev m_O_mean : MD := (⟨"OneBook", "mean", "(II)J"⟩, prog_1_method_25_code, 3, some .long)
abbrev m_O_sheet : MD := (⟨"OneBook", "sheet", "(III)I"⟩, prog_1_method_26_code, 4, some .int)
abbrev m_O_lose : MD := (⟨"OneBook", "lose", "(I)I"⟩, prog_1_method_27_code, 3, some .int)
abbrev m_O_lay : MD := (⟨"OneBook", "lay", "(IIII)I"⟩, prog_1_method_28_code, 6, some .int)
abbrev m_O_get : MD := (⟨"OneBook", "get", "(III)I"⟩, prog_1_method_29_code, 5, some .int)
abbrev m_O_copy : MD := (⟨"OneBook", "copy", "(IIIII)I"⟩, prog_1_method_30_code, 8, some .int)
abbrev m_O_write : MD := (⟨"OneBook", "write", "(II)I"⟩, prog_1_method_31_code, 6, some .int)
abbrev m_O_count : MD := (⟨"OneBook", "count", "(I)I"⟩, prog_1_method_32_code, 2, some .int)
abbrev m_O_digest : MD := (⟨"OneBook", "digest", "()J"⟩, prog_1_method_33_code, 4, some .long)
abbrev m_O_mix : MD := (⟨"OneBook", "mix", "(JJ)J"⟩, prog_1_method_34_code, 4, some .long)
abbrev m_O_mixChapter : MD := (⟨"OneBook", "mixChapter", "(JI)J"⟩, prog_1_method_35_code, 7, some .long)
abbrev m_O_mixPlan : MD := (⟨"OneBook", "mixPlan", "(J)J"⟩, prog_1_method_36_code, 5, some .long)
abbrev m_O_mixSeeming : MD := (⟨"OneBook", "mixSeeming", "(J)J"⟩, prog_1_method_37_code, 5, some .long)
abbrev m_O_mixSeats : MD := (⟨"OneBook", "mixSeats", "(J)J"⟩, prog_1_method_38_code, 7, some .long)
abbrev m_O_mixMoods : MD := (⟨"OneBook", "mixMoods", "(J)J"⟩, prog_1_method_39_code, 5, some .long)
abbrev m_O_within : MD := (⟨"OneBook", "within", "(III)Z"⟩, prog_1_method_40_code, 3, some .boolean)
abbrev m_O_isReader : MD := (⟨"OneBook", "isReader", "(I)Z"⟩, prog_1_method_41_code, 1, some .boolean)
abbrev m_O_areTwo : MD := (⟨"OneBook", "areTwo", "(II)Z"⟩, prog_1_method_42_code, 2, some .boolean)
abbrev m_O_isCompany : MD := (⟨"OneBook", "isCompany", "(I)Z"⟩, prog_1_method_43_code, 1, some .boolean)
abbrev m_O_holds : MD := (⟨"OneBook", "holds", "(II)Z"⟩, prog_1_method_44_code, 2, some .boolean)
abbrev m_O_isKind : MD := (⟨"OneBook", "isKind", "(I)Z"⟩, prog_1_method_45_code, 1, some .boolean)
abbrev m_O_isSheet : MD := (⟨"OneBook", "isSheet", "(I)Z"⟩, prog_1_method_46_code, 1, some .boolean)
abbrev m_O_isForm : MD := (⟨"OneBook", "isForm", "(I)Z"⟩, prog_1_method_47_code, 1, some .boolean)
abbrev m_O_isChapter : MD := (⟨"OneBook", "isChapter", "(I)Z"⟩, prog_1_method_48_code, 2, some .boolean)
abbrev m_O_mostOfTrait : MD := (⟨"OneBook", "mostOfTrait", "(I)I"⟩, prog_1_method_49_code, 1, some .int)
abbrev m_O_asNumber : MD := (⟨"OneBook", "asNumber", "(Z)I"⟩, prog_1_method_50_code, 1, some .int)
abbrev m_O_refusedLong : MD := (⟨"OneBook", "refusedLong", "(I)J"⟩, prog_1_method_51_code, 1, some .long)
abbrev m_O_found : MD := (⟨"OneBook", "found", "(I)I"⟩, prog_1_method_52_code, 2, some .int)
abbrev m_O_findingAt : MD := (⟨"OneBook", "findingAt", "(LOneBook$Sheet;II)I"⟩, prog_1_method_53_code, 3, some .int)
abbrev m_M_init : MD := (⟨"OneBookModel", "<init>", "()V"⟩, prog_13_method_1_code, 2, none)
abbrev m_M_in : MD := (⟨"OneBookModel", "in", "(JJJ)Z"⟩, prog_13_method_3_code, 6, some .boolean)
abbrev m_M_no : MD := (⟨"OneBookModel", "no", "(I)J"⟩, prog_13_method_4_code, 1, some .long)
abbrev m_M_isTwo : MD := (⟨"OneBookModel", "isTwo", "(I)Z"⟩, prog_13_method_5_code, 1, some .boolean)
abbrev m_M_isIn : MD := (⟨"OneBookModel", "isIn", "(II)Z"⟩, prog_13_method_6_code, 2, some .boolean)
abbrev m_M_ones : MD := (⟨"OneBookModel", "ones", "(I)I"⟩, prog_13_method_7_code, 3, some .int)
abbrev m_M_met : MD := (⟨"OneBookModel", "met", "(I)I"⟩, prog_13_method_8_code, 2, some .int)
abbrev m_M_isSheet : MD := (⟨"OneBookModel", "isSheet", "(I)Z"⟩, prog_13_method_9_code, 1, some .boolean)
abbrev m_M_sheet : MD := (⟨"OneBookModel", "sheet", "(III)I"⟩, prog_13_method_10_code, 5, some .int)
abbrev m_M_lose : MD := (⟨"OneBookModel", "lose", "(I)I"⟩, prog_13_method_11_code, 2, some .int)
abbrev m_M_lacks : MD := (⟨"OneBookModel", "lacks", "(III)I"⟩, prog_13_method_12_code, 4, some .int)
abbrev m_M_cut : MD := (⟨"OneBookModel", "cut", "(II)I"⟩, prog_13_method_13_code, 2, some .int)
abbrev m_M_lay : MD := (⟨"OneBookModel", "lay", "(IIII)I"⟩, prog_13_method_14_code, 6, some .int)
abbrev m_M_get : MD := (⟨"OneBookModel", "get", "(III)I"⟩, prog_13_method_15_code, 4, some .int)
abbrev m_M_copy : MD := (⟨"OneBookModel", "copy", "(IIIII)I"⟩, prog_13_method_16_code, 7, some .int)
abbrev m_M_type : MD := (⟨"OneBookModel", "type", "(I)I"⟩, prog_13_method_17_code, 2, some .int)
abbrev m_M_wipe : MD := (⟨"OneBookModel", "wipe", "()I"⟩, prog_13_method_18_code, 2, some .int)
abbrev m_M_here : MD := (⟨"OneBookModel", "here", "()I"⟩, prog_13_method_19_code, 1, some .int)
abbrev m_M_none : MD := (⟨"OneBookModel", "none", "()I"⟩, prog_13_method_20_code, 1, some .int)
abbrev m_M_readsPart : MD := (⟨"OneBookModel", "readsPart", "()Z"⟩, prog_13_method_21_code, 5, some .boolean)
abbrev m_M_reads : MD := (⟨"OneBookModel", "reads", "()I"⟩, prog_13_method_22_code, 2, some .int)
abbrev m_M_fault : MD := (⟨"OneBookModel", "fault", "()I"⟩, prog_13_method_23_code, 1, some .int)
abbrev m_M_isChapter : MD := (⟨"OneBookModel", "isChapter", "(I)Z"⟩, prog_13_method_24_code, 2, some .boolean)
abbrev m_M_isAnyChapter : MD := (⟨"OneBookModel", "isAnyChapter", "(I)Z"⟩, prog_13_method_25_code, 1, some .boolean)
abbrev m_M_isReader : MD := (⟨"OneBookModel", "isReader", "(I)Z"⟩, prog_13_method_26_code, 1, some .boolean)
abbrev m_M_isSome : MD := (⟨"OneBookModel", "isSome", "(I)Z"⟩, prog_13_method_27_code, 1, some .boolean)
abbrev m_M_chapterOf : MD := (⟨"OneBookModel", "chapterOf", "(II)I"⟩, prog_13_method_28_code, 3, some .int)
abbrev m_M_chapter : MD := (⟨"OneBookModel", "chapter", "(II)I"⟩, prog_13_method_29_code, 3, some .int)
abbrev m_M_pace : MD := (⟨"OneBookModel", "pace", "(III)I"⟩, prog_13_method_30_code, 5, some .int)
abbrev m_M_read : MD := (⟨"OneBookModel", "read", "(II)I"⟩, prog_13_method_31_code, 4, some .int)
abbrev m_M_like : MD := (⟨"OneBookModel", "like", "(III)I"⟩, prog_13_method_32_code, 5, some .int)
abbrev m_M_skip : MD := (⟨"OneBookModel", "skip", "(II)I"⟩, prog_13_method_33_code, 4, some .int)
abbrev m_M_reader : MD := (⟨"OneBookModel", "reader", "(III)I"⟩, prog_13_method_34_code, 5, some .int)
abbrev m_M_set : MD := (⟨"OneBookModel", "set", "(II)I"⟩, prog_13_method_35_code, 4, some .int)
abbrev m_M_timeBy : MD := (⟨"OneBookModel", "timeBy", "(III)I"⟩, prog_13_method_36_code, 5, some .int)
abbrev m_M_timeOf : MD := (⟨"OneBookModel", "timeOf", "(II)I"⟩, prog_13_method_37_code, 3, some .int)
abbrev m_M_time : MD := (⟨"OneBookModel", "time", "(II)I"⟩, prog_13_method_38_code, 3, some .int)
abbrev m_M_together : MD := (⟨"OneBookModel", "together", "(II)I"⟩, prog_13_method_39_code, 6, some .int)
abbrev m_M_isRead : MD := (⟨"OneBookModel", "isRead", "(I)Z"⟩, prog_13_method_40_code, 2, some .boolean)
abbrev m_M_findEvening : MD := (⟨"OneBookModel", "findEvening", "(II)V"⟩, prog_13_method_41_code, 6, none)
abbrev m_M_eveningOf : MD := (⟨"OneBookModel", "eveningOf", "(III)I"⟩, prog_13_method_42_code, 4, some .int)
abbrev m_M_evening : MD := (⟨"OneBookModel", "evening", "(III)I"⟩, prog_13_method_43_code, 4, some .int)
abbrev m_M_waitedOf : MD := (⟨"OneBookModel", "waitedOf", "(IIII)I"⟩, prog_13_method_44_code, 6, some .int)
abbrev m_M_waited : MD := (⟨"OneBookModel", "waited", "(IIII)I"⟩, prog_13_method_45_code, 6, some .int)
abbrev m_M_amount : MD := (⟨"OneBookModel", "amount", "(I)I"⟩, prog_13_method_46_code, 1, some .int)
abbrev m_M_tries : MD := (⟨"OneBookModel", "tries", "(II)V"⟩, prog_13_method_47_code, 11, none)
abbrev m_M_findBest : MD := (⟨"OneBookModel", "findBest", "(II)V"⟩, prog_13_method_48_code, 8, none)
abbrev m_M_areTwo : MD := (⟨"OneBookModel", "areTwo", "(II)Z"⟩, prog_13_method_49_code, 2, some .boolean)
abbrev m_M_bestOf : MD := (⟨"OneBookModel", "bestOf", "(I)I"⟩, prog_13_method_50_code, 2, some .int)
abbrev m_M_best : MD := (⟨"OneBookModel", "best", "(III)I"⟩, prog_13_method_51_code, 4, some .int)
abbrev m_M_how : MD := (⟨"OneBookModel", "how", "(III)I"⟩, prog_13_method_52_code, 4, some .int)
abbrev m_M_isSlow : MD := (⟨"OneBookModel", "isSlow", "(I)Z"⟩, prog_13_method_53_code, 1, some .boolean)
abbrev m_M_gainOf : MD := (⟨"OneBookModel", "gainOf", "(IIII)I"⟩, prog_13_method_54_code, 8, some .int)
abbrev m_M_gain : MD := (⟨"OneBookModel", "gain", "(IIII)I"⟩, prog_13_method_55_code, 5, some .int)
abbrev m_M_isRest : MD := (⟨"OneBookModel", "isRest", "(IIII)Z"⟩, prog_13_method_56_code, 7, some .boolean)
abbrev m_M_restsOf : MD := (⟨"OneBookModel", "restsOf", "(III)I"⟩, prog_13_method_57_code, 6, some .int)
abbrev m_M_rests : MD := (⟨"OneBookModel", "rests", "(III)I"⟩, prog_13_method_58_code, 4, some .int)
abbrev m_M_apart : MD := (⟨"OneBookModel", "apart", "(II)I"⟩, prog_13_method_59_code, 5, some .int)
abbrev m_M_first : MD := (⟨"OneBookModel", "first", "(I)I"⟩, prog_13_method_60_code, 2, some .int)
abbrev m_M_findPairs : MD := (⟨"OneBookModel", "findPairs", "()V"⟩, prog_13_method_61_code, 6, none)
abbrev m_M_pairsOf : MD := (⟨"OneBookModel", "pairsOf", "(II)I"⟩, prog_13_method_62_code, 6, some .int)
abbrev m_M_pairs : MD := (⟨"OneBookModel", "pairs", "(II)I"⟩, prog_13_method_63_code, 3, some .int)
abbrev m_M_turn : MD := (⟨"OneBookModel", "turn", "(III)I"⟩, prog_13_method_64_code, 4, some .int)
abbrev m_M_forget : MD := (⟨"OneBookModel", "forget", "()I"⟩, prog_13_method_65_code, 2, some .int)
abbrev m_M_pacesOf : MD := (⟨"OneBookModel", "pacesOf", "(II)I"⟩, prog_13_method_66_code, 11, some .int)
abbrev m_M_paces : MD := (⟨"OneBookModel", "paces", "(II)I"⟩, prog_13_method_67_code, 3, some .int)
abbrev m_M_unlikeNow : MD := (⟨"OneBookModel", "unlikeNow", "()I"⟩, prog_13_method_68_code, 4, some .int)
abbrev m_M_unlike : MD := (⟨"OneBookModel", "unlike", "()I"⟩, prog_13_method_69_code, 1, some .int)
abbrev m_M_quarters : MD := (⟨"OneBookModel", "quarters", "(II)J"⟩, prog_13_method_70_code, 6, some .long)
abbrev m_M_togetherSo : MD := (⟨"OneBookModel", "togetherSo", "(III)I"⟩, prog_13_method_71_code, 7, some .int)
abbrev m_M_findMinutes : MD := (⟨"OneBookModel", "findMinutes", "(I)V"⟩, prog_13_method_72_code, 8, none)
abbrev m_M_part : MD := (⟨"OneBookModel", "part", "(JJI)J"⟩, prog_13_method_73_code, 11, some .long)
abbrev m_M_doneOf : MD := (⟨"OneBookModel", "doneOf", "(III)J"⟩, prog_13_method_74_code, 7, some .long)
abbrev m_M_done : MD := (⟨"OneBookModel", "done", "(III)J"⟩, prog_13_method_75_code, 4, some .long)
abbrev m_M_meanOf : MD := (⟨"OneBookModel", "meanOf", "(II)J"⟩, prog_13_method_76_code, 7, some .long)
abbrev m_M_mean : MD := (⟨"OneBookModel", "mean", "(II)J"⟩, prog_13_method_77_code, 3, some .long)
abbrev m_M_write : MD := (⟨"OneBookModel", "write", "(II)I"⟩, prog_13_method_78_code, 5, some .int)
abbrev m_M_count : MD := (⟨"OneBookModel", "count", "(I)I"⟩, prog_13_method_79_code, 4, some .int)
abbrev m_M_digest : MD := (⟨"OneBookModel", "digest", "()J"⟩, prog_13_method_80_code, 5, some .long)
abbrev m_J_bitCount : MD := (⟨"java/lang/Integer", "bitCount", "(I)I"⟩, prog_14_method_49_code, 1, some .int)
theorem g_B_append : MGv m_B_append 1 := ⟨⟨tb 314 (by decide +kernel) rfl, tb 2 (by decide +kernel) rfl, by decide +kernel, ⟨by decide +kernel, by decide +kernel, by decide +kernel⟩, by decide⟩, tb 312 (by decide +kernel) rfl, tb 313 (by decide +kernel) rfl⟩
theorem g_B_clear : MGv m_B_clear 0 := ⟨⟨tb 346 (by decide +kernel) rfl, tb 2 (by decide +kernel) rfl, by decide +kernel, ⟨by decide +kernel, by decide +kernel, by decide +kernel⟩, by decide⟩, tb 344 (by decide +kernel) rfl, tb 345 (by decide +kernel) rfl⟩
theorem g_B_size : MGv m_B_size 0 := ⟨⟨tb 338 (by decide +kernel) rfl, tb 2 (by decide +kernel) rfl, by decide +kernel, ⟨by decide +kernel, by decide +kernel, by decide +kernel⟩, by decide⟩, tb 336 (by decide +kernel) rfl, tb 337 (by decide +kernel) rfl⟩
theorem g_B_faultPlace : MGv m_B_faultPlace 0 := ⟨⟨tb 354 (by decide +kernel) rfl, tb 2 (by decide +kernel) rfl, by decide +kernel, ⟨by decide +kernel, by decide +kernel, by decide +kernel⟩, by decide⟩, tb 352 (by decide +kernel) rfl, tb 353 (by decide +kernel) rfl⟩
theorem g_B_chapters : MGv m_B_chapters 0 := ⟨⟨tb 366 (by decide +kernel) rfl, tb 2 (by decide +kernel) rfl, by decide +kernel, ⟨by decide +kernel, by decide +kernel, by decide +kernel⟩, by decide⟩, tb 364 (by decide +kernel) rfl, tb 365 (by decide +kernel) rfl⟩
theorem g_B_kindOf : MGv m_B_kindOf 1 := ⟨⟨tb 370 (by decide +kernel) rfl, tb 2 (by decide +kernel) rfl, by decide +kernel, ⟨by decide +kernel, by decide +kernel, by decide +kernel⟩, by decide⟩, tb 368 (by decide +kernel) rfl, tb 369 (by decide +kernel) rfl⟩
theorem g_B_linesOf : MGv m_B_linesOf 1 := ⟨⟨tb 374 (by decide +kernel) rfl, tb 2 (by decide +kernel) rfl, by decide +kernel, ⟨by decide +kernel, by decide +kernel, by decide +kernel⟩, by decide⟩, tb 372 (by decide +kernel) rfl, tb 373 (by decide +kernel) rfl⟩
theorem g_B_allLines : MGv m_B_allLines 0 := ⟨⟨tb 868 (by decide +kernel) rfl, tb 2 (by decide +kernel) rfl, by decide +kernel, ⟨by decide +kernel, by decide +kernel, by decide +kernel⟩, by decide⟩, tb 866 (by decide +kernel) rfl, tb 867 (by decide +kernel) rfl⟩
theorem g_B_parse : MGv m_B_parse 0 := ⟨⟨tb 318 (by decide +kernel) rfl, tb 2 (by decide +kernel) rfl, by decide +kernel, ⟨by decide +kernel, by decide +kernel, by decide +kernel⟩, by decide⟩, tb 317 (by decide +kernel) rfl, tbp (by decide +kernel) rfl⟩
theorem g_B_findFault : MGv m_B_findFault 0 := ⟨⟨tb 322 (by decide +kernel) rfl, tb 2 (by decide +kernel) rfl, by decide +kernel, ⟨by decide +kernel, by decide +kernel, by decide +kernel⟩, by decide⟩, tb 321 (by decide +kernel) rfl, tbp (by decide +kernel) rfl⟩
theorem g_B_goesOn : MGv m_B_goesOn 1 := ⟨⟨tb 326 (by decide +kernel) rfl, tb 2 (by decide +kernel) rfl, by decide +kernel, ⟨by decide +kernel, by decide +kernel, by decide +kernel⟩, by decide⟩, tb 325 (by decide +kernel) rfl, tbp (by decide +kernel) rfl⟩
theorem g_B_kindAt : MGv m_B_kindAt 1 := ⟨⟨tb 330 (by decide +kernel) rfl, tb 2 (by decide +kernel) rfl, by decide +kernel, ⟨by decide +kernel, by decide +kernel, by decide +kernel⟩, by decide⟩, tb 329 (by decide +kernel) rfl, tbp (by decide +kernel) rfl⟩
theorem g_B_figureAt : MGv m_B_figureAt 1 := ⟨⟨tb 334 (by decide +kernel) rfl, tb 2 (by decide +kernel) rfl, by decide +kernel, ⟨by decide +kernel, by decide +kernel, by decide +kernel⟩, by decide⟩, tb 333 (by decide +kernel) rfl, tbp (by decide +kernel) rfl⟩
theorem g_C_person : MGv m_C_person 1 := ⟨⟨tb 395 (by decide +kernel) rfl, tb 3 (by decide +kernel) rfl, by decide +kernel, ⟨by decide +kernel, by decide +kernel, by decide +kernel⟩, by decide⟩, tb 393 (by decide +kernel) rfl, tb 394 (by decide +kernel) rfl⟩
theorem g_C_chapters : MGv m_C_chapters 0 := ⟨⟨tb 493 (by decide +kernel) rfl, tb 3 (by decide +kernel) rfl, by decide +kernel, ⟨by decide +kernel, by decide +kernel, by decide +kernel⟩, by decide⟩, tb 491 (by decide +kernel) rfl, tb 492 (by decide +kernel) rfl⟩
theorem g_C_kindOf : MGv m_C_kindOf 1 := ⟨⟨tb 726 (by decide +kernel) rfl, tb 3 (by decide +kernel) rfl, by decide +kernel, ⟨by decide +kernel, by decide +kernel, by decide +kernel⟩, by decide⟩, tb 724 (by decide +kernel) rfl, tb 725 (by decide +kernel) rfl⟩
theorem g_C_linesOf : MGv m_C_linesOf 1 := ⟨⟨tb 560 (by decide +kernel) rfl, tb 3 (by decide +kernel) rfl, by decide +kernel, ⟨by decide +kernel, by decide +kernel, by decide +kernel⟩, by decide⟩, tb 558 (by decide +kernel) rfl, tb 559 (by decide +kernel) rfl⟩
theorem g_C_isSkipped : MGv m_C_isSkipped 1 := ⟨⟨tb 378 (by decide +kernel) rfl, tb 3 (by decide +kernel) rfl, by decide +kernel, ⟨by decide +kernel, by decide +kernel, by decide +kernel⟩, by decide⟩, tb 376 (by decide +kernel) rfl, tb 377 (by decide +kernel) rfl⟩
theorem g_C_changeSkip : MGv m_C_changeSkip 2 := ⟨⟨tb 441 (by decide +kernel) rfl, tb 3 (by decide +kernel) rfl, by decide +kernel, ⟨by decide +kernel, by decide +kernel, by decide +kernel⟩, by decide⟩, tb 439 (by decide +kernel) rfl, tb 440 (by decide +kernel) rfl⟩
theorem g_C_countSkipped : MGv m_C_countSkipped 0 := ⟨⟨tb 872 (by decide +kernel) rfl, tb 3 (by decide +kernel) rfl, by decide +kernel, ⟨by decide +kernel, by decide +kernel, by decide +kernel⟩, by decide⟩, tb 870 (by decide +kernel) rfl, tb 871 (by decide +kernel) rfl⟩
theorem g_C_countLikes : MGv m_C_countLikes 0 := ⟨⟨tb 876 (by decide +kernel) rfl, tb 3 (by decide +kernel) rfl, by decide +kernel, ⟨by decide +kernel, by decide +kernel, by decide +kernel⟩, by decide⟩, tb 874 (by decide +kernel) rfl, tb 875 (by decide +kernel) rfl⟩
theorem g_C_minutes : MGv m_C_minutes 2 := ⟨⟨tb 464 (by decide +kernel) rfl, tb 3 (by decide +kernel) rfl, by decide +kernel, ⟨by decide +kernel, by decide +kernel, by decide +kernel⟩, by decide⟩, tb 462 (by decide +kernel) rfl, tb 463 (by decide +kernel) rfl⟩
theorem g_C_minutesAt : MGv m_C_minutesAt 3 := ⟨⟨tb 473 (by decide +kernel) rfl, tb 3 (by decide +kernel) rfl, by decide +kernel, ⟨by decide +kernel, by decide +kernel, by decide +kernel⟩, by decide⟩, tb 471 (by decide +kernel) rfl, tb 472 (by decide +kernel) rfl⟩
theorem g_C_together : MGv m_C_together 2 := ⟨⟨tb 503 (by decide +kernel) rfl, tb 3 (by decide +kernel) rfl, by decide +kernel, ⟨by decide +kernel, by decide +kernel, by decide +kernel⟩, by decide⟩, tb 501 (by decide +kernel) rfl, tb 502 (by decide +kernel) rfl⟩
theorem g_C_waitOfTwo : MGv m_C_waitOfTwo 2 := ⟨⟨tb 655 (by decide +kernel) rfl, tb 3 (by decide +kernel) rfl, by decide +kernel, ⟨by decide +kernel, by decide +kernel, by decide +kernel⟩, by decide⟩, tb 653 (by decide +kernel) rfl, tb 654 (by decide +kernel) rfl⟩
theorem g_E_sit : MGv m_E_sit 3 := ⟨⟨tb 489 (by decide +kernel) rfl, tb 5 (by decide +kernel) rfl, by decide +kernel, ⟨by decide +kernel, by decide +kernel, by decide +kernel⟩, by decide⟩, tb 487 (by decide +kernel) rfl, tb 488 (by decide +kernel) rfl⟩
theorem g_E_readOrStop : MGv m_E_readOrStop 3 := ⟨⟨tb 499 (by decide +kernel) rfl, tb 5 (by decide +kernel) rfl, by decide +kernel, ⟨by decide +kernel, by decide +kernel, by decide +kernel⟩, by decide⟩, tb 498 (by decide +kernel) rfl, tbp (by decide +kernel) rfl⟩
theorem g_E_chapters : MGv m_E_chapters 0 := ⟨⟨tb 515 (by decide +kernel) rfl, tb 5 (by decide +kernel) rfl, by decide +kernel, ⟨by decide +kernel, by decide +kernel, by decide +kernel⟩, by decide⟩, tb 513 (by decide +kernel) rfl, tb 514 (by decide +kernel) rfl⟩
theorem g_E_minute : MGv m_E_minute 0 := ⟨⟨tb 519 (by decide +kernel) rfl, tb 5 (by decide +kernel) rfl, by decide +kernel, ⟨by decide +kernel, by decide +kernel, by decide +kernel⟩, by decide⟩, tb 517 (by decide +kernel) rfl, tb 518 (by decide +kernel) rfl⟩
theorem g_E_next : MGv m_E_next 0 := ⟨⟨tb 523 (by decide +kernel) rfl, tb 5 (by decide +kernel) rfl, by decide +kernel, ⟨by decide +kernel, by decide +kernel, by decide +kernel⟩, by decide⟩, tb 521 (by decide +kernel) rfl, tb 522 (by decide +kernel) rfl⟩
theorem g_E_waitOf : MGv m_E_waitOf 1 := ⟨⟨tb 532 (by decide +kernel) rfl, tb 5 (by decide +kernel) rfl, by decide +kernel, ⟨by decide +kernel, by decide +kernel, by decide +kernel⟩, by decide⟩, tb 530 (by decide +kernel) rfl, tb 531 (by decide +kernel) rfl⟩
theorem g_E_workLeft : MGv m_E_workLeft 1 := ⟨⟨tb 536 (by decide +kernel) rfl, tb 5 (by decide +kernel) rfl, by decide +kernel, ⟨by decide +kernel, by decide +kernel, by decide +kernel⟩, by decide⟩, tb 534 (by decide +kernel) rfl, tb 535 (by decide +kernel) rfl⟩
theorem g_D_chanceBy : MGv m_D_chanceBy 2 := ⟨⟨tb 750 (by decide +kernel) rfl, tb 10 (by decide +kernel) rfl, by decide +kernel, ⟨by decide +kernel, by decide +kernel, by decide +kernel⟩, by decide⟩, tb 748 (by decide +kernel) rfl, tb 749 (by decide +kernel) rfl⟩
theorem g_D_meanMinutes : MGv m_D_meanMinutes 1 := ⟨⟨tb 800 (by decide +kernel) rfl, tb 10 (by decide +kernel) rfl, by decide +kernel, ⟨by decide +kernel, by decide +kernel, by decide +kernel⟩, by decide⟩, tb 798 (by decide +kernel) rfl, tb 799 (by decide +kernel) rfl⟩
theorem g_D_casesOf : MGs m_D_casesOf 1 := ⟨⟨tb 776 (by decide +kernel) rfl, tb 10 (by decide +kernel) rfl, by decide +kernel, ⟨by decide +kernel, by decide +kernel, by decide +kernel⟩, by decide⟩, tb 775 (by decide +kernel) rfl⟩
theorem g_D_findOutcomes : MGv m_D_findOutcomes 2 := ⟨⟨tb 757 (by decide +kernel) rfl, tb 10 (by decide +kernel) rfl, by decide +kernel, ⟨by decide +kernel, by decide +kernel, by decide +kernel⟩, by decide⟩, tb 756 (by decide +kernel) rfl, tbp (by decide +kernel) rfl⟩
theorem g_D_addOutcome : MGv m_D_addOutcome 2 := ⟨⟨tb 769 (by decide +kernel) rfl, tb 10 (by decide +kernel) rfl, by decide +kernel, ⟨by decide +kernel, by decide +kernel, by decide +kernel⟩, by decide⟩, tb 768 (by decide +kernel) rfl, tbp (by decide +kernel) rfl⟩
theorem g_D_readOn : MGv m_D_readOn 1 := ⟨⟨tb 773 (by decide +kernel) rfl, tb 10 (by decide +kernel) rfl, by decide +kernel, ⟨by decide +kernel, by decide +kernel, by decide +kernel⟩, by decide⟩, tb 772 (by decide +kernel) rfl, tbp (by decide +kernel) rfl⟩
theorem g_D_reduce : MGv m_D_reduce 2 := ⟨⟨tb 781 (by decide +kernel) rfl, tb 10 (by decide +kernel) rfl, by decide +kernel, ⟨by decide +kernel, by decide +kernel, by decide +kernel⟩, by decide⟩, tb 780 (by decide +kernel) rfl, tbp (by decide +kernel) rfl⟩
theorem g_D_commonDivisor : MGs m_D_commonDivisor 2 := ⟨⟨tb 784 (by decide +kernel) rfl, tb 10 (by decide +kernel) rfl, by decide +kernel, ⟨by decide +kernel, by decide +kernel, by decide +kernel⟩, by decide⟩, tb 783 (by decide +kernel) rfl⟩
theorem g_D_above : MGv m_D_above 0 := ⟨⟨tb 788 (by decide +kernel) rfl, tb 10 (by decide +kernel) rfl, by decide +kernel, ⟨by decide +kernel, by decide +kernel, by decide +kernel⟩, by decide⟩, tb 786 (by decide +kernel) rfl, tb 787 (by decide +kernel) rfl⟩
theorem g_D_below : MGv m_D_below 0 := ⟨⟨tb 792 (by decide +kernel) rfl, tb 10 (by decide +kernel) rfl, by decide +kernel, ⟨by decide +kernel, by decide +kernel, by decide +kernel⟩, by decide⟩, tb 790 (by decide +kernel) rfl, tb 791 (by decide +kernel) rfl⟩
theorem g_P_search : MGv m_P_search 4 := ⟨⟨tb 553 (by decide +kernel) rfl, tb 6 (by decide +kernel) rfl, by decide +kernel, ⟨by decide +kernel, by decide +kernel, by decide +kernel⟩, by decide⟩, tb 551 (by decide +kernel) rfl, tb 552 (by decide +kernel) rfl⟩
theorem g_P_choose : MGv m_P_choose 6 := ⟨⟨tb 564 (by decide +kernel) rfl, tb 6 (by decide +kernel) rfl, by decide +kernel, ⟨by decide +kernel, by decide +kernel, by decide +kernel⟩, by decide⟩, tb 563 (by decide +kernel) rfl, tbp (by decide +kernel) rfl⟩
theorem g_P_isNoBetter : MGv m_P_isNoBetter 3 := ⟨⟨tb 568 (by decide +kernel) rfl, tb 6 (by decide +kernel) rfl, by decide +kernel, ⟨by decide +kernel, by decide +kernel, by decide +kernel⟩, by decide⟩, tb 567 (by decide +kernel) rfl, tbp (by decide +kernel) rfl⟩
theorem g_P_keep : MGv m_P_keep 3 := ⟨⟨tb 572 (by decide +kernel) rfl, tb 6 (by decide +kernel) rfl, by decide +kernel, ⟨by decide +kernel, by decide +kernel, by decide +kernel⟩, by decide⟩, tb 571 (by decide +kernel) rfl, tbp (by decide +kernel) rfl⟩
theorem g_P_lines : MGv m_P_lines 0 := ⟨⟨tb 583 (by decide +kernel) rfl, tb 6 (by decide +kernel) rfl, by decide +kernel, ⟨by decide +kernel, by decide +kernel, by decide +kernel⟩, by decide⟩, tb 581 (by decide +kernel) rfl, tb 582 (by decide +kernel) rfl⟩
theorem g_P_waits : MGv m_P_waits 0 := ⟨⟨tb 587 (by decide +kernel) rfl, tb 6 (by decide +kernel) rfl, by decide +kernel, ⟨by decide +kernel, by decide +kernel, by decide +kernel⟩, by decide⟩, tb 585 (by decide +kernel) rfl, tb 586 (by decide +kernel) rfl⟩
theorem g_P_minutes : MGv m_P_minutes 0 := ⟨⟨tb 591 (by decide +kernel) rfl, tb 6 (by decide +kernel) rfl, by decide +kernel, ⟨by decide +kernel, by decide +kernel, by decide +kernel⟩, by decide⟩, tb 589 (by decide +kernel) rfl, tb 590 (by decide +kernel) rfl⟩
theorem g_P_wayOf : MGv m_P_wayOf 1 := ⟨⟨tb 599 (by decide +kernel) rfl, tb 6 (by decide +kernel) rfl, by decide +kernel, ⟨by decide +kernel, by decide +kernel, by decide +kernel⟩, by decide⟩, tb 597 (by decide +kernel) rfl, tb 598 (by decide +kernel) rfl⟩
theorem g_R_speedFor : MGv m_R_speedFor 1 := ⟨⟨tb 469 (by decide +kernel) rfl, tb 4 (by decide +kernel) rfl, by decide +kernel, ⟨by decide +kernel, by decide +kernel, by decide +kernel⟩, by decide⟩, tb 467 (by decide +kernel) rfl, tb 468 (by decide +kernel) rfl⟩
theorem g_R_changePace : MGv m_R_changePace 2 := ⟨⟨tb 399 (by decide +kernel) rfl, tb 4 (by decide +kernel) rfl, by decide +kernel, ⟨by decide +kernel, by decide +kernel, by decide +kernel⟩, by decide⟩, tb 397 (by decide +kernel) rfl, tb 398 (by decide +kernel) rfl⟩
theorem g_R_likes : MGv m_R_likes 1 := ⟨⟨tb 478 (by decide +kernel) rfl, tb 4 (by decide +kernel) rfl, by decide +kernel, ⟨by decide +kernel, by decide +kernel, by decide +kernel⟩, by decide⟩, tb 476 (by decide +kernel) rfl, tb 477 (by decide +kernel) rfl⟩
theorem g_R_changeLike : MGv m_R_changeLike 2 := ⟨⟨tb 433 (by decide +kernel) rfl, tb 4 (by decide +kernel) rfl, by decide +kernel, ⟨by decide +kernel, by decide +kernel, by decide +kernel⟩, by decide⟩, tb 431 (by decide +kernel) rfl, tb 432 (by decide +kernel) rfl⟩
theorem g_R_work : MGv m_R_work 0 := ⟨⟨tb 541 (by decide +kernel) rfl, tb 4 (by decide +kernel) rfl, by decide +kernel, ⟨by decide +kernel, by decide +kernel, by decide +kernel⟩, by decide⟩, tb 539 (by decide +kernel) rfl, tb 540 (by decide +kernel) rfl⟩
theorem g_R_joy : MGv m_R_joy 0 := ⟨⟨tb 612 (by decide +kernel) rfl, tb 4 (by decide +kernel) rfl, by decide +kernel, ⟨by decide +kernel, by decide +kernel, by decide +kernel⟩, by decide⟩, tb 610 (by decide +kernel) rfl, tb 611 (by decide +kernel) rfl⟩
theorem g_R_mood : MGv m_R_mood 0 := ⟨⟨tb 764 (by decide +kernel) rfl, tb 4 (by decide +kernel) rfl, by decide +kernel, ⟨by decide +kernel, by decide +kernel, by decide +kernel⟩, by decide⟩, tb 762 (by decide +kernel) rfl, tb 763 (by decide +kernel) rfl⟩
theorem g_R_changeTrait : MGv m_R_changeTrait 2 := ⟨⟨tb 452 (by decide +kernel) rfl, tb 4 (by decide +kernel) rfl, by decide +kernel, ⟨by decide +kernel, by decide +kernel, by decide +kernel⟩, by decide⟩, tb 450 (by decide +kernel) rfl, tb 451 (by decide +kernel) rfl⟩
theorem g_T_seat : MGv m_T_seat 1 := ⟨⟨tb 651 (by decide +kernel) rfl, tb 8 (by decide +kernel) rfl, by decide +kernel, ⟨by decide +kernel, by decide +kernel, by decide +kernel⟩, by decide⟩, tb 649 (by decide +kernel) rfl, tb 650 (by decide +kernel) rfl⟩
theorem g_T_leastPartner : MGv m_T_leastPartner 2 := ⟨⟨tb 666 (by decide +kernel) rfl, tb 8 (by decide +kernel) rfl, by decide +kernel, ⟨by decide +kernel, by decide +kernel, by decide +kernel⟩, by decide⟩, tb 665 (by decide +kernel) rfl, tbp (by decide +kernel) rfl⟩
theorem g_T_leastOf : MGs m_T_leastOf 1 := ⟨⟨tb 661 (by decide +kernel) rfl, tb 8 (by decide +kernel) rfl, by decide +kernel, ⟨by decide +kernel, by decide +kernel, by decide +kernel⟩, by decide⟩, tb 660 (by decide +kernel) rfl⟩
theorem g_T_waitWith : MGv m_T_waitWith 3 := ⟨⟨tb 670 (by decide +kernel) rfl, tb 8 (by decide +kernel) rfl, by decide +kernel, ⟨by decide +kernel, by decide +kernel, by decide +kernel⟩, by decide⟩, tb 669 (by decide +kernel) rfl, tbp (by decide +kernel) rfl⟩
theorem g_T_without : MGs m_T_without 3 := ⟨⟨tb 673 (by decide +kernel) rfl, tb 8 (by decide +kernel) rfl, by decide +kernel, ⟨by decide +kernel, by decide +kernel, by decide +kernel⟩, by decide⟩, tb 672 (by decide +kernel) rfl⟩
theorem g_T_minutes : MGv m_T_minutes 0 := ⟨⟨tb 677 (by decide +kernel) rfl, tb 8 (by decide +kernel) rfl, by decide +kernel, ⟨by decide +kernel, by decide +kernel, by decide +kernel⟩, by decide⟩, tb 675 (by decide +kernel) rfl, tb 676 (by decide +kernel) rfl⟩
theorem g_T_partnerOf : MGv m_T_partnerOf 1 := ⟨⟨tb 681 (by decide +kernel) rfl, tb 8 (by decide +kernel) rfl, by decide +kernel, ⟨by decide +kernel, by decide +kernel, by decide +kernel⟩, by decide⟩, tb 679 (by decide +kernel) rfl, tb 680 (by decide +kernel) rfl⟩
theorem g_S_gainOf : MGv m_S_gainOf 4 := ⟨⟨tb 607 (by decide +kernel) rfl, tb 7 (by decide +kernel) rfl, by decide +kernel, ⟨by decide +kernel, by decide +kernel, by decide +kernel⟩, by decide⟩, tb 605 (by decide +kernel) rfl, tb 606 (by decide +kernel) rfl⟩
theorem g_S_findRests : MGv m_S_findRests 2 := ⟨⟨tb 624 (by decide +kernel) rfl, tb 7 (by decide +kernel) rfl, by decide +kernel, ⟨by decide +kernel, by decide +kernel, by decide +kernel⟩, by decide⟩, tb 622 (by decide +kernel) rfl, tb 623 (by decide +kernel) rfl⟩
theorem g_S_isRest : MGv m_S_isRest 2 := ⟨⟨tb 629 (by decide +kernel) rfl, tb 7 (by decide +kernel) rfl, by decide +kernel, ⟨by decide +kernel, by decide +kernel, by decide +kernel⟩, by decide⟩, tb 628 (by decide +kernel) rfl, tbp (by decide +kernel) rfl⟩
theorem g_S_restCount : MGv m_S_restCount 0 := ⟨⟨tb 633 (by decide +kernel) rfl, tb 7 (by decide +kernel) rfl, by decide +kernel, ⟨by decide +kernel, by decide +kernel, by decide +kernel⟩, by decide⟩, tb 631 (by decide +kernel) rfl, tb 632 (by decide +kernel) rfl⟩
theorem g_S_restAt : MGv m_S_restAt 1 := ⟨⟨tb 637 (by decide +kernel) rfl, tb 7 (by decide +kernel) rfl, by decide +kernel, ⟨by decide +kernel, by decide +kernel, by decide +kernel⟩, by decide⟩, tb 635 (by decide +kernel) rfl, tb 636 (by decide +kernel) rfl⟩
theorem g_H_renew : MGv m_H_renew 2 := ⟨⟨tb 811 (by decide +kernel) rfl, tb 11 (by decide +kernel) rfl, by decide +kernel, ⟨by decide +kernel, by decide +kernel, by decide +kernel⟩, by decide⟩, tb 809 (by decide +kernel) rfl, tb 810 (by decide +kernel) rfl⟩
theorem g_H_drop : MGv m_H_drop 0 := ⟨⟨tb 819 (by decide +kernel) rfl, tb 11 (by decide +kernel) rfl, by decide +kernel, ⟨by decide +kernel, by decide +kernel, by decide +kernel⟩, by decide⟩, tb 817 (by decide +kernel) rfl, tb 818 (by decide +kernel) rfl⟩
theorem g_H_isLost : MGv m_H_isLost 0 := ⟨⟨tb 410 (by decide +kernel) rfl, tb 11 (by decide +kernel) rfl, by decide +kernel, ⟨by decide +kernel, by decide +kernel, by decide +kernel⟩, by decide⟩, tb 408 (by decide +kernel) rfl, tb 409 (by decide +kernel) rfl⟩
theorem g_H_form : MGv m_H_form 0 := ⟨⟨tb 830 (by decide +kernel) rfl, tb 11 (by decide +kernel) rfl, by decide +kernel, ⟨by decide +kernel, by decide +kernel, by decide +kernel⟩, by decide⟩, tb 828 (by decide +kernel) rfl, tb 829 (by decide +kernel) rfl⟩
theorem g_H_size : MGv m_H_size 0 := ⟨⟨tb 418 (by decide +kernel) rfl, tb 11 (by decide +kernel) rfl, by decide +kernel, ⟨by decide +kernel, by decide +kernel, by decide +kernel⟩, by decide⟩, tb 416 (by decide +kernel) rfl, tb 417 (by decide +kernel) rfl⟩
theorem g_H_spans : MGv m_H_spans 2 := ⟨⟨tb 834 (by decide +kernel) rfl, tb 11 (by decide +kernel) rfl, by decide +kernel, ⟨by decide +kernel, by decide +kernel, by decide +kernel⟩, by decide⟩, tb 832 (by decide +kernel) rfl, tb 833 (by decide +kernel) rfl⟩
theorem g_H_item : MGv m_H_item 1 := ⟨⟨tb 425 (by decide +kernel) rfl, tb 11 (by decide +kernel) rfl, by decide +kernel, ⟨by decide +kernel, by decide +kernel, by decide +kernel⟩, by decide⟩, tb 423 (by decide +kernel) rfl, tb 424 (by decide +kernel) rfl⟩
theorem g_H_put : MGv m_H_put 2 := ⟨⟨tb 838 (by decide +kernel) rfl, tb 11 (by decide +kernel) rfl, by decide +kernel, ⟨by decide +kernel, by decide +kernel, by decide +kernel⟩, by decide⟩, tb 836 (by decide +kernel) rfl, tb 837 (by decide +kernel) rfl⟩
theorem g_H_narrow : MGv m_H_narrow 1 := ⟨⟨tb 842 (by decide +kernel) rfl, tb 11 (by decide +kernel) rfl, by decide +kernel, ⟨by decide +kernel, by decide +kernel, by decide +kernel⟩, by decide⟩, tb 841 (by decide +kernel) rfl, tbp (by decide +kernel) rfl⟩
theorem g_H_takeFrom : MGv m_H_takeFrom 4 := ⟨⟨tb 855 (by decide +kernel) rfl, tb 11 (by decide +kernel) rfl, by decide +kernel, ⟨by decide +kernel, by decide +kernel, by decide +kernel⟩, by decide⟩, tb 853 (by decide +kernel) rfl, tb 854 (by decide +kernel) rfl⟩
theorem g_U_append : MGv m_U_append 3 := ⟨⟨tb 689 (by decide +kernel) rfl, tb 9 (by decide +kernel) rfl, by decide +kernel, ⟨by decide +kernel, by decide +kernel, by decide +kernel⟩, by decide⟩, tb 687 (by decide +kernel) rfl, tb 688 (by decide +kernel) rfl⟩
theorem g_U_clear : MGv m_U_clear 0 := ⟨⟨tb 701 (by decide +kernel) rfl, tb 9 (by decide +kernel) rfl, by decide +kernel, ⟨by decide +kernel, by decide +kernel, by decide +kernel⟩, by decide⟩, tb 699 (by decide +kernel) rfl, tb 700 (by decide +kernel) rfl⟩
theorem g_U_size : MGv m_U_size 0 := ⟨⟨tb 693 (by decide +kernel) rfl, tb 9 (by decide +kernel) rfl, by decide +kernel, ⟨by decide +kernel, by decide +kernel, by decide +kernel⟩, by decide⟩, tb 691 (by decide +kernel) rfl, tb 692 (by decide +kernel) rfl⟩
theorem g_U_countUnlike : MGv m_U_countUnlike 0 := ⟨⟨tb 738 (by decide +kernel) rfl, tb 9 (by decide +kernel) rfl, by decide +kernel, ⟨by decide +kernel, by decide +kernel, by decide +kernel⟩, by decide⟩, tb 736 (by decide +kernel) rfl, tb 737 (by decide +kernel) rfl⟩
theorem g_U_fittingPaces : MGv m_U_fittingPaces 2 := ⟨⟨tb 709 (by decide +kernel) rfl, tb 9 (by decide +kernel) rfl, by decide +kernel, ⟨by decide +kernel, by decide +kernel, by decide +kernel⟩, by decide⟩, tb 707 (by decide +kernel) rfl, tb 708 (by decide +kernel) rfl⟩
theorem g_U_fitsAll : MGv m_U_fitsAll 3 := ⟨⟨tb 713 (by decide +kernel) rfl, tb 9 (by decide +kernel) rfl, by decide +kernel, ⟨by decide +kernel, by decide +kernel, by decide +kernel⟩, by decide⟩, tb 712 (by decide +kernel) rfl, tbp (by decide +kernel) rfl⟩
theorem g_U_isThere : MGv m_U_isThere 1 := ⟨⟨tb 721 (by decide +kernel) rfl, tb 9 (by decide +kernel) rfl, by decide +kernel, ⟨by decide +kernel, by decide +kernel, by decide +kernel⟩, by decide⟩, tb 720 (by decide +kernel) rfl, tbp (by decide +kernel) rfl⟩
theorem g_U_tellsOf : MGv m_U_tellsOf 3 := ⟨⟨tb 717 (by decide +kernel) rfl, tb 9 (by decide +kernel) rfl, by decide +kernel, ⟨by decide +kernel, by decide +kernel, by decide +kernel⟩, by decide⟩, tb 716 (by decide +kernel) rfl, tbp (by decide +kernel) rfl⟩
theorem g_O_type : MGv m_O_type 1 := ⟨⟨tb 307 (by decide +kernel) rfl, tb 1 (by decide +kernel) rfl, by decide +kernel, ⟨by decide +kernel, by decide +kernel, by decide +kernel⟩, by decide⟩, tb 305 (by decide +kernel) rfl, tb 306 (by decide +kernel) rfl⟩
theorem g_O_wipe : MGv m_O_wipe 0 := ⟨⟨tb 342 (by decide +kernel) rfl, tb 1 (by decide +kernel) rfl, by decide +kernel, ⟨by decide +kernel, by decide +kernel, by decide +kernel⟩, by decide⟩, tb 340 (by decide +kernel) rfl, tb 341 (by decide +kernel) rfl⟩
theorem g_O_fault : MGv m_O_fault 0 := ⟨⟨tb 350 (by decide +kernel) rfl, tb 1 (by decide +kernel) rfl, by decide +kernel, ⟨by decide +kernel, by decide +kernel, by decide +kernel⟩, by decide⟩, tb 348 (by decide +kernel) rfl, tb 349 (by decide +kernel) rfl⟩
theorem g_O_chapter : MGv m_O_chapter 2 := ⟨⟨tb 358 (by decide +kernel) rfl, tb 1 (by decide +kernel) rfl, by decide +kernel, ⟨by decide +kernel, by decide +kernel, by decide +kernel⟩, by decide⟩, tb 356 (by decide +kernel) rfl, tb 357 (by decide +kernel) rfl⟩
theorem g_O_pace : MGv m_O_pace 3 := ⟨⟨tb 385 (by decide +kernel) rfl, tb 1 (by decide +kernel) rfl, by decide +kernel, ⟨by decide +kernel, by decide +kernel, by decide +kernel⟩, by decide⟩, tb 383 (by decide +kernel) rfl, tb 384 (by decide +kernel) rfl⟩
theorem g_O_read : MGv m_O_read 2 := ⟨⟨tb 403 (by decide +kernel) rfl, tb 1 (by decide +kernel) rfl, by decide +kernel, ⟨by decide +kernel, by decide +kernel, by decide +kernel⟩, by decide⟩, tb 401 (by decide +kernel) rfl, tb 402 (by decide +kernel) rfl⟩
theorem g_O_like : MGv m_O_like 3 := ⟨⟨tb 429 (by decide +kernel) rfl, tb 1 (by decide +kernel) rfl, by decide +kernel, ⟨by decide +kernel, by decide +kernel, by decide +kernel⟩, by decide⟩, tb 427 (by decide +kernel) rfl, tb 428 (by decide +kernel) rfl⟩
theorem g_O_skip : MGv m_O_skip 2 := ⟨⟨tb 437 (by decide +kernel) rfl, tb 1 (by decide +kernel) rfl, by decide +kernel, ⟨by decide +kernel, by decide +kernel, by decide +kernel⟩, by decide⟩, tb 435 (by decide +kernel) rfl, tb 436 (by decide +kernel) rfl⟩
theorem g_O_reader : MGv m_O_reader 3 := ⟨⟨tb 445 (by decide +kernel) rfl, tb 1 (by decide +kernel) rfl, by decide +kernel, ⟨by decide +kernel, by decide +kernel, by decide +kernel⟩, by decide⟩, tb 443 (by decide +kernel) rfl, tb 444 (by decide +kernel) rfl⟩
theorem g_O_set : MGv m_O_set 2 := ⟨⟨tb 456 (by decide +kernel) rfl, tb 1 (by decide +kernel) rfl, by decide +kernel, ⟨by decide +kernel, by decide +kernel, by decide +kernel⟩, by decide⟩, tb 454 (by decide +kernel) rfl, tb 455 (by decide +kernel) rfl⟩
theorem g_O_time : MGv m_O_time 2 := ⟨⟨tb 460 (by decide +kernel) rfl, tb 1 (by decide +kernel) rfl, by decide +kernel, ⟨by decide +kernel, by decide +kernel, by decide +kernel⟩, by decide⟩, tb 458 (by decide +kernel) rfl, tb 459 (by decide +kernel) rfl⟩
theorem g_O_evening : MGv m_O_evening 3 := ⟨⟨tb 482 (by decide +kernel) rfl, tb 1 (by decide +kernel) rfl, by decide +kernel, ⟨by decide +kernel, by decide +kernel, by decide +kernel⟩, by decide⟩, tb 480 (by decide +kernel) rfl, tb 481 (by decide +kernel) rfl⟩
theorem g_O_waited : MGv m_O_waited 4 := ⟨⟨tb 527 (by decide +kernel) rfl, tb 1 (by decide +kernel) rfl, by decide +kernel, ⟨by decide +kernel, by decide +kernel, by decide +kernel⟩, by decide⟩, tb 525 (by decide +kernel) rfl, tb 526 (by decide +kernel) rfl⟩
theorem g_O_best : MGv m_O_best 3 := ⟨⟨tb 546 (by decide +kernel) rfl, tb 1 (by decide +kernel) rfl, by decide +kernel, ⟨by decide +kernel, by decide +kernel, by decide +kernel⟩, by decide⟩, tb 544 (by decide +kernel) rfl, tb 545 (by decide +kernel) rfl⟩
theorem g_O_how : MGv m_O_how 3 := ⟨⟨tb 595 (by decide +kernel) rfl, tb 1 (by decide +kernel) rfl, by decide +kernel, ⟨by decide +kernel, by decide +kernel, by decide +kernel⟩, by decide⟩, tb 593 (by decide +kernel) rfl, tb 594 (by decide +kernel) rfl⟩
theorem g_O_gain : MGv m_O_gain 4 := ⟨⟨tb 603 (by decide +kernel) rfl, tb 1 (by decide +kernel) rfl, by decide +kernel, ⟨by decide +kernel, by decide +kernel, by decide +kernel⟩, by decide⟩, tb 601 (by decide +kernel) rfl, tb 602 (by decide +kernel) rfl⟩
theorem g_O_rests : MGv m_O_rests 3 := ⟨⟨tb 620 (by decide +kernel) rfl, tb 1 (by decide +kernel) rfl, by decide +kernel, ⟨by decide +kernel, by decide +kernel, by decide +kernel⟩, by decide⟩, tb 618 (by decide +kernel) rfl, tb 619 (by decide +kernel) rfl⟩
theorem g_O_pairs : MGv m_O_pairs 2 := ⟨⟨tb 641 (by decide +kernel) rfl, tb 1 (by decide +kernel) rfl, by decide +kernel, ⟨by decide +kernel, by decide +kernel, by decide +kernel⟩, by decide⟩, tb 639 (by decide +kernel) rfl, tb 640 (by decide +kernel) rfl⟩
theorem g_O_turn : MGv m_O_turn 3 := ⟨⟨tb 685 (by decide +kernel) rfl, tb 1 (by decide +kernel) rfl, by decide +kernel, ⟨by decide +kernel, by decide +kernel, by decide +kernel⟩, by decide⟩, tb 683 (by decide +kernel) rfl, tb 684 (by decide +kernel) rfl⟩
theorem g_O_forget : MGv m_O_forget 0 := ⟨⟨tb 697 (by decide +kernel) rfl, tb 1 (by decide +kernel) rfl, by decide +kernel, ⟨by decide +kernel, by decide +kernel, by decide +kernel⟩, by decide⟩, tb 695 (by decide +kernel) rfl, tb 696 (by decide +kernel) rfl⟩
theorem g_O_paces : MGv m_O_paces 2 := ⟨⟨tb 705 (by decide +kernel) rfl, tb 1 (by decide +kernel) rfl, by decide +kernel, ⟨by decide +kernel, by decide +kernel, by decide +kernel⟩, by decide⟩, tb 703 (by decide +kernel) rfl, tb 704 (by decide +kernel) rfl⟩
theorem g_O_unlike : MGv m_O_unlike 0 := ⟨⟨tb 734 (by decide +kernel) rfl, tb 1 (by decide +kernel) rfl, by decide +kernel, ⟨by decide +kernel, by decide +kernel, by decide +kernel⟩, by decide⟩, tb 732 (by decide +kernel) rfl, tb 733 (by decide +kernel) rfl⟩
theorem g_O_done : MGv m_O_done 3 := ⟨⟨tb 742 (by decide +kernel) rfl, tb 1 (by decide +kernel) rfl, by decide +kernel, ⟨by decide +kernel, by decide +kernel, by decide +kernel⟩, by decide⟩, tb 740 (by decide +kernel) rfl, tb 741 (by decide +kernel) rfl⟩
theorem g_O_mean : MGv m_O_mean 2 := ⟨⟨tb 796 (by decide +kernel) rfl, tb 1 (by decide +kernel) rfl, by decide +kernel, ⟨by decide +kernel, by decide +kernel, by decide +kernel⟩, by decide⟩, tb 794 (by decide +kernel) rfl, tb 795 (by decide +kernel) rfl⟩
theorem g_O_sheet : MGv m_O_sheet 3 := ⟨⟨tb 804 (by decide +kernel) rfl, tb 1 (by decide +kernel) rfl, by decide +kernel, ⟨by decide +kernel, by decide +kernel, by decide +kernel⟩, by decide⟩, tb 802 (by decide +kernel) rfl, tb 803 (by decide +kernel) rfl⟩
theorem g_O_lose : MGv m_O_lose 1 := ⟨⟨tb 815 (by decide +kernel) rfl, tb 1 (by decide +kernel) rfl, by decide +kernel, ⟨by decide +kernel, by decide +kernel, by decide +kernel⟩, by decide⟩, tb 813 (by decide +kernel) rfl, tb 814 (by decide +kernel) rfl⟩
theorem g_O_lay : MGv m_O_lay 4 := ⟨⟨tb 823 (by decide +kernel) rfl, tb 1 (by decide +kernel) rfl, by decide +kernel, ⟨by decide +kernel, by decide +kernel, by decide +kernel⟩, by decide⟩, tb 821 (by decide +kernel) rfl, tb 822 (by decide +kernel) rfl⟩
theorem g_O_get : MGv m_O_get 3 := ⟨⟨tb 846 (by decide +kernel) rfl, tb 1 (by decide +kernel) rfl, by decide +kernel, ⟨by decide +kernel, by decide +kernel, by decide +kernel⟩, by decide⟩, tb 844 (by decide +kernel) rfl, tb 845 (by decide +kernel) rfl⟩
theorem g_O_copy : MGv m_O_copy 5 := ⟨⟨tb 851 (by decide +kernel) rfl, tb 1 (by decide +kernel) rfl, by decide +kernel, ⟨by decide +kernel, by decide +kernel, by decide +kernel⟩, by decide⟩, tb 849 (by decide +kernel) rfl, tb 850 (by decide +kernel) rfl⟩
theorem g_O_write : MGv m_O_write 2 := ⟨⟨tb 860 (by decide +kernel) rfl, tb 1 (by decide +kernel) rfl, by decide +kernel, ⟨by decide +kernel, by decide +kernel, by decide +kernel⟩, by decide⟩, tb 858 (by decide +kernel) rfl, tb 859 (by decide +kernel) rfl⟩
theorem g_O_count : MGv m_O_count 1 := ⟨⟨tb 864 (by decide +kernel) rfl, tb 1 (by decide +kernel) rfl, by decide +kernel, ⟨by decide +kernel, by decide +kernel, by decide +kernel⟩, by decide⟩, tb 862 (by decide +kernel) rfl, tb 863 (by decide +kernel) rfl⟩
theorem g_O_digest : MGv m_O_digest 0 := ⟨⟨tb 880 (by decide +kernel) rfl, tb 1 (by decide +kernel) rfl, by decide +kernel, ⟨by decide +kernel, by decide +kernel, by decide +kernel⟩, by decide⟩, tb 878 (by decide +kernel) rfl, tb 879 (by decide +kernel) rfl⟩
theorem g_O_mix : MGs m_O_mix 2 := ⟨⟨tb 885 (by decide +kernel) rfl, tb 1 (by decide +kernel) rfl, by decide +kernel, ⟨by decide +kernel, by decide +kernel, by decide +kernel⟩, by decide⟩, tb 884 (by decide +kernel) rfl⟩
theorem g_O_mixChapter : MGv m_O_mixChapter 2 := ⟨⟨tb 891 (by decide +kernel) rfl, tb 1 (by decide +kernel) rfl, by decide +kernel, ⟨by decide +kernel, by decide +kernel, by decide +kernel⟩, by decide⟩, tb 890 (by decide +kernel) rfl, tbp (by decide +kernel) rfl⟩
theorem g_O_mixPlan : MGv m_O_mixPlan 1 := ⟨⟨tb 896 (by decide +kernel) rfl, tb 1 (by decide +kernel) rfl, by decide +kernel, ⟨by decide +kernel, by decide +kernel, by decide +kernel⟩, by decide⟩, tb 895 (by decide +kernel) rfl, tbp (by decide +kernel) rfl⟩
theorem g_O_mixSeeming : MGv m_O_mixSeeming 1 := ⟨⟨tb 900 (by decide +kernel) rfl, tb 1 (by decide +kernel) rfl, by decide +kernel, ⟨by decide +kernel, by decide +kernel, by decide +kernel⟩, by decide⟩, tb 899 (by decide +kernel) rfl, tbp (by decide +kernel) rfl⟩
theorem g_O_mixSeats : MGv m_O_mixSeats 1 := ⟨⟨tb 904 (by decide +kernel) rfl, tb 1 (by decide +kernel) rfl, by decide +kernel, ⟨by decide +kernel, by decide +kernel, by decide +kernel⟩, by decide⟩, tb 903 (by decide +kernel) rfl, tbp (by decide +kernel) rfl⟩
theorem g_O_mixMoods : MGv m_O_mixMoods 1 := ⟨⟨tb 909 (by decide +kernel) rfl, tb 1 (by decide +kernel) rfl, by decide +kernel, ⟨by decide +kernel, by decide +kernel, by decide +kernel⟩, by decide⟩, tb 908 (by decide +kernel) rfl, tbp (by decide +kernel) rfl⟩
theorem g_O_within : MGs m_O_within 3 := ⟨⟨tb 310 (by decide +kernel) rfl, tb 1 (by decide +kernel) rfl, by decide +kernel, ⟨by decide +kernel, by decide +kernel, by decide +kernel⟩, by decide⟩, tb 309 (by decide +kernel) rfl⟩
theorem g_O_isReader : MGs m_O_isReader 1 := ⟨⟨tb 388 (by decide +kernel) rfl, tb 1 (by decide +kernel) rfl, by decide +kernel, ⟨by decide +kernel, by decide +kernel, by decide +kernel⟩, by decide⟩, tb 387 (by decide +kernel) rfl⟩
theorem g_O_areTwo : MGs m_O_areTwo 2 := ⟨⟨tb 549 (by decide +kernel) rfl, tb 1 (by decide +kernel) rfl, by decide +kernel, ⟨by decide +kernel, by decide +kernel, by decide +kernel⟩, by decide⟩, tb 548 (by decide +kernel) rfl⟩
theorem g_O_isCompany : MGs m_O_isCompany 1 := ⟨⟨tb 485 (by decide +kernel) rfl, tb 1 (by decide +kernel) rfl, by decide +kernel, ⟨by decide +kernel, by decide +kernel, by decide +kernel⟩, by decide⟩, tb 484 (by decide +kernel) rfl⟩
theorem g_O_holds : MGs m_O_holds 2 := ⟨⟨tb 506 (by decide +kernel) rfl, tb 1 (by decide +kernel) rfl, by decide +kernel, ⟨by decide +kernel, by decide +kernel, by decide +kernel⟩, by decide⟩, tb 505 (by decide +kernel) rfl⟩
theorem g_O_isKind : MGs m_O_isKind 1 := ⟨⟨tb 391 (by decide +kernel) rfl, tb 1 (by decide +kernel) rfl, by decide +kernel, ⟨by decide +kernel, by decide +kernel, by decide +kernel⟩, by decide⟩, tb 390 (by decide +kernel) rfl⟩
theorem g_O_isSheet : MGs m_O_isSheet 1 := ⟨⟨tb 406 (by decide +kernel) rfl, tb 1 (by decide +kernel) rfl, by decide +kernel, ⟨by decide +kernel, by decide +kernel, by decide +kernel⟩, by decide⟩, tb 405 (by decide +kernel) rfl⟩
theorem g_O_isForm : MGs m_O_isForm 1 := ⟨⟨tb 807 (by decide +kernel) rfl, tb 1 (by decide +kernel) rfl, by decide +kernel, ⟨by decide +kernel, by decide +kernel, by decide +kernel⟩, by decide⟩, tb 806 (by decide +kernel) rfl⟩
theorem g_O_isChapter : MGv m_O_isChapter 1 := ⟨⟨tb 362 (by decide +kernel) rfl, tb 1 (by decide +kernel) rfl, by decide +kernel, ⟨by decide +kernel, by decide +kernel, by decide +kernel⟩, by decide⟩, tb 361 (by decide +kernel) rfl, tbp (by decide +kernel) rfl⟩
theorem g_O_mostOfTrait : MGs m_O_mostOfTrait 1 := ⟨⟨tb 448 (by decide +kernel) rfl, tb 1 (by decide +kernel) rfl, by decide +kernel, ⟨by decide +kernel, by decide +kernel, by decide +kernel⟩, by decide⟩, tb 447 (by decide +kernel) rfl⟩
theorem g_O_asNumber : MGs m_O_asNumber 1 := ⟨⟨tb 381 (by decide +kernel) rfl, tb 1 (by decide +kernel) rfl, by decide +kernel, ⟨by decide +kernel, by decide +kernel, by decide +kernel⟩, by decide⟩, tb 380 (by decide +kernel) rfl⟩
theorem g_O_refusedLong : MGs m_O_refusedLong 1 := ⟨⟨tb 745 (by decide +kernel) rfl, tb 1 (by decide +kernel) rfl, by decide +kernel, ⟨by decide +kernel, by decide +kernel, by decide +kernel⟩, by decide⟩, tb 744 (by decide +kernel) rfl⟩
theorem g_O_found : MGv m_O_found 1 := ⟨⟨tb 414 (by decide +kernel) rfl, tb 1 (by decide +kernel) rfl, by decide +kernel, ⟨by decide +kernel, by decide +kernel, by decide +kernel⟩, by decide⟩, tb 413 (by decide +kernel) rfl, tbp (by decide +kernel) rfl⟩
theorem g_O_findingAt : MGs m_O_findingAt 3 := ⟨⟨tb 826 (by decide +kernel) rfl, tb 1 (by decide +kernel) rfl, by decide +kernel, ⟨by decide +kernel, by decide +kernel, by decide +kernel⟩, by decide⟩, tb 825 (by decide +kernel) rfl⟩
theorem g_M_in : MGs m_M_in 3 := ⟨⟨tb 1029 (by decide +kernel) rfl, tb 12 (by decide +kernel) rfl, by decide +kernel, ⟨by decide +kernel, by decide +kernel, by decide +kernel⟩, by decide⟩, tb 1028 (by decide +kernel) rfl⟩
theorem g_M_no : MGs m_M_no 1 := ⟨⟨tb 1292 (by decide +kernel) rfl, tb 12 (by decide +kernel) rfl, by decide +kernel, ⟨by decide +kernel, by decide +kernel, by decide +kernel⟩, by decide⟩, tb 1291 (by decide +kernel) rfl⟩
theorem g_M_isTwo : MGs m_M_isTwo 1 := ⟨⟨tb 1126 (by decide +kernel) rfl, tb 12 (by decide +kernel) rfl, by decide +kernel, ⟨by decide +kernel, by decide +kernel, by decide +kernel⟩, by decide⟩, tb 1125 (by decide +kernel) rfl⟩
theorem g_M_isIn : MGs m_M_isIn 2 := ⟨⟨tb 1156 (by decide +kernel) rfl, tb 12 (by decide +kernel) rfl, by decide +kernel, ⟨by decide +kernel, by decide +kernel, by decide +kernel⟩, by decide⟩, tb 1155 (by decide +kernel) rfl⟩
theorem g_M_ones : MGs m_M_ones 1 := ⟨⟨tb 1244 (by decide +kernel) rfl, tb 12 (by decide +kernel) rfl, by decide +kernel, ⟨by decide +kernel, by decide +kernel, by decide +kernel⟩, by decide⟩, tb 1243 (by decide +kernel) rfl⟩
theorem g_M_met : MGv m_M_met 1 := ⟨⟨tb 1034 (by decide +kernel) rfl, tb 12 (by decide +kernel) rfl, by decide +kernel, ⟨by decide +kernel, by decide +kernel, by decide +kernel⟩, by decide⟩, tb 1033 (by decide +kernel) rfl, tbp (by decide +kernel) rfl⟩
theorem g_M_isSheet : MGs m_M_isSheet 1 := ⟨⟨tb 1025 (by decide +kernel) rfl, tb 12 (by decide +kernel) rfl, by decide +kernel, ⟨by decide +kernel, by decide +kernel, by decide +kernel⟩, by decide⟩, tb 1024 (by decide +kernel) rfl⟩
theorem g_M_sheet : MGv m_M_sheet 3 := ⟨⟨tb 1022 (by decide +kernel) rfl, tb 12 (by decide +kernel) rfl, by decide +kernel, ⟨by decide +kernel, by decide +kernel, by decide +kernel⟩, by decide⟩, tb 1020 (by decide +kernel) rfl, tb 1021 (by decide +kernel) rfl⟩
theorem g_M_lose : MGv m_M_lose 1 := ⟨⟨tb 1038 (by decide +kernel) rfl, tb 12 (by decide +kernel) rfl, by decide +kernel, ⟨by decide +kernel, by decide +kernel, by decide +kernel⟩, by decide⟩, tb 1036 (by decide +kernel) rfl, tb 1037 (by decide +kernel) rfl⟩
theorem g_M_lacks : MGv m_M_lacks 3 := ⟨⟨tb 1046 (by decide +kernel) rfl, tb 12 (by decide +kernel) rfl, by decide +kernel, ⟨by decide +kernel, by decide +kernel, by decide +kernel⟩, by decide⟩, tb 1045 (by decide +kernel) rfl, tbp (by decide +kernel) rfl⟩
theorem g_M_cut : MGs m_M_cut 2 := ⟨⟨tb 1049 (by decide +kernel) rfl, tb 12 (by decide +kernel) rfl, by decide +kernel, ⟨by decide +kernel, by decide +kernel, by decide +kernel⟩, by decide⟩, tb 1048 (by decide +kernel) rfl⟩
theorem g_M_lay : MGv m_M_lay 4 := ⟨⟨tb 1042 (by decide +kernel) rfl, tb 12 (by decide +kernel) rfl, by decide +kernel, ⟨by decide +kernel, by decide +kernel, by decide +kernel⟩, by decide⟩, tb 1040 (by decide +kernel) rfl, tb 1041 (by decide +kernel) rfl⟩
theorem g_M_get : MGv m_M_get 3 := ⟨⟨tb 1053 (by decide +kernel) rfl, tb 12 (by decide +kernel) rfl, by decide +kernel, ⟨by decide +kernel, by decide +kernel, by decide +kernel⟩, by decide⟩, tb 1051 (by decide +kernel) rfl, tb 1052 (by decide +kernel) rfl⟩
theorem g_M_copy : MGv m_M_copy 5 := ⟨⟨tb 1058 (by decide +kernel) rfl, tb 12 (by decide +kernel) rfl, by decide +kernel, ⟨by decide +kernel, by decide +kernel, by decide +kernel⟩, by decide⟩, tb 1056 (by decide +kernel) rfl, tb 1057 (by decide +kernel) rfl⟩
theorem g_M_type : MGv m_M_type 1 := ⟨⟨tb 1062 (by decide +kernel) rfl, tb 12 (by decide +kernel) rfl, by decide +kernel, ⟨by decide +kernel, by decide +kernel, by decide +kernel⟩, by decide⟩, tb 1060 (by decide +kernel) rfl, tb 1061 (by decide +kernel) rfl⟩
theorem g_M_wipe : MGv m_M_wipe 0 := ⟨⟨tb 1067 (by decide +kernel) rfl, tb 12 (by decide +kernel) rfl, by decide +kernel, ⟨by decide +kernel, by decide +kernel, by decide +kernel⟩, by decide⟩, tb 1065 (by decide +kernel) rfl, tb 1066 (by decide +kernel) rfl⟩
theorem g_M_here : MGv m_M_here 0 := ⟨⟨tb 1083 (by decide +kernel) rfl, tb 12 (by decide +kernel) rfl, by decide +kernel, ⟨by decide +kernel, by decide +kernel, by decide +kernel⟩, by decide⟩, tb 1082 (by decide +kernel) rfl, tbp (by decide +kernel) rfl⟩
theorem g_M_none : MGv m_M_none 0 := ⟨⟨tb 1089 (by decide +kernel) rfl, tb 12 (by decide +kernel) rfl, by decide +kernel, ⟨by decide +kernel, by decide +kernel, by decide +kernel⟩, by decide⟩, tb 1088 (by decide +kernel) rfl, tbp (by decide +kernel) rfl⟩
theorem g_M_readsPart : MGv m_M_readsPart 0 := ⟨⟨tb 1079 (by decide +kernel) rfl, tb 12 (by decide +kernel) rfl, by decide +kernel, ⟨by decide +kernel, by decide +kernel, by decide +kernel⟩, by decide⟩, tb 1078 (by decide +kernel) rfl, tbp (by decide +kernel) rfl⟩
theorem g_M_reads : MGv m_M_reads 0 := ⟨⟨tb 1075 (by decide +kernel) rfl, tb 12 (by decide +kernel) rfl, by decide +kernel, ⟨by decide +kernel, by decide +kernel, by decide +kernel⟩, by decide⟩, tb 1074 (by decide +kernel) rfl, tbp (by decide +kernel) rfl⟩
theorem g_M_fault : MGv m_M_fault 0 := ⟨⟨tb 1071 (by decide +kernel) rfl, tb 12 (by decide +kernel) rfl, by decide +kernel, ⟨by decide +kernel, by decide +kernel, by decide +kernel⟩, by decide⟩, tb 1069 (by decide +kernel) rfl, tb 1070 (by decide +kernel) rfl⟩
theorem g_M_isChapter : MGv m_M_isChapter 1 := ⟨⟨tb 1097 (by decide +kernel) rfl, tb 12 (by decide +kernel) rfl, by decide +kernel, ⟨by decide +kernel, by decide +kernel, by decide +kernel⟩, by decide⟩, tb 1096 (by decide +kernel) rfl, tbp (by decide +kernel) rfl⟩
theorem g_M_isAnyChapter : MGs m_M_isAnyChapter 1 := ⟨⟨tb 1122 (by decide +kernel) rfl, tb 12 (by decide +kernel) rfl, by decide +kernel, ⟨by decide +kernel, by decide +kernel, by decide +kernel⟩, by decide⟩, tb 1121 (by decide +kernel) rfl⟩
theorem g_M_isReader : MGs m_M_isReader 1 := ⟨⟨tb 1108 (by decide +kernel) rfl, tb 12 (by decide +kernel) rfl, by decide +kernel, ⟨by decide +kernel, by decide +kernel, by decide +kernel⟩, by decide⟩, tb 1107 (by decide +kernel) rfl⟩
theorem g_M_isSome : MGs m_M_isSome 1 := ⟨⟨tb 1163 (by decide +kernel) rfl, tb 12 (by decide +kernel) rfl, by decide +kernel, ⟨by decide +kernel, by decide +kernel, by decide +kernel⟩, by decide⟩, tb 1162 (by decide +kernel) rfl⟩
theorem g_M_chapterOf : MGv m_M_chapterOf 2 := ⟨⟨tb 1101 (by decide +kernel) rfl, tb 12 (by decide +kernel) rfl, by decide +kernel, ⟨by decide +kernel, by decide +kernel, by decide +kernel⟩, by decide⟩, tb 1100 (by decide +kernel) rfl, tbp (by decide +kernel) rfl⟩
theorem g_M_chapter : MGv m_M_chapter 2 := ⟨⟨tb 1093 (by decide +kernel) rfl, tb 12 (by decide +kernel) rfl, by decide +kernel, ⟨by decide +kernel, by decide +kernel, by decide +kernel⟩, by decide⟩, tb 1091 (by decide +kernel) rfl, tb 1092 (by decide +kernel) rfl⟩
theorem g_M_pace : MGv m_M_pace 3 := ⟨⟨tb 1105 (by decide +kernel) rfl, tb 12 (by decide +kernel) rfl, by decide +kernel, ⟨by decide +kernel, by decide +kernel, by decide +kernel⟩, by decide⟩, tb 1103 (by decide +kernel) rfl, tb 1104 (by decide +kernel) rfl⟩
theorem g_M_read : MGv m_M_read 2 := ⟨⟨tb 1114 (by decide +kernel) rfl, tb 12 (by decide +kernel) rfl, by decide +kernel, ⟨by decide +kernel, by decide +kernel, by decide +kernel⟩, by decide⟩, tb 1112 (by decide +kernel) rfl, tb 1113 (by decide +kernel) rfl⟩
theorem g_M_like : MGv m_M_like 3 := ⟨⟨tb 1119 (by decide +kernel) rfl, tb 12 (by decide +kernel) rfl, by decide +kernel, ⟨by decide +kernel, by decide +kernel, by decide +kernel⟩, by decide⟩, tb 1117 (by decide +kernel) rfl, tb 1118 (by decide +kernel) rfl⟩
theorem g_M_skip : MGv m_M_skip 2 := ⟨⟨tb 1130 (by decide +kernel) rfl, tb 12 (by decide +kernel) rfl, by decide +kernel, ⟨by decide +kernel, by decide +kernel, by decide +kernel⟩, by decide⟩, tb 1128 (by decide +kernel) rfl, tb 1129 (by decide +kernel) rfl⟩
theorem g_M_reader : MGv m_M_reader 3 := ⟨⟨tb 1134 (by decide +kernel) rfl, tb 12 (by decide +kernel) rfl, by decide +kernel, ⟨by decide +kernel, by decide +kernel, by decide +kernel⟩, by decide⟩, tb 1132 (by decide +kernel) rfl, tb 1133 (by decide +kernel) rfl⟩
theorem g_M_set : MGv m_M_set 2 := ⟨⟨tb 1140 (by decide +kernel) rfl, tb 12 (by decide +kernel) rfl, by decide +kernel, ⟨by decide +kernel, by decide +kernel, by decide +kernel⟩, by decide⟩, tb 1138 (by decide +kernel) rfl, tb 1139 (by decide +kernel) rfl⟩
theorem g_M_timeBy : MGv m_M_timeBy 3 := ⟨⟨tb 1153 (by decide +kernel) rfl, tb 12 (by decide +kernel) rfl, by decide +kernel, ⟨by decide +kernel, by decide +kernel, by decide +kernel⟩, by decide⟩, tb 1152 (by decide +kernel) rfl, tbp (by decide +kernel) rfl⟩
theorem g_M_timeOf : MGv m_M_timeOf 2 := ⟨⟨tb 1149 (by decide +kernel) rfl, tb 12 (by decide +kernel) rfl, by decide +kernel, ⟨by decide +kernel, by decide +kernel, by decide +kernel⟩, by decide⟩, tb 1148 (by decide +kernel) rfl, tbp (by decide +kernel) rfl⟩
theorem g_M_time : MGv m_M_time 2 := ⟨⟨tb 1145 (by decide +kernel) rfl, tb 12 (by decide +kernel) rfl, by decide +kernel, ⟨by decide +kernel, by decide +kernel, by decide +kernel⟩, by decide⟩, tb 1143 (by decide +kernel) rfl, tb 1144 (by decide +kernel) rfl⟩
theorem g_M_together : MGv m_M_together 2 := ⟨⟨tb 1180 (by decide +kernel) rfl, tb 12 (by decide +kernel) rfl, by decide +kernel, ⟨by decide +kernel, by decide +kernel, by decide +kernel⟩, by decide⟩, tb 1179 (by decide +kernel) rfl, tbp (by decide +kernel) rfl⟩
theorem g_M_isRead : MGv m_M_isRead 1 := ⟨⟨tb 1176 (by decide +kernel) rfl, tb 12 (by decide +kernel) rfl, by decide +kernel, ⟨by decide +kernel, by decide +kernel, by decide +kernel⟩, by decide⟩, tb 1175 (by decide +kernel) rfl, tbp (by decide +kernel) rfl⟩
theorem g_M_findEvening : MGv m_M_findEvening 2 := ⟨⟨tb 1172 (by decide +kernel) rfl, tb 12 (by decide +kernel) rfl, by decide +kernel, ⟨by decide +kernel, by decide +kernel, by decide +kernel⟩, by decide⟩, tb 1171 (by decide +kernel) rfl, tbp (by decide +kernel) rfl⟩
theorem g_M_eveningOf : MGv m_M_eveningOf 3 := ⟨⟨tb 1168 (by decide +kernel) rfl, tb 12 (by decide +kernel) rfl, by decide +kernel, ⟨by decide +kernel, by decide +kernel, by decide +kernel⟩, by decide⟩, tb 1167 (by decide +kernel) rfl, tbp (by decide +kernel) rfl⟩
theorem g_M_evening : MGv m_M_evening 3 := ⟨⟨tb 1160 (by decide +kernel) rfl, tb 12 (by decide +kernel) rfl, by decide +kernel, ⟨by decide +kernel, by decide +kernel, by decide +kernel⟩, by decide⟩, tb 1158 (by decide +kernel) rfl, tb 1159 (by decide +kernel) rfl⟩
theorem g_M_waitedOf : MGv m_M_waitedOf 4 := ⟨⟨tb 1188 (by decide +kernel) rfl, tb 12 (by decide +kernel) rfl, by decide +kernel, ⟨by decide +kernel, by decide +kernel, by decide +kernel⟩, by decide⟩, tb 1187 (by decide +kernel) rfl, tbp (by decide +kernel) rfl⟩
theorem g_M_waited : MGv m_M_waited 4 := ⟨⟨tb 1184 (by decide +kernel) rfl, tb 12 (by decide +kernel) rfl, by decide +kernel, ⟨by decide +kernel, by decide +kernel, by decide +kernel⟩, by decide⟩, tb 1182 (by decide +kernel) rfl, tb 1183 (by decide +kernel) rfl⟩
theorem g_M_amount : MGs m_M_amount 1 := ⟨⟨tb 1206 (by decide +kernel) rfl, tb 12 (by decide +kernel) rfl, by decide +kernel, ⟨by decide +kernel, by decide +kernel, by decide +kernel⟩, by decide⟩, tb 1205 (by decide +kernel) rfl⟩
theorem g_M_tries : MGv m_M_tries 2 := ⟨⟨tb 1203 (by decide +kernel) rfl, tb 12 (by decide +kernel) rfl, by decide +kernel, ⟨by decide +kernel, by decide +kernel, by decide +kernel⟩, by decide⟩, tb 1202 (by decide +kernel) rfl, tbp (by decide +kernel) rfl⟩
theorem g_M_findBest : MGv m_M_findBest 2 := ⟨⟨tb 1199 (by decide +kernel) rfl, tb 12 (by decide +kernel) rfl, by decide +kernel, ⟨by decide +kernel, by decide +kernel, by decide +kernel⟩, by decide⟩, tb 1198 (by decide +kernel) rfl, tbp (by decide +kernel) rfl⟩
theorem g_M_areTwo : MGs m_M_areTwo 2 := ⟨⟨tb 1195 (by decide +kernel) rfl, tb 12 (by decide +kernel) rfl, by decide +kernel, ⟨by decide +kernel, by decide +kernel, by decide +kernel⟩, by decide⟩, tb 1194 (by decide +kernel) rfl⟩
theorem g_M_bestOf : MGv m_M_bestOf 1 := ⟨⟨tb 1210 (by decide +kernel) rfl, tb 12 (by decide +kernel) rfl, by decide +kernel, ⟨by decide +kernel, by decide +kernel, by decide +kernel⟩, by decide⟩, tb 1209 (by decide +kernel) rfl, tbp (by decide +kernel) rfl⟩
theorem g_M_best : MGv m_M_best 3 := ⟨⟨tb 1192 (by decide +kernel) rfl, tb 12 (by decide +kernel) rfl, by decide +kernel, ⟨by decide +kernel, by decide +kernel, by decide +kernel⟩, by decide⟩, tb 1190 (by decide +kernel) rfl, tb 1191 (by decide +kernel) rfl⟩
theorem g_M_how : MGv m_M_how 3 := ⟨⟨tb 1214 (by decide +kernel) rfl, tb 12 (by decide +kernel) rfl, by decide +kernel, ⟨by decide +kernel, by decide +kernel, by decide +kernel⟩, by decide⟩, tb 1212 (by decide +kernel) rfl, tb 1213 (by decide +kernel) rfl⟩
theorem g_M_isSlow : MGs m_M_isSlow 1 := ⟨⟨tb 1221 (by decide +kernel) rfl, tb 12 (by decide +kernel) rfl, by decide +kernel, ⟨by decide +kernel, by decide +kernel, by decide +kernel⟩, by decide⟩, tb 1220 (by decide +kernel) rfl⟩
theorem g_M_gainOf : MGv m_M_gainOf 4 := ⟨⟨tb 1225 (by decide +kernel) rfl, tb 12 (by decide +kernel) rfl, by decide +kernel, ⟨by decide +kernel, by decide +kernel, by decide +kernel⟩, by decide⟩, tb 1224 (by decide +kernel) rfl, tbp (by decide +kernel) rfl⟩
theorem g_M_gain : MGv m_M_gain 4 := ⟨⟨tb 1218 (by decide +kernel) rfl, tb 12 (by decide +kernel) rfl, by decide +kernel, ⟨by decide +kernel, by decide +kernel, by decide +kernel⟩, by decide⟩, tb 1216 (by decide +kernel) rfl, tb 1217 (by decide +kernel) rfl⟩
theorem g_M_isRest : MGv m_M_isRest 4 := ⟨⟨tb 1237 (by decide +kernel) rfl, tb 12 (by decide +kernel) rfl, by decide +kernel, ⟨by decide +kernel, by decide +kernel, by decide +kernel⟩, by decide⟩, tb 1236 (by decide +kernel) rfl, tbp (by decide +kernel) rfl⟩
theorem g_M_restsOf : MGv m_M_restsOf 3 := ⟨⟨tb 1233 (by decide +kernel) rfl, tb 12 (by decide +kernel) rfl, by decide +kernel, ⟨by decide +kernel, by decide +kernel, by decide +kernel⟩, by decide⟩, tb 1232 (by decide +kernel) rfl, tbp (by decide +kernel) rfl⟩
theorem g_M_rests : MGv m_M_rests 3 := ⟨⟨tb 1229 (by decide +kernel) rfl, tb 12 (by decide +kernel) rfl, by decide +kernel, ⟨by decide +kernel, by decide +kernel, by decide +kernel⟩, by decide⟩, tb 1227 (by decide +kernel) rfl, tb 1228 (by decide +kernel) rfl⟩
theorem g_M_apart : MGv m_M_apart 2 := ⟨⟨tb 1260 (by decide +kernel) rfl, tb 12 (by decide +kernel) rfl, by decide +kernel, ⟨by decide +kernel, by decide +kernel, by decide +kernel⟩, by decide⟩, tb 1259 (by decide +kernel) rfl, tbp (by decide +kernel) rfl⟩
theorem g_M_first : MGs m_M_first 1 := ⟨⟨tb 1256 (by decide +kernel) rfl, tb 12 (by decide +kernel) rfl, by decide +kernel, ⟨by decide +kernel, by decide +kernel, by decide +kernel⟩, by decide⟩, tb 1255 (by decide +kernel) rfl⟩
theorem g_M_findPairs : MGv m_M_findPairs 0 := ⟨⟨tb 1252 (by decide +kernel) rfl, tb 12 (by decide +kernel) rfl, by decide +kernel, ⟨by decide +kernel, by decide +kernel, by decide +kernel⟩, by decide⟩, tb 1251 (by decide +kernel) rfl, tbp (by decide +kernel) rfl⟩
theorem g_M_pairsOf : MGv m_M_pairsOf 2 := ⟨⟨tb 1248 (by decide +kernel) rfl, tb 12 (by decide +kernel) rfl, by decide +kernel, ⟨by decide +kernel, by decide +kernel, by decide +kernel⟩, by decide⟩, tb 1247 (by decide +kernel) rfl, tbp (by decide +kernel) rfl⟩
theorem g_M_pairs : MGv m_M_pairs 2 := ⟨⟨tb 1241 (by decide +kernel) rfl, tb 12 (by decide +kernel) rfl, by decide +kernel, ⟨by decide +kernel, by decide +kernel, by decide +kernel⟩, by decide⟩, tb 1239 (by decide +kernel) rfl, tb 1240 (by decide +kernel) rfl⟩
theorem g_M_turn : MGv m_M_turn 3 := ⟨⟨tb 1264 (by decide +kernel) rfl, tb 12 (by decide +kernel) rfl, by decide +kernel, ⟨by decide +kernel, by decide +kernel, by decide +kernel⟩, by decide⟩, tb 1262 (by decide +kernel) rfl, tb 1263 (by decide +kernel) rfl⟩
theorem g_M_forget : MGv m_M_forget 0 := ⟨⟨tb 1268 (by decide +kernel) rfl, tb 12 (by decide +kernel) rfl, by decide +kernel, ⟨by decide +kernel, by decide +kernel, by decide +kernel⟩, by decide⟩, tb 1266 (by decide +kernel) rfl, tb 1267 (by decide +kernel) rfl⟩
theorem g_M_pacesOf : MGv m_M_pacesOf 2 := ⟨⟨tb 1276 (by decide +kernel) rfl, tb 12 (by decide +kernel) rfl, by decide +kernel, ⟨by decide +kernel, by decide +kernel, by decide +kernel⟩, by decide⟩, tb 1275 (by decide +kernel) rfl, tbp (by decide +kernel) rfl⟩
theorem g_M_paces : MGv m_M_paces 2 := ⟨⟨tb 1272 (by decide +kernel) rfl, tb 12 (by decide +kernel) rfl, by decide +kernel, ⟨by decide +kernel, by decide +kernel, by decide +kernel⟩, by decide⟩, tb 1270 (by decide +kernel) rfl, tb 1271 (by decide +kernel) rfl⟩
theorem g_M_unlikeNow : MGv m_M_unlikeNow 0 := ⟨⟨tb 1284 (by decide +kernel) rfl, tb 12 (by decide +kernel) rfl, by decide +kernel, ⟨by decide +kernel, by decide +kernel, by decide +kernel⟩, by decide⟩, tb 1283 (by decide +kernel) rfl, tbp (by decide +kernel) rfl⟩
theorem g_M_unlike : MGv m_M_unlike 0 := ⟨⟨tb 1280 (by decide +kernel) rfl, tb 12 (by decide +kernel) rfl, by decide +kernel, ⟨by decide +kernel, by decide +kernel, by decide +kernel⟩, by decide⟩, tb 1278 (by decide +kernel) rfl, tb 1279 (by decide +kernel) rfl⟩
theorem g_M_quarters : MGv m_M_quarters 2 := ⟨⟨tb 1305 (by decide +kernel) rfl, tb 12 (by decide +kernel) rfl, by decide +kernel, ⟨by decide +kernel, by decide +kernel, by decide +kernel⟩, by decide⟩, tb 1304 (by decide +kernel) rfl, tbp (by decide +kernel) rfl⟩
theorem g_M_togetherSo : MGv m_M_togetherSo 3 := ⟨⟨tb 1309 (by decide +kernel) rfl, tb 12 (by decide +kernel) rfl, by decide +kernel, ⟨by decide +kernel, by decide +kernel, by decide +kernel⟩, by decide⟩, tb 1308 (by decide +kernel) rfl, tbp (by decide +kernel) rfl⟩
theorem g_M_findMinutes : MGv m_M_findMinutes 1 := ⟨⟨tb 1301 (by decide +kernel) rfl, tb 12 (by decide +kernel) rfl, by decide +kernel, ⟨by decide +kernel, by decide +kernel, by decide +kernel⟩, by decide⟩, tb 1300 (by decide +kernel) rfl, tbp (by decide +kernel) rfl⟩
theorem g_M_part : MGs m_M_part 3 := ⟨⟨tb 1312 (by decide +kernel) rfl, tb 12 (by decide +kernel) rfl, by decide +kernel, ⟨by decide +kernel, by decide +kernel, by decide +kernel⟩, by decide⟩, tb 1311 (by decide +kernel) rfl⟩
theorem g_M_doneOf : MGv m_M_doneOf 3 := ⟨⟨tb 1297 (by decide +kernel) rfl, tb 12 (by decide +kernel) rfl, by decide +kernel, ⟨by decide +kernel, by decide +kernel, by decide +kernel⟩, by decide⟩, tb 1296 (by decide +kernel) rfl, tbp (by decide +kernel) rfl⟩
theorem g_M_done : MGv m_M_done 3 := ⟨⟨tb 1288 (by decide +kernel) rfl, tb 12 (by decide +kernel) rfl, by decide +kernel, ⟨by decide +kernel, by decide +kernel, by decide +kernel⟩, by decide⟩, tb 1286 (by decide +kernel) rfl, tb 1287 (by decide +kernel) rfl⟩
theorem g_M_meanOf : MGv m_M_meanOf 2 := ⟨⟨tb 1320 (by decide +kernel) rfl, tb 12 (by decide +kernel) rfl, by decide +kernel, ⟨by decide +kernel, by decide +kernel, by decide +kernel⟩, by decide⟩, tb 1319 (by decide +kernel) rfl, tbp (by decide +kernel) rfl⟩
theorem g_M_mean : MGv m_M_mean 2 := ⟨⟨tb 1316 (by decide +kernel) rfl, tb 12 (by decide +kernel) rfl, by decide +kernel, ⟨by decide +kernel, by decide +kernel, by decide +kernel⟩, by decide⟩, tb 1314 (by decide +kernel) rfl, tb 1315 (by decide +kernel) rfl⟩
theorem g_M_write : MGv m_M_write 2 := ⟨⟨tb 1324 (by decide +kernel) rfl, tb 12 (by decide +kernel) rfl, by decide +kernel, ⟨by decide +kernel, by decide +kernel, by decide +kernel⟩, by decide⟩, tb 1322 (by decide +kernel) rfl, tb 1323 (by decide +kernel) rfl⟩
theorem g_M_count : MGv m_M_count 1 := ⟨⟨tb 1328 (by decide +kernel) rfl, tb 12 (by decide +kernel) rfl, by decide +kernel, ⟨by decide +kernel, by decide +kernel, by decide +kernel⟩, by decide⟩, tb 1326 (by decide +kernel) rfl, tb 1327 (by decide +kernel) rfl⟩
theorem g_M_digest : MGv m_M_digest 0 := ⟨⟨tb 1332 (by decide +kernel) rfl, tb 12 (by decide +kernel) rfl, by decide +kernel, ⟨by decide +kernel, by decide +kernel, by decide +kernel⟩, by decide⟩, tb 1330 (by decide +kernel) rfl, tb 1331 (by decide +kernel) rfl⟩
theorem g_J_bitCount : MGs m_J_bitCount 1 := ⟨⟨tb 644 (by decide +kernel) rfl, tb 15 (by decide +kernel) rfl, by decide +kernel, ⟨by decide +kernel, by decide +kernel, by decide +kernel⟩, by decide⟩, tb 643 (by decide +kernel) rfl⟩
theorem gf_O_10 : GF "OneBook" 10 0 0 := ⟨_, rfl, by decide, tb 267 (by decide +kernel) rfl⟩
theorem gf_O_21 : GF "OneBook" 21 0 1 := ⟨_, rfl, by decide, tb 268 (by decide +kernel) rfl⟩
theorem gf_O_30 : GF "OneBook" 30 0 2 := ⟨_, rfl, by decide, tb 269 (by decide +kernel) rfl⟩
theorem gf_O_37 : GF "OneBook" 37 0 3 := ⟨_, rfl, by decide, tb 270 (by decide +kernel) rfl⟩
theorem gf_O_44 : GF "OneBook" 44 0 4 := ⟨_, rfl, by decide, tb 271 (by decide +kernel) rfl⟩
theorem gf_O_51 : GF "OneBook" 51 0 5 := ⟨_, rfl, by decide, tb 272 (by decide +kernel) rfl⟩
theorem gf_O_58 : GF "OneBook" 58 0 6 := ⟨_, rfl, by decide, tb 273 (by decide +kernel) rfl⟩
theorem gf_O_65 : GF "OneBook" 65 0 7 := ⟨_, rfl, by decide, tb 274 (by decide +kernel) rfl⟩
theorem gf_O_71 : GF "OneBook" 71 0 8 := ⟨_, rfl, by decide, tb 275 (by decide +kernel) rfl⟩
theorem gf_O_76 : GF "OneBook" 76 0 9 := ⟨_, rfl, by decide, tb 276 (by decide +kernel) rfl⟩
theorem gp_O_76 : GP "OneBook" 76 0 9 "I" := ⟨_, rfl, by decide, tb 276 (by decide +kernel) rfl, rfl, rfl⟩
theorem gf_O_80 : GF "OneBook" 80 0 10 := ⟨_, rfl, by decide, tb 277 (by decide +kernel) rfl⟩
theorem gp_O_80 : GP "OneBook" 80 0 10 "I" := ⟨_, rfl, by decide, tb 277 (by decide +kernel) rfl, rfl, rfl⟩
theorem gf_O_83 : GF "OneBook" 83 0 11 := ⟨_, rfl, by decide, tb 278 (by decide +kernel) rfl⟩
theorem gp_O_83 : GP "OneBook" 83 0 11 "I" := ⟨_, rfl, by decide, tb 278 (by decide +kernel) rfl, rfl, rfl⟩
theorem gf_B_11 : GF "OneBook$Book" 11 1 0 := ⟨_, rfl, by decide, tb 30 (by decide +kernel) rfl⟩
theorem gf_B_15 : GF "OneBook$Book" 15 1 1 := ⟨_, rfl, by decide, tb 31 (by decide +kernel) rfl⟩
theorem gf_B_18 : GF "OneBook$Book" 18 1 2 := ⟨_, rfl, by decide, tb 32 (by decide +kernel) rfl⟩
theorem gf_B_21 : GF "OneBook$Book" 21 1 3 := ⟨_, rfl, by decide, tb 33 (by decide +kernel) rfl⟩
theorem gp_B_21 : GP "OneBook$Book" 21 1 3 "I" := ⟨_, rfl, by decide, tb 33 (by decide +kernel) rfl, rfl, rfl⟩
theorem gf_B_25 : GF "OneBook$Book" 25 1 4 := ⟨_, rfl, by decide, tb 34 (by decide +kernel) rfl⟩
theorem gp_B_25 : GP "OneBook$Book" 25 1 4 "I" := ⟨_, rfl, by decide, tb 34 (by decide +kernel) rfl, rfl, rfl⟩
theorem gf_B_28 : GF "OneBook$Book" 28 1 5 := ⟨_, rfl, by decide, tb 35 (by decide +kernel) rfl⟩
theorem gp_B_28 : GP "OneBook$Book" 28 1 5 "I" := ⟨_, rfl, by decide, tb 35 (by decide +kernel) rfl, rfl, rfl⟩
theorem gf_C_11 : GF "OneBook$Company" 11 2 1 := ⟨_, rfl, by decide, tb 75 (by decide +kernel) rfl⟩
theorem gf_C_17 : GF "OneBook$Company" 17 2 2 := ⟨_, rfl, by decide, tb 76 (by decide +kernel) rfl⟩
theorem gf_C_21 : GF "OneBook$Company" 21 2 0 := ⟨_, rfl, by decide, tb 74 (by decide +kernel) rfl⟩
theorem gf_E_9 : GF "OneBook$Evening" 9 4 1 := ⟨_, rfl, by decide, tb 91 (by decide +kernel) rfl⟩
theorem gf_E_15 : GF "OneBook$Evening" 15 4 2 := ⟨_, rfl, by decide, tb 92 (by decide +kernel) rfl⟩
theorem gp_E_15 : GP "OneBook$Evening" 15 4 2 "I" := ⟨_, rfl, by decide, tb 92 (by decide +kernel) rfl, rfl, rfl⟩
theorem gf_E_19 : GF "OneBook$Evening" 19 4 3 := ⟨_, rfl, by decide, tb 93 (by decide +kernel) rfl⟩
theorem gp_E_19 : GP "OneBook$Evening" 19 4 3 "I" := ⟨_, rfl, by decide, tb 93 (by decide +kernel) rfl, rfl, rfl⟩
theorem gf_E_22 : GF "OneBook$Evening" 22 4 4 := ⟨_, rfl, by decide, tb 94 (by decide +kernel) rfl⟩
theorem gp_E_22 : GP "OneBook$Evening" 22 4 4 "I" := ⟨_, rfl, by decide, tb 94 (by decide +kernel) rfl, rfl, rfl⟩
theorem gf_E_25 : GF "OneBook$Evening" 25 4 0 := ⟨_, rfl, by decide, tb 90 (by decide +kernel) rfl⟩
theorem gf_D_11 : GF "OneBook$Moods" 11 9 1 := ⟨_, rfl, by decide, tb 219 (by decide +kernel) rfl⟩
theorem gf_D_15 : GF "OneBook$Moods" 15 9 2 := ⟨_, rfl, by decide, tb 220 (by decide +kernel) rfl⟩
theorem gf_D_19 : GF "OneBook$Moods" 19 9 3 := ⟨_, rfl, by decide, tb 221 (by decide +kernel) rfl⟩
theorem gf_D_22 : GF "OneBook$Moods" 22 9 4 := ⟨_, rfl, by decide, tb 222 (by decide +kernel) rfl⟩
theorem gf_D_25 : GF "OneBook$Moods" 25 9 5 := ⟨_, rfl, by decide, tb 223 (by decide +kernel) rfl⟩
theorem gf_D_28 : GF "OneBook$Moods" 28 9 6 := ⟨_, rfl, by decide, tb 224 (by decide +kernel) rfl⟩
theorem gp_D_28 : GP "OneBook$Moods" 28 9 6 "I" := ⟨_, rfl, by decide, tb 224 (by decide +kernel) rfl, rfl, rfl⟩
theorem gf_D_32 : GF "OneBook$Moods" 32 9 7 := ⟨_, rfl, by decide, tb 225 (by decide +kernel) rfl⟩
theorem gp_D_32 : GP "OneBook$Moods" 32 9 7 "J" := ⟨_, rfl, by decide, tb 225 (by decide +kernel) rfl, rfl, rfl⟩
theorem gf_D_36 : GF "OneBook$Moods" 36 9 8 := ⟨_, rfl, by decide, tb 226 (by decide +kernel) rfl⟩
theorem gp_D_36 : GP "OneBook$Moods" 36 9 8 "J" := ⟨_, rfl, by decide, tb 226 (by decide +kernel) rfl, rfl, rfl⟩
theorem gf_D_39 : GF "OneBook$Moods" 39 9 0 := ⟨_, rfl, by decide, tb 218 (by decide +kernel) rfl⟩
theorem gf_P_9 : GF "OneBook$Plan" 9 5 1 := ⟨_, rfl, by decide, tb 113 (by decide +kernel) rfl⟩
theorem gf_P_15 : GF "OneBook$Plan" 15 5 2 := ⟨_, rfl, by decide, tb 114 (by decide +kernel) rfl⟩
theorem gf_P_18 : GF "OneBook$Plan" 18 5 3 := ⟨_, rfl, by decide, tb 115 (by decide +kernel) rfl⟩
theorem gf_P_21 : GF "OneBook$Plan" 21 5 4 := ⟨_, rfl, by decide, tb 116 (by decide +kernel) rfl⟩
theorem gf_P_24 : GF "OneBook$Plan" 24 5 5 := ⟨_, rfl, by decide, tb 117 (by decide +kernel) rfl⟩
theorem gf_P_27 : GF "OneBook$Plan" 27 5 6 := ⟨_, rfl, by decide, tb 118 (by decide +kernel) rfl⟩
theorem gp_P_27 : GP "OneBook$Plan" 27 5 6 "I" := ⟨_, rfl, by decide, tb 118 (by decide +kernel) rfl, rfl, rfl⟩
theorem gf_P_31 : GF "OneBook$Plan" 31 5 7 := ⟨_, rfl, by decide, tb 119 (by decide +kernel) rfl⟩
theorem gp_P_31 : GP "OneBook$Plan" 31 5 7 "I" := ⟨_, rfl, by decide, tb 119 (by decide +kernel) rfl, rfl, rfl⟩
theorem gf_P_34 : GF "OneBook$Plan" 34 5 8 := ⟨_, rfl, by decide, tb 120 (by decide +kernel) rfl⟩
theorem gp_P_34 : GP "OneBook$Plan" 34 5 8 "I" := ⟨_, rfl, by decide, tb 120 (by decide +kernel) rfl, rfl, rfl⟩
theorem gf_P_37 : GF "OneBook$Plan" 37 5 9 := ⟨_, rfl, by decide, tb 121 (by decide +kernel) rfl⟩
theorem gp_P_37 : GP "OneBook$Plan" 37 5 9 "I" := ⟨_, rfl, by decide, tb 121 (by decide +kernel) rfl, rfl, rfl⟩
theorem gf_P_40 : GF "OneBook$Plan" 40 5 10 := ⟨_, rfl, by decide, tb 122 (by decide +kernel) rfl⟩
theorem gp_P_40 : GP "OneBook$Plan" 40 5 10 "I" := ⟨_, rfl, by decide, tb 122 (by decide +kernel) rfl, rfl, rfl⟩
theorem gf_P_43 : GF "OneBook$Plan" 43 5 0 := ⟨_, rfl, by decide, tb 112 (by decide +kernel) rfl⟩
theorem gf_R_9 : GF "OneBook$Reader" 9 3 0 := ⟨_, rfl, by decide, tb 63 (by decide +kernel) rfl⟩
theorem gf_R_15 : GF "OneBook$Reader" 15 3 1 := ⟨_, rfl, by decide, tb 64 (by decide +kernel) rfl⟩
theorem gf_R_19 : GF "OneBook$Reader" 19 3 2 := ⟨_, rfl, by decide, tb 65 (by decide +kernel) rfl⟩
theorem gf_T_9 : GF "OneBook$Seating" 9 7 1 := ⟨_, rfl, by decide, tb 175 (by decide +kernel) rfl⟩
theorem gf_T_15 : GF "OneBook$Seating" 15 7 2 := ⟨_, rfl, by decide, tb 176 (by decide +kernel) rfl⟩
theorem gf_T_18 : GF "OneBook$Seating" 18 7 3 := ⟨_, rfl, by decide, tb 177 (by decide +kernel) rfl⟩
theorem gf_T_21 : GF "OneBook$Seating" 21 7 4 := ⟨_, rfl, by decide, tb 178 (by decide +kernel) rfl⟩
theorem gp_T_21 : GP "OneBook$Seating" 21 7 4 "I" := ⟨_, rfl, by decide, tb 178 (by decide +kernel) rfl, rfl, rfl⟩
theorem gf_T_25 : GF "OneBook$Seating" 25 7 0 := ⟨_, rfl, by decide, tb 174 (by decide +kernel) rfl⟩
theorem gf_S_11 : GF "OneBook$Seeming" 11 6 1 := ⟨_, rfl, by decide, tb 153 (by decide +kernel) rfl⟩
theorem gf_S_15 : GF "OneBook$Seeming" 15 6 2 := ⟨_, rfl, by decide, tb 154 (by decide +kernel) rfl⟩
theorem gf_S_18 : GF "OneBook$Seeming" 18 6 3 := ⟨_, rfl, by decide, tb 155 (by decide +kernel) rfl⟩
theorem gf_S_21 : GF "OneBook$Seeming" 21 6 4 := ⟨_, rfl, by decide, tb 156 (by decide +kernel) rfl⟩
theorem gp_S_21 : GP "OneBook$Seeming" 21 6 4 "I" := ⟨_, rfl, by decide, tb 156 (by decide +kernel) rfl, rfl, rfl⟩
theorem gf_S_25 : GF "OneBook$Seeming" 25 6 0 := ⟨_, rfl, by decide, tb 152 (by decide +kernel) rfl⟩
theorem gf_H_9 : GF "OneBook$Sheet" 9 10 0 := ⟨_, rfl, by decide, tb 254 (by decide +kernel) rfl⟩
theorem gf_H_15 : GF "OneBook$Sheet" 15 10 1 := ⟨_, rfl, by decide, tb 255 (by decide +kernel) rfl⟩
theorem gp_H_15 : GP "OneBook$Sheet" 15 10 1 "Z" := ⟨_, rfl, by decide, tb 255 (by decide +kernel) rfl, rfl, rfl⟩
theorem gf_H_19 : GF "OneBook$Sheet" 19 10 2 := ⟨_, rfl, by decide, tb 256 (by decide +kernel) rfl⟩
theorem gp_H_19 : GP "OneBook$Sheet" 19 10 2 "I" := ⟨_, rfl, by decide, tb 256 (by decide +kernel) rfl, rfl, rfl⟩
theorem gf_H_23 : GF "OneBook$Sheet" 23 10 3 := ⟨_, rfl, by decide, tb 257 (by decide +kernel) rfl⟩
theorem gp_H_23 : GP "OneBook$Sheet" 23 10 3 "I" := ⟨_, rfl, by decide, tb 257 (by decide +kernel) rfl, rfl, rfl⟩
theorem gf_U_11 : GF "OneBook$Turns" 11 8 1 := ⟨_, rfl, by decide, tb 197 (by decide +kernel) rfl⟩
theorem gf_U_15 : GF "OneBook$Turns" 15 8 2 := ⟨_, rfl, by decide, tb 198 (by decide +kernel) rfl⟩
theorem gf_U_18 : GF "OneBook$Turns" 18 8 3 := ⟨_, rfl, by decide, tb 199 (by decide +kernel) rfl⟩
theorem gf_U_21 : GF "OneBook$Turns" 21 8 4 := ⟨_, rfl, by decide, tb 200 (by decide +kernel) rfl⟩
theorem gp_U_21 : GP "OneBook$Turns" 21 8 4 "I" := ⟨_, rfl, by decide, tb 200 (by decide +kernel) rfl, rfl, rfl⟩
theorem gf_U_25 : GF "OneBook$Turns" 25 8 0 := ⟨_, rfl, by decide, tb 196 (by decide +kernel) rfl⟩
theorem gf_M_7 : GF "OneBookModel" 7 11 0 := ⟨_, rfl, by decide, tb 916 (by decide +kernel) rfl⟩
theorem gf_M_13 : GF "OneBookModel" 13 11 1 := ⟨_, rfl, by decide, tb 917 (by decide +kernel) rfl⟩
theorem gf_M_16 : GF "OneBookModel" 16 11 2 := ⟨_, rfl, by decide, tb 918 (by decide +kernel) rfl⟩
theorem gf_M_19 : GF "OneBookModel" 19 11 3 := ⟨_, rfl, by decide, tb 919 (by decide +kernel) rfl⟩
theorem gf_M_22 : GF "OneBookModel" 22 11 5 := ⟨_, rfl, by decide, tb 921 (by decide +kernel) rfl⟩
theorem gf_M_25 : GF "OneBookModel" 25 11 9 := ⟨_, rfl, by decide, tb 925 (by decide +kernel) rfl⟩
theorem gf_M_28 : GF "OneBookModel" 28 11 10 := ⟨_, rfl, by decide, tb 926 (by decide +kernel) rfl⟩
theorem gf_M_31 : GF "OneBookModel" 31 11 12 := ⟨_, rfl, by decide, tb 928 (by decide +kernel) rfl⟩
theorem gf_M_34 : GF "OneBookModel" 34 11 13 := ⟨_, rfl, by decide, tb 929 (by decide +kernel) rfl⟩
theorem gf_M_37 : GF "OneBookModel" 37 11 14 := ⟨_, rfl, by decide, tb 930 (by decide +kernel) rfl⟩
theorem gf_M_40 : GF "OneBookModel" 40 11 15 := ⟨_, rfl, by decide, tb 931 (by decide +kernel) rfl⟩
theorem gf_M_43 : GF "OneBookModel" 43 11 16 := ⟨_, rfl, by decide, tb 932 (by decide +kernel) rfl⟩
theorem gf_M_46 : GF "OneBookModel" 46 11 17 := ⟨_, rfl, by decide, tb 933 (by decide +kernel) rfl⟩
theorem gf_M_49 : GF "OneBookModel" 49 11 21 := ⟨_, rfl, by decide, tb 937 (by decide +kernel) rfl⟩
theorem gf_M_52 : GF "OneBookModel" 52 11 22 := ⟨_, rfl, by decide, tb 938 (by decide +kernel) rfl⟩
theorem gf_M_55 : GF "OneBookModel" 55 11 23 := ⟨_, rfl, by decide, tb 939 (by decide +kernel) rfl⟩
theorem gf_M_58 : GF "OneBookModel" 58 11 27 := ⟨_, rfl, by decide, tb 943 (by decide +kernel) rfl⟩
theorem gf_M_61 : GF "OneBookModel" 61 11 28 := ⟨_, rfl, by decide, tb 944 (by decide +kernel) rfl⟩
theorem gf_M_64 : GF "OneBookModel" 64 11 30 := ⟨_, rfl, by decide, tb 946 (by decide +kernel) rfl⟩
theorem gf_M_67 : GF "OneBookModel" 67 11 31 := ⟨_, rfl, by decide, tb 947 (by decide +kernel) rfl⟩
theorem gf_M_71 : GF "OneBookModel" 71 11 32 := ⟨_, rfl, by decide, tb 948 (by decide +kernel) rfl⟩
theorem gf_M_80 : GF "OneBookModel" 80 11 4 := ⟨_, rfl, by decide, tb 920 (by decide +kernel) rfl⟩
theorem gp_M_80 : GP "OneBookModel" 80 11 4 "I" := ⟨_, rfl, by decide, tb 920 (by decide +kernel) rfl, rfl, rfl⟩
theorem gf_M_107 : GF "OneBookModel" 107 11 6 := ⟨_, rfl, by decide, tb 922 (by decide +kernel) rfl⟩
theorem gp_M_107 : GP "OneBookModel" 107 11 6 "I" := ⟨_, rfl, by decide, tb 922 (by decide +kernel) rfl, rfl, rfl⟩
theorem gf_M_110 : GF "OneBookModel" 110 11 7 := ⟨_, rfl, by decide, tb 923 (by decide +kernel) rfl⟩
theorem gp_M_110 : GP "OneBookModel" 110 11 7 "I" := ⟨_, rfl, by decide, tb 923 (by decide +kernel) rfl, rfl, rfl⟩
theorem gf_M_113 : GF "OneBookModel" 113 11 8 := ⟨_, rfl, by decide, tb 924 (by decide +kernel) rfl⟩
theorem gp_M_113 : GP "OneBookModel" 113 11 8 "I" := ⟨_, rfl, by decide, tb 924 (by decide +kernel) rfl, rfl, rfl⟩
theorem gf_M_140 : GF "OneBookModel" 140 11 11 := ⟨_, rfl, by decide, tb 927 (by decide +kernel) rfl⟩
theorem gp_M_140 : GP "OneBookModel" 140 11 11 "I" := ⟨_, rfl, by decide, tb 927 (by decide +kernel) rfl, rfl, rfl⟩
theorem gf_M_179 : GF "OneBookModel" 179 11 18 := ⟨_, rfl, by decide, tb 934 (by decide +kernel) rfl⟩
theorem gp_M_179 : GP "OneBookModel" 179 11 18 "I" := ⟨_, rfl, by decide, tb 934 (by decide +kernel) rfl, rfl, rfl⟩
theorem gf_M_182 : GF "OneBookModel" 182 11 19 := ⟨_, rfl, by decide, tb 935 (by decide +kernel) rfl⟩
theorem gp_M_182 : GP "OneBookModel" 182 11 19 "I" := ⟨_, rfl, by decide, tb 935 (by decide +kernel) rfl, rfl, rfl⟩
theorem gf_M_185 : GF "OneBookModel" 185 11 20 := ⟨_, rfl, by decide, tb 936 (by decide +kernel) rfl⟩
theorem gp_M_185 : GP "OneBookModel" 185 11 20 "I" := ⟨_, rfl, by decide, tb 936 (by decide +kernel) rfl, rfl, rfl⟩
theorem gf_M_211 : GF "OneBookModel" 211 11 24 := ⟨_, rfl, by decide, tb 940 (by decide +kernel) rfl⟩
theorem gp_M_211 : GP "OneBookModel" 211 11 24 "I" := ⟨_, rfl, by decide, tb 940 (by decide +kernel) rfl, rfl, rfl⟩
theorem gf_M_214 : GF "OneBookModel" 214 11 25 := ⟨_, rfl, by decide, tb 941 (by decide +kernel) rfl⟩
theorem gp_M_214 : GP "OneBookModel" 214 11 25 "I" := ⟨_, rfl, by decide, tb 941 (by decide +kernel) rfl, rfl, rfl⟩
theorem gf_M_217 : GF "OneBookModel" 217 11 26 := ⟨_, rfl, by decide, tb 942 (by decide +kernel) rfl⟩
theorem gp_M_217 : GP "OneBookModel" 217 11 26 "I" := ⟨_, rfl, by decide, tb 942 (by decide +kernel) rfl, rfl, rfl⟩
theorem gf_M_261 : GF "OneBookModel" 261 11 29 := ⟨_, rfl, by decide, tb 945 (by decide +kernel) rfl⟩
theorem gp_M_261 : GP "OneBookModel" 261 11 29 "I" := ⟨_, rfl, by decide, tb 945 (by decide +kernel) rfl, rfl, rfl⟩
theorem gf_M_270 : GF "OneBookModel" 270 11 33 := ⟨_, rfl, by decide, tb 949 (by decide +kernel) rfl⟩
theorem gp_M_270 : GP "OneBookModel" 270 11 33 "J" := ⟨_, rfl, by decide, tb 949 (by decide +kernel) rfl, rfl, rfl⟩
theorem ml_O_86 : Cond.methodLink "OneBook" 86 m_O_within.1 ∈ lw_gd := tb 308 (by decide +kernel) rfl
theorem ml_O_90 : Cond.methodLink "OneBook" 90 m_B_append.1 ∈ lw_gd := tb 311 (by decide +kernel) rfl
theorem ml_O_94 : Cond.methodLink "OneBook" 94 m_B_size.1 ∈ lw_gd := tb 335 (by decide +kernel) rfl
theorem ml_O_98 : Cond.methodLink "OneBook" 98 m_B_clear.1 ∈ lw_gd := tb 343 (by decide +kernel) rfl
theorem ml_O_101 : Cond.methodLink "OneBook" 101 m_B_faultPlace.1 ∈ lw_gd := tb 351 (by decide +kernel) rfl
theorem ml_O_104 : Cond.methodLink "OneBook" 104 m_O_isChapter.1 ∈ lw_gd := tb 359 (by decide +kernel) rfl
theorem ml_O_107 : Cond.methodLink "OneBook" 107 m_B_kindOf.1 ∈ lw_gd := tb 367 (by decide +kernel) rfl
theorem ml_O_111 : Cond.methodLink "OneBook" 111 m_B_linesOf.1 ∈ lw_gd := tb 371 (by decide +kernel) rfl
theorem ml_O_114 : Cond.methodLink "OneBook" 114 m_C_isSkipped.1 ∈ lw_gd := tb 375 (by decide +kernel) rfl
theorem ml_O_117 : Cond.methodLink "OneBook" 117 m_O_asNumber.1 ∈ lw_gd := tb 379 (by decide +kernel) rfl
theorem ml_O_121 : Cond.methodLink "OneBook" 121 m_O_isReader.1 ∈ lw_gd := tb 386 (by decide +kernel) rfl
theorem ml_O_124 : Cond.methodLink "OneBook" 124 m_O_isKind.1 ∈ lw_gd := tb 389 (by decide +kernel) rfl
theorem ml_O_127 : Cond.methodLink "OneBook" 127 m_C_person.1 ∈ lw_gd := tb 392 (by decide +kernel) rfl
theorem ml_O_131 : Cond.methodLink "OneBook" 131 m_R_changePace.1 ∈ lw_gd := tb 396 (by decide +kernel) rfl
theorem ml_O_137 : Cond.methodLink "OneBook" 137 m_O_isSheet.1 ∈ lw_gd := tb 404 (by decide +kernel) rfl
theorem ml_O_140 : Cond.methodLink "OneBook" 140 m_H_isLost.1 ∈ lw_gd := tb 407 (by decide +kernel) rfl
theorem ml_O_144 : Cond.methodLink "OneBook" 144 m_O_found.1 ∈ lw_gd := tb 411 (by decide +kernel) rfl
theorem ml_O_147 : Cond.methodLink "OneBook" 147 m_H_size.1 ∈ lw_gd := tb 415 (by decide +kernel) rfl
theorem ml_O_148 : Cond.methodLink "OneBook" 148 Lib.Math.min.name ∈ lw_gd := tb 419 (by decide +kernel) rfl
theorem ml_O_153 : Cond.methodLink "OneBook" 153 m_H_item.1 ∈ lw_gd := tb 422 (by decide +kernel) rfl
theorem ml_O_156 : Cond.methodLink "OneBook" 156 m_R_changeLike.1 ∈ lw_gd := tb 430 (by decide +kernel) rfl
theorem ml_O_160 : Cond.methodLink "OneBook" 160 m_C_changeSkip.1 ∈ lw_gd := tb 438 (by decide +kernel) rfl
theorem ml_O_163 : Cond.methodLink "OneBook" 163 m_O_mostOfTrait.1 ∈ lw_gd := tb 446 (by decide +kernel) rfl
theorem ml_O_166 : Cond.methodLink "OneBook" 166 m_R_changeTrait.1 ∈ lw_gd := tb 449 (by decide +kernel) rfl
theorem ml_O_169 : Cond.methodLink "OneBook" 169 m_C_minutes.1 ∈ lw_gd := tb 461 (by decide +kernel) rfl
theorem ml_O_172 : Cond.methodLink "OneBook" 172 m_O_isCompany.1 ∈ lw_gd := tb 483 (by decide +kernel) rfl
theorem ml_O_175 : Cond.methodLink "OneBook" 175 m_E_sit.1 ∈ lw_gd := tb 486 (by decide +kernel) rfl
theorem ml_O_179 : Cond.methodLink "OneBook" 179 m_E_chapters.1 ∈ lw_gd := tb 512 (by decide +kernel) rfl
theorem ml_O_182 : Cond.methodLink "OneBook" 182 m_E_minute.1 ∈ lw_gd := tb 516 (by decide +kernel) rfl
theorem ml_O_185 : Cond.methodLink "OneBook" 185 m_E_next.1 ∈ lw_gd := tb 520 (by decide +kernel) rfl
theorem ml_O_188 : Cond.methodLink "OneBook" 188 m_O_holds.1 ∈ lw_gd := tb 528 (by decide +kernel) rfl
theorem ml_O_192 : Cond.methodLink "OneBook" 192 m_E_waitOf.1 ∈ lw_gd := tb 529 (by decide +kernel) rfl
theorem ml_O_195 : Cond.methodLink "OneBook" 195 m_E_workLeft.1 ∈ lw_gd := tb 533 (by decide +kernel) rfl
theorem ml_O_198 : Cond.methodLink "OneBook" 198 m_O_areTwo.1 ∈ lw_gd := tb 547 (by decide +kernel) rfl
theorem ml_O_201 : Cond.methodLink "OneBook" 201 m_P_search.1 ∈ lw_gd := tb 550 (by decide +kernel) rfl
theorem ml_O_205 : Cond.methodLink "OneBook" 205 m_P_lines.1 ∈ lw_gd := tb 580 (by decide +kernel) rfl
theorem ml_O_208 : Cond.methodLink "OneBook" 208 m_P_waits.1 ∈ lw_gd := tb 584 (by decide +kernel) rfl
theorem ml_O_211 : Cond.methodLink "OneBook" 211 m_P_minutes.1 ∈ lw_gd := tb 588 (by decide +kernel) rfl
theorem ml_O_213 : Cond.methodLink "OneBook" 213 m_P_wayOf.1 ∈ lw_gd := tb 596 (by decide +kernel) rfl
theorem ml_O_216 : Cond.methodLink "OneBook" 216 m_S_gainOf.1 ∈ lw_gd := tb 604 (by decide +kernel) rfl
theorem ml_O_220 : Cond.methodLink "OneBook" 220 m_S_findRests.1 ∈ lw_gd := tb 621 (by decide +kernel) rfl
theorem ml_O_224 : Cond.methodLink "OneBook" 224 m_S_restCount.1 ∈ lw_gd := tb 630 (by decide +kernel) rfl
theorem ml_O_227 : Cond.methodLink "OneBook" 227 m_S_restAt.1 ∈ lw_gd := tb 634 (by decide +kernel) rfl
theorem ml_O_230 : Cond.methodLink "OneBook" 230 m_J_bitCount.1 ∈ lw_gd := tb 642 (by decide +kernel) rfl
theorem ml_O_235 : Cond.methodLink "OneBook" 235 m_T_seat.1 ∈ lw_gd := tb 648 (by decide +kernel) rfl
theorem ml_O_239 : Cond.methodLink "OneBook" 239 m_T_minutes.1 ∈ lw_gd := tb 674 (by decide +kernel) rfl
theorem ml_O_240 : Cond.methodLink "OneBook" 240 m_T_partnerOf.1 ∈ lw_gd := tb 678 (by decide +kernel) rfl
theorem ml_O_243 : Cond.methodLink "OneBook" 243 m_U_append.1 ∈ lw_gd := tb 686 (by decide +kernel) rfl
theorem ml_O_245 : Cond.methodLink "OneBook" 245 m_U_size.1 ∈ lw_gd := tb 690 (by decide +kernel) rfl
theorem ml_O_246 : Cond.methodLink "OneBook" 246 m_U_clear.1 ∈ lw_gd := tb 698 (by decide +kernel) rfl
theorem ml_O_247 : Cond.methodLink "OneBook" 247 m_U_fittingPaces.1 ∈ lw_gd := tb 706 (by decide +kernel) rfl
theorem ml_O_250 : Cond.methodLink "OneBook" 250 m_U_countUnlike.1 ∈ lw_gd := tb 735 (by decide +kernel) rfl
theorem ml_O_253 : Cond.methodLink "OneBook" 253 m_O_refusedLong.1 ∈ lw_gd := tb 743 (by decide +kernel) rfl
theorem ml_O_257 : Cond.methodLink "OneBook" 257 m_D_chanceBy.1 ∈ lw_gd := tb 747 (by decide +kernel) rfl
theorem ml_O_260 : Cond.methodLink "OneBook" 260 m_D_above.1 ∈ lw_gd := tb 785 (by decide +kernel) rfl
theorem ml_O_264 : Cond.methodLink "OneBook" 264 m_D_below.1 ∈ lw_gd := tb 789 (by decide +kernel) rfl
theorem ml_O_267 : Cond.methodLink "OneBook" 267 m_D_meanMinutes.1 ∈ lw_gd := tb 797 (by decide +kernel) rfl
theorem ml_O_270 : Cond.methodLink "OneBook" 270 m_O_isForm.1 ∈ lw_gd := tb 805 (by decide +kernel) rfl
theorem ml_O_273 : Cond.methodLink "OneBook" 273 m_H_renew.1 ∈ lw_gd := tb 808 (by decide +kernel) rfl
theorem ml_O_276 : Cond.methodLink "OneBook" 276 m_H_drop.1 ∈ lw_gd := tb 816 (by decide +kernel) rfl
theorem ml_O_279 : Cond.methodLink "OneBook" 279 m_O_findingAt.1 ∈ lw_gd := tb 824 (by decide +kernel) rfl
theorem ml_O_283 : Cond.methodLink "OneBook" 283 m_H_put.1 ∈ lw_gd := tb 835 (by decide +kernel) rfl
theorem ml_O_287 : Cond.methodLink "OneBook" 287 m_H_form.1 ∈ lw_gd := tb 827 (by decide +kernel) rfl
theorem ml_O_290 : Cond.methodLink "OneBook" 290 m_H_spans.1 ∈ lw_gd := tb 831 (by decide +kernel) rfl
theorem ml_O_293 : Cond.methodLink "OneBook" 293 m_H_takeFrom.1 ∈ lw_gd := tb 852 (by decide +kernel) rfl
theorem ml_O_297 : Cond.methodLink "OneBook" 297 m_B_chapters.1 ∈ lw_gd := tb 363 (by decide +kernel) rfl
theorem ml_O_298 : Cond.methodLink "OneBook" 298 m_B_allLines.1 ∈ lw_gd := tb 865 (by decide +kernel) rfl
theorem ml_O_301 : Cond.methodLink "OneBook" 301 m_C_countSkipped.1 ∈ lw_gd := tb 869 (by decide +kernel) rfl
theorem ml_O_304 : Cond.methodLink "OneBook" 304 m_C_countLikes.1 ∈ lw_gd := tb 873 (by decide +kernel) rfl
theorem ml_O_309 : Cond.methodLink "OneBook" 309 m_O_count.1 ∈ lw_gd := tb 882 (by decide +kernel) rfl
theorem ml_O_312 : Cond.methodLink "OneBook" 312 m_O_mix.1 ∈ lw_gd := tb 883 (by decide +kernel) rfl
theorem ml_O_316 : Cond.methodLink "OneBook" 316 m_O_fault.1 ∈ lw_gd := tb 887 (by decide +kernel) rfl
theorem ml_O_319 : Cond.methodLink "OneBook" 319 m_O_mixChapter.1 ∈ lw_gd := tb 888 (by decide +kernel) rfl
theorem ml_O_323 : Cond.methodLink "OneBook" 323 m_O_mixPlan.1 ∈ lw_gd := tb 893 (by decide +kernel) rfl
theorem ml_O_327 : Cond.methodLink "OneBook" 327 m_O_mixSeeming.1 ∈ lw_gd := tb 897 (by decide +kernel) rfl
theorem ml_O_330 : Cond.methodLink "OneBook" 330 m_O_mixSeats.1 ∈ lw_gd := tb 901 (by decide +kernel) rfl
theorem ml_O_333 : Cond.methodLink "OneBook" 333 m_O_unlike.1 ∈ lw_gd := tb 905 (by decide +kernel) rfl
theorem ml_O_336 : Cond.methodLink "OneBook" 336 m_O_mixMoods.1 ∈ lw_gd := tb 906 (by decide +kernel) rfl
theorem ml_O_341 : Cond.methodLink "OneBook" 341 m_O_chapter.1 ∈ lw_gd := tb 892 (by decide +kernel) rfl
theorem ml_B_31 : Cond.methodLink "OneBook$Book" 31 m_B_parse.1 ∈ lw_gd := tb 315 (by decide +kernel) rfl
theorem ml_B_34 : Cond.methodLink "OneBook$Book" 34 m_B_findFault.1 ∈ lw_gd := tb 319 (by decide +kernel) rfl
theorem ml_B_38 : Cond.methodLink "OneBook$Book" 38 m_B_kindAt.1 ∈ lw_gd := tb 327 (by decide +kernel) rfl
theorem ml_B_42 : Cond.methodLink "OneBook$Book" 42 m_B_figureAt.1 ∈ lw_gd := tb 331 (by decide +kernel) rfl
theorem ml_B_45 : Cond.methodLink "OneBook$Book" 45 m_B_goesOn.1 ∈ lw_gd := tb 323 (by decide +kernel) rfl
theorem ml_C_26 : Cond.methodLink "OneBook$Company" 26 m_B_chapters.1 ∈ lw_gd := tb 494 (by decide +kernel) rfl
theorem ml_C_32 : Cond.methodLink "OneBook$Company" 32 m_B_kindOf.1 ∈ lw_gd := tb 465 (by decide +kernel) rfl
theorem ml_C_36 : Cond.methodLink "OneBook$Company" 36 m_B_linesOf.1 ∈ lw_gd := tb 474 (by decide +kernel) rfl
theorem ml_C_39 : Cond.methodLink "OneBook$Company" 39 m_C_chapters.1 ∈ lw_gd := tb 656 (by decide +kernel) rfl
theorem ml_C_40 : Cond.methodLink "OneBook$Company" 40 m_R_likes.1 ∈ lw_gd := tb 475 (by decide +kernel) rfl
theorem ml_C_44 : Cond.methodLink "OneBook$Company" 44 m_R_speedFor.1 ∈ lw_gd := tb 466 (by decide +kernel) rfl
theorem ml_C_47 : Cond.methodLink "OneBook$Company" 47 m_C_minutesAt.1 ∈ lw_gd := tb 470 (by decide +kernel) rfl
theorem ml_C_51 : Cond.methodLinkNest "OneBook$Company" 51 m_O_holds.1 "OneBook" ∈ nests := by decide +kernel
theorem ml_C_55 : Cond.methodLink "OneBook$Company" 55 Lib.Math.max.name ∈ lw_gd := tb 507 (by decide +kernel) rfl
theorem ml_C_61 : Cond.methodLink "OneBook$Company" 61 m_C_minutes.1 ∈ lw_gd := tb 657 (by decide +kernel) rfl
theorem ml_C_64 : Cond.methodLink "OneBook$Company" 64 Lib.Math.abs.name ∈ lw_gd := tb 658 (by decide +kernel) rfl
theorem ml_E_29 : Cond.methodLink "OneBook$Evening" 29 m_C_chapters.1 ∈ lw_gd := tb 490 (by decide +kernel) rfl
theorem ml_E_34 : Cond.methodLink "OneBook$Evening" 34 m_C_isSkipped.1 ∈ lw_gd := tb 495 (by decide +kernel) rfl
theorem ml_E_38 : Cond.methodLink "OneBook$Evening" 38 m_E_readOrStop.1 ∈ lw_gd := tb 496 (by decide +kernel) rfl
theorem ml_E_42 : Cond.methodLink "OneBook$Evening" 42 m_C_together.1 ∈ lw_gd := tb 500 (by decide +kernel) rfl
theorem ml_E_46 : Cond.methodLinkNest "OneBook$Evening" 46 m_O_holds.1 "OneBook" ∈ nests := by decide +kernel
theorem ml_E_50 : Cond.methodLink "OneBook$Evening" 50 m_C_minutes.1 ∈ lw_gd := tb 511 (by decide +kernel) rfl
theorem ml_E_53 : Cond.methodLink "OneBook$Evening" 53 m_C_person.1 ∈ lw_gd := tb 537 (by decide +kernel) rfl
theorem ml_E_57 : Cond.methodLink "OneBook$Evening" 57 m_R_work.1 ∈ lw_gd := tb 538 (by decide +kernel) rfl
theorem ml_E_62 : Cond.methodLink "OneBook$Evening" 62 Lib.Math.max.name ∈ lw_gd := tb 542 (by decide +kernel) rfl
theorem ml_D_43 : Cond.methodLink "OneBook$Moods" 43 Lib.Math.min.name ∈ lw_gd := tb 751 (by decide +kernel) rfl
theorem ml_D_49 : Cond.methodLink "OneBook$Moods" 49 m_C_chapters.1 ∈ lw_gd := tb 752 (by decide +kernel) rfl
theorem ml_D_55 : Cond.methodLink "OneBook$Moods" 55 m_C_isSkipped.1 ∈ lw_gd := tb 753 (by decide +kernel) rfl
theorem ml_D_59 : Cond.methodLink "OneBook$Moods" 59 m_D_findOutcomes.1 ∈ lw_gd := tb 754 (by decide +kernel) rfl
theorem ml_D_63 : Cond.methodLink "OneBook$Moods" 63 m_D_readOn.1 ∈ lw_gd := tb 770 (by decide +kernel) rfl
theorem ml_D_67 : Cond.methodLink "OneBook$Moods" 67 m_D_casesOf.1 ∈ lw_gd := tb 774 (by decide +kernel) rfl
theorem ml_D_71 : Cond.methodLink "OneBook$Moods" 71 m_D_reduce.1 ∈ lw_gd := tb 778 (by decide +kernel) rfl
theorem ml_D_75 : Cond.methodLink "OneBook$Moods" 75 m_J_bitCount.1 ∈ lw_gd := tb 777 (by decide +kernel) rfl
theorem ml_D_81 : Cond.methodLinkNest "OneBook$Moods" 81 m_O_holds.1 "OneBook" ∈ nests := by decide +kernel
theorem ml_D_85 : Cond.methodLink "OneBook$Moods" 85 m_C_minutes.1 ∈ lw_gd := tb 759 (by decide +kernel) rfl
theorem ml_D_88 : Cond.methodLink "OneBook$Moods" 88 m_C_person.1 ∈ lw_gd := tb 760 (by decide +kernel) rfl
theorem ml_D_92 : Cond.methodLink "OneBook$Moods" 92 m_R_mood.1 ∈ lw_gd := tb 761 (by decide +kernel) rfl
theorem ml_D_97 : Cond.methodLink "OneBook$Moods" 97 Lib.Math.max.name ∈ lw_gd := tb 765 (by decide +kernel) rfl
theorem ml_D_100 : Cond.methodLink "OneBook$Moods" 100 m_D_addOutcome.1 ∈ lw_gd := tb 766 (by decide +kernel) rfl
theorem ml_D_103 : Cond.methodLink "OneBook$Moods" 103 m_D_commonDivisor.1 ∈ lw_gd := tb 782 (by decide +kernel) rfl
theorem ml_P_47 : Cond.methodLink "OneBook$Plan" 47 m_C_chapters.1 ∈ lw_gd := tb 554 (by decide +kernel) rfl
theorem ml_P_53 : Cond.methodLink "OneBook$Plan" 53 m_C_minutes.1 ∈ lw_gd := tb 555 (by decide +kernel) rfl
theorem ml_P_57 : Cond.methodLink "OneBook$Plan" 57 m_C_isSkipped.1 ∈ lw_gd := tb 556 (by decide +kernel) rfl
theorem ml_P_61 : Cond.methodLink "OneBook$Plan" 61 m_C_linesOf.1 ∈ lw_gd := tb 557 (by decide +kernel) rfl
theorem ml_P_65 : Cond.methodLink "OneBook$Plan" 65 m_P_choose.1 ∈ lw_gd := tb 561 (by decide +kernel) rfl
theorem ml_P_69 : Cond.methodLink "OneBook$Plan" 69 m_P_isNoBetter.1 ∈ lw_gd := tb 565 (by decide +kernel) rfl
theorem ml_P_73 : Cond.methodLink "OneBook$Plan" 73 m_P_keep.1 ∈ lw_gd := tb 569 (by decide +kernel) rfl
theorem ml_P_77 : Cond.methodLink "OneBook$Plan" 77 Lib.Math.abs.name ∈ lw_gd := tb 576 (by decide +kernel) rfl
theorem ml_P_82 : Cond.methodLink "OneBook$Plan" 82 Lib.Math.max.name ∈ lw_gd := tb 579 (by decide +kernel) rfl
theorem ml_P_85 : Cond.methodLink "OneBook$Plan" 85 arraycopyName ∈ lw_gd := tb 573 (by decide +kernel) rfl
theorem ml_T_29 : Cond.methodLink "OneBook$Seating" 29 m_C_waitOfTwo.1 ∈ lw_gd := tb 652 (by decide +kernel) rfl
theorem ml_T_35 : Cond.methodLink "OneBook$Seating" 35 m_T_leastOf.1 ∈ lw_gd := tb 659 (by decide +kernel) rfl
theorem ml_T_39 : Cond.methodLink "OneBook$Seating" 39 m_T_leastPartner.1 ∈ lw_gd := tb 663 (by decide +kernel) rfl
theorem ml_T_42 : Cond.methodLink "OneBook$Seating" 42 m_T_waitWith.1 ∈ lw_gd := tb 667 (by decide +kernel) rfl
theorem ml_T_46 : Cond.methodLinkNest "OneBook$Seating" 46 m_O_holds.1 "OneBook" ∈ nests := by decide +kernel
theorem ml_T_50 : Cond.methodLink "OneBook$Seating" 50 m_T_without.1 ∈ lw_gd := tb 671 (by decide +kernel) rfl
theorem ml_S_29 : Cond.methodLink "OneBook$Seeming" 29 m_C_person.1 ∈ lw_gd := tb 608 (by decide +kernel) rfl
theorem ml_S_35 : Cond.methodLink "OneBook$Seeming" 35 m_R_joy.1 ∈ lw_gd := tb 609 (by decide +kernel) rfl
theorem ml_S_41 : Cond.methodLink "OneBook$Seeming" 41 m_C_chapters.1 ∈ lw_gd := tb 613 (by decide +kernel) rfl
theorem ml_S_44 : Cond.methodLink "OneBook$Seeming" 44 m_C_isSkipped.1 ∈ lw_gd := tb 614 (by decide +kernel) rfl
theorem ml_S_48 : Cond.methodLink "OneBook$Seeming" 48 m_C_minutes.1 ∈ lw_gd := tb 615 (by decide +kernel) rfl
theorem ml_S_52 : Cond.methodLink "OneBook$Seeming" 52 Lib.Math.max.name ∈ lw_gd := tb 616 (by decide +kernel) rfl
theorem ml_S_57 : Cond.methodLink "OneBook$Seeming" 57 m_S_gainOf.1 ∈ lw_gd := tb 625 (by decide +kernel) rfl
theorem ml_S_61 : Cond.methodLink "OneBook$Seeming" 61 m_S_isRest.1 ∈ lw_gd := tb 626 (by decide +kernel) rfl
theorem ml_H_26 : Cond.methodLink "OneBook$Sheet" 26 m_H_narrow.1 ∈ lw_gd := tb 839 (by decide +kernel) rfl
theorem ml_H_30 : Cond.methodLink "OneBook$Sheet" 30 arraycopyName ∈ lw_gd := tb 856 (by decide +kernel) rfl
theorem ml_U_29 : Cond.methodLink "OneBook$Turns" 29 m_U_isThere.1 ∈ lw_gd := tb 718 (by decide +kernel) rfl
theorem ml_U_33 : Cond.methodLink "OneBook$Turns" 33 m_C_together.1 ∈ lw_gd := tb 728 (by decide +kernel) rfl
theorem ml_U_39 : Cond.methodLink "OneBook$Turns" 39 m_U_fitsAll.1 ∈ lw_gd := tb 710 (by decide +kernel) rfl
theorem ml_U_43 : Cond.methodLink "OneBook$Turns" 43 m_U_tellsOf.1 ∈ lw_gd := tb 714 (by decide +kernel) rfl
theorem ml_U_46 : Cond.methodLink "OneBook$Turns" 46 m_C_minutesAt.1 ∈ lw_gd := tb 729 (by decide +kernel) rfl
theorem ml_U_50 : Cond.methodLink "OneBook$Turns" 50 Lib.Math.max.name ∈ lw_gd := tb 730 (by decide +kernel) rfl
theorem ml_U_55 : Cond.methodLink "OneBook$Turns" 55 m_C_chapters.1 ∈ lw_gd := tb 722 (by decide +kernel) rfl
theorem ml_U_58 : Cond.methodLink "OneBook$Turns" 58 m_C_kindOf.1 ∈ lw_gd := tb 723 (by decide +kernel) rfl
theorem ml_U_62 : Cond.methodLinkNest "OneBook$Turns" 62 m_O_holds.1 "OneBook" ∈ nests := by decide +kernel
theorem ml_L_13 : Cond.methodLink "OneBookLaw" 13 m_O_type.1 ∈ lw_gd := tb 304 (by decide +kernel) rfl
theorem ml_L_17 : Cond.methodLink "OneBookLaw" 17 m_M_type.1 ∈ lw_gd := tb 1059 (by decide +kernel) rfl
theorem ml_L_18 : Cond.methodLink "OneBookLaw" 18 m_O_wipe.1 ∈ lw_gd := tb 339 (by decide +kernel) rfl
theorem ml_L_22 : Cond.methodLink "OneBookLaw" 22 m_M_wipe.1 ∈ lw_gd := tb 1064 (by decide +kernel) rfl
theorem ml_L_23 : Cond.methodLink "OneBookLaw" 23 m_O_fault.1 ∈ lw_gd := tb 347 (by decide +kernel) rfl
theorem ml_L_26 : Cond.methodLink "OneBookLaw" 26 m_M_fault.1 ∈ lw_gd := tb 1068 (by decide +kernel) rfl
theorem ml_L_27 : Cond.methodLink "OneBookLaw" 27 m_O_chapter.1 ∈ lw_gd := tb 355 (by decide +kernel) rfl
theorem ml_L_31 : Cond.methodLink "OneBookLaw" 31 m_M_chapter.1 ∈ lw_gd := tb 1090 (by decide +kernel) rfl
theorem ml_L_32 : Cond.methodLink "OneBookLaw" 32 m_O_pace.1 ∈ lw_gd := tb 382 (by decide +kernel) rfl
theorem ml_L_36 : Cond.methodLink "OneBookLaw" 36 m_M_pace.1 ∈ lw_gd := tb 1102 (by decide +kernel) rfl
theorem ml_L_37 : Cond.methodLink "OneBookLaw" 37 m_O_read.1 ∈ lw_gd := tb 400 (by decide +kernel) rfl
theorem ml_L_40 : Cond.methodLink "OneBookLaw" 40 m_M_read.1 ∈ lw_gd := tb 1111 (by decide +kernel) rfl
theorem ml_L_41 : Cond.methodLink "OneBookLaw" 41 m_O_like.1 ∈ lw_gd := tb 426 (by decide +kernel) rfl
theorem ml_L_44 : Cond.methodLink "OneBookLaw" 44 m_M_like.1 ∈ lw_gd := tb 1116 (by decide +kernel) rfl
theorem ml_L_45 : Cond.methodLink "OneBookLaw" 45 m_O_skip.1 ∈ lw_gd := tb 434 (by decide +kernel) rfl
theorem ml_L_48 : Cond.methodLink "OneBookLaw" 48 m_M_skip.1 ∈ lw_gd := tb 1127 (by decide +kernel) rfl
theorem ml_L_49 : Cond.methodLink "OneBookLaw" 49 m_O_reader.1 ∈ lw_gd := tb 442 (by decide +kernel) rfl
theorem ml_L_52 : Cond.methodLink "OneBookLaw" 52 m_M_reader.1 ∈ lw_gd := tb 1131 (by decide +kernel) rfl
theorem ml_L_53 : Cond.methodLink "OneBookLaw" 53 m_O_set.1 ∈ lw_gd := tb 453 (by decide +kernel) rfl
theorem ml_L_56 : Cond.methodLink "OneBookLaw" 56 m_M_set.1 ∈ lw_gd := tb 1137 (by decide +kernel) rfl
theorem ml_L_57 : Cond.methodLink "OneBookLaw" 57 m_O_time.1 ∈ lw_gd := tb 457 (by decide +kernel) rfl
theorem ml_L_60 : Cond.methodLink "OneBookLaw" 60 m_M_time.1 ∈ lw_gd := tb 1142 (by decide +kernel) rfl
theorem ml_L_61 : Cond.methodLink "OneBookLaw" 61 m_O_evening.1 ∈ lw_gd := tb 479 (by decide +kernel) rfl
theorem ml_L_64 : Cond.methodLink "OneBookLaw" 64 m_M_evening.1 ∈ lw_gd := tb 1157 (by decide +kernel) rfl
theorem ml_L_65 : Cond.methodLink "OneBookLaw" 65 m_O_waited.1 ∈ lw_gd := tb 524 (by decide +kernel) rfl
theorem ml_L_69 : Cond.methodLink "OneBookLaw" 69 m_M_waited.1 ∈ lw_gd := tb 1181 (by decide +kernel) rfl
theorem ml_L_70 : Cond.methodLink "OneBookLaw" 70 m_O_best.1 ∈ lw_gd := tb 543 (by decide +kernel) rfl
theorem ml_L_73 : Cond.methodLink "OneBookLaw" 73 m_M_best.1 ∈ lw_gd := tb 1189 (by decide +kernel) rfl
theorem ml_L_74 : Cond.methodLink "OneBookLaw" 74 m_O_how.1 ∈ lw_gd := tb 592 (by decide +kernel) rfl
theorem ml_L_77 : Cond.methodLink "OneBookLaw" 77 m_M_how.1 ∈ lw_gd := tb 1211 (by decide +kernel) rfl
theorem ml_L_78 : Cond.methodLink "OneBookLaw" 78 m_O_gain.1 ∈ lw_gd := tb 600 (by decide +kernel) rfl
theorem ml_L_81 : Cond.methodLink "OneBookLaw" 81 m_M_gain.1 ∈ lw_gd := tb 1215 (by decide +kernel) rfl
theorem ml_L_82 : Cond.methodLink "OneBookLaw" 82 m_O_rests.1 ∈ lw_gd := tb 617 (by decide +kernel) rfl
theorem ml_L_85 : Cond.methodLink "OneBookLaw" 85 m_M_rests.1 ∈ lw_gd := tb 1226 (by decide +kernel) rfl
theorem ml_L_86 : Cond.methodLink "OneBookLaw" 86 m_O_pairs.1 ∈ lw_gd := tb 638 (by decide +kernel) rfl
theorem ml_L_89 : Cond.methodLink "OneBookLaw" 89 m_M_pairs.1 ∈ lw_gd := tb 1238 (by decide +kernel) rfl
theorem ml_L_90 : Cond.methodLink "OneBookLaw" 90 m_O_turn.1 ∈ lw_gd := tb 682 (by decide +kernel) rfl
theorem ml_L_93 : Cond.methodLink "OneBookLaw" 93 m_M_turn.1 ∈ lw_gd := tb 1261 (by decide +kernel) rfl
theorem ml_L_94 : Cond.methodLink "OneBookLaw" 94 m_O_forget.1 ∈ lw_gd := tb 694 (by decide +kernel) rfl
theorem ml_L_97 : Cond.methodLink "OneBookLaw" 97 m_M_forget.1 ∈ lw_gd := tb 1265 (by decide +kernel) rfl
theorem ml_L_98 : Cond.methodLink "OneBookLaw" 98 m_O_paces.1 ∈ lw_gd := tb 702 (by decide +kernel) rfl
theorem ml_L_101 : Cond.methodLink "OneBookLaw" 101 m_M_paces.1 ∈ lw_gd := tb 1269 (by decide +kernel) rfl
theorem ml_L_102 : Cond.methodLink "OneBookLaw" 102 m_O_unlike.1 ∈ lw_gd := tb 731 (by decide +kernel) rfl
theorem ml_L_105 : Cond.methodLink "OneBookLaw" 105 m_M_unlike.1 ∈ lw_gd := tb 1277 (by decide +kernel) rfl
theorem ml_L_106 : Cond.methodLink "OneBookLaw" 106 m_O_done.1 ∈ lw_gd := tb 739 (by decide +kernel) rfl
theorem ml_L_110 : Cond.methodLink "OneBookLaw" 110 m_M_done.1 ∈ lw_gd := tb 1285 (by decide +kernel) rfl
theorem ml_L_111 : Cond.methodLink "OneBookLaw" 111 m_O_mean.1 ∈ lw_gd := tb 793 (by decide +kernel) rfl
theorem ml_L_115 : Cond.methodLink "OneBookLaw" 115 m_M_mean.1 ∈ lw_gd := tb 1313 (by decide +kernel) rfl
theorem ml_L_116 : Cond.methodLink "OneBookLaw" 116 m_O_sheet.1 ∈ lw_gd := tb 801 (by decide +kernel) rfl
theorem ml_L_119 : Cond.methodLink "OneBookLaw" 119 m_M_sheet.1 ∈ lw_gd := tb 1019 (by decide +kernel) rfl
theorem ml_L_120 : Cond.methodLink "OneBookLaw" 120 m_O_lose.1 ∈ lw_gd := tb 812 (by decide +kernel) rfl
theorem ml_L_123 : Cond.methodLink "OneBookLaw" 123 m_M_lose.1 ∈ lw_gd := tb 1035 (by decide +kernel) rfl
theorem ml_L_124 : Cond.methodLink "OneBookLaw" 124 m_O_lay.1 ∈ lw_gd := tb 820 (by decide +kernel) rfl
theorem ml_L_127 : Cond.methodLink "OneBookLaw" 127 m_M_lay.1 ∈ lw_gd := tb 1039 (by decide +kernel) rfl
theorem ml_L_128 : Cond.methodLink "OneBookLaw" 128 m_O_get.1 ∈ lw_gd := tb 843 (by decide +kernel) rfl
theorem ml_L_131 : Cond.methodLink "OneBookLaw" 131 m_M_get.1 ∈ lw_gd := tb 1050 (by decide +kernel) rfl
theorem ml_L_132 : Cond.methodLink "OneBookLaw" 132 m_O_copy.1 ∈ lw_gd := tb 848 (by decide +kernel) rfl
theorem ml_L_136 : Cond.methodLink "OneBookLaw" 136 m_M_copy.1 ∈ lw_gd := tb 1055 (by decide +kernel) rfl
theorem ml_L_137 : Cond.methodLink "OneBookLaw" 137 m_O_write.1 ∈ lw_gd := tb 857 (by decide +kernel) rfl
theorem ml_L_140 : Cond.methodLink "OneBookLaw" 140 m_M_write.1 ∈ lw_gd := tb 1321 (by decide +kernel) rfl
theorem ml_L_141 : Cond.methodLink "OneBookLaw" 141 m_O_count.1 ∈ lw_gd := tb 861 (by decide +kernel) rfl
theorem ml_L_144 : Cond.methodLink "OneBookLaw" 144 m_M_count.1 ∈ lw_gd := tb 1325 (by decide +kernel) rfl
theorem ml_L_145 : Cond.methodLink "OneBookLaw" 145 m_O_digest.1 ∈ lw_gd := tb 877 (by decide +kernel) rfl
theorem ml_L_149 : Cond.methodLink "OneBookLaw" 149 m_M_digest.1 ∈ lw_gd := tb 1329 (by decide +kernel) rfl
theorem ml_M_76 : Cond.methodLink "OneBookModel" 76 m_M_in.1 ∈ lw_gd := tb 1027 (by decide +kernel) rfl
theorem ml_M_86 : Cond.methodLink "OneBookModel" 86 m_M_isSheet.1 ∈ lw_gd := tb 1023 (by decide +kernel) rfl
theorem ml_M_92 : Cond.methodLink "OneBookModel" 92 m_M_met.1 ∈ lw_gd := tb 1031 (by decide +kernel) rfl
theorem ml_M_96 : Cond.methodLink "OneBookModel" 96 m_M_lacks.1 ∈ lw_gd := tb 1043 (by decide +kernel) rfl
theorem ml_M_100 : Cond.methodLink "OneBookModel" 100 m_M_cut.1 ∈ lw_gd := tb 1047 (by decide +kernel) rfl
theorem ml_M_116 : Cond.methodLink "OneBookModel" 116 m_M_here.1 ∈ lw_gd := tb 1080 (by decide +kernel) rfl
theorem ml_M_124 : Cond.methodLink "OneBookModel" 124 m_M_readsPart.1 ∈ lw_gd := tb 1076 (by decide +kernel) rfl
theorem ml_M_128 : Cond.methodLink "OneBookModel" 128 m_M_none.1 ∈ lw_gd := tb 1086 (by decide +kernel) rfl
theorem ml_M_131 : Cond.methodLink "OneBookModel" 131 m_M_reads.1 ∈ lw_gd := tb 1072 (by decide +kernel) rfl
theorem ml_M_143 : Cond.methodLink "OneBookModel" 143 m_M_isChapter.1 ∈ lw_gd := tb 1094 (by decide +kernel) rfl
theorem ml_M_146 : Cond.methodLink "OneBookModel" 146 m_M_chapterOf.1 ∈ lw_gd := tb 1098 (by decide +kernel) rfl
theorem ml_M_149 : Cond.methodLink "OneBookModel" 149 m_M_isReader.1 ∈ lw_gd := tb 1106 (by decide +kernel) rfl
theorem ml_M_154 : Cond.methodLink "OneBookModel" 154 m_M_pace.1 ∈ lw_gd := tb 1115 (by decide +kernel) rfl
theorem ml_M_157 : Cond.methodLink "OneBookModel" 157 m_M_isAnyChapter.1 ∈ lw_gd := tb 1120 (by decide +kernel) rfl
theorem ml_M_160 : Cond.methodLink "OneBookModel" 160 m_M_isTwo.1 ∈ lw_gd := tb 1124 (by decide +kernel) rfl
theorem ml_M_169 : Cond.methodLink "OneBookModel" 169 m_M_isIn.1 ∈ lw_gd := tb 1154 (by decide +kernel) rfl
theorem ml_M_173 : Cond.methodLink "OneBookModel" 173 m_M_timeBy.1 ∈ lw_gd := tb 1150 (by decide +kernel) rfl
theorem ml_M_176 : Cond.methodLink "OneBookModel" 176 m_M_timeOf.1 ∈ lw_gd := tb 1146 (by decide +kernel) rfl
theorem ml_M_188 : Cond.methodLink "OneBookModel" 188 m_M_isRead.1 ∈ lw_gd := tb 1173 (by decide +kernel) rfl
theorem ml_M_191 : Cond.methodLink "OneBookModel" 191 m_M_together.1 ∈ lw_gd := tb 1177 (by decide +kernel) rfl
theorem ml_M_194 : Cond.methodLink "OneBookModel" 194 m_M_findEvening.1 ∈ lw_gd := tb 1169 (by decide +kernel) rfl
theorem ml_M_198 : Cond.methodLink "OneBookModel" 198 m_M_isSome.1 ∈ lw_gd := tb 1161 (by decide +kernel) rfl
theorem ml_M_201 : Cond.methodLink "OneBookModel" 201 m_M_eveningOf.1 ∈ lw_gd := tb 1165 (by decide +kernel) rfl
theorem ml_M_204 : Cond.methodLink "OneBookModel" 204 m_M_waitedOf.1 ∈ lw_gd := tb 1185 (by decide +kernel) rfl
theorem ml_M_208 : Cond.methodLink "OneBookModel" 208 m_M_amount.1 ∈ lw_gd := tb 1204 (by decide +kernel) rfl
theorem ml_M_220 : Cond.methodLink "OneBookModel" 220 m_M_tries.1 ∈ lw_gd := tb 1200 (by decide +kernel) rfl
theorem ml_M_223 : Cond.methodLink "OneBookModel" 223 m_M_areTwo.1 ∈ lw_gd := tb 1193 (by decide +kernel) rfl
theorem ml_M_226 : Cond.methodLink "OneBookModel" 226 m_M_findBest.1 ∈ lw_gd := tb 1196 (by decide +kernel) rfl
theorem ml_M_229 : Cond.methodLink "OneBookModel" 229 m_M_bestOf.1 ∈ lw_gd := tb 1207 (by decide +kernel) rfl
theorem ml_M_232 : Cond.methodLink "OneBookModel" 232 m_M_isSlow.1 ∈ lw_gd := tb 1219 (by decide +kernel) rfl
theorem ml_M_235 : Cond.methodLink "OneBookModel" 235 m_M_gainOf.1 ∈ lw_gd := tb 1222 (by decide +kernel) rfl
theorem ml_M_238 : Cond.methodLink "OneBookModel" 238 m_M_isRest.1 ∈ lw_gd := tb 1234 (by decide +kernel) rfl
theorem ml_M_242 : Cond.methodLink "OneBookModel" 242 m_M_restsOf.1 ∈ lw_gd := tb 1230 (by decide +kernel) rfl
theorem ml_M_246 : Cond.methodLink "OneBookModel" 246 m_M_ones.1 ∈ lw_gd := tb 1242 (by decide +kernel) rfl
theorem ml_M_249 : Cond.methodLink "OneBookModel" 249 m_M_first.1 ∈ lw_gd := tb 1254 (by decide +kernel) rfl
theorem ml_M_252 : Cond.methodLink "OneBookModel" 252 m_M_apart.1 ∈ lw_gd := tb 1257 (by decide +kernel) rfl
theorem ml_M_255 : Cond.methodLink "OneBookModel" 255 m_M_findPairs.1 ∈ lw_gd := tb 1249 (by decide +kernel) rfl
theorem ml_M_258 : Cond.methodLink "OneBookModel" 258 m_M_pairsOf.1 ∈ lw_gd := tb 1245 (by decide +kernel) rfl
theorem ml_M_264 : Cond.methodLink "OneBookModel" 264 m_M_pacesOf.1 ∈ lw_gd := tb 1273 (by decide +kernel) rfl
theorem ml_M_267 : Cond.methodLink "OneBookModel" 267 m_M_unlikeNow.1 ∈ lw_gd := tb 1281 (by decide +kernel) rfl
theorem ml_M_274 : Cond.methodLink "OneBookModel" 274 m_M_quarters.1 ∈ lw_gd := tb 1302 (by decide +kernel) rfl
theorem ml_M_278 : Cond.methodLink "OneBookModel" 278 m_M_togetherSo.1 ∈ lw_gd := tb 1306 (by decide +kernel) rfl
theorem ml_M_281 : Cond.methodLink "OneBookModel" 281 m_M_findMinutes.1 ∈ lw_gd := tb 1298 (by decide +kernel) rfl
theorem ml_M_285 : Cond.methodLink "OneBookModel" 285 m_M_part.1 ∈ lw_gd := tb 1310 (by decide +kernel) rfl
theorem ml_M_291 : Cond.methodLink "OneBookModel" 291 m_M_no.1 ∈ lw_gd := tb 1290 (by decide +kernel) rfl
theorem ml_M_295 : Cond.methodLink "OneBookModel" 295 m_M_doneOf.1 ∈ lw_gd := tb 1294 (by decide +kernel) rfl
theorem ml_M_299 : Cond.methodLink "OneBookModel" 299 m_M_meanOf.1 ∈ lw_gd := tb 1317 (by decide +kernel) rfl
theorem ml_M_306 : Cond.methodLink "OneBookModel" 306 m_M_count.1 ∈ lw_gd := tb 1335 (by decide +kernel) rfl
theorem cn_O_286 : Cond.constant "OneBook" 286 (-2147483648 : Int32) ∈ lw_gd := tb 847 (by decide +kernel) rfl
theorem cn_M_104 : Cond.constant "OneBookModel" 104 (-2147483648 : Int32) ∈ lw_gd := tb 1054 (by decide +kernel) rfl
theorem cn_M_245 : Cond.constant "OneBookModel" 245 (1000000 : Int32) ∈ lw_gd := tb 1253 (by decide +kernel) rfl
theorem cn_J_265 : Cond.constant "java/lang/Integer" 265 (1431655765 : Int32) ∈ lw_gd := tb 645 (by decide +kernel) rfl
theorem cn_J_266 : Cond.constant "java/lang/Integer" 266 (858993459 : Int32) ∈ lw_gd := tb 646 (by decide +kernel) rfl
theorem cn_J_267 : Cond.constant "java/lang/Integer" 267 (252645135 : Int32) ∈ lw_gd := tb 647 (by decide +kernel) rfl
theorem cn_O_307 : Cond.constantLong "OneBook" 307 (17 : Int64) ∈ lw_gd := tb 881 (by decide +kernel) rfl
theorem cn_O_339 : Cond.constantLong "OneBook" 339 (31 : Int64) ∈ lw_gd := tb 886 (by decide +kernel) rfl
theorem cn_O_346 : Cond.constantLong "OneBook" 346 (-9223372036854775808 : Int64) ∈ lw_gd := tb 746 (by decide +kernel) rfl
theorem cn_M_74 : Cond.constantLong "OneBookModel" 74 (-9223372036854775808 : Int64) ∈ lw_gd := tb 1293 (by decide +kernel) rfl
theorem cn_M_84 : Cond.constantLong "OneBookModel" 84 (3 : Int64) ∈ lw_gd := tb 1026 (by decide +kernel) rfl
theorem cn_M_90 : Cond.constantLong "OneBookModel" 90 (2 : Int64) ∈ lw_gd := tb 1030 (by decide +kernel) rfl
theorem cn_M_105 : Cond.constantLong "OneBookModel" 105 (255 : Int64) ∈ lw_gd := tb 1063 (by decide +kernel) rfl
theorem cn_M_120 : Cond.constantLong "OneBookModel" 120 (48 : Int64) ∈ lw_gd := tb 1084 (by decide +kernel) rfl
theorem cn_M_122 : Cond.constantLong "OneBookModel" 122 (57 : Int64) ∈ lw_gd := tb 1085 (by decide +kernel) rfl
theorem cn_M_134 : Cond.constantLong "OneBookModel" 134 (7 : Int64) ∈ lw_gd := tb 1123 (by decide +kernel) rfl
theorem cn_M_136 : Cond.constantLong "OneBookModel" 136 (5 : Int64) ∈ lw_gd := tb 1109 (by decide +kernel) rfl
theorem cn_M_138 : Cond.constantLong "OneBookModel" 138 (63 : Int64) ∈ lw_gd := tb 1164 (by decide +kernel) rfl
theorem cn_M_152 : Cond.constantLong "OneBookModel" 152 (9 : Int64) ∈ lw_gd := tb 1110 (by decide +kernel) rfl
theorem cn_M_163 : Cond.constantLong "OneBookModel" 163 (99 : Int64) ∈ lw_gd := tb 1135 (by decide +kernel) rfl
theorem cn_M_165 : Cond.constantLong "OneBookModel" 165 (4 : Int64) ∈ lw_gd := tb 1136 (by decide +kernel) rfl
theorem cn_M_167 : Cond.constantLong "OneBookModel" 167 (999 : Int64) ∈ lw_gd := tb 1141 (by decide +kernel) rfl
theorem cn_M_289 : Cond.constantLong "OneBookModel" 289 (9999 : Int64) ∈ lw_gd := tb 1289 (by decide +kernel) rfl
theorem cn_M_302 : Cond.constantLong "OneBookModel" 302 (17 : Int64) ∈ lw_gd := tb 1333 (by decide +kernel) rfl
theorem cn_M_304 : Cond.constantLong "OneBookModel" 304 (31 : Int64) ∈ lw_gd := tb 1334 (by decide +kernel) rfl
end
section
-- what the bytes decode to (by program: wip/gen/gen_meth.py)
theorem d_B_append_0 : decode prog_2_method_2_code 0 = .ok (.aload_n 0, 1) := by decide +kernel
theorem d_B_append_1 : decode prog_2_method_2_code 1 = .ok (.getfield 21, 3) := by decide +kernel
theorem d_B_append_4 : decode prog_2_method_2_code 4 = .ok (.bipush 60, 2) := by decide +kernel
theorem d_B_append_6 : decode prog_2_method_2_code 6 = .ok (.if_icmp .lt 5, 3) := by decide +kernel
theorem d_B_append_9 : decode prog_2_method_2_code 9 = .ok (.iconst 0, 1) := by decide +kernel
theorem d_B_append_10 : decode prog_2_method_2_code 10 = .ok (.ireturn, 1) := by decide +kernel
theorem d_B_append_11 : decode prog_2_method_2_code 11 = .ok (.aload_n 0, 1) := by decide +kernel
theorem d_B_append_12 : decode prog_2_method_2_code 12 = .ok (.getfield 11, 3) := by decide +kernel
theorem d_B_append_15 : decode prog_2_method_2_code 15 = .ok (.aload_n 0, 1) := by decide +kernel
theorem d_B_append_16 : decode prog_2_method_2_code 16 = .ok (.getfield 21, 3) := by decide +kernel
theorem d_B_append_19 : decode prog_2_method_2_code 19 = .ok (.iload_n 1, 1) := by decide +kernel
theorem d_B_append_20 : decode prog_2_method_2_code 20 = .ok (.iastore, 1) := by decide +kernel
theorem d_B_append_21 : decode prog_2_method_2_code 21 = .ok (.aload_n 0, 1) := by decide +kernel
theorem d_B_append_22 : decode prog_2_method_2_code 22 = .ok (.dup, 1) := by decide +kernel
theorem d_B_append_23 : decode prog_2_method_2_code 23 = .ok (.getfield 21, 3) := by decide +kernel
theorem d_B_append_26 : decode prog_2_method_2_code 26 = .ok (.iconst 1, 1) := by decide +kernel
theorem d_B_append_27 : decode prog_2_method_2_code 27 = .ok (.iadd, 1) := by decide +kernel
theorem d_B_append_28 : decode prog_2_method_2_code 28 = .ok (.putfield 21, 3) := by decide +kernel
theorem d_B_append_31 : decode prog_2_method_2_code 31 = .ok (.aload_n 0, 1) := by decide +kernel
theorem d_B_append_32 : decode prog_2_method_2_code 32 = .ok (.invokevirtual 31, 3) := by decide +kernel
theorem d_B_append_35 : decode prog_2_method_2_code 35 = .ok (.iconst 1, 1) := by decide +kernel
theorem d_B_append_36 : decode prog_2_method_2_code 36 = .ok (.ireturn, 1) := by decide +kernel
theorem d_B_clear_0 : decode prog_2_method_3_code 0 = .ok (.aload_n 0, 1) := by decide +kernel
theorem d_B_clear_1 : decode prog_2_method_3_code 1 = .ok (.iconst 0, 1) := by decide +kernel
theorem d_B_clear_2 : decode prog_2_method_3_code 2 = .ok (.putfield 21, 3) := by decide +kernel
theorem d_B_clear_5 : decode prog_2_method_3_code 5 = .ok (.aload_n 0, 1) := by decide +kernel
theorem d_B_clear_6 : decode prog_2_method_3_code 6 = .ok (.invokevirtual 31, 3) := by decide +kernel
theorem d_B_clear_9 : decode prog_2_method_3_code 9 = .ok (.return_, 1) := by decide +kernel
theorem d_B_size_0 : decode prog_2_method_4_code 0 = .ok (.aload_n 0, 1) := by decide +kernel
theorem d_B_size_1 : decode prog_2_method_4_code 1 = .ok (.getfield 21, 3) := by decide +kernel
theorem d_B_size_4 : decode prog_2_method_4_code 4 = .ok (.ireturn, 1) := by decide +kernel
theorem d_B_faultPlace_0 : decode prog_2_method_5_code 0 = .ok (.aload_n 0, 1) := by decide +kernel
theorem d_B_faultPlace_1 : decode prog_2_method_5_code 1 = .ok (.getfield 28, 3) := by decide +kernel
theorem d_B_faultPlace_4 : decode prog_2_method_5_code 4 = .ok (.ireturn, 1) := by decide +kernel
theorem d_B_chapters_0 : decode prog_2_method_6_code 0 = .ok (.aload_n 0, 1) := by decide +kernel
theorem d_B_chapters_1 : decode prog_2_method_6_code 1 = .ok (.getfield 25, 3) := by decide +kernel
theorem d_B_chapters_4 : decode prog_2_method_6_code 4 = .ok (.ireturn, 1) := by decide +kernel
theorem d_B_kindOf_0 : decode prog_2_method_7_code 0 = .ok (.aload_n 0, 1) := by decide +kernel
theorem d_B_kindOf_1 : decode prog_2_method_7_code 1 = .ok (.getfield 15, 3) := by decide +kernel
theorem d_B_kindOf_4 : decode prog_2_method_7_code 4 = .ok (.iload_n 1, 1) := by decide +kernel
theorem d_B_kindOf_5 : decode prog_2_method_7_code 5 = .ok (.iaload, 1) := by decide +kernel
theorem d_B_kindOf_6 : decode prog_2_method_7_code 6 = .ok (.ireturn, 1) := by decide +kernel
theorem d_B_linesOf_0 : decode prog_2_method_8_code 0 = .ok (.aload_n 0, 1) := by decide +kernel
theorem d_B_linesOf_1 : decode prog_2_method_8_code 1 = .ok (.getfield 18, 3) := by decide +kernel
theorem d_B_linesOf_4 : decode prog_2_method_8_code 4 = .ok (.iload_n 1, 1) := by decide +kernel
theorem d_B_linesOf_5 : decode prog_2_method_8_code 5 = .ok (.iaload, 1) := by decide +kernel
theorem d_B_linesOf_6 : decode prog_2_method_8_code 6 = .ok (.ireturn, 1) := by decide +kernel
theorem d_B_allLines_0 : decode prog_2_method_9_code 0 = .ok (.iconst 0, 1) := by decide +kernel
theorem d_B_allLines_1 : decode prog_2_method_9_code 1 = .ok (.istore_n 1, 1) := by decide +kernel
theorem d_B_allLines_2 : decode prog_2_method_9_code 2 = .ok (.iconst 0, 1) := by decide +kernel
theorem d_B_allLines_3 : decode prog_2_method_9_code 3 = .ok (.istore_n 2, 1) := by decide +kernel
theorem d_B_allLines_4 : decode prog_2_method_9_code 4 = .ok (.iload_n 2, 1) := by decide +kernel
theorem d_B_allLines_5 : decode prog_2_method_9_code 5 = .ok (.aload_n 0, 1) := by decide +kernel
theorem d_B_allLines_6 : decode prog_2_method_9_code 6 = .ok (.getfield 25, 3) := by decide +kernel
theorem d_B_allLines_9 : decode prog_2_method_9_code 9 = .ok (.if_icmp .ge 18, 3) := by decide +kernel
theorem d_B_allLines_12 : decode prog_2_method_9_code 12 = .ok (.iload_n 1, 1) := by decide +kernel
theorem d_B_allLines_13 : decode prog_2_method_9_code 13 = .ok (.aload_n 0, 1) := by decide +kernel
theorem d_B_allLines_14 : decode prog_2_method_9_code 14 = .ok (.getfield 18, 3) := by decide +kernel
theorem d_B_allLines_17 : decode prog_2_method_9_code 17 = .ok (.iload_n 2, 1) := by decide +kernel
theorem d_B_allLines_18 : decode prog_2_method_9_code 18 = .ok (.iaload, 1) := by decide +kernel
theorem d_B_allLines_19 : decode prog_2_method_9_code 19 = .ok (.iadd, 1) := by decide +kernel
theorem d_B_allLines_20 : decode prog_2_method_9_code 20 = .ok (.istore_n 1, 1) := by decide +kernel
theorem d_B_allLines_21 : decode prog_2_method_9_code 21 = .ok (.iinc 2 1, 3) := by decide +kernel
theorem d_B_allLines_24 : decode prog_2_method_9_code 24 = .ok (.goto (-20), 3) := by decide +kernel
theorem d_B_allLines_27 : decode prog_2_method_9_code 27 = .ok (.iload_n 1, 1) := by decide +kernel
theorem d_B_allLines_28 : decode prog_2_method_9_code 28 = .ok (.ireturn, 1) := by decide +kernel
theorem d_B_parse_0 : decode prog_2_method_10_code 0 = .ok (.aload_n 0, 1) := by decide +kernel
theorem d_B_parse_1 : decode prog_2_method_10_code 1 = .ok (.aload_n 0, 1) := by decide +kernel
theorem d_B_parse_2 : decode prog_2_method_10_code 2 = .ok (.invokevirtual 34, 3) := by decide +kernel
theorem d_B_parse_5 : decode prog_2_method_10_code 5 = .ok (.putfield 28, 3) := by decide +kernel
theorem d_B_parse_8 : decode prog_2_method_10_code 8 = .ok (.aload_n 0, 1) := by decide +kernel
theorem d_B_parse_9 : decode prog_2_method_10_code 9 = .ok (.aload_n 0, 1) := by decide +kernel
theorem d_B_parse_10 : decode prog_2_method_10_code 10 = .ok (.getfield 28, 3) := by decide +kernel
theorem d_B_parse_13 : decode prog_2_method_10_code 13 = .ok (.iconst (-1), 1) := by decide +kernel
theorem d_B_parse_14 : decode prog_2_method_10_code 14 = .ok (.if_icmp .ne 14, 3) := by decide +kernel
theorem d_B_parse_17 : decode prog_2_method_10_code 17 = .ok (.aload_n 0, 1) := by decide +kernel
theorem d_B_parse_18 : decode prog_2_method_10_code 18 = .ok (.getfield 21, 3) := by decide +kernel
theorem d_B_parse_21 : decode prog_2_method_10_code 21 = .ok (.iconst 1, 1) := by decide +kernel
theorem d_B_parse_22 : decode prog_2_method_10_code 22 = .ok (.iadd, 1) := by decide +kernel
theorem d_B_parse_23 : decode prog_2_method_10_code 23 = .ok (.iconst 4, 1) := by decide +kernel
theorem d_B_parse_24 : decode prog_2_method_10_code 24 = .ok (.idiv, 1) := by decide +kernel
theorem d_B_parse_25 : decode prog_2_method_10_code 25 = .ok (.goto 4, 3) := by decide +kernel
theorem d_B_parse_28 : decode prog_2_method_10_code 28 = .ok (.iconst 0, 1) := by decide +kernel
theorem d_B_parse_29 : decode prog_2_method_10_code 29 = .ok (.putfield 25, 3) := by decide +kernel
theorem d_B_parse_32 : decode prog_2_method_10_code 32 = .ok (.iconst 0, 1) := by decide +kernel
theorem d_B_parse_33 : decode prog_2_method_10_code 33 = .ok (.istore_n 1, 1) := by decide +kernel
theorem d_B_parse_34 : decode prog_2_method_10_code 34 = .ok (.iload_n 1, 1) := by decide +kernel
theorem d_B_parse_35 : decode prog_2_method_10_code 35 = .ok (.aload_n 0, 1) := by decide +kernel
theorem d_B_parse_36 : decode prog_2_method_10_code 36 = .ok (.getfield 25, 3) := by decide +kernel
theorem d_B_parse_39 : decode prog_2_method_10_code 39 = .ok (.if_icmp .ge 50, 3) := by decide +kernel
theorem d_B_parse_42 : decode prog_2_method_10_code 42 = .ok (.aload_n 0, 1) := by decide +kernel
theorem d_B_parse_43 : decode prog_2_method_10_code 43 = .ok (.getfield 15, 3) := by decide +kernel
theorem d_B_parse_46 : decode prog_2_method_10_code 46 = .ok (.iload_n 1, 1) := by decide +kernel
theorem d_B_parse_47 : decode prog_2_method_10_code 47 = .ok (.aload_n 0, 1) := by decide +kernel
theorem d_B_parse_48 : decode prog_2_method_10_code 48 = .ok (.iload_n 1, 1) := by decide +kernel
theorem d_B_parse_49 : decode prog_2_method_10_code 49 = .ok (.iconst 4, 1) := by decide +kernel
theorem d_B_parse_50 : decode prog_2_method_10_code 50 = .ok (.imul, 1) := by decide +kernel
theorem d_B_parse_51 : decode prog_2_method_10_code 51 = .ok (.invokevirtual 38, 3) := by decide +kernel
theorem d_B_parse_54 : decode prog_2_method_10_code 54 = .ok (.iastore, 1) := by decide +kernel
theorem d_B_parse_55 : decode prog_2_method_10_code 55 = .ok (.aload_n 0, 1) := by decide +kernel
theorem d_B_parse_56 : decode prog_2_method_10_code 56 = .ok (.getfield 18, 3) := by decide +kernel
theorem d_B_parse_59 : decode prog_2_method_10_code 59 = .ok (.iload_n 1, 1) := by decide +kernel
theorem d_B_parse_60 : decode prog_2_method_10_code 60 = .ok (.bipush 10, 2) := by decide +kernel
theorem d_B_parse_62 : decode prog_2_method_10_code 62 = .ok (.aload_n 0, 1) := by decide +kernel
theorem d_B_parse_63 : decode prog_2_method_10_code 63 = .ok (.iload_n 1, 1) := by decide +kernel
theorem d_B_parse_64 : decode prog_2_method_10_code 64 = .ok (.iconst 4, 1) := by decide +kernel
theorem d_B_parse_65 : decode prog_2_method_10_code 65 = .ok (.imul, 1) := by decide +kernel
theorem d_B_parse_66 : decode prog_2_method_10_code 66 = .ok (.iconst 1, 1) := by decide +kernel
theorem d_B_parse_67 : decode prog_2_method_10_code 67 = .ok (.iadd, 1) := by decide +kernel
theorem d_B_parse_68 : decode prog_2_method_10_code 68 = .ok (.invokevirtual 42, 3) := by decide +kernel
theorem d_B_parse_71 : decode prog_2_method_10_code 71 = .ok (.imul, 1) := by decide +kernel
theorem d_B_parse_72 : decode prog_2_method_10_code 72 = .ok (.aload_n 0, 1) := by decide +kernel
theorem d_B_parse_73 : decode prog_2_method_10_code 73 = .ok (.iload_n 1, 1) := by decide +kernel
theorem d_B_parse_74 : decode prog_2_method_10_code 74 = .ok (.iconst 4, 1) := by decide +kernel
theorem d_B_parse_75 : decode prog_2_method_10_code 75 = .ok (.imul, 1) := by decide +kernel
theorem d_B_parse_76 : decode prog_2_method_10_code 76 = .ok (.iconst 2, 1) := by decide +kernel
theorem d_B_parse_77 : decode prog_2_method_10_code 77 = .ok (.iadd, 1) := by decide +kernel
theorem d_B_parse_78 : decode prog_2_method_10_code 78 = .ok (.invokevirtual 42, 3) := by decide +kernel
theorem d_B_parse_81 : decode prog_2_method_10_code 81 = .ok (.iadd, 1) := by decide +kernel
theorem d_B_parse_82 : decode prog_2_method_10_code 82 = .ok (.iastore, 1) := by decide +kernel
theorem d_B_parse_83 : decode prog_2_method_10_code 83 = .ok (.iinc 1 1, 3) := by decide +kernel
theorem d_B_parse_86 : decode prog_2_method_10_code 86 = .ok (.goto (-52), 3) := by decide +kernel
theorem d_B_parse_89 : decode prog_2_method_10_code 89 = .ok (.return_, 1) := by decide +kernel
theorem d_B_findFault_0 : decode prog_2_method_11_code 0 = .ok (.iconst 0, 1) := by decide +kernel
theorem d_B_findFault_1 : decode prog_2_method_11_code 1 = .ok (.istore_n 1, 1) := by decide +kernel
theorem d_B_findFault_2 : decode prog_2_method_11_code 2 = .ok (.iload_n 1, 1) := by decide +kernel
theorem d_B_findFault_3 : decode prog_2_method_11_code 3 = .ok (.aload_n 0, 1) := by decide +kernel
theorem d_B_findFault_4 : decode prog_2_method_11_code 4 = .ok (.getfield 21, 3) := by decide +kernel
theorem d_B_findFault_7 : decode prog_2_method_11_code 7 = .ok (.if_icmp .ge 54, 3) := by decide +kernel
theorem d_B_findFault_10 : decode prog_2_method_11_code 10 = .ok (.iload_n 1, 1) := by decide +kernel
theorem d_B_findFault_11 : decode prog_2_method_11_code 11 = .ok (.bipush 32, 2) := by decide +kernel
theorem d_B_findFault_13 : decode prog_2_method_11_code 13 = .ok (.if_icmp .ge 11, 3) := by decide +kernel
theorem d_B_findFault_16 : decode prog_2_method_11_code 16 = .ok (.aload_n 0, 1) := by decide +kernel
theorem d_B_findFault_17 : decode prog_2_method_11_code 17 = .ok (.iload_n 1, 1) := by decide +kernel
theorem d_B_findFault_18 : decode prog_2_method_11_code 18 = .ok (.invokevirtual 45, 3) := by decide +kernel
theorem d_B_findFault_21 : decode prog_2_method_11_code 21 = .ok (.ifCond .ne 5, 3) := by decide +kernel
theorem d_B_findFault_24 : decode prog_2_method_11_code 24 = .ok (.iload_n 1, 1) := by decide +kernel
theorem d_B_findFault_25 : decode prog_2_method_11_code 25 = .ok (.ireturn, 1) := by decide +kernel
theorem d_B_findFault_26 : decode prog_2_method_11_code 26 = .ok (.iload_n 1, 1) := by decide +kernel
theorem d_B_findFault_27 : decode prog_2_method_11_code 27 = .ok (.iconst 4, 1) := by decide +kernel
theorem d_B_findFault_28 : decode prog_2_method_11_code 28 = .ok (.irem, 1) := by decide +kernel
theorem d_B_findFault_29 : decode prog_2_method_11_code 29 = .ok (.iconst 2, 1) := by decide +kernel
theorem d_B_findFault_30 : decode prog_2_method_11_code 30 = .ok (.if_icmp .ne 25, 3) := by decide +kernel
theorem d_B_findFault_33 : decode prog_2_method_11_code 33 = .ok (.aload_n 0, 1) := by decide +kernel
theorem d_B_findFault_34 : decode prog_2_method_11_code 34 = .ok (.iload_n 1, 1) := by decide +kernel
theorem d_B_findFault_35 : decode prog_2_method_11_code 35 = .ok (.iconst 1, 1) := by decide +kernel
theorem d_B_findFault_36 : decode prog_2_method_11_code 36 = .ok (.isub, 1) := by decide +kernel
theorem d_B_findFault_37 : decode prog_2_method_11_code 37 = .ok (.invokevirtual 42, 3) := by decide +kernel
theorem d_B_findFault_40 : decode prog_2_method_11_code 40 = .ok (.ifCond .ne 15, 3) := by decide +kernel
theorem d_B_findFault_43 : decode prog_2_method_11_code 43 = .ok (.aload_n 0, 1) := by decide +kernel
theorem d_B_findFault_44 : decode prog_2_method_11_code 44 = .ok (.iload_n 1, 1) := by decide +kernel
theorem d_B_findFault_45 : decode prog_2_method_11_code 45 = .ok (.invokevirtual 42, 3) := by decide +kernel
theorem d_B_findFault_48 : decode prog_2_method_11_code 48 = .ok (.ifCond .ne 7, 3) := by decide +kernel
theorem d_B_findFault_51 : decode prog_2_method_11_code 51 = .ok (.iload_n 1, 1) := by decide +kernel
theorem d_B_findFault_52 : decode prog_2_method_11_code 52 = .ok (.iconst 1, 1) := by decide +kernel
theorem d_B_findFault_53 : decode prog_2_method_11_code 53 = .ok (.isub, 1) := by decide +kernel
theorem d_B_findFault_54 : decode prog_2_method_11_code 54 = .ok (.ireturn, 1) := by decide +kernel
theorem d_B_findFault_55 : decode prog_2_method_11_code 55 = .ok (.iinc 1 1, 3) := by decide +kernel
theorem d_B_findFault_58 : decode prog_2_method_11_code 58 = .ok (.goto (-56), 3) := by decide +kernel
theorem d_B_findFault_61 : decode prog_2_method_11_code 61 = .ok (.aload_n 0, 1) := by decide +kernel
theorem d_B_findFault_62 : decode prog_2_method_11_code 62 = .ok (.getfield 21, 3) := by decide +kernel
theorem d_B_findFault_65 : decode prog_2_method_11_code 65 = .ok (.ifCond .eq 13, 3) := by decide +kernel
theorem d_B_findFault_68 : decode prog_2_method_11_code 68 = .ok (.aload_n 0, 1) := by decide +kernel
theorem d_B_findFault_69 : decode prog_2_method_11_code 69 = .ok (.getfield 21, 3) := by decide +kernel
theorem d_B_findFault_72 : decode prog_2_method_11_code 72 = .ok (.iconst 4, 1) := by decide +kernel
theorem d_B_findFault_73 : decode prog_2_method_11_code 73 = .ok (.irem, 1) := by decide +kernel
theorem d_B_findFault_74 : decode prog_2_method_11_code 74 = .ok (.iconst 3, 1) := by decide +kernel
theorem d_B_findFault_75 : decode prog_2_method_11_code 75 = .ok (.if_icmp .ne 7, 3) := by decide +kernel
theorem d_B_findFault_78 : decode prog_2_method_11_code 78 = .ok (.iconst (-1), 1) := by decide +kernel
theorem d_B_findFault_79 : decode prog_2_method_11_code 79 = .ok (.goto 7, 3) := by decide +kernel
theorem d_B_findFault_82 : decode prog_2_method_11_code 82 = .ok (.aload_n 0, 1) := by decide +kernel
theorem d_B_findFault_83 : decode prog_2_method_11_code 83 = .ok (.getfield 21, 3) := by decide +kernel
theorem d_B_findFault_86 : decode prog_2_method_11_code 86 = .ok (.ireturn, 1) := by decide +kernel
theorem d_B_goesOn_0 : decode prog_2_method_12_code 0 = .ok (.iload_n 1, 1) := by decide +kernel
theorem d_B_goesOn_1 : decode prog_2_method_12_code 1 = .ok (.iconst 4, 1) := by decide +kernel
theorem d_B_goesOn_2 : decode prog_2_method_12_code 2 = .ok (.irem, 1) := by decide +kernel
theorem d_B_goesOn_3 : decode prog_2_method_12_code 3 = .ok (.lookupswitch 57 #[(0, 25), (3, 40)], 25) := by decide +kernel
theorem d_B_goesOn_28 : decode prog_2_method_12_code 28 = .ok (.aload_n 0, 1) := by decide +kernel
theorem d_B_goesOn_29 : decode prog_2_method_12_code 29 = .ok (.iload_n 1, 1) := by decide +kernel
theorem d_B_goesOn_30 : decode prog_2_method_12_code 30 = .ok (.invokevirtual 38, 3) := by decide +kernel
theorem d_B_goesOn_33 : decode prog_2_method_12_code 33 = .ok (.iconst (-1), 1) := by decide +kernel
theorem d_B_goesOn_34 : decode prog_2_method_12_code 34 = .ok (.if_icmp .eq 7, 3) := by decide +kernel
theorem d_B_goesOn_37 : decode prog_2_method_12_code 37 = .ok (.iconst 1, 1) := by decide +kernel
theorem d_B_goesOn_38 : decode prog_2_method_12_code 38 = .ok (.goto 4, 3) := by decide +kernel
theorem d_B_goesOn_41 : decode prog_2_method_12_code 41 = .ok (.iconst 0, 1) := by decide +kernel
theorem d_B_goesOn_42 : decode prog_2_method_12_code 42 = .ok (.ireturn, 1) := by decide +kernel
theorem d_B_goesOn_43 : decode prog_2_method_12_code 43 = .ok (.aload_n 0, 1) := by decide +kernel
theorem d_B_goesOn_44 : decode prog_2_method_12_code 44 = .ok (.getfield 11, 3) := by decide +kernel
theorem d_B_goesOn_47 : decode prog_2_method_12_code 47 = .ok (.iload_n 1, 1) := by decide +kernel
theorem d_B_goesOn_48 : decode prog_2_method_12_code 48 = .ok (.iaload, 1) := by decide +kernel
theorem d_B_goesOn_49 : decode prog_2_method_12_code 49 = .ok (.bipush 59, 2) := by decide +kernel
theorem d_B_goesOn_51 : decode prog_2_method_12_code 51 = .ok (.if_icmp .ne 7, 3) := by decide +kernel
theorem d_B_goesOn_54 : decode prog_2_method_12_code 54 = .ok (.iconst 1, 1) := by decide +kernel
theorem d_B_goesOn_55 : decode prog_2_method_12_code 55 = .ok (.goto 4, 3) := by decide +kernel
theorem d_B_goesOn_58 : decode prog_2_method_12_code 58 = .ok (.iconst 0, 1) := by decide +kernel
theorem d_B_goesOn_59 : decode prog_2_method_12_code 59 = .ok (.ireturn, 1) := by decide +kernel
theorem d_B_goesOn_60 : decode prog_2_method_12_code 60 = .ok (.aload_n 0, 1) := by decide +kernel
theorem d_B_goesOn_61 : decode prog_2_method_12_code 61 = .ok (.iload_n 1, 1) := by decide +kernel
theorem d_B_goesOn_62 : decode prog_2_method_12_code 62 = .ok (.invokevirtual 42, 3) := by decide +kernel
theorem d_B_goesOn_65 : decode prog_2_method_12_code 65 = .ok (.iconst (-1), 1) := by decide +kernel
theorem d_B_goesOn_66 : decode prog_2_method_12_code 66 = .ok (.if_icmp .eq 7, 3) := by decide +kernel
theorem d_B_goesOn_69 : decode prog_2_method_12_code 69 = .ok (.iconst 1, 1) := by decide +kernel
theorem d_B_goesOn_70 : decode prog_2_method_12_code 70 = .ok (.goto 4, 3) := by decide +kernel
theorem d_B_goesOn_73 : decode prog_2_method_12_code 73 = .ok (.iconst 0, 1) := by decide +kernel
theorem d_B_goesOn_74 : decode prog_2_method_12_code 74 = .ok (.ireturn, 1) := by decide +kernel
theorem d_B_kindAt_0 : decode prog_2_method_13_code 0 = .ok (.aload_n 0, 1) := by decide +kernel
theorem d_B_kindAt_1 : decode prog_2_method_13_code 1 = .ok (.getfield 11, 3) := by decide +kernel
theorem d_B_kindAt_4 : decode prog_2_method_13_code 4 = .ok (.iload_n 1, 1) := by decide +kernel
theorem d_B_kindAt_5 : decode prog_2_method_13_code 5 = .ok (.iaload, 1) := by decide +kernel
theorem d_B_kindAt_6 : decode prog_2_method_13_code 6 = .ok (.lookupswitch 40 #[(100, 38), (112, 34), (118, 36)], 34) := by decide +kernel
theorem d_B_kindAt_40 : decode prog_2_method_13_code 40 = .ok (.iconst 0, 1) := by decide +kernel
theorem d_B_kindAt_41 : decode prog_2_method_13_code 41 = .ok (.ireturn, 1) := by decide +kernel
theorem d_B_kindAt_42 : decode prog_2_method_13_code 42 = .ok (.iconst 1, 1) := by decide +kernel
theorem d_B_kindAt_43 : decode prog_2_method_13_code 43 = .ok (.ireturn, 1) := by decide +kernel
theorem d_B_kindAt_44 : decode prog_2_method_13_code 44 = .ok (.iconst 2, 1) := by decide +kernel
theorem d_B_kindAt_45 : decode prog_2_method_13_code 45 = .ok (.ireturn, 1) := by decide +kernel
theorem d_B_kindAt_46 : decode prog_2_method_13_code 46 = .ok (.iconst (-1), 1) := by decide +kernel
theorem d_B_kindAt_47 : decode prog_2_method_13_code 47 = .ok (.ireturn, 1) := by decide +kernel
theorem d_B_figureAt_0 : decode prog_2_method_14_code 0 = .ok (.aload_n 0, 1) := by decide +kernel
theorem d_B_figureAt_1 : decode prog_2_method_14_code 1 = .ok (.getfield 11, 3) := by decide +kernel
theorem d_B_figureAt_4 : decode prog_2_method_14_code 4 = .ok (.iload_n 1, 1) := by decide +kernel
theorem d_B_figureAt_5 : decode prog_2_method_14_code 5 = .ok (.iaload, 1) := by decide +kernel
theorem d_B_figureAt_6 : decode prog_2_method_14_code 6 = .ok (.istore_n 2, 1) := by decide +kernel
theorem d_B_figureAt_7 : decode prog_2_method_14_code 7 = .ok (.iload_n 2, 1) := by decide +kernel
theorem d_B_figureAt_8 : decode prog_2_method_14_code 8 = .ok (.bipush 48, 2) := by decide +kernel
theorem d_B_figureAt_10 : decode prog_2_method_14_code 10 = .ok (.if_icmp .lt 16, 3) := by decide +kernel
theorem d_B_figureAt_13 : decode prog_2_method_14_code 13 = .ok (.iload_n 2, 1) := by decide +kernel
theorem d_B_figureAt_14 : decode prog_2_method_14_code 14 = .ok (.bipush 57, 2) := by decide +kernel
theorem d_B_figureAt_16 : decode prog_2_method_14_code 16 = .ok (.if_icmp .gt 10, 3) := by decide +kernel
theorem d_B_figureAt_19 : decode prog_2_method_14_code 19 = .ok (.iload_n 2, 1) := by decide +kernel
theorem d_B_figureAt_20 : decode prog_2_method_14_code 20 = .ok (.bipush 48, 2) := by decide +kernel
theorem d_B_figureAt_22 : decode prog_2_method_14_code 22 = .ok (.isub, 1) := by decide +kernel
theorem d_B_figureAt_23 : decode prog_2_method_14_code 23 = .ok (.goto 4, 3) := by decide +kernel
theorem d_B_figureAt_26 : decode prog_2_method_14_code 26 = .ok (.iconst (-1), 1) := by decide +kernel
theorem d_B_figureAt_27 : decode prog_2_method_14_code 27 = .ok (.ireturn, 1) := by decide +kernel
theorem d_C_person_0 : decode prog_3_method_2_code 0 = .ok (.aload_n 0, 1) := by decide +kernel
theorem d_C_person_1 : decode prog_3_method_2_code 1 = .ok (.getfield 11, 3) := by decide +kernel
theorem d_C_person_4 : decode prog_3_method_2_code 4 = .ok (.iload_n 1, 1) := by decide +kernel
theorem d_C_person_5 : decode prog_3_method_2_code 5 = .ok (.aaload, 1) := by decide +kernel
theorem d_C_person_6 : decode prog_3_method_2_code 6 = .ok (.areturn, 1) := by decide +kernel
theorem d_C_chapters_0 : decode prog_3_method_3_code 0 = .ok (.aload_n 0, 1) := by decide +kernel
theorem d_C_chapters_1 : decode prog_3_method_3_code 1 = .ok (.getfield 21, 3) := by decide +kernel
theorem d_C_chapters_4 : decode prog_3_method_3_code 4 = .ok (.invokevirtual 26, 3) := by decide +kernel
theorem d_C_chapters_7 : decode prog_3_method_3_code 7 = .ok (.ireturn, 1) := by decide +kernel
theorem d_C_kindOf_0 : decode prog_3_method_4_code 0 = .ok (.aload_n 0, 1) := by decide +kernel
theorem d_C_kindOf_1 : decode prog_3_method_4_code 1 = .ok (.getfield 21, 3) := by decide +kernel
theorem d_C_kindOf_4 : decode prog_3_method_4_code 4 = .ok (.iload_n 1, 1) := by decide +kernel
theorem d_C_kindOf_5 : decode prog_3_method_4_code 5 = .ok (.invokevirtual 32, 3) := by decide +kernel
theorem d_C_kindOf_8 : decode prog_3_method_4_code 8 = .ok (.ireturn, 1) := by decide +kernel
theorem d_C_linesOf_0 : decode prog_3_method_5_code 0 = .ok (.aload_n 0, 1) := by decide +kernel
theorem d_C_linesOf_1 : decode prog_3_method_5_code 1 = .ok (.getfield 21, 3) := by decide +kernel
theorem d_C_linesOf_4 : decode prog_3_method_5_code 4 = .ok (.iload_n 1, 1) := by decide +kernel
theorem d_C_linesOf_5 : decode prog_3_method_5_code 5 = .ok (.invokevirtual 36, 3) := by decide +kernel
theorem d_C_linesOf_8 : decode prog_3_method_5_code 8 = .ok (.ireturn, 1) := by decide +kernel
theorem d_C_isSkipped_0 : decode prog_3_method_6_code 0 = .ok (.aload_n 0, 1) := by decide +kernel
theorem d_C_isSkipped_1 : decode prog_3_method_6_code 1 = .ok (.getfield 17, 3) := by decide +kernel
theorem d_C_isSkipped_4 : decode prog_3_method_6_code 4 = .ok (.iload_n 1, 1) := by decide +kernel
theorem d_C_isSkipped_5 : decode prog_3_method_6_code 5 = .ok (.baload, 1) := by decide +kernel
theorem d_C_isSkipped_6 : decode prog_3_method_6_code 6 = .ok (.ireturn, 1) := by decide +kernel
theorem d_C_changeSkip_0 : decode prog_3_method_7_code 0 = .ok (.aload_n 0, 1) := by decide +kernel
theorem d_C_changeSkip_1 : decode prog_3_method_7_code 1 = .ok (.getfield 17, 3) := by decide +kernel
theorem d_C_changeSkip_4 : decode prog_3_method_7_code 4 = .ok (.iload_n 1, 1) := by decide +kernel
theorem d_C_changeSkip_5 : decode prog_3_method_7_code 5 = .ok (.baload, 1) := by decide +kernel
theorem d_C_changeSkip_6 : decode prog_3_method_7_code 6 = .ok (.istore_n 3, 1) := by decide +kernel
theorem d_C_changeSkip_7 : decode prog_3_method_7_code 7 = .ok (.aload_n 0, 1) := by decide +kernel
theorem d_C_changeSkip_8 : decode prog_3_method_7_code 8 = .ok (.getfield 17, 3) := by decide +kernel
theorem d_C_changeSkip_11 : decode prog_3_method_7_code 11 = .ok (.iload_n 1, 1) := by decide +kernel
theorem d_C_changeSkip_12 : decode prog_3_method_7_code 12 = .ok (.iload_n 2, 1) := by decide +kernel
theorem d_C_changeSkip_13 : decode prog_3_method_7_code 13 = .ok (.bastore, 1) := by decide +kernel
theorem d_C_changeSkip_14 : decode prog_3_method_7_code 14 = .ok (.iload_n 3, 1) := by decide +kernel
theorem d_C_changeSkip_15 : decode prog_3_method_7_code 15 = .ok (.ireturn, 1) := by decide +kernel
theorem d_C_countSkipped_0 : decode prog_3_method_8_code 0 = .ok (.iconst 0, 1) := by decide +kernel
theorem d_C_countSkipped_1 : decode prog_3_method_8_code 1 = .ok (.istore_n 1, 1) := by decide +kernel
theorem d_C_countSkipped_2 : decode prog_3_method_8_code 2 = .ok (.iconst 0, 1) := by decide +kernel
theorem d_C_countSkipped_3 : decode prog_3_method_8_code 3 = .ok (.istore_n 2, 1) := by decide +kernel
theorem d_C_countSkipped_4 : decode prog_3_method_8_code 4 = .ok (.iload_n 2, 1) := by decide +kernel
theorem d_C_countSkipped_5 : decode prog_3_method_8_code 5 = .ok (.aload_n 0, 1) := by decide +kernel
theorem d_C_countSkipped_6 : decode prog_3_method_8_code 6 = .ok (.invokevirtual 39, 3) := by decide +kernel
theorem d_C_countSkipped_9 : decode prog_3_method_8_code 9 = .ok (.if_icmp .ge 26, 3) := by decide +kernel
theorem d_C_countSkipped_12 : decode prog_3_method_8_code 12 = .ok (.iload_n 1, 1) := by decide +kernel
theorem d_C_countSkipped_13 : decode prog_3_method_8_code 13 = .ok (.aload_n 0, 1) := by decide +kernel
theorem d_C_countSkipped_14 : decode prog_3_method_8_code 14 = .ok (.getfield 17, 3) := by decide +kernel
theorem d_C_countSkipped_17 : decode prog_3_method_8_code 17 = .ok (.iload_n 2, 1) := by decide +kernel
theorem d_C_countSkipped_18 : decode prog_3_method_8_code 18 = .ok (.baload, 1) := by decide +kernel
theorem d_C_countSkipped_19 : decode prog_3_method_8_code 19 = .ok (.ifCond .eq 7, 3) := by decide +kernel
theorem d_C_countSkipped_22 : decode prog_3_method_8_code 22 = .ok (.iconst 1, 1) := by decide +kernel
theorem d_C_countSkipped_23 : decode prog_3_method_8_code 23 = .ok (.goto 4, 3) := by decide +kernel
theorem d_C_countSkipped_26 : decode prog_3_method_8_code 26 = .ok (.iconst 0, 1) := by decide +kernel
theorem d_C_countSkipped_27 : decode prog_3_method_8_code 27 = .ok (.iadd, 1) := by decide +kernel
theorem d_C_countSkipped_28 : decode prog_3_method_8_code 28 = .ok (.istore_n 1, 1) := by decide +kernel
theorem d_C_countSkipped_29 : decode prog_3_method_8_code 29 = .ok (.iinc 2 1, 3) := by decide +kernel
theorem d_C_countSkipped_32 : decode prog_3_method_8_code 32 = .ok (.goto (-28), 3) := by decide +kernel
theorem d_C_countSkipped_35 : decode prog_3_method_8_code 35 = .ok (.iload_n 1, 1) := by decide +kernel
theorem d_C_countSkipped_36 : decode prog_3_method_8_code 36 = .ok (.ireturn, 1) := by decide +kernel
theorem d_C_countLikes_0 : decode prog_3_method_9_code 0 = .ok (.iconst 0, 1) := by decide +kernel
theorem d_C_countLikes_1 : decode prog_3_method_9_code 1 = .ok (.istore_n 1, 1) := by decide +kernel
theorem d_C_countLikes_2 : decode prog_3_method_9_code 2 = .ok (.iconst 0, 1) := by decide +kernel
theorem d_C_countLikes_3 : decode prog_3_method_9_code 3 = .ok (.istore_n 2, 1) := by decide +kernel
theorem d_C_countLikes_4 : decode prog_3_method_9_code 4 = .ok (.iload_n 2, 1) := by decide +kernel
theorem d_C_countLikes_5 : decode prog_3_method_9_code 5 = .ok (.bipush 6, 2) := by decide +kernel
theorem d_C_countLikes_7 : decode prog_3_method_9_code 7 = .ok (.if_icmp .ge 46, 3) := by decide +kernel
theorem d_C_countLikes_10 : decode prog_3_method_9_code 10 = .ok (.iconst 0, 1) := by decide +kernel
theorem d_C_countLikes_11 : decode prog_3_method_9_code 11 = .ok (.istore_n 3, 1) := by decide +kernel
theorem d_C_countLikes_12 : decode prog_3_method_9_code 12 = .ok (.iload_n 3, 1) := by decide +kernel
theorem d_C_countLikes_13 : decode prog_3_method_9_code 13 = .ok (.aload_n 0, 1) := by decide +kernel
theorem d_C_countLikes_14 : decode prog_3_method_9_code 14 = .ok (.invokevirtual 39, 3) := by decide +kernel
theorem d_C_countLikes_17 : decode prog_3_method_9_code 17 = .ok (.if_icmp .ge 30, 3) := by decide +kernel
theorem d_C_countLikes_20 : decode prog_3_method_9_code 20 = .ok (.iload_n 1, 1) := by decide +kernel
theorem d_C_countLikes_21 : decode prog_3_method_9_code 21 = .ok (.aload_n 0, 1) := by decide +kernel
theorem d_C_countLikes_22 : decode prog_3_method_9_code 22 = .ok (.getfield 11, 3) := by decide +kernel
theorem d_C_countLikes_25 : decode prog_3_method_9_code 25 = .ok (.iload_n 2, 1) := by decide +kernel
theorem d_C_countLikes_26 : decode prog_3_method_9_code 26 = .ok (.aaload, 1) := by decide +kernel
theorem d_C_countLikes_27 : decode prog_3_method_9_code 27 = .ok (.iload_n 3, 1) := by decide +kernel
theorem d_C_countLikes_28 : decode prog_3_method_9_code 28 = .ok (.invokevirtual 40, 3) := by decide +kernel
theorem d_C_countLikes_31 : decode prog_3_method_9_code 31 = .ok (.ifCond .eq 7, 3) := by decide +kernel
theorem d_C_countLikes_34 : decode prog_3_method_9_code 34 = .ok (.iconst 1, 1) := by decide +kernel
theorem d_C_countLikes_35 : decode prog_3_method_9_code 35 = .ok (.goto 4, 3) := by decide +kernel
theorem d_C_countLikes_38 : decode prog_3_method_9_code 38 = .ok (.iconst 0, 1) := by decide +kernel
theorem d_C_countLikes_39 : decode prog_3_method_9_code 39 = .ok (.iadd, 1) := by decide +kernel
theorem d_C_countLikes_40 : decode prog_3_method_9_code 40 = .ok (.istore_n 1, 1) := by decide +kernel
theorem d_C_countLikes_41 : decode prog_3_method_9_code 41 = .ok (.iinc 3 1, 3) := by decide +kernel
theorem d_C_countLikes_44 : decode prog_3_method_9_code 44 = .ok (.goto (-32), 3) := by decide +kernel
theorem d_C_countLikes_47 : decode prog_3_method_9_code 47 = .ok (.iinc 2 1, 3) := by decide +kernel
theorem d_C_countLikes_50 : decode prog_3_method_9_code 50 = .ok (.goto (-46), 3) := by decide +kernel
theorem d_C_countLikes_53 : decode prog_3_method_9_code 53 = .ok (.iload_n 1, 1) := by decide +kernel
theorem d_C_countLikes_54 : decode prog_3_method_9_code 54 = .ok (.ireturn, 1) := by decide +kernel
theorem d_C_minutes_0 : decode prog_3_method_10_code 0 = .ok (.aload_n 0, 1) := by decide +kernel
theorem d_C_minutes_1 : decode prog_3_method_10_code 1 = .ok (.iload_n 1, 1) := by decide +kernel
theorem d_C_minutes_2 : decode prog_3_method_10_code 2 = .ok (.iload_n 2, 1) := by decide +kernel
theorem d_C_minutes_3 : decode prog_3_method_10_code 3 = .ok (.aload_n 0, 1) := by decide +kernel
theorem d_C_minutes_4 : decode prog_3_method_10_code 4 = .ok (.getfield 11, 3) := by decide +kernel
theorem d_C_minutes_7 : decode prog_3_method_10_code 7 = .ok (.iload_n 1, 1) := by decide +kernel
theorem d_C_minutes_8 : decode prog_3_method_10_code 8 = .ok (.aaload, 1) := by decide +kernel
theorem d_C_minutes_9 : decode prog_3_method_10_code 9 = .ok (.aload_n 0, 1) := by decide +kernel
theorem d_C_minutes_10 : decode prog_3_method_10_code 10 = .ok (.getfield 21, 3) := by decide +kernel
theorem d_C_minutes_13 : decode prog_3_method_10_code 13 = .ok (.iload_n 2, 1) := by decide +kernel
theorem d_C_minutes_14 : decode prog_3_method_10_code 14 = .ok (.invokevirtual 32, 3) := by decide +kernel
theorem d_C_minutes_17 : decode prog_3_method_10_code 17 = .ok (.invokevirtual 44, 3) := by decide +kernel
theorem d_C_minutes_20 : decode prog_3_method_10_code 20 = .ok (.invokevirtual 47, 3) := by decide +kernel
theorem d_C_minutes_23 : decode prog_3_method_10_code 23 = .ok (.ireturn, 1) := by decide +kernel
theorem d_C_minutesAt_0 : decode prog_3_method_11_code 0 = .ok (.iload_n 3, 1) := by decide +kernel
theorem d_C_minutesAt_1 : decode prog_3_method_11_code 1 = .ok (.iconst 1, 1) := by decide +kernel
theorem d_C_minutesAt_2 : decode prog_3_method_11_code 2 = .ok (.if_icmp .ge 5, 3) := by decide +kernel
theorem d_C_minutesAt_5 : decode prog_3_method_11_code 5 = .ok (.iconst 0, 1) := by decide +kernel
theorem d_C_minutesAt_6 : decode prog_3_method_11_code 6 = .ok (.ireturn, 1) := by decide +kernel
theorem d_C_minutesAt_7 : decode prog_3_method_11_code 7 = .ok (.aload_n 0, 1) := by decide +kernel
theorem d_C_minutesAt_8 : decode prog_3_method_11_code 8 = .ok (.getfield 21, 3) := by decide +kernel
theorem d_C_minutesAt_11 : decode prog_3_method_11_code 11 = .ok (.iload_n 2, 1) := by decide +kernel
theorem d_C_minutesAt_12 : decode prog_3_method_11_code 12 = .ok (.invokevirtual 36, 3) := by decide +kernel
theorem d_C_minutesAt_15 : decode prog_3_method_11_code 15 = .ok (.iload_n 3, 1) := by decide +kernel
theorem d_C_minutesAt_16 : decode prog_3_method_11_code 16 = .ok (.iadd, 1) := by decide +kernel
theorem d_C_minutesAt_17 : decode prog_3_method_11_code 17 = .ok (.iconst 1, 1) := by decide +kernel
theorem d_C_minutesAt_18 : decode prog_3_method_11_code 18 = .ok (.isub, 1) := by decide +kernel
theorem d_C_minutesAt_19 : decode prog_3_method_11_code 19 = .ok (.iload_n 3, 1) := by decide +kernel
theorem d_C_minutesAt_20 : decode prog_3_method_11_code 20 = .ok (.idiv, 1) := by decide +kernel
theorem d_C_minutesAt_21 : decode prog_3_method_11_code 21 = .ok (.istore 4, 2) := by decide +kernel
theorem d_C_minutesAt_23 : decode prog_3_method_11_code 23 = .ok (.aload_n 0, 1) := by decide +kernel
theorem d_C_minutesAt_24 : decode prog_3_method_11_code 24 = .ok (.getfield 11, 3) := by decide +kernel
theorem d_C_minutesAt_27 : decode prog_3_method_11_code 27 = .ok (.iload_n 1, 1) := by decide +kernel
theorem d_C_minutesAt_28 : decode prog_3_method_11_code 28 = .ok (.aaload, 1) := by decide +kernel
theorem d_C_minutesAt_29 : decode prog_3_method_11_code 29 = .ok (.iload_n 2, 1) := by decide +kernel
theorem d_C_minutesAt_30 : decode prog_3_method_11_code 30 = .ok (.invokevirtual 40, 3) := by decide +kernel
theorem d_C_minutesAt_33 : decode prog_3_method_11_code 33 = .ok (.ifCond .eq 10, 3) := by decide +kernel
theorem d_C_minutesAt_36 : decode prog_3_method_11_code 36 = .ok (.iconst 2, 1) := by decide +kernel
theorem d_C_minutesAt_37 : decode prog_3_method_11_code 37 = .ok (.iload 4, 2) := by decide +kernel
theorem d_C_minutesAt_39 : decode prog_3_method_11_code 39 = .ok (.imul, 1) := by decide +kernel
theorem d_C_minutesAt_40 : decode prog_3_method_11_code 40 = .ok (.goto 5, 3) := by decide +kernel
theorem d_C_minutesAt_43 : decode prog_3_method_11_code 43 = .ok (.iload 4, 2) := by decide +kernel
theorem d_C_minutesAt_45 : decode prog_3_method_11_code 45 = .ok (.ireturn, 1) := by decide +kernel
theorem d_C_together_0 : decode prog_3_method_12_code 0 = .ok (.aload_n 0, 1) := by decide +kernel
theorem d_C_together_1 : decode prog_3_method_12_code 1 = .ok (.getfield 21, 3) := by decide +kernel
theorem d_C_together_4 : decode prog_3_method_12_code 4 = .ok (.iload_n 2, 1) := by decide +kernel
theorem d_C_together_5 : decode prog_3_method_12_code 5 = .ok (.invokevirtual 32, 3) := by decide +kernel
theorem d_C_together_8 : decode prog_3_method_12_code 8 = .ok (.istore_n 3, 1) := by decide +kernel
theorem d_C_together_9 : decode prog_3_method_12_code 9 = .ok (.iconst 0, 1) := by decide +kernel
theorem d_C_together_10 : decode prog_3_method_12_code 10 = .ok (.istore 4, 2) := by decide +kernel
theorem d_C_together_12 : decode prog_3_method_12_code 12 = .ok (.iconst 0, 1) := by decide +kernel
theorem d_C_together_13 : decode prog_3_method_12_code 13 = .ok (.istore 5, 2) := by decide +kernel
theorem d_C_together_15 : decode prog_3_method_12_code 15 = .ok (.iload 5, 2) := by decide +kernel
theorem d_C_together_17 : decode prog_3_method_12_code 17 = .ok (.bipush 6, 2) := by decide +kernel
theorem d_C_together_19 : decode prog_3_method_12_code 19 = .ok (.if_icmp .ge 43, 3) := by decide +kernel
theorem d_C_together_22 : decode prog_3_method_12_code 22 = .ok (.iload_n 1, 1) := by decide +kernel
theorem d_C_together_23 : decode prog_3_method_12_code 23 = .ok (.iload 5, 2) := by decide +kernel
theorem d_C_together_25 : decode prog_3_method_12_code 25 = .ok (.invokestatic 51, 3) := by decide +kernel
theorem d_C_together_28 : decode prog_3_method_12_code 28 = .ok (.ifCond .eq 28, 3) := by decide +kernel
theorem d_C_together_31 : decode prog_3_method_12_code 31 = .ok (.iload 4, 2) := by decide +kernel
theorem d_C_together_33 : decode prog_3_method_12_code 33 = .ok (.aload_n 0, 1) := by decide +kernel
theorem d_C_together_34 : decode prog_3_method_12_code 34 = .ok (.iload 5, 2) := by decide +kernel
theorem d_C_together_36 : decode prog_3_method_12_code 36 = .ok (.iload_n 2, 1) := by decide +kernel
theorem d_C_together_37 : decode prog_3_method_12_code 37 = .ok (.aload_n 0, 1) := by decide +kernel
theorem d_C_together_38 : decode prog_3_method_12_code 38 = .ok (.getfield 11, 3) := by decide +kernel
theorem d_C_together_41 : decode prog_3_method_12_code 41 = .ok (.iload 5, 2) := by decide +kernel
theorem d_C_together_43 : decode prog_3_method_12_code 43 = .ok (.aaload, 1) := by decide +kernel
theorem d_C_together_44 : decode prog_3_method_12_code 44 = .ok (.iload_n 3, 1) := by decide +kernel
theorem d_C_together_45 : decode prog_3_method_12_code 45 = .ok (.invokevirtual 44, 3) := by decide +kernel
theorem d_C_together_48 : decode prog_3_method_12_code 48 = .ok (.invokevirtual 47, 3) := by decide +kernel
theorem d_C_together_51 : decode prog_3_method_12_code 51 = .ok (.invokestatic 55, 3) := by decide +kernel
theorem d_C_together_54 : decode prog_3_method_12_code 54 = .ok (.istore 4, 2) := by decide +kernel
theorem d_C_together_56 : decode prog_3_method_12_code 56 = .ok (.iinc 5 1, 3) := by decide +kernel
theorem d_C_together_59 : decode prog_3_method_12_code 59 = .ok (.goto (-44), 3) := by decide +kernel
theorem d_C_together_62 : decode prog_3_method_12_code 62 = .ok (.iload 4, 2) := by decide +kernel
theorem d_C_together_64 : decode prog_3_method_12_code 64 = .ok (.ireturn, 1) := by decide +kernel
theorem d_C_waitOfTwo_0 : decode prog_3_method_13_code 0 = .ok (.iconst 0, 1) := by decide +kernel
theorem d_C_waitOfTwo_1 : decode prog_3_method_13_code 1 = .ok (.istore_n 3, 1) := by decide +kernel
theorem d_C_waitOfTwo_2 : decode prog_3_method_13_code 2 = .ok (.iconst 0, 1) := by decide +kernel
theorem d_C_waitOfTwo_3 : decode prog_3_method_13_code 3 = .ok (.istore 4, 2) := by decide +kernel
theorem d_C_waitOfTwo_5 : decode prog_3_method_13_code 5 = .ok (.iload 4, 2) := by decide +kernel
theorem d_C_waitOfTwo_7 : decode prog_3_method_13_code 7 = .ok (.aload_n 0, 1) := by decide +kernel
theorem d_C_waitOfTwo_8 : decode prog_3_method_13_code 8 = .ok (.invokevirtual 39, 3) := by decide +kernel
theorem d_C_waitOfTwo_11 : decode prog_3_method_13_code 11 = .ok (.if_icmp .ge 40, 3) := by decide +kernel
theorem d_C_waitOfTwo_14 : decode prog_3_method_13_code 14 = .ok (.aload_n 0, 1) := by decide +kernel
theorem d_C_waitOfTwo_15 : decode prog_3_method_13_code 15 = .ok (.getfield 17, 3) := by decide +kernel
theorem d_C_waitOfTwo_18 : decode prog_3_method_13_code 18 = .ok (.iload 4, 2) := by decide +kernel
theorem d_C_waitOfTwo_20 : decode prog_3_method_13_code 20 = .ok (.baload, 1) := by decide +kernel
theorem d_C_waitOfTwo_21 : decode prog_3_method_13_code 21 = .ok (.ifCond .ne 24, 3) := by decide +kernel
theorem d_C_waitOfTwo_24 : decode prog_3_method_13_code 24 = .ok (.iload_n 3, 1) := by decide +kernel
theorem d_C_waitOfTwo_25 : decode prog_3_method_13_code 25 = .ok (.aload_n 0, 1) := by decide +kernel
theorem d_C_waitOfTwo_26 : decode prog_3_method_13_code 26 = .ok (.iload_n 1, 1) := by decide +kernel
theorem d_C_waitOfTwo_27 : decode prog_3_method_13_code 27 = .ok (.iload 4, 2) := by decide +kernel
theorem d_C_waitOfTwo_29 : decode prog_3_method_13_code 29 = .ok (.invokevirtual 61, 3) := by decide +kernel
theorem d_C_waitOfTwo_32 : decode prog_3_method_13_code 32 = .ok (.aload_n 0, 1) := by decide +kernel
theorem d_C_waitOfTwo_33 : decode prog_3_method_13_code 33 = .ok (.iload_n 2, 1) := by decide +kernel
theorem d_C_waitOfTwo_34 : decode prog_3_method_13_code 34 = .ok (.iload 4, 2) := by decide +kernel
theorem d_C_waitOfTwo_36 : decode prog_3_method_13_code 36 = .ok (.invokevirtual 61, 3) := by decide +kernel
theorem d_C_waitOfTwo_39 : decode prog_3_method_13_code 39 = .ok (.isub, 1) := by decide +kernel
theorem d_C_waitOfTwo_40 : decode prog_3_method_13_code 40 = .ok (.invokestatic 64, 3) := by decide +kernel
theorem d_C_waitOfTwo_43 : decode prog_3_method_13_code 43 = .ok (.iadd, 1) := by decide +kernel
theorem d_C_waitOfTwo_44 : decode prog_3_method_13_code 44 = .ok (.istore_n 3, 1) := by decide +kernel
theorem d_C_waitOfTwo_45 : decode prog_3_method_13_code 45 = .ok (.iinc 4 1, 3) := by decide +kernel
theorem d_C_waitOfTwo_48 : decode prog_3_method_13_code 48 = .ok (.goto (-43), 3) := by decide +kernel
theorem d_C_waitOfTwo_51 : decode prog_3_method_13_code 51 = .ok (.iload_n 3, 1) := by decide +kernel
theorem d_C_waitOfTwo_52 : decode prog_3_method_13_code 52 = .ok (.ireturn, 1) := by decide +kernel
theorem d_R_speedFor_0 : decode prog_7_method_2_code 0 = .ok (.aload_n 0, 1) := by decide +kernel
theorem d_R_speedFor_1 : decode prog_7_method_2_code 1 = .ok (.getfield 9, 3) := by decide +kernel
theorem d_R_speedFor_4 : decode prog_7_method_2_code 4 = .ok (.iload_n 1, 1) := by decide +kernel
theorem d_R_speedFor_5 : decode prog_7_method_2_code 5 = .ok (.iaload, 1) := by decide +kernel
theorem d_R_speedFor_6 : decode prog_7_method_2_code 6 = .ok (.ireturn, 1) := by decide +kernel
theorem d_R_changePace_0 : decode prog_7_method_3_code 0 = .ok (.aload_n 0, 1) := by decide +kernel
theorem d_R_changePace_1 : decode prog_7_method_3_code 1 = .ok (.getfield 9, 3) := by decide +kernel
theorem d_R_changePace_4 : decode prog_7_method_3_code 4 = .ok (.iload_n 1, 1) := by decide +kernel
theorem d_R_changePace_5 : decode prog_7_method_3_code 5 = .ok (.iaload, 1) := by decide +kernel
theorem d_R_changePace_6 : decode prog_7_method_3_code 6 = .ok (.istore_n 3, 1) := by decide +kernel
theorem d_R_changePace_7 : decode prog_7_method_3_code 7 = .ok (.aload_n 0, 1) := by decide +kernel
theorem d_R_changePace_8 : decode prog_7_method_3_code 8 = .ok (.getfield 9, 3) := by decide +kernel
theorem d_R_changePace_11 : decode prog_7_method_3_code 11 = .ok (.iload_n 1, 1) := by decide +kernel
theorem d_R_changePace_12 : decode prog_7_method_3_code 12 = .ok (.iload_n 2, 1) := by decide +kernel
theorem d_R_changePace_13 : decode prog_7_method_3_code 13 = .ok (.iastore, 1) := by decide +kernel
theorem d_R_changePace_14 : decode prog_7_method_3_code 14 = .ok (.iload_n 3, 1) := by decide +kernel
theorem d_R_changePace_15 : decode prog_7_method_3_code 15 = .ok (.ireturn, 1) := by decide +kernel
theorem d_R_likes_0 : decode prog_7_method_4_code 0 = .ok (.aload_n 0, 1) := by decide +kernel
theorem d_R_likes_1 : decode prog_7_method_4_code 1 = .ok (.getfield 15, 3) := by decide +kernel
theorem d_R_likes_4 : decode prog_7_method_4_code 4 = .ok (.iload_n 1, 1) := by decide +kernel
theorem d_R_likes_5 : decode prog_7_method_4_code 5 = .ok (.baload, 1) := by decide +kernel
theorem d_R_likes_6 : decode prog_7_method_4_code 6 = .ok (.ireturn, 1) := by decide +kernel
theorem d_R_changeLike_0 : decode prog_7_method_5_code 0 = .ok (.aload_n 0, 1) := by decide +kernel
theorem d_R_changeLike_1 : decode prog_7_method_5_code 1 = .ok (.getfield 15, 3) := by decide +kernel
theorem d_R_changeLike_4 : decode prog_7_method_5_code 4 = .ok (.iload_n 1, 1) := by decide +kernel
theorem d_R_changeLike_5 : decode prog_7_method_5_code 5 = .ok (.baload, 1) := by decide +kernel
theorem d_R_changeLike_6 : decode prog_7_method_5_code 6 = .ok (.istore_n 3, 1) := by decide +kernel
theorem d_R_changeLike_7 : decode prog_7_method_5_code 7 = .ok (.aload_n 0, 1) := by decide +kernel
theorem d_R_changeLike_8 : decode prog_7_method_5_code 8 = .ok (.getfield 15, 3) := by decide +kernel
theorem d_R_changeLike_11 : decode prog_7_method_5_code 11 = .ok (.iload_n 1, 1) := by decide +kernel
theorem d_R_changeLike_12 : decode prog_7_method_5_code 12 = .ok (.iload_n 2, 1) := by decide +kernel
theorem d_R_changeLike_13 : decode prog_7_method_5_code 13 = .ok (.bastore, 1) := by decide +kernel
theorem d_R_changeLike_14 : decode prog_7_method_5_code 14 = .ok (.iload_n 3, 1) := by decide +kernel
theorem d_R_changeLike_15 : decode prog_7_method_5_code 15 = .ok (.ireturn, 1) := by decide +kernel
theorem d_R_work_0 : decode prog_7_method_6_code 0 = .ok (.aload_n 0, 1) := by decide +kernel
theorem d_R_work_1 : decode prog_7_method_6_code 1 = .ok (.getfield 19, 3) := by decide +kernel
theorem d_R_work_4 : decode prog_7_method_6_code 4 = .ok (.iconst 0, 1) := by decide +kernel
theorem d_R_work_5 : decode prog_7_method_6_code 5 = .ok (.iaload, 1) := by decide +kernel
theorem d_R_work_6 : decode prog_7_method_6_code 6 = .ok (.ireturn, 1) := by decide +kernel
theorem d_R_joy_0 : decode prog_7_method_7_code 0 = .ok (.aload_n 0, 1) := by decide +kernel
theorem d_R_joy_1 : decode prog_7_method_7_code 1 = .ok (.getfield 19, 3) := by decide +kernel
theorem d_R_joy_4 : decode prog_7_method_7_code 4 = .ok (.iconst 1, 1) := by decide +kernel
theorem d_R_joy_5 : decode prog_7_method_7_code 5 = .ok (.iaload, 1) := by decide +kernel
theorem d_R_joy_6 : decode prog_7_method_7_code 6 = .ok (.ireturn, 1) := by decide +kernel
theorem d_R_mood_0 : decode prog_7_method_8_code 0 = .ok (.aload_n 0, 1) := by decide +kernel
theorem d_R_mood_1 : decode prog_7_method_8_code 1 = .ok (.getfield 19, 3) := by decide +kernel
theorem d_R_mood_4 : decode prog_7_method_8_code 4 = .ok (.iconst 2, 1) := by decide +kernel
theorem d_R_mood_5 : decode prog_7_method_8_code 5 = .ok (.iaload, 1) := by decide +kernel
theorem d_R_mood_6 : decode prog_7_method_8_code 6 = .ok (.ireturn, 1) := by decide +kernel
theorem d_R_changeTrait_0 : decode prog_7_method_9_code 0 = .ok (.aload_n 0, 1) := by decide +kernel
theorem d_R_changeTrait_1 : decode prog_7_method_9_code 1 = .ok (.getfield 19, 3) := by decide +kernel
theorem d_R_changeTrait_4 : decode prog_7_method_9_code 4 = .ok (.iload_n 1, 1) := by decide +kernel
theorem d_R_changeTrait_5 : decode prog_7_method_9_code 5 = .ok (.iaload, 1) := by decide +kernel
theorem d_R_changeTrait_6 : decode prog_7_method_9_code 6 = .ok (.istore_n 3, 1) := by decide +kernel
theorem d_R_changeTrait_7 : decode prog_7_method_9_code 7 = .ok (.aload_n 0, 1) := by decide +kernel
theorem d_R_changeTrait_8 : decode prog_7_method_9_code 8 = .ok (.getfield 19, 3) := by decide +kernel
theorem d_R_changeTrait_11 : decode prog_7_method_9_code 11 = .ok (.iload_n 1, 1) := by decide +kernel
theorem d_R_changeTrait_12 : decode prog_7_method_9_code 12 = .ok (.iload_n 2, 1) := by decide +kernel
theorem d_R_changeTrait_13 : decode prog_7_method_9_code 13 = .ok (.iastore, 1) := by decide +kernel
theorem d_R_changeTrait_14 : decode prog_7_method_9_code 14 = .ok (.iload_n 3, 1) := by decide +kernel
theorem d_R_changeTrait_15 : decode prog_7_method_9_code 15 = .ok (.ireturn, 1) := by decide +kernel
theorem d_E_sit_0 : decode prog_4_method_2_code 0 = .ok (.aload_n 0, 1) := by decide +kernel
theorem d_E_sit_1 : decode prog_4_method_2_code 1 = .ok (.iconst 0, 1) := by decide +kernel
theorem d_E_sit_2 : decode prog_4_method_2_code 2 = .ok (.putfield 15, 3) := by decide +kernel
theorem d_E_sit_5 : decode prog_4_method_2_code 5 = .ok (.aload_n 0, 1) := by decide +kernel
theorem d_E_sit_6 : decode prog_4_method_2_code 6 = .ok (.iconst 0, 1) := by decide +kernel
theorem d_E_sit_7 : decode prog_4_method_2_code 7 = .ok (.putfield 19, 3) := by decide +kernel
theorem d_E_sit_10 : decode prog_4_method_2_code 10 = .ok (.aload_n 0, 1) := by decide +kernel
theorem d_E_sit_11 : decode prog_4_method_2_code 11 = .ok (.iconst (-1), 1) := by decide +kernel
theorem d_E_sit_12 : decode prog_4_method_2_code 12 = .ok (.putfield 22, 3) := by decide +kernel
theorem d_E_sit_15 : decode prog_4_method_2_code 15 = .ok (.iconst 0, 1) := by decide +kernel
theorem d_E_sit_16 : decode prog_4_method_2_code 16 = .ok (.istore 4, 2) := by decide +kernel
theorem d_E_sit_18 : decode prog_4_method_2_code 18 = .ok (.iload 4, 2) := by decide +kernel
theorem d_E_sit_20 : decode prog_4_method_2_code 20 = .ok (.bipush 6, 2) := by decide +kernel
theorem d_E_sit_22 : decode prog_4_method_2_code 22 = .ok (.if_icmp .ge 17, 3) := by decide +kernel
theorem d_E_sit_25 : decode prog_4_method_2_code 25 = .ok (.aload_n 0, 1) := by decide +kernel
theorem d_E_sit_26 : decode prog_4_method_2_code 26 = .ok (.getfield 9, 3) := by decide +kernel
theorem d_E_sit_29 : decode prog_4_method_2_code 29 = .ok (.iload 4, 2) := by decide +kernel
theorem d_E_sit_31 : decode prog_4_method_2_code 31 = .ok (.iconst 0, 1) := by decide +kernel
theorem d_E_sit_32 : decode prog_4_method_2_code 32 = .ok (.iastore, 1) := by decide +kernel
theorem d_E_sit_33 : decode prog_4_method_2_code 33 = .ok (.iinc 4 1, 3) := by decide +kernel
theorem d_E_sit_36 : decode prog_4_method_2_code 36 = .ok (.goto (-18), 3) := by decide +kernel
theorem d_E_sit_39 : decode prog_4_method_2_code 39 = .ok (.iload_n 2, 1) := by decide +kernel
theorem d_E_sit_40 : decode prog_4_method_2_code 40 = .ok (.istore 4, 2) := by decide +kernel
theorem d_E_sit_42 : decode prog_4_method_2_code 42 = .ok (.iload 4, 2) := by decide +kernel
theorem d_E_sit_44 : decode prog_4_method_2_code 44 = .ok (.aload_n 0, 1) := by decide +kernel
theorem d_E_sit_45 : decode prog_4_method_2_code 45 = .ok (.getfield 25, 3) := by decide +kernel
theorem d_E_sit_48 : decode prog_4_method_2_code 48 = .ok (.invokevirtual 29, 3) := by decide +kernel
theorem d_E_sit_51 : decode prog_4_method_2_code 51 = .ok (.if_icmp .ge 37, 3) := by decide +kernel
theorem d_E_sit_54 : decode prog_4_method_2_code 54 = .ok (.aload_n 0, 1) := by decide +kernel
theorem d_E_sit_55 : decode prog_4_method_2_code 55 = .ok (.getfield 22, 3) := by decide +kernel
theorem d_E_sit_58 : decode prog_4_method_2_code 58 = .ok (.iconst (-1), 1) := by decide +kernel
theorem d_E_sit_59 : decode prog_4_method_2_code 59 = .ok (.if_icmp .ne 29, 3) := by decide +kernel
theorem d_E_sit_62 : decode prog_4_method_2_code 62 = .ok (.aload_n 0, 1) := by decide +kernel
theorem d_E_sit_63 : decode prog_4_method_2_code 63 = .ok (.getfield 25, 3) := by decide +kernel
theorem d_E_sit_66 : decode prog_4_method_2_code 66 = .ok (.iload 4, 2) := by decide +kernel
theorem d_E_sit_68 : decode prog_4_method_2_code 68 = .ok (.invokevirtual 34, 3) := by decide +kernel
theorem d_E_sit_71 : decode prog_4_method_2_code 71 = .ok (.ifCond .ne 11, 3) := by decide +kernel
theorem d_E_sit_74 : decode prog_4_method_2_code 74 = .ok (.aload_n 0, 1) := by decide +kernel
theorem d_E_sit_75 : decode prog_4_method_2_code 75 = .ok (.iload_n 1, 1) := by decide +kernel
theorem d_E_sit_76 : decode prog_4_method_2_code 76 = .ok (.iload 4, 2) := by decide +kernel
theorem d_E_sit_78 : decode prog_4_method_2_code 78 = .ok (.iload_n 3, 1) := by decide +kernel
theorem d_E_sit_79 : decode prog_4_method_2_code 79 = .ok (.invokevirtual 38, 3) := by decide +kernel
theorem d_E_sit_82 : decode prog_4_method_2_code 82 = .ok (.iinc 4 1, 3) := by decide +kernel
theorem d_E_sit_85 : decode prog_4_method_2_code 85 = .ok (.goto (-43), 3) := by decide +kernel
theorem d_E_sit_88 : decode prog_4_method_2_code 88 = .ok (.return_, 1) := by decide +kernel
theorem d_E_readOrStop_0 : decode prog_4_method_3_code 0 = .ok (.aload_n 0, 1) := by decide +kernel
theorem d_E_readOrStop_1 : decode prog_4_method_3_code 1 = .ok (.getfield 25, 3) := by decide +kernel
theorem d_E_readOrStop_4 : decode prog_4_method_3_code 4 = .ok (.iload_n 1, 1) := by decide +kernel
theorem d_E_readOrStop_5 : decode prog_4_method_3_code 5 = .ok (.iload_n 2, 1) := by decide +kernel
theorem d_E_readOrStop_6 : decode prog_4_method_3_code 6 = .ok (.invokevirtual 42, 3) := by decide +kernel
theorem d_E_readOrStop_9 : decode prog_4_method_3_code 9 = .ok (.istore 4, 2) := by decide +kernel
theorem d_E_readOrStop_11 : decode prog_4_method_3_code 11 = .ok (.aload_n 0, 1) := by decide +kernel
theorem d_E_readOrStop_12 : decode prog_4_method_3_code 12 = .ok (.getfield 19, 3) := by decide +kernel
theorem d_E_readOrStop_15 : decode prog_4_method_3_code 15 = .ok (.iload 4, 2) := by decide +kernel
theorem d_E_readOrStop_17 : decode prog_4_method_3_code 17 = .ok (.iadd, 1) := by decide +kernel
theorem d_E_readOrStop_18 : decode prog_4_method_3_code 18 = .ok (.iload_n 3, 1) := by decide +kernel
theorem d_E_readOrStop_19 : decode prog_4_method_3_code 19 = .ok (.if_icmp .le 9, 3) := by decide +kernel
theorem d_E_readOrStop_22 : decode prog_4_method_3_code 22 = .ok (.aload_n 0, 1) := by decide +kernel
theorem d_E_readOrStop_23 : decode prog_4_method_3_code 23 = .ok (.iload_n 2, 1) := by decide +kernel
theorem d_E_readOrStop_24 : decode prog_4_method_3_code 24 = .ok (.putfield 22, 3) := by decide +kernel
theorem d_E_readOrStop_27 : decode prog_4_method_3_code 27 = .ok (.return_, 1) := by decide +kernel
theorem d_E_readOrStop_28 : decode prog_4_method_3_code 28 = .ok (.aload_n 0, 1) := by decide +kernel
theorem d_E_readOrStop_29 : decode prog_4_method_3_code 29 = .ok (.dup, 1) := by decide +kernel
theorem d_E_readOrStop_30 : decode prog_4_method_3_code 30 = .ok (.getfield 15, 3) := by decide +kernel
theorem d_E_readOrStop_33 : decode prog_4_method_3_code 33 = .ok (.iconst 1, 1) := by decide +kernel
theorem d_E_readOrStop_34 : decode prog_4_method_3_code 34 = .ok (.iadd, 1) := by decide +kernel
theorem d_E_readOrStop_35 : decode prog_4_method_3_code 35 = .ok (.putfield 15, 3) := by decide +kernel
theorem d_E_readOrStop_38 : decode prog_4_method_3_code 38 = .ok (.aload_n 0, 1) := by decide +kernel
theorem d_E_readOrStop_39 : decode prog_4_method_3_code 39 = .ok (.dup, 1) := by decide +kernel
theorem d_E_readOrStop_40 : decode prog_4_method_3_code 40 = .ok (.getfield 19, 3) := by decide +kernel
theorem d_E_readOrStop_43 : decode prog_4_method_3_code 43 = .ok (.iload 4, 2) := by decide +kernel
theorem d_E_readOrStop_45 : decode prog_4_method_3_code 45 = .ok (.iadd, 1) := by decide +kernel
theorem d_E_readOrStop_46 : decode prog_4_method_3_code 46 = .ok (.putfield 19, 3) := by decide +kernel
theorem d_E_readOrStop_49 : decode prog_4_method_3_code 49 = .ok (.iconst 0, 1) := by decide +kernel
theorem d_E_readOrStop_50 : decode prog_4_method_3_code 50 = .ok (.istore 5, 2) := by decide +kernel
theorem d_E_readOrStop_52 : decode prog_4_method_3_code 52 = .ok (.iload 5, 2) := by decide +kernel
theorem d_E_readOrStop_54 : decode prog_4_method_3_code 54 = .ok (.bipush 6, 2) := by decide +kernel
theorem d_E_readOrStop_56 : decode prog_4_method_3_code 56 = .ok (.if_icmp .ge 41, 3) := by decide +kernel
theorem d_E_readOrStop_59 : decode prog_4_method_3_code 59 = .ok (.iload_n 1, 1) := by decide +kernel
theorem d_E_readOrStop_60 : decode prog_4_method_3_code 60 = .ok (.iload 5, 2) := by decide +kernel
theorem d_E_readOrStop_62 : decode prog_4_method_3_code 62 = .ok (.invokestatic 46, 3) := by decide +kernel
theorem d_E_readOrStop_65 : decode prog_4_method_3_code 65 = .ok (.ifCond .eq 26, 3) := by decide +kernel
theorem d_E_readOrStop_68 : decode prog_4_method_3_code 68 = .ok (.aload_n 0, 1) := by decide +kernel
theorem d_E_readOrStop_69 : decode prog_4_method_3_code 69 = .ok (.getfield 9, 3) := by decide +kernel
theorem d_E_readOrStop_72 : decode prog_4_method_3_code 72 = .ok (.iload 5, 2) := by decide +kernel
theorem d_E_readOrStop_74 : decode prog_4_method_3_code 74 = .ok (.dup2, 1) := by decide +kernel
theorem d_E_readOrStop_75 : decode prog_4_method_3_code 75 = .ok (.iaload, 1) := by decide +kernel
theorem d_E_readOrStop_76 : decode prog_4_method_3_code 76 = .ok (.iload 4, 2) := by decide +kernel
theorem d_E_readOrStop_78 : decode prog_4_method_3_code 78 = .ok (.aload_n 0, 1) := by decide +kernel
theorem d_E_readOrStop_79 : decode prog_4_method_3_code 79 = .ok (.getfield 25, 3) := by decide +kernel
theorem d_E_readOrStop_82 : decode prog_4_method_3_code 82 = .ok (.iload 5, 2) := by decide +kernel
theorem d_E_readOrStop_84 : decode prog_4_method_3_code 84 = .ok (.iload_n 2, 1) := by decide +kernel
theorem d_E_readOrStop_85 : decode prog_4_method_3_code 85 = .ok (.invokevirtual 50, 3) := by decide +kernel
theorem d_E_readOrStop_88 : decode prog_4_method_3_code 88 = .ok (.isub, 1) := by decide +kernel
theorem d_E_readOrStop_89 : decode prog_4_method_3_code 89 = .ok (.iadd, 1) := by decide +kernel
theorem d_E_readOrStop_90 : decode prog_4_method_3_code 90 = .ok (.iastore, 1) := by decide +kernel
theorem d_E_readOrStop_91 : decode prog_4_method_3_code 91 = .ok (.iinc 5 1, 3) := by decide +kernel
theorem d_E_readOrStop_94 : decode prog_4_method_3_code 94 = .ok (.goto (-42), 3) := by decide +kernel
theorem d_E_readOrStop_97 : decode prog_4_method_3_code 97 = .ok (.return_, 1) := by decide +kernel
theorem d_E_chapters_0 : decode prog_4_method_4_code 0 = .ok (.aload_n 0, 1) := by decide +kernel
theorem d_E_chapters_1 : decode prog_4_method_4_code 1 = .ok (.getfield 15, 3) := by decide +kernel
theorem d_E_chapters_4 : decode prog_4_method_4_code 4 = .ok (.ireturn, 1) := by decide +kernel
theorem d_E_minute_0 : decode prog_4_method_5_code 0 = .ok (.aload_n 0, 1) := by decide +kernel
theorem d_E_minute_1 : decode prog_4_method_5_code 1 = .ok (.getfield 19, 3) := by decide +kernel
theorem d_E_minute_4 : decode prog_4_method_5_code 4 = .ok (.ireturn, 1) := by decide +kernel
theorem d_E_next_0 : decode prog_4_method_6_code 0 = .ok (.aload_n 0, 1) := by decide +kernel
theorem d_E_next_1 : decode prog_4_method_6_code 1 = .ok (.getfield 22, 3) := by decide +kernel
theorem d_E_next_4 : decode prog_4_method_6_code 4 = .ok (.ireturn, 1) := by decide +kernel
theorem d_E_waitOf_0 : decode prog_4_method_7_code 0 = .ok (.aload_n 0, 1) := by decide +kernel
theorem d_E_waitOf_1 : decode prog_4_method_7_code 1 = .ok (.getfield 9, 3) := by decide +kernel
theorem d_E_waitOf_4 : decode prog_4_method_7_code 4 = .ok (.iload_n 1, 1) := by decide +kernel
theorem d_E_waitOf_5 : decode prog_4_method_7_code 5 = .ok (.iaload, 1) := by decide +kernel
theorem d_E_waitOf_6 : decode prog_4_method_7_code 6 = .ok (.ireturn, 1) := by decide +kernel
theorem d_E_workLeft_0 : decode prog_4_method_8_code 0 = .ok (.iconst 0, 1) := by decide +kernel
theorem d_E_workLeft_1 : decode prog_4_method_8_code 1 = .ok (.aload_n 0, 1) := by decide +kernel
theorem d_E_workLeft_2 : decode prog_4_method_8_code 2 = .ok (.getfield 25, 3) := by decide +kernel
theorem d_E_workLeft_5 : decode prog_4_method_8_code 5 = .ok (.iload_n 1, 1) := by decide +kernel
theorem d_E_workLeft_6 : decode prog_4_method_8_code 6 = .ok (.invokevirtual 53, 3) := by decide +kernel
theorem d_E_workLeft_9 : decode prog_4_method_8_code 9 = .ok (.invokevirtual 57, 3) := by decide +kernel
theorem d_E_workLeft_12 : decode prog_4_method_8_code 12 = .ok (.aload_n 0, 1) := by decide +kernel
theorem d_E_workLeft_13 : decode prog_4_method_8_code 13 = .ok (.getfield 9, 3) := by decide +kernel
theorem d_E_workLeft_16 : decode prog_4_method_8_code 16 = .ok (.iload_n 1, 1) := by decide +kernel
theorem d_E_workLeft_17 : decode prog_4_method_8_code 17 = .ok (.iaload, 1) := by decide +kernel
theorem d_E_workLeft_18 : decode prog_4_method_8_code 18 = .ok (.isub, 1) := by decide +kernel
theorem d_E_workLeft_19 : decode prog_4_method_8_code 19 = .ok (.invokestatic 62, 3) := by decide +kernel
theorem d_E_workLeft_22 : decode prog_4_method_8_code 22 = .ok (.ireturn, 1) := by decide +kernel
theorem d_P_search_0 : decode prog_6_method_2_code 0 = .ok (.aload_n 0, 1) := by decide +kernel
theorem d_P_search_1 : decode prog_6_method_2_code 1 = .ok (.iload_n 3, 1) := by decide +kernel
theorem d_P_search_2 : decode prog_6_method_2_code 2 = .ok (.putfield 27, 3) := by decide +kernel
theorem d_P_search_5 : decode prog_6_method_2_code 5 = .ok (.aload_n 0, 1) := by decide +kernel
theorem d_P_search_6 : decode prog_6_method_2_code 6 = .ok (.iload 4, 2) := by decide +kernel
theorem d_P_search_8 : decode prog_6_method_2_code 8 = .ok (.putfield 31, 3) := by decide +kernel
theorem d_P_search_11 : decode prog_6_method_2_code 11 = .ok (.aload_n 0, 1) := by decide +kernel
theorem d_P_search_12 : decode prog_6_method_2_code 12 = .ok (.iconst (-1), 1) := by decide +kernel
theorem d_P_search_13 : decode prog_6_method_2_code 13 = .ok (.putfield 34, 3) := by decide +kernel
theorem d_P_search_16 : decode prog_6_method_2_code 16 = .ok (.aload_n 0, 1) := by decide +kernel
theorem d_P_search_17 : decode prog_6_method_2_code 17 = .ok (.iconst 0, 1) := by decide +kernel
theorem d_P_search_18 : decode prog_6_method_2_code 18 = .ok (.putfield 37, 3) := by decide +kernel
theorem d_P_search_21 : decode prog_6_method_2_code 21 = .ok (.aload_n 0, 1) := by decide +kernel
theorem d_P_search_22 : decode prog_6_method_2_code 22 = .ok (.iconst 0, 1) := by decide +kernel
theorem d_P_search_23 : decode prog_6_method_2_code 23 = .ok (.putfield 40, 3) := by decide +kernel
theorem d_P_search_26 : decode prog_6_method_2_code 26 = .ok (.aload_n 0, 1) := by decide +kernel
theorem d_P_search_27 : decode prog_6_method_2_code 27 = .ok (.getfield 24, 3) := by decide +kernel
theorem d_P_search_30 : decode prog_6_method_2_code 30 = .ok (.aload_n 0, 1) := by decide +kernel
theorem d_P_search_31 : decode prog_6_method_2_code 31 = .ok (.getfield 43, 3) := by decide +kernel
theorem d_P_search_34 : decode prog_6_method_2_code 34 = .ok (.invokevirtual 47, 3) := by decide +kernel
theorem d_P_search_37 : decode prog_6_method_2_code 37 = .ok (.iconst 0, 1) := by decide +kernel
theorem d_P_search_38 : decode prog_6_method_2_code 38 = .ok (.iastore, 1) := by decide +kernel
theorem d_P_search_39 : decode prog_6_method_2_code 39 = .ok (.aload_n 0, 1) := by decide +kernel
theorem d_P_search_40 : decode prog_6_method_2_code 40 = .ok (.getfield 43, 3) := by decide +kernel
theorem d_P_search_43 : decode prog_6_method_2_code 43 = .ok (.invokevirtual 47, 3) := by decide +kernel
theorem d_P_search_46 : decode prog_6_method_2_code 46 = .ok (.iconst 1, 1) := by decide +kernel
theorem d_P_search_47 : decode prog_6_method_2_code 47 = .ok (.isub, 1) := by decide +kernel
theorem d_P_search_48 : decode prog_6_method_2_code 48 = .ok (.istore 5, 2) := by decide +kernel
theorem d_P_search_50 : decode prog_6_method_2_code 50 = .ok (.iload 5, 2) := by decide +kernel
theorem d_P_search_52 : decode prog_6_method_2_code 52 = .ok (.ifCond .lt 85, 3) := by decide +kernel
theorem d_P_search_55 : decode prog_6_method_2_code 55 = .ok (.aload_n 0, 1) := by decide +kernel
theorem d_P_search_56 : decode prog_6_method_2_code 56 = .ok (.getfield 9, 3) := by decide +kernel
theorem d_P_search_59 : decode prog_6_method_2_code 59 = .ok (.iload 5, 2) := by decide +kernel
theorem d_P_search_61 : decode prog_6_method_2_code 61 = .ok (.aload_n 0, 1) := by decide +kernel
theorem d_P_search_62 : decode prog_6_method_2_code 62 = .ok (.getfield 43, 3) := by decide +kernel
theorem d_P_search_65 : decode prog_6_method_2_code 65 = .ok (.iload_n 1, 1) := by decide +kernel
theorem d_P_search_66 : decode prog_6_method_2_code 66 = .ok (.iload 5, 2) := by decide +kernel
theorem d_P_search_68 : decode prog_6_method_2_code 68 = .ok (.invokevirtual 53, 3) := by decide +kernel
theorem d_P_search_71 : decode prog_6_method_2_code 71 = .ok (.iastore, 1) := by decide +kernel
theorem d_P_search_72 : decode prog_6_method_2_code 72 = .ok (.aload_n 0, 1) := by decide +kernel
theorem d_P_search_73 : decode prog_6_method_2_code 73 = .ok (.getfield 15, 3) := by decide +kernel
theorem d_P_search_76 : decode prog_6_method_2_code 76 = .ok (.iload 5, 2) := by decide +kernel
theorem d_P_search_78 : decode prog_6_method_2_code 78 = .ok (.aload_n 0, 1) := by decide +kernel
theorem d_P_search_79 : decode prog_6_method_2_code 79 = .ok (.getfield 43, 3) := by decide +kernel
theorem d_P_search_82 : decode prog_6_method_2_code 82 = .ok (.iload_n 2, 1) := by decide +kernel
theorem d_P_search_83 : decode prog_6_method_2_code 83 = .ok (.iload 5, 2) := by decide +kernel
theorem d_P_search_85 : decode prog_6_method_2_code 85 = .ok (.invokevirtual 53, 3) := by decide +kernel
theorem d_P_search_88 : decode prog_6_method_2_code 88 = .ok (.iastore, 1) := by decide +kernel
theorem d_P_search_89 : decode prog_6_method_2_code 89 = .ok (.aload_n 0, 1) := by decide +kernel
theorem d_P_search_90 : decode prog_6_method_2_code 90 = .ok (.getfield 24, 3) := by decide +kernel
theorem d_P_search_93 : decode prog_6_method_2_code 93 = .ok (.iload 5, 2) := by decide +kernel
theorem d_P_search_95 : decode prog_6_method_2_code 95 = .ok (.aload_n 0, 1) := by decide +kernel
theorem d_P_search_96 : decode prog_6_method_2_code 96 = .ok (.getfield 24, 3) := by decide +kernel
theorem d_P_search_99 : decode prog_6_method_2_code 99 = .ok (.iload 5, 2) := by decide +kernel
theorem d_P_search_101 : decode prog_6_method_2_code 101 = .ok (.iconst 1, 1) := by decide +kernel
theorem d_P_search_102 : decode prog_6_method_2_code 102 = .ok (.iadd, 1) := by decide +kernel
theorem d_P_search_103 : decode prog_6_method_2_code 103 = .ok (.iaload, 1) := by decide +kernel
theorem d_P_search_104 : decode prog_6_method_2_code 104 = .ok (.aload_n 0, 1) := by decide +kernel
theorem d_P_search_105 : decode prog_6_method_2_code 105 = .ok (.getfield 43, 3) := by decide +kernel
theorem d_P_search_108 : decode prog_6_method_2_code 108 = .ok (.iload 5, 2) := by decide +kernel
theorem d_P_search_110 : decode prog_6_method_2_code 110 = .ok (.invokevirtual 57, 3) := by decide +kernel
theorem d_P_search_113 : decode prog_6_method_2_code 113 = .ok (.ifCond .eq 7, 3) := by decide +kernel
theorem d_P_search_116 : decode prog_6_method_2_code 116 = .ok (.iconst 0, 1) := by decide +kernel
theorem d_P_search_117 : decode prog_6_method_2_code 117 = .ok (.goto 12, 3) := by decide +kernel
theorem d_P_search_120 : decode prog_6_method_2_code 120 = .ok (.aload_n 0, 1) := by decide +kernel
theorem d_P_search_121 : decode prog_6_method_2_code 121 = .ok (.getfield 43, 3) := by decide +kernel
theorem d_P_search_124 : decode prog_6_method_2_code 124 = .ok (.iload 5, 2) := by decide +kernel
theorem d_P_search_126 : decode prog_6_method_2_code 126 = .ok (.invokevirtual 61, 3) := by decide +kernel
theorem d_P_search_129 : decode prog_6_method_2_code 129 = .ok (.iadd, 1) := by decide +kernel
theorem d_P_search_130 : decode prog_6_method_2_code 130 = .ok (.iastore, 1) := by decide +kernel
theorem d_P_search_131 : decode prog_6_method_2_code 131 = .ok (.iinc 5 (-1), 3) := by decide +kernel
theorem d_P_search_134 : decode prog_6_method_2_code 134 = .ok (.goto (-84), 3) := by decide +kernel
theorem d_P_search_137 : decode prog_6_method_2_code 137 = .ok (.aload_n 0, 1) := by decide +kernel
theorem d_P_search_138 : decode prog_6_method_2_code 138 = .ok (.iconst 0, 1) := by decide +kernel
theorem d_P_search_139 : decode prog_6_method_2_code 139 = .ok (.iconst 0, 1) := by decide +kernel
theorem d_P_search_140 : decode prog_6_method_2_code 140 = .ok (.iconst 0, 1) := by decide +kernel
theorem d_P_search_141 : decode prog_6_method_2_code 141 = .ok (.iconst 0, 1) := by decide +kernel
theorem d_P_search_142 : decode prog_6_method_2_code 142 = .ok (.iconst 0, 1) := by decide +kernel
theorem d_P_search_143 : decode prog_6_method_2_code 143 = .ok (.iconst 0, 1) := by decide +kernel
theorem d_P_search_144 : decode prog_6_method_2_code 144 = .ok (.invokevirtual 65, 3) := by decide +kernel
theorem d_P_search_147 : decode prog_6_method_2_code 147 = .ok (.return_, 1) := by decide +kernel
theorem d_P_choose_0 : decode prog_6_method_3_code 0 = .ok (.iload 4, 2) := by decide +kernel
theorem d_P_choose_2 : decode prog_6_method_3_code 2 = .ok (.aload_n 0, 1) := by decide +kernel
theorem d_P_choose_3 : decode prog_6_method_3_code 3 = .ok (.getfield 27, 3) := by decide +kernel
theorem d_P_choose_6 : decode prog_6_method_3_code 6 = .ok (.if_icmp .gt 31, 3) := by decide +kernel
theorem d_P_choose_9 : decode prog_6_method_3_code 9 = .ok (.iload 5, 2) := by decide +kernel
theorem d_P_choose_11 : decode prog_6_method_3_code 11 = .ok (.aload_n 0, 1) := by decide +kernel
theorem d_P_choose_12 : decode prog_6_method_3_code 12 = .ok (.getfield 31, 3) := by decide +kernel
theorem d_P_choose_15 : decode prog_6_method_3_code 15 = .ok (.if_icmp .gt 22, 3) := by decide +kernel
theorem d_P_choose_18 : decode prog_6_method_3_code 18 = .ok (.iload 6, 2) := by decide +kernel
theorem d_P_choose_20 : decode prog_6_method_3_code 20 = .ok (.aload_n 0, 1) := by decide +kernel
theorem d_P_choose_21 : decode prog_6_method_3_code 21 = .ok (.getfield 31, 3) := by decide +kernel
theorem d_P_choose_24 : decode prog_6_method_3_code 24 = .ok (.if_icmp .gt 13, 3) := by decide +kernel
theorem d_P_choose_27 : decode prog_6_method_3_code 27 = .ok (.aload_n 0, 1) := by decide +kernel
theorem d_P_choose_28 : decode prog_6_method_3_code 28 = .ok (.iload_n 1, 1) := by decide +kernel
theorem d_P_choose_29 : decode prog_6_method_3_code 29 = .ok (.iload_n 2, 1) := by decide +kernel
theorem d_P_choose_30 : decode prog_6_method_3_code 30 = .ok (.iload_n 3, 1) := by decide +kernel
theorem d_P_choose_31 : decode prog_6_method_3_code 31 = .ok (.invokevirtual 69, 3) := by decide +kernel
theorem d_P_choose_34 : decode prog_6_method_3_code 34 = .ok (.ifCond .eq 4, 3) := by decide +kernel
theorem d_P_choose_37 : decode prog_6_method_3_code 37 = .ok (.return_, 1) := by decide +kernel
theorem d_P_choose_38 : decode prog_6_method_3_code 38 = .ok (.iload_n 1, 1) := by decide +kernel
theorem d_P_choose_39 : decode prog_6_method_3_code 39 = .ok (.aload_n 0, 1) := by decide +kernel
theorem d_P_choose_40 : decode prog_6_method_3_code 40 = .ok (.getfield 43, 3) := by decide +kernel
theorem d_P_choose_43 : decode prog_6_method_3_code 43 = .ok (.invokevirtual 47, 3) := by decide +kernel
theorem d_P_choose_46 : decode prog_6_method_3_code 46 = .ok (.if_icmp .lt 12, 3) := by decide +kernel
theorem d_P_choose_49 : decode prog_6_method_3_code 49 = .ok (.aload_n 0, 1) := by decide +kernel
theorem d_P_choose_50 : decode prog_6_method_3_code 50 = .ok (.iload_n 2, 1) := by decide +kernel
theorem d_P_choose_51 : decode prog_6_method_3_code 51 = .ok (.iload_n 3, 1) := by decide +kernel
theorem d_P_choose_52 : decode prog_6_method_3_code 52 = .ok (.iload 4, 2) := by decide +kernel
theorem d_P_choose_54 : decode prog_6_method_3_code 54 = .ok (.invokevirtual 73, 3) := by decide +kernel
theorem d_P_choose_57 : decode prog_6_method_3_code 57 = .ok (.return_, 1) := by decide +kernel
theorem d_P_choose_58 : decode prog_6_method_3_code 58 = .ok (.aload_n 0, 1) := by decide +kernel
theorem d_P_choose_59 : decode prog_6_method_3_code 59 = .ok (.getfield 43, 3) := by decide +kernel
theorem d_P_choose_62 : decode prog_6_method_3_code 62 = .ok (.iload_n 1, 1) := by decide +kernel
theorem d_P_choose_63 : decode prog_6_method_3_code 63 = .ok (.invokevirtual 57, 3) := by decide +kernel
theorem d_P_choose_66 : decode prog_6_method_3_code 66 = .ok (.ifCond .ne 100, 3) := by decide +kernel
theorem d_P_choose_69 : decode prog_6_method_3_code 69 = .ok (.aload_n 0, 1) := by decide +kernel
theorem d_P_choose_70 : decode prog_6_method_3_code 70 = .ok (.getfield 9, 3) := by decide +kernel
theorem d_P_choose_73 : decode prog_6_method_3_code 73 = .ok (.iload_n 1, 1) := by decide +kernel
theorem d_P_choose_74 : decode prog_6_method_3_code 74 = .ok (.iaload, 1) := by decide +kernel
theorem d_P_choose_75 : decode prog_6_method_3_code 75 = .ok (.istore 7, 2) := by decide +kernel
theorem d_P_choose_77 : decode prog_6_method_3_code 77 = .ok (.aload_n 0, 1) := by decide +kernel
theorem d_P_choose_78 : decode prog_6_method_3_code 78 = .ok (.getfield 15, 3) := by decide +kernel
theorem d_P_choose_81 : decode prog_6_method_3_code 81 = .ok (.iload_n 1, 1) := by decide +kernel
theorem d_P_choose_82 : decode prog_6_method_3_code 82 = .ok (.iaload, 1) := by decide +kernel
theorem d_P_choose_83 : decode prog_6_method_3_code 83 = .ok (.istore 8, 2) := by decide +kernel
theorem d_P_choose_85 : decode prog_6_method_3_code 85 = .ok (.iload_n 2, 1) := by decide +kernel
theorem d_P_choose_86 : decode prog_6_method_3_code 86 = .ok (.aload_n 0, 1) := by decide +kernel
theorem d_P_choose_87 : decode prog_6_method_3_code 87 = .ok (.getfield 43, 3) := by decide +kernel
theorem d_P_choose_90 : decode prog_6_method_3_code 90 = .ok (.iload_n 1, 1) := by decide +kernel
theorem d_P_choose_91 : decode prog_6_method_3_code 91 = .ok (.invokevirtual 61, 3) := by decide +kernel
theorem d_P_choose_94 : decode prog_6_method_3_code 94 = .ok (.iadd, 1) := by decide +kernel
theorem d_P_choose_95 : decode prog_6_method_3_code 95 = .ok (.istore 9, 2) := by decide +kernel
theorem d_P_choose_97 : decode prog_6_method_3_code 97 = .ok (.aload_n 0, 1) := by decide +kernel
theorem d_P_choose_98 : decode prog_6_method_3_code 98 = .ok (.getfield 18, 3) := by decide +kernel
theorem d_P_choose_101 : decode prog_6_method_3_code 101 = .ok (.iload_n 1, 1) := by decide +kernel
theorem d_P_choose_102 : decode prog_6_method_3_code 102 = .ok (.iconst 0, 1) := by decide +kernel
theorem d_P_choose_103 : decode prog_6_method_3_code 103 = .ok (.iastore, 1) := by decide +kernel
theorem d_P_choose_104 : decode prog_6_method_3_code 104 = .ok (.aload_n 0, 1) := by decide +kernel
theorem d_P_choose_105 : decode prog_6_method_3_code 105 = .ok (.iload_n 1, 1) := by decide +kernel
theorem d_P_choose_106 : decode prog_6_method_3_code 106 = .ok (.iconst 1, 1) := by decide +kernel
theorem d_P_choose_107 : decode prog_6_method_3_code 107 = .ok (.iadd, 1) := by decide +kernel
theorem d_P_choose_108 : decode prog_6_method_3_code 108 = .ok (.iload 9, 2) := by decide +kernel
theorem d_P_choose_110 : decode prog_6_method_3_code 110 = .ok (.iload_n 3, 1) := by decide +kernel
theorem d_P_choose_111 : decode prog_6_method_3_code 111 = .ok (.iload 7, 2) := by decide +kernel
theorem d_P_choose_113 : decode prog_6_method_3_code 113 = .ok (.iload 8, 2) := by decide +kernel
theorem d_P_choose_115 : decode prog_6_method_3_code 115 = .ok (.isub, 1) := by decide +kernel
theorem d_P_choose_116 : decode prog_6_method_3_code 116 = .ok (.invokestatic 77, 3) := by decide +kernel
theorem d_P_choose_119 : decode prog_6_method_3_code 119 = .ok (.iadd, 1) := by decide +kernel
theorem d_P_choose_120 : decode prog_6_method_3_code 120 = .ok (.iload 4, 2) := by decide +kernel
theorem d_P_choose_122 : decode prog_6_method_3_code 122 = .ok (.iload 7, 2) := by decide +kernel
theorem d_P_choose_124 : decode prog_6_method_3_code 124 = .ok (.iload 8, 2) := by decide +kernel
theorem d_P_choose_126 : decode prog_6_method_3_code 126 = .ok (.invokestatic 82, 3) := by decide +kernel
theorem d_P_choose_129 : decode prog_6_method_3_code 129 = .ok (.iadd, 1) := by decide +kernel
theorem d_P_choose_130 : decode prog_6_method_3_code 130 = .ok (.iload 5, 2) := by decide +kernel
theorem d_P_choose_132 : decode prog_6_method_3_code 132 = .ok (.iload 6, 2) := by decide +kernel
theorem d_P_choose_134 : decode prog_6_method_3_code 134 = .ok (.invokevirtual 65, 3) := by decide +kernel
theorem d_P_choose_137 : decode prog_6_method_3_code 137 = .ok (.aload_n 0, 1) := by decide +kernel
theorem d_P_choose_138 : decode prog_6_method_3_code 138 = .ok (.getfield 18, 3) := by decide +kernel
theorem d_P_choose_141 : decode prog_6_method_3_code 141 = .ok (.iload_n 1, 1) := by decide +kernel
theorem d_P_choose_142 : decode prog_6_method_3_code 142 = .ok (.iconst 1, 1) := by decide +kernel
theorem d_P_choose_143 : decode prog_6_method_3_code 143 = .ok (.iastore, 1) := by decide +kernel
theorem d_P_choose_144 : decode prog_6_method_3_code 144 = .ok (.aload_n 0, 1) := by decide +kernel
theorem d_P_choose_145 : decode prog_6_method_3_code 145 = .ok (.iload_n 1, 1) := by decide +kernel
theorem d_P_choose_146 : decode prog_6_method_3_code 146 = .ok (.iconst 1, 1) := by decide +kernel
theorem d_P_choose_147 : decode prog_6_method_3_code 147 = .ok (.iadd, 1) := by decide +kernel
theorem d_P_choose_148 : decode prog_6_method_3_code 148 = .ok (.iload 9, 2) := by decide +kernel
theorem d_P_choose_150 : decode prog_6_method_3_code 150 = .ok (.iload_n 3, 1) := by decide +kernel
theorem d_P_choose_151 : decode prog_6_method_3_code 151 = .ok (.iload 4, 2) := by decide +kernel
theorem d_P_choose_153 : decode prog_6_method_3_code 153 = .ok (.iload 5, 2) := by decide +kernel
theorem d_P_choose_155 : decode prog_6_method_3_code 155 = .ok (.iload 7, 2) := by decide +kernel
theorem d_P_choose_157 : decode prog_6_method_3_code 157 = .ok (.iadd, 1) := by decide +kernel
theorem d_P_choose_158 : decode prog_6_method_3_code 158 = .ok (.iload 6, 2) := by decide +kernel
theorem d_P_choose_160 : decode prog_6_method_3_code 160 = .ok (.iload 8, 2) := by decide +kernel
theorem d_P_choose_162 : decode prog_6_method_3_code 162 = .ok (.iadd, 1) := by decide +kernel
theorem d_P_choose_163 : decode prog_6_method_3_code 163 = .ok (.invokevirtual 65, 3) := by decide +kernel
theorem d_P_choose_166 : decode prog_6_method_3_code 166 = .ok (.aload_n 0, 1) := by decide +kernel
theorem d_P_choose_167 : decode prog_6_method_3_code 167 = .ok (.getfield 18, 3) := by decide +kernel
theorem d_P_choose_170 : decode prog_6_method_3_code 170 = .ok (.iload_n 1, 1) := by decide +kernel
theorem d_P_choose_171 : decode prog_6_method_3_code 171 = .ok (.iconst 2, 1) := by decide +kernel
theorem d_P_choose_172 : decode prog_6_method_3_code 172 = .ok (.iastore, 1) := by decide +kernel
theorem d_P_choose_173 : decode prog_6_method_3_code 173 = .ok (.aload_n 0, 1) := by decide +kernel
theorem d_P_choose_174 : decode prog_6_method_3_code 174 = .ok (.iload_n 1, 1) := by decide +kernel
theorem d_P_choose_175 : decode prog_6_method_3_code 175 = .ok (.iconst 1, 1) := by decide +kernel
theorem d_P_choose_176 : decode prog_6_method_3_code 176 = .ok (.iadd, 1) := by decide +kernel
theorem d_P_choose_177 : decode prog_6_method_3_code 177 = .ok (.iload_n 2, 1) := by decide +kernel
theorem d_P_choose_178 : decode prog_6_method_3_code 178 = .ok (.iload_n 3, 1) := by decide +kernel
theorem d_P_choose_179 : decode prog_6_method_3_code 179 = .ok (.iload 4, 2) := by decide +kernel
theorem d_P_choose_181 : decode prog_6_method_3_code 181 = .ok (.iload 5, 2) := by decide +kernel
theorem d_P_choose_183 : decode prog_6_method_3_code 183 = .ok (.iload 6, 2) := by decide +kernel
theorem d_P_choose_185 : decode prog_6_method_3_code 185 = .ok (.invokevirtual 65, 3) := by decide +kernel
theorem d_P_choose_188 : decode prog_6_method_3_code 188 = .ok (.return_, 1) := by decide +kernel
theorem d_P_isNoBetter_0 : decode prog_6_method_4_code 0 = .ok (.iload_n 2, 1) := by decide +kernel
theorem d_P_isNoBetter_1 : decode prog_6_method_4_code 1 = .ok (.aload_n 0, 1) := by decide +kernel
theorem d_P_isNoBetter_2 : decode prog_6_method_4_code 2 = .ok (.getfield 24, 3) := by decide +kernel
theorem d_P_isNoBetter_5 : decode prog_6_method_4_code 5 = .ok (.iload_n 1, 1) := by decide +kernel
theorem d_P_isNoBetter_6 : decode prog_6_method_4_code 6 = .ok (.iaload, 1) := by decide +kernel
theorem d_P_isNoBetter_7 : decode prog_6_method_4_code 7 = .ok (.iadd, 1) := by decide +kernel
theorem d_P_isNoBetter_8 : decode prog_6_method_4_code 8 = .ok (.istore 4, 2) := by decide +kernel
theorem d_P_isNoBetter_10 : decode prog_6_method_4_code 10 = .ok (.iload 4, 2) := by decide +kernel
theorem d_P_isNoBetter_12 : decode prog_6_method_4_code 12 = .ok (.aload_n 0, 1) := by decide +kernel
theorem d_P_isNoBetter_13 : decode prog_6_method_4_code 13 = .ok (.getfield 34, 3) := by decide +kernel
theorem d_P_isNoBetter_16 : decode prog_6_method_4_code 16 = .ok (.if_icmp .lt 20, 3) := by decide +kernel
theorem d_P_isNoBetter_19 : decode prog_6_method_4_code 19 = .ok (.iload 4, 2) := by decide +kernel
theorem d_P_isNoBetter_21 : decode prog_6_method_4_code 21 = .ok (.aload_n 0, 1) := by decide +kernel
theorem d_P_isNoBetter_22 : decode prog_6_method_4_code 22 = .ok (.getfield 34, 3) := by decide +kernel
theorem d_P_isNoBetter_25 : decode prog_6_method_4_code 25 = .ok (.if_icmp .ne 15, 3) := by decide +kernel
theorem d_P_isNoBetter_28 : decode prog_6_method_4_code 28 = .ok (.iload_n 3, 1) := by decide +kernel
theorem d_P_isNoBetter_29 : decode prog_6_method_4_code 29 = .ok (.aload_n 0, 1) := by decide +kernel
theorem d_P_isNoBetter_30 : decode prog_6_method_4_code 30 = .ok (.getfield 37, 3) := by decide +kernel
theorem d_P_isNoBetter_33 : decode prog_6_method_4_code 33 = .ok (.if_icmp .lt 7, 3) := by decide +kernel
theorem d_P_isNoBetter_36 : decode prog_6_method_4_code 36 = .ok (.iconst 1, 1) := by decide +kernel
theorem d_P_isNoBetter_37 : decode prog_6_method_4_code 37 = .ok (.goto 4, 3) := by decide +kernel
theorem d_P_isNoBetter_40 : decode prog_6_method_4_code 40 = .ok (.iconst 0, 1) := by decide +kernel
theorem d_P_isNoBetter_41 : decode prog_6_method_4_code 41 = .ok (.ireturn, 1) := by decide +kernel
theorem d_P_keep_0 : decode prog_6_method_5_code 0 = .ok (.aload_n 0, 1) := by decide +kernel
theorem d_P_keep_1 : decode prog_6_method_5_code 1 = .ok (.iload_n 1, 1) := by decide +kernel
theorem d_P_keep_2 : decode prog_6_method_5_code 2 = .ok (.putfield 34, 3) := by decide +kernel
theorem d_P_keep_5 : decode prog_6_method_5_code 5 = .ok (.aload_n 0, 1) := by decide +kernel
theorem d_P_keep_6 : decode prog_6_method_5_code 6 = .ok (.iload_n 2, 1) := by decide +kernel
theorem d_P_keep_7 : decode prog_6_method_5_code 7 = .ok (.putfield 37, 3) := by decide +kernel
theorem d_P_keep_10 : decode prog_6_method_5_code 10 = .ok (.aload_n 0, 1) := by decide +kernel
theorem d_P_keep_11 : decode prog_6_method_5_code 11 = .ok (.iload_n 3, 1) := by decide +kernel
theorem d_P_keep_12 : decode prog_6_method_5_code 12 = .ok (.putfield 40, 3) := by decide +kernel
theorem d_P_keep_15 : decode prog_6_method_5_code 15 = .ok (.aload_n 0, 1) := by decide +kernel
theorem d_P_keep_16 : decode prog_6_method_5_code 16 = .ok (.getfield 18, 3) := by decide +kernel
theorem d_P_keep_19 : decode prog_6_method_5_code 19 = .ok (.iconst 0, 1) := by decide +kernel
theorem d_P_keep_20 : decode prog_6_method_5_code 20 = .ok (.aload_n 0, 1) := by decide +kernel
theorem d_P_keep_21 : decode prog_6_method_5_code 21 = .ok (.getfield 21, 3) := by decide +kernel
theorem d_P_keep_24 : decode prog_6_method_5_code 24 = .ok (.iconst 0, 1) := by decide +kernel
theorem d_P_keep_25 : decode prog_6_method_5_code 25 = .ok (.bipush 8, 2) := by decide +kernel
theorem d_P_keep_27 : decode prog_6_method_5_code 27 = .ok (.invokestatic 85, 3) := by decide +kernel
theorem d_P_keep_30 : decode prog_6_method_5_code 30 = .ok (.return_, 1) := by decide +kernel
theorem d_P_lines_0 : decode prog_6_method_6_code 0 = .ok (.aload_n 0, 1) := by decide +kernel
theorem d_P_lines_1 : decode prog_6_method_6_code 1 = .ok (.getfield 34, 3) := by decide +kernel
theorem d_P_lines_4 : decode prog_6_method_6_code 4 = .ok (.ireturn, 1) := by decide +kernel
theorem d_P_waits_0 : decode prog_6_method_7_code 0 = .ok (.aload_n 0, 1) := by decide +kernel
theorem d_P_waits_1 : decode prog_6_method_7_code 1 = .ok (.getfield 37, 3) := by decide +kernel
theorem d_P_waits_4 : decode prog_6_method_7_code 4 = .ok (.ireturn, 1) := by decide +kernel
theorem d_P_minutes_0 : decode prog_6_method_8_code 0 = .ok (.aload_n 0, 1) := by decide +kernel
theorem d_P_minutes_1 : decode prog_6_method_8_code 1 = .ok (.getfield 40, 3) := by decide +kernel
theorem d_P_minutes_4 : decode prog_6_method_8_code 4 = .ok (.ireturn, 1) := by decide +kernel
theorem d_P_wayOf_0 : decode prog_6_method_9_code 0 = .ok (.aload_n 0, 1) := by decide +kernel
theorem d_P_wayOf_1 : decode prog_6_method_9_code 1 = .ok (.getfield 21, 3) := by decide +kernel
theorem d_P_wayOf_4 : decode prog_6_method_9_code 4 = .ok (.iload_n 1, 1) := by decide +kernel
theorem d_P_wayOf_5 : decode prog_6_method_9_code 5 = .ok (.iaload, 1) := by decide +kernel
theorem d_P_wayOf_6 : decode prog_6_method_9_code 6 = .ok (.ireturn, 1) := by decide +kernel
theorem d_S_gainOf_0 : decode prog_9_method_2_code 0 = .ok (.aload_n 0, 1) := by decide +kernel
theorem d_S_gainOf_1 : decode prog_9_method_2_code 1 = .ok (.getfield 25, 3) := by decide +kernel
theorem d_S_gainOf_4 : decode prog_9_method_2_code 4 = .ok (.iload_n 1, 1) := by decide +kernel
theorem d_S_gainOf_5 : decode prog_9_method_2_code 5 = .ok (.invokevirtual 29, 3) := by decide +kernel
theorem d_S_gainOf_8 : decode prog_9_method_2_code 8 = .ok (.invokevirtual 35, 3) := by decide +kernel
theorem d_S_gainOf_11 : decode prog_9_method_2_code 11 = .ok (.iload_n 3, 1) := by decide +kernel
theorem d_S_gainOf_12 : decode prog_9_method_2_code 12 = .ok (.imul, 1) := by decide +kernel
theorem d_S_gainOf_13 : decode prog_9_method_2_code 13 = .ok (.istore 5, 2) := by decide +kernel
theorem d_S_gainOf_15 : decode prog_9_method_2_code 15 = .ok (.iconst 0, 1) := by decide +kernel
theorem d_S_gainOf_16 : decode prog_9_method_2_code 16 = .ok (.istore 6, 2) := by decide +kernel
theorem d_S_gainOf_18 : decode prog_9_method_2_code 18 = .ok (.iconst 0, 1) := by decide +kernel
theorem d_S_gainOf_19 : decode prog_9_method_2_code 19 = .ok (.istore 7, 2) := by decide +kernel
theorem d_S_gainOf_21 : decode prog_9_method_2_code 21 = .ok (.iload 7, 2) := by decide +kernel
theorem d_S_gainOf_23 : decode prog_9_method_2_code 23 = .ok (.aload_n 0, 1) := by decide +kernel
theorem d_S_gainOf_24 : decode prog_9_method_2_code 24 = .ok (.getfield 25, 3) := by decide +kernel
theorem d_S_gainOf_27 : decode prog_9_method_2_code 27 = .ok (.invokevirtual 41, 3) := by decide +kernel
theorem d_S_gainOf_30 : decode prog_9_method_2_code 30 = .ok (.if_icmp .ge 63, 3) := by decide +kernel
theorem d_S_gainOf_33 : decode prog_9_method_2_code 33 = .ok (.aload_n 0, 1) := by decide +kernel
theorem d_S_gainOf_34 : decode prog_9_method_2_code 34 = .ok (.getfield 25, 3) := by decide +kernel
theorem d_S_gainOf_37 : decode prog_9_method_2_code 37 = .ok (.iload 7, 2) := by decide +kernel
theorem d_S_gainOf_39 : decode prog_9_method_2_code 39 = .ok (.invokevirtual 44, 3) := by decide +kernel
theorem d_S_gainOf_42 : decode prog_9_method_2_code 42 = .ok (.ifCond .ne 45, 3) := by decide +kernel
theorem d_S_gainOf_45 : decode prog_9_method_2_code 45 = .ok (.aload_n 0, 1) := by decide +kernel
theorem d_S_gainOf_46 : decode prog_9_method_2_code 46 = .ok (.getfield 25, 3) := by decide +kernel
theorem d_S_gainOf_49 : decode prog_9_method_2_code 49 = .ok (.iload_n 2, 1) := by decide +kernel
theorem d_S_gainOf_50 : decode prog_9_method_2_code 50 = .ok (.iload 7, 2) := by decide +kernel
theorem d_S_gainOf_52 : decode prog_9_method_2_code 52 = .ok (.invokevirtual 48, 3) := by decide +kernel
theorem d_S_gainOf_55 : decode prog_9_method_2_code 55 = .ok (.iload 4, 2) := by decide +kernel
theorem d_S_gainOf_57 : decode prog_9_method_2_code 57 = .ok (.iadd, 1) := by decide +kernel
theorem d_S_gainOf_58 : decode prog_9_method_2_code 58 = .ok (.aload_n 0, 1) := by decide +kernel
theorem d_S_gainOf_59 : decode prog_9_method_2_code 59 = .ok (.getfield 25, 3) := by decide +kernel
theorem d_S_gainOf_62 : decode prog_9_method_2_code 62 = .ok (.iload_n 1, 1) := by decide +kernel
theorem d_S_gainOf_63 : decode prog_9_method_2_code 63 = .ok (.iload 7, 2) := by decide +kernel
theorem d_S_gainOf_65 : decode prog_9_method_2_code 65 = .ok (.invokevirtual 48, 3) := by decide +kernel
theorem d_S_gainOf_68 : decode prog_9_method_2_code 68 = .ok (.isub, 1) := by decide +kernel
theorem d_S_gainOf_69 : decode prog_9_method_2_code 69 = .ok (.iload_n 3, 1) := by decide +kernel
theorem d_S_gainOf_70 : decode prog_9_method_2_code 70 = .ok (.isub, 1) := by decide +kernel
theorem d_S_gainOf_71 : decode prog_9_method_2_code 71 = .ok (.istore 8, 2) := by decide +kernel
theorem d_S_gainOf_73 : decode prog_9_method_2_code 73 = .ok (.iload 6, 2) := by decide +kernel
theorem d_S_gainOf_75 : decode prog_9_method_2_code 75 = .ok (.iload 5, 2) := by decide +kernel
theorem d_S_gainOf_77 : decode prog_9_method_2_code 77 = .ok (.iconst 0, 1) := by decide +kernel
theorem d_S_gainOf_78 : decode prog_9_method_2_code 78 = .ok (.iload 8, 2) := by decide +kernel
theorem d_S_gainOf_80 : decode prog_9_method_2_code 80 = .ok (.invokestatic 52, 3) := by decide +kernel
theorem d_S_gainOf_83 : decode prog_9_method_2_code 83 = .ok (.isub, 1) := by decide +kernel
theorem d_S_gainOf_84 : decode prog_9_method_2_code 84 = .ok (.iadd, 1) := by decide +kernel
theorem d_S_gainOf_85 : decode prog_9_method_2_code 85 = .ok (.istore 6, 2) := by decide +kernel
theorem d_S_gainOf_87 : decode prog_9_method_2_code 87 = .ok (.iinc 7 1, 3) := by decide +kernel
theorem d_S_gainOf_90 : decode prog_9_method_2_code 90 = .ok (.goto (-69), 3) := by decide +kernel
theorem d_S_gainOf_93 : decode prog_9_method_2_code 93 = .ok (.iload 6, 2) := by decide +kernel
theorem d_S_gainOf_95 : decode prog_9_method_2_code 95 = .ok (.ireturn, 1) := by decide +kernel
theorem d_S_findRests_0 : decode prog_9_method_3_code 0 = .ok (.iconst 0, 1) := by decide +kernel
theorem d_S_findRests_1 : decode prog_9_method_3_code 1 = .ok (.istore_n 3, 1) := by decide +kernel
theorem d_S_findRests_2 : decode prog_9_method_3_code 2 = .ok (.iload_n 3, 1) := by decide +kernel
theorem d_S_findRests_3 : decode prog_9_method_3_code 3 = .ok (.bipush 16, 2) := by decide +kernel
theorem d_S_findRests_5 : decode prog_9_method_3_code 5 = .ok (.if_icmp .ge 45, 3) := by decide +kernel
theorem d_S_findRests_8 : decode prog_9_method_3_code 8 = .ok (.aload_n 0, 1) := by decide +kernel
theorem d_S_findRests_9 : decode prog_9_method_3_code 9 = .ok (.getfield 11, 3) := by decide +kernel
theorem d_S_findRests_12 : decode prog_9_method_3_code 12 = .ok (.iload_n 3, 1) := by decide +kernel
theorem d_S_findRests_13 : decode prog_9_method_3_code 13 = .ok (.aload_n 0, 1) := by decide +kernel
theorem d_S_findRests_14 : decode prog_9_method_3_code 14 = .ok (.iload_n 1, 1) := by decide +kernel
theorem d_S_findRests_15 : decode prog_9_method_3_code 15 = .ok (.iload_n 2, 1) := by decide +kernel
theorem d_S_findRests_16 : decode prog_9_method_3_code 16 = .ok (.iload_n 3, 1) := by decide +kernel
theorem d_S_findRests_17 : decode prog_9_method_3_code 17 = .ok (.iconst 4, 1) := by decide +kernel
theorem d_S_findRests_18 : decode prog_9_method_3_code 18 = .ok (.idiv, 1) := by decide +kernel
theorem d_S_findRests_19 : decode prog_9_method_3_code 19 = .ok (.iload_n 3, 1) := by decide +kernel
theorem d_S_findRests_20 : decode prog_9_method_3_code 20 = .ok (.iconst 4, 1) := by decide +kernel
theorem d_S_findRests_21 : decode prog_9_method_3_code 21 = .ok (.irem, 1) := by decide +kernel
theorem d_S_findRests_22 : decode prog_9_method_3_code 22 = .ok (.invokevirtual 57, 3) := by decide +kernel
theorem d_S_findRests_25 : decode prog_9_method_3_code 25 = .ok (.iastore, 1) := by decide +kernel
theorem d_S_findRests_26 : decode prog_9_method_3_code 26 = .ok (.aload_n 0, 1) := by decide +kernel
theorem d_S_findRests_27 : decode prog_9_method_3_code 27 = .ok (.getfield 15, 3) := by decide +kernel
theorem d_S_findRests_30 : decode prog_9_method_3_code 30 = .ok (.iload_n 3, 1) := by decide +kernel
theorem d_S_findRests_31 : decode prog_9_method_3_code 31 = .ok (.aload_n 0, 1) := by decide +kernel
theorem d_S_findRests_32 : decode prog_9_method_3_code 32 = .ok (.iload_n 2, 1) := by decide +kernel
theorem d_S_findRests_33 : decode prog_9_method_3_code 33 = .ok (.iload_n 1, 1) := by decide +kernel
theorem d_S_findRests_34 : decode prog_9_method_3_code 34 = .ok (.iload_n 3, 1) := by decide +kernel
theorem d_S_findRests_35 : decode prog_9_method_3_code 35 = .ok (.iconst 4, 1) := by decide +kernel
theorem d_S_findRests_36 : decode prog_9_method_3_code 36 = .ok (.irem, 1) := by decide +kernel
theorem d_S_findRests_37 : decode prog_9_method_3_code 37 = .ok (.iload_n 3, 1) := by decide +kernel
theorem d_S_findRests_38 : decode prog_9_method_3_code 38 = .ok (.iconst 4, 1) := by decide +kernel
theorem d_S_findRests_39 : decode prog_9_method_3_code 39 = .ok (.idiv, 1) := by decide +kernel
theorem d_S_findRests_40 : decode prog_9_method_3_code 40 = .ok (.invokevirtual 57, 3) := by decide +kernel
theorem d_S_findRests_43 : decode prog_9_method_3_code 43 = .ok (.iastore, 1) := by decide +kernel
theorem d_S_findRests_44 : decode prog_9_method_3_code 44 = .ok (.iinc 3 1, 3) := by decide +kernel
theorem d_S_findRests_47 : decode prog_9_method_3_code 47 = .ok (.goto (-45), 3) := by decide +kernel
theorem d_S_findRests_50 : decode prog_9_method_3_code 50 = .ok (.aload_n 0, 1) := by decide +kernel
theorem d_S_findRests_51 : decode prog_9_method_3_code 51 = .ok (.iconst 0, 1) := by decide +kernel
theorem d_S_findRests_52 : decode prog_9_method_3_code 52 = .ok (.putfield 21, 3) := by decide +kernel
theorem d_S_findRests_55 : decode prog_9_method_3_code 55 = .ok (.iconst 0, 1) := by decide +kernel
theorem d_S_findRests_56 : decode prog_9_method_3_code 56 = .ok (.istore_n 3, 1) := by decide +kernel
theorem d_S_findRests_57 : decode prog_9_method_3_code 57 = .ok (.iload_n 3, 1) := by decide +kernel
theorem d_S_findRests_58 : decode prog_9_method_3_code 58 = .ok (.bipush 16, 2) := by decide +kernel
theorem d_S_findRests_60 : decode prog_9_method_3_code 60 = .ok (.if_icmp .ge 42, 3) := by decide +kernel
theorem d_S_findRests_63 : decode prog_9_method_3_code 63 = .ok (.aload_n 0, 1) := by decide +kernel
theorem d_S_findRests_64 : decode prog_9_method_3_code 64 = .ok (.iload_n 3, 1) := by decide +kernel
theorem d_S_findRests_65 : decode prog_9_method_3_code 65 = .ok (.iconst 4, 1) := by decide +kernel
theorem d_S_findRests_66 : decode prog_9_method_3_code 66 = .ok (.idiv, 1) := by decide +kernel
theorem d_S_findRests_67 : decode prog_9_method_3_code 67 = .ok (.iload_n 3, 1) := by decide +kernel
theorem d_S_findRests_68 : decode prog_9_method_3_code 68 = .ok (.iconst 4, 1) := by decide +kernel
theorem d_S_findRests_69 : decode prog_9_method_3_code 69 = .ok (.irem, 1) := by decide +kernel
theorem d_S_findRests_70 : decode prog_9_method_3_code 70 = .ok (.invokevirtual 61, 3) := by decide +kernel
theorem d_S_findRests_73 : decode prog_9_method_3_code 73 = .ok (.ifCond .eq 23, 3) := by decide +kernel
theorem d_S_findRests_76 : decode prog_9_method_3_code 76 = .ok (.aload_n 0, 1) := by decide +kernel
theorem d_S_findRests_77 : decode prog_9_method_3_code 77 = .ok (.getfield 18, 3) := by decide +kernel
theorem d_S_findRests_80 : decode prog_9_method_3_code 80 = .ok (.aload_n 0, 1) := by decide +kernel
theorem d_S_findRests_81 : decode prog_9_method_3_code 81 = .ok (.getfield 21, 3) := by decide +kernel
theorem d_S_findRests_84 : decode prog_9_method_3_code 84 = .ok (.iload_n 3, 1) := by decide +kernel
theorem d_S_findRests_85 : decode prog_9_method_3_code 85 = .ok (.iastore, 1) := by decide +kernel
theorem d_S_findRests_86 : decode prog_9_method_3_code 86 = .ok (.aload_n 0, 1) := by decide +kernel
theorem d_S_findRests_87 : decode prog_9_method_3_code 87 = .ok (.dup, 1) := by decide +kernel
theorem d_S_findRests_88 : decode prog_9_method_3_code 88 = .ok (.getfield 21, 3) := by decide +kernel
theorem d_S_findRests_91 : decode prog_9_method_3_code 91 = .ok (.iconst 1, 1) := by decide +kernel
theorem d_S_findRests_92 : decode prog_9_method_3_code 92 = .ok (.iadd, 1) := by decide +kernel
theorem d_S_findRests_93 : decode prog_9_method_3_code 93 = .ok (.putfield 21, 3) := by decide +kernel
theorem d_S_findRests_96 : decode prog_9_method_3_code 96 = .ok (.iinc 3 1, 3) := by decide +kernel
theorem d_S_findRests_99 : decode prog_9_method_3_code 99 = .ok (.goto (-42), 3) := by decide +kernel
theorem d_S_findRests_102 : decode prog_9_method_3_code 102 = .ok (.return_, 1) := by decide +kernel
theorem d_S_isRest_0 : decode prog_9_method_4_code 0 = .ok (.iconst 4, 1) := by decide +kernel
theorem d_S_isRest_1 : decode prog_9_method_4_code 1 = .ok (.iload_n 1, 1) := by decide +kernel
theorem d_S_isRest_2 : decode prog_9_method_4_code 2 = .ok (.imul, 1) := by decide +kernel
theorem d_S_isRest_3 : decode prog_9_method_4_code 3 = .ok (.iload_n 2, 1) := by decide +kernel
theorem d_S_isRest_4 : decode prog_9_method_4_code 4 = .ok (.iadd, 1) := by decide +kernel
theorem d_S_isRest_5 : decode prog_9_method_4_code 5 = .ok (.istore_n 3, 1) := by decide +kernel
theorem d_S_isRest_6 : decode prog_9_method_4_code 6 = .ok (.iconst 0, 1) := by decide +kernel
theorem d_S_isRest_7 : decode prog_9_method_4_code 7 = .ok (.istore 4, 2) := by decide +kernel
theorem d_S_isRest_9 : decode prog_9_method_4_code 9 = .ok (.iload 4, 2) := by decide +kernel
theorem d_S_isRest_11 : decode prog_9_method_4_code 11 = .ok (.iconst 4, 1) := by decide +kernel
theorem d_S_isRest_12 : decode prog_9_method_4_code 12 = .ok (.if_icmp .ge 51, 3) := by decide +kernel
theorem d_S_isRest_15 : decode prog_9_method_4_code 15 = .ok (.aload_n 0, 1) := by decide +kernel
theorem d_S_isRest_16 : decode prog_9_method_4_code 16 = .ok (.getfield 11, 3) := by decide +kernel
theorem d_S_isRest_19 : decode prog_9_method_4_code 19 = .ok (.iconst 4, 1) := by decide +kernel
theorem d_S_isRest_20 : decode prog_9_method_4_code 20 = .ok (.iload 4, 2) := by decide +kernel
theorem d_S_isRest_22 : decode prog_9_method_4_code 22 = .ok (.imul, 1) := by decide +kernel
theorem d_S_isRest_23 : decode prog_9_method_4_code 23 = .ok (.iload_n 2, 1) := by decide +kernel
theorem d_S_isRest_24 : decode prog_9_method_4_code 24 = .ok (.iadd, 1) := by decide +kernel
theorem d_S_isRest_25 : decode prog_9_method_4_code 25 = .ok (.iaload, 1) := by decide +kernel
theorem d_S_isRest_26 : decode prog_9_method_4_code 26 = .ok (.aload_n 0, 1) := by decide +kernel
theorem d_S_isRest_27 : decode prog_9_method_4_code 27 = .ok (.getfield 11, 3) := by decide +kernel
theorem d_S_isRest_30 : decode prog_9_method_4_code 30 = .ok (.iload_n 3, 1) := by decide +kernel
theorem d_S_isRest_31 : decode prog_9_method_4_code 31 = .ok (.iaload, 1) := by decide +kernel
theorem d_S_isRest_32 : decode prog_9_method_4_code 32 = .ok (.if_icmp .gt 23, 3) := by decide +kernel
theorem d_S_isRest_35 : decode prog_9_method_4_code 35 = .ok (.aload_n 0, 1) := by decide +kernel
theorem d_S_isRest_36 : decode prog_9_method_4_code 36 = .ok (.getfield 15, 3) := by decide +kernel
theorem d_S_isRest_39 : decode prog_9_method_4_code 39 = .ok (.iconst 4, 1) := by decide +kernel
theorem d_S_isRest_40 : decode prog_9_method_4_code 40 = .ok (.iload_n 1, 1) := by decide +kernel
theorem d_S_isRest_41 : decode prog_9_method_4_code 41 = .ok (.imul, 1) := by decide +kernel
theorem d_S_isRest_42 : decode prog_9_method_4_code 42 = .ok (.iload 4, 2) := by decide +kernel
theorem d_S_isRest_44 : decode prog_9_method_4_code 44 = .ok (.iadd, 1) := by decide +kernel
theorem d_S_isRest_45 : decode prog_9_method_4_code 45 = .ok (.iaload, 1) := by decide +kernel
theorem d_S_isRest_46 : decode prog_9_method_4_code 46 = .ok (.aload_n 0, 1) := by decide +kernel
theorem d_S_isRest_47 : decode prog_9_method_4_code 47 = .ok (.getfield 15, 3) := by decide +kernel
theorem d_S_isRest_50 : decode prog_9_method_4_code 50 = .ok (.iload_n 3, 1) := by decide +kernel
theorem d_S_isRest_51 : decode prog_9_method_4_code 51 = .ok (.iaload, 1) := by decide +kernel
theorem d_S_isRest_52 : decode prog_9_method_4_code 52 = .ok (.if_icmp .le 5, 3) := by decide +kernel
theorem d_S_isRest_55 : decode prog_9_method_4_code 55 = .ok (.iconst 0, 1) := by decide +kernel
theorem d_S_isRest_56 : decode prog_9_method_4_code 56 = .ok (.ireturn, 1) := by decide +kernel
theorem d_S_isRest_57 : decode prog_9_method_4_code 57 = .ok (.iinc 4 1, 3) := by decide +kernel
theorem d_S_isRest_60 : decode prog_9_method_4_code 60 = .ok (.goto (-51), 3) := by decide +kernel
theorem d_S_isRest_63 : decode prog_9_method_4_code 63 = .ok (.iconst 1, 1) := by decide +kernel
theorem d_S_isRest_64 : decode prog_9_method_4_code 64 = .ok (.ireturn, 1) := by decide +kernel
theorem d_S_restCount_0 : decode prog_9_method_5_code 0 = .ok (.aload_n 0, 1) := by decide +kernel
theorem d_S_restCount_1 : decode prog_9_method_5_code 1 = .ok (.getfield 21, 3) := by decide +kernel
theorem d_S_restCount_4 : decode prog_9_method_5_code 4 = .ok (.ireturn, 1) := by decide +kernel
theorem d_S_restAt_0 : decode prog_9_method_6_code 0 = .ok (.iload_n 1, 1) := by decide +kernel
theorem d_S_restAt_1 : decode prog_9_method_6_code 1 = .ok (.ifCond .lt 20, 3) := by decide +kernel
theorem d_S_restAt_4 : decode prog_9_method_6_code 4 = .ok (.iload_n 1, 1) := by decide +kernel
theorem d_S_restAt_5 : decode prog_9_method_6_code 5 = .ok (.aload_n 0, 1) := by decide +kernel
theorem d_S_restAt_6 : decode prog_9_method_6_code 6 = .ok (.getfield 21, 3) := by decide +kernel
theorem d_S_restAt_9 : decode prog_9_method_6_code 9 = .ok (.if_icmp .ge 12, 3) := by decide +kernel
theorem d_S_restAt_12 : decode prog_9_method_6_code 12 = .ok (.aload_n 0, 1) := by decide +kernel
theorem d_S_restAt_13 : decode prog_9_method_6_code 13 = .ok (.getfield 18, 3) := by decide +kernel
theorem d_S_restAt_16 : decode prog_9_method_6_code 16 = .ok (.iload_n 1, 1) := by decide +kernel
theorem d_S_restAt_17 : decode prog_9_method_6_code 17 = .ok (.iaload, 1) := by decide +kernel
theorem d_S_restAt_18 : decode prog_9_method_6_code 18 = .ok (.goto 4, 3) := by decide +kernel
theorem d_S_restAt_21 : decode prog_9_method_6_code 21 = .ok (.iconst (-1), 1) := by decide +kernel
theorem d_S_restAt_22 : decode prog_9_method_6_code 22 = .ok (.ireturn, 1) := by decide +kernel
theorem d_T_seat_0 : decode prog_8_method_2_code 0 = .ok (.iconst 0, 1) := by decide +kernel
theorem d_T_seat_1 : decode prog_8_method_2_code 1 = .ok (.istore_n 2, 1) := by decide +kernel
theorem d_T_seat_2 : decode prog_8_method_2_code 2 = .ok (.iload_n 2, 1) := by decide +kernel
theorem d_T_seat_3 : decode prog_8_method_2_code 3 = .ok (.bipush 6, 2) := by decide +kernel
theorem d_T_seat_5 : decode prog_8_method_2_code 5 = .ok (.if_icmp .ge 45, 3) := by decide +kernel
theorem d_T_seat_8 : decode prog_8_method_2_code 8 = .ok (.iload_n 2, 1) := by decide +kernel
theorem d_T_seat_9 : decode prog_8_method_2_code 9 = .ok (.iconst 1, 1) := by decide +kernel
theorem d_T_seat_10 : decode prog_8_method_2_code 10 = .ok (.iadd, 1) := by decide +kernel
theorem d_T_seat_11 : decode prog_8_method_2_code 11 = .ok (.istore_n 3, 1) := by decide +kernel
theorem d_T_seat_12 : decode prog_8_method_2_code 12 = .ok (.iload_n 3, 1) := by decide +kernel
theorem d_T_seat_13 : decode prog_8_method_2_code 13 = .ok (.bipush 6, 2) := by decide +kernel
theorem d_T_seat_15 : decode prog_8_method_2_code 15 = .ok (.if_icmp .ge 29, 3) := by decide +kernel
theorem d_T_seat_18 : decode prog_8_method_2_code 18 = .ok (.aload_n 0, 1) := by decide +kernel
theorem d_T_seat_19 : decode prog_8_method_2_code 19 = .ok (.getfield 9, 3) := by decide +kernel
theorem d_T_seat_22 : decode prog_8_method_2_code 22 = .ok (.bipush 6, 2) := by decide +kernel
theorem d_T_seat_24 : decode prog_8_method_2_code 24 = .ok (.iload_n 2, 1) := by decide +kernel
theorem d_T_seat_25 : decode prog_8_method_2_code 25 = .ok (.imul, 1) := by decide +kernel
theorem d_T_seat_26 : decode prog_8_method_2_code 26 = .ok (.iload_n 3, 1) := by decide +kernel
theorem d_T_seat_27 : decode prog_8_method_2_code 27 = .ok (.iadd, 1) := by decide +kernel
theorem d_T_seat_28 : decode prog_8_method_2_code 28 = .ok (.aload_n 0, 1) := by decide +kernel
theorem d_T_seat_29 : decode prog_8_method_2_code 29 = .ok (.getfield 25, 3) := by decide +kernel
theorem d_T_seat_32 : decode prog_8_method_2_code 32 = .ok (.iload_n 2, 1) := by decide +kernel
theorem d_T_seat_33 : decode prog_8_method_2_code 33 = .ok (.iload_n 3, 1) := by decide +kernel
theorem d_T_seat_34 : decode prog_8_method_2_code 34 = .ok (.invokevirtual 29, 3) := by decide +kernel
theorem d_T_seat_37 : decode prog_8_method_2_code 37 = .ok (.iastore, 1) := by decide +kernel
theorem d_T_seat_38 : decode prog_8_method_2_code 38 = .ok (.iinc 3 1, 3) := by decide +kernel
theorem d_T_seat_41 : decode prog_8_method_2_code 41 = .ok (.goto (-29), 3) := by decide +kernel
theorem d_T_seat_44 : decode prog_8_method_2_code 44 = .ok (.iinc 2 1, 3) := by decide +kernel
theorem d_T_seat_47 : decode prog_8_method_2_code 47 = .ok (.goto (-45), 3) := by decide +kernel
theorem d_T_seat_50 : decode prog_8_method_2_code 50 = .ok (.aload_n 0, 1) := by decide +kernel
theorem d_T_seat_51 : decode prog_8_method_2_code 51 = .ok (.getfield 15, 3) := by decide +kernel
theorem d_T_seat_54 : decode prog_8_method_2_code 54 = .ok (.iconst 0, 1) := by decide +kernel
theorem d_T_seat_55 : decode prog_8_method_2_code 55 = .ok (.iconst 0, 1) := by decide +kernel
theorem d_T_seat_56 : decode prog_8_method_2_code 56 = .ok (.iastore, 1) := by decide +kernel
theorem d_T_seat_57 : decode prog_8_method_2_code 57 = .ok (.iconst 1, 1) := by decide +kernel
theorem d_T_seat_58 : decode prog_8_method_2_code 58 = .ok (.istore_n 2, 1) := by decide +kernel
theorem d_T_seat_59 : decode prog_8_method_2_code 59 = .ok (.iload_n 2, 1) := by decide +kernel
theorem d_T_seat_60 : decode prog_8_method_2_code 60 = .ok (.iload_n 1, 1) := by decide +kernel
theorem d_T_seat_61 : decode prog_8_method_2_code 61 = .ok (.if_icmp .gt 32, 3) := by decide +kernel
theorem d_T_seat_64 : decode prog_8_method_2_code 64 = .ok (.iload_n 2, 1) := by decide +kernel
theorem d_T_seat_65 : decode prog_8_method_2_code 65 = .ok (.invokestatic 35, 3) := by decide +kernel
theorem d_T_seat_68 : decode prog_8_method_2_code 68 = .ok (.istore_n 3, 1) := by decide +kernel
theorem d_T_seat_69 : decode prog_8_method_2_code 69 = .ok (.aload_n 0, 1) := by decide +kernel
theorem d_T_seat_70 : decode prog_8_method_2_code 70 = .ok (.getfield 15, 3) := by decide +kernel
theorem d_T_seat_73 : decode prog_8_method_2_code 73 = .ok (.iload_n 2, 1) := by decide +kernel
theorem d_T_seat_74 : decode prog_8_method_2_code 74 = .ok (.aload_n 0, 1) := by decide +kernel
theorem d_T_seat_75 : decode prog_8_method_2_code 75 = .ok (.iload_n 2, 1) := by decide +kernel
theorem d_T_seat_76 : decode prog_8_method_2_code 76 = .ok (.iload_n 3, 1) := by decide +kernel
theorem d_T_seat_77 : decode prog_8_method_2_code 77 = .ok (.aload_n 0, 1) := by decide +kernel
theorem d_T_seat_78 : decode prog_8_method_2_code 78 = .ok (.iload_n 2, 1) := by decide +kernel
theorem d_T_seat_79 : decode prog_8_method_2_code 79 = .ok (.iload_n 3, 1) := by decide +kernel
theorem d_T_seat_80 : decode prog_8_method_2_code 80 = .ok (.invokevirtual 39, 3) := by decide +kernel
theorem d_T_seat_83 : decode prog_8_method_2_code 83 = .ok (.invokevirtual 42, 3) := by decide +kernel
theorem d_T_seat_86 : decode prog_8_method_2_code 86 = .ok (.iastore, 1) := by decide +kernel
theorem d_T_seat_87 : decode prog_8_method_2_code 87 = .ok (.iinc 2 1, 3) := by decide +kernel
theorem d_T_seat_90 : decode prog_8_method_2_code 90 = .ok (.goto (-31), 3) := by decide +kernel
theorem d_T_seat_93 : decode prog_8_method_2_code 93 = .ok (.aload_n 0, 1) := by decide +kernel
theorem d_T_seat_94 : decode prog_8_method_2_code 94 = .ok (.aload_n 0, 1) := by decide +kernel
theorem d_T_seat_95 : decode prog_8_method_2_code 95 = .ok (.getfield 15, 3) := by decide +kernel
theorem d_T_seat_98 : decode prog_8_method_2_code 98 = .ok (.iload_n 1, 1) := by decide +kernel
theorem d_T_seat_99 : decode prog_8_method_2_code 99 = .ok (.iaload, 1) := by decide +kernel
theorem d_T_seat_100 : decode prog_8_method_2_code 100 = .ok (.putfield 21, 3) := by decide +kernel
theorem d_T_seat_103 : decode prog_8_method_2_code 103 = .ok (.iload_n 1, 1) := by decide +kernel
theorem d_T_seat_104 : decode prog_8_method_2_code 104 = .ok (.istore_n 2, 1) := by decide +kernel
theorem d_T_seat_105 : decode prog_8_method_2_code 105 = .ok (.iconst 0, 1) := by decide +kernel
theorem d_T_seat_106 : decode prog_8_method_2_code 106 = .ok (.istore_n 3, 1) := by decide +kernel
theorem d_T_seat_107 : decode prog_8_method_2_code 107 = .ok (.iload_n 3, 1) := by decide +kernel
theorem d_T_seat_108 : decode prog_8_method_2_code 108 = .ok (.bipush 6, 2) := by decide +kernel
theorem d_T_seat_110 : decode prog_8_method_2_code 110 = .ok (.if_icmp .ge 49, 3) := by decide +kernel
theorem d_T_seat_113 : decode prog_8_method_2_code 113 = .ok (.iload_n 2, 1) := by decide +kernel
theorem d_T_seat_114 : decode prog_8_method_2_code 114 = .ok (.iload_n 3, 1) := by decide +kernel
theorem d_T_seat_115 : decode prog_8_method_2_code 115 = .ok (.invokestatic 46, 3) := by decide +kernel
theorem d_T_seat_118 : decode prog_8_method_2_code 118 = .ok (.ifCond .eq 35, 3) := by decide +kernel
theorem d_T_seat_121 : decode prog_8_method_2_code 121 = .ok (.aload_n 0, 1) := by decide +kernel
theorem d_T_seat_122 : decode prog_8_method_2_code 122 = .ok (.iload_n 2, 1) := by decide +kernel
theorem d_T_seat_123 : decode prog_8_method_2_code 123 = .ok (.iload_n 3, 1) := by decide +kernel
theorem d_T_seat_124 : decode prog_8_method_2_code 124 = .ok (.invokevirtual 39, 3) := by decide +kernel
theorem d_T_seat_127 : decode prog_8_method_2_code 127 = .ok (.istore 4, 2) := by decide +kernel
theorem d_T_seat_129 : decode prog_8_method_2_code 129 = .ok (.aload_n 0, 1) := by decide +kernel
theorem d_T_seat_130 : decode prog_8_method_2_code 130 = .ok (.getfield 18, 3) := by decide +kernel
theorem d_T_seat_133 : decode prog_8_method_2_code 133 = .ok (.iload_n 3, 1) := by decide +kernel
theorem d_T_seat_134 : decode prog_8_method_2_code 134 = .ok (.iload 4, 2) := by decide +kernel
theorem d_T_seat_136 : decode prog_8_method_2_code 136 = .ok (.iastore, 1) := by decide +kernel
theorem d_T_seat_137 : decode prog_8_method_2_code 137 = .ok (.aload_n 0, 1) := by decide +kernel
theorem d_T_seat_138 : decode prog_8_method_2_code 138 = .ok (.getfield 18, 3) := by decide +kernel
theorem d_T_seat_141 : decode prog_8_method_2_code 141 = .ok (.iload 4, 2) := by decide +kernel
theorem d_T_seat_143 : decode prog_8_method_2_code 143 = .ok (.iload_n 3, 1) := by decide +kernel
theorem d_T_seat_144 : decode prog_8_method_2_code 144 = .ok (.iastore, 1) := by decide +kernel
theorem d_T_seat_145 : decode prog_8_method_2_code 145 = .ok (.iload_n 2, 1) := by decide +kernel
theorem d_T_seat_146 : decode prog_8_method_2_code 146 = .ok (.iload_n 3, 1) := by decide +kernel
theorem d_T_seat_147 : decode prog_8_method_2_code 147 = .ok (.iload 4, 2) := by decide +kernel
theorem d_T_seat_149 : decode prog_8_method_2_code 149 = .ok (.invokestatic 50, 3) := by decide +kernel
theorem d_T_seat_152 : decode prog_8_method_2_code 152 = .ok (.istore_n 2, 1) := by decide +kernel
theorem d_T_seat_153 : decode prog_8_method_2_code 153 = .ok (.iinc 3 1, 3) := by decide +kernel
theorem d_T_seat_156 : decode prog_8_method_2_code 156 = .ok (.goto (-49), 3) := by decide +kernel
theorem d_T_seat_159 : decode prog_8_method_2_code 159 = .ok (.return_, 1) := by decide +kernel
theorem d_T_leastPartner_0 : decode prog_8_method_3_code 0 = .ok (.iload_n 2, 1) := by decide +kernel
theorem d_T_leastPartner_1 : decode prog_8_method_3_code 1 = .ok (.istore_n 3, 1) := by decide +kernel
theorem d_T_leastPartner_2 : decode prog_8_method_3_code 2 = .ok (.iload_n 2, 1) := by decide +kernel
theorem d_T_leastPartner_3 : decode prog_8_method_3_code 3 = .ok (.iconst 1, 1) := by decide +kernel
theorem d_T_leastPartner_4 : decode prog_8_method_3_code 4 = .ok (.iadd, 1) := by decide +kernel
theorem d_T_leastPartner_5 : decode prog_8_method_3_code 5 = .ok (.istore 4, 2) := by decide +kernel
theorem d_T_leastPartner_7 : decode prog_8_method_3_code 7 = .ok (.iload 4, 2) := by decide +kernel
theorem d_T_leastPartner_9 : decode prog_8_method_3_code 9 = .ok (.bipush 6, 2) := by decide +kernel
theorem d_T_leastPartner_11 : decode prog_8_method_3_code 11 = .ok (.if_icmp .ge 44, 3) := by decide +kernel
theorem d_T_leastPartner_14 : decode prog_8_method_3_code 14 = .ok (.iload_n 1, 1) := by decide +kernel
theorem d_T_leastPartner_15 : decode prog_8_method_3_code 15 = .ok (.iload 4, 2) := by decide +kernel
theorem d_T_leastPartner_17 : decode prog_8_method_3_code 17 = .ok (.invokestatic 46, 3) := by decide +kernel
theorem d_T_leastPartner_20 : decode prog_8_method_3_code 20 = .ok (.ifCond .eq 29, 3) := by decide +kernel
theorem d_T_leastPartner_23 : decode prog_8_method_3_code 23 = .ok (.iload_n 3, 1) := by decide +kernel
theorem d_T_leastPartner_24 : decode prog_8_method_3_code 24 = .ok (.iload_n 2, 1) := by decide +kernel
theorem d_T_leastPartner_25 : decode prog_8_method_3_code 25 = .ok (.if_icmp .eq 21, 3) := by decide +kernel
theorem d_T_leastPartner_28 : decode prog_8_method_3_code 28 = .ok (.aload_n 0, 1) := by decide +kernel
theorem d_T_leastPartner_29 : decode prog_8_method_3_code 29 = .ok (.iload_n 1, 1) := by decide +kernel
theorem d_T_leastPartner_30 : decode prog_8_method_3_code 30 = .ok (.iload_n 2, 1) := by decide +kernel
theorem d_T_leastPartner_31 : decode prog_8_method_3_code 31 = .ok (.iload 4, 2) := by decide +kernel
theorem d_T_leastPartner_33 : decode prog_8_method_3_code 33 = .ok (.invokevirtual 42, 3) := by decide +kernel
theorem d_T_leastPartner_36 : decode prog_8_method_3_code 36 = .ok (.aload_n 0, 1) := by decide +kernel
theorem d_T_leastPartner_37 : decode prog_8_method_3_code 37 = .ok (.iload_n 1, 1) := by decide +kernel
theorem d_T_leastPartner_38 : decode prog_8_method_3_code 38 = .ok (.iload_n 2, 1) := by decide +kernel
theorem d_T_leastPartner_39 : decode prog_8_method_3_code 39 = .ok (.iload_n 3, 1) := by decide +kernel
theorem d_T_leastPartner_40 : decode prog_8_method_3_code 40 = .ok (.invokevirtual 42, 3) := by decide +kernel
theorem d_T_leastPartner_43 : decode prog_8_method_3_code 43 = .ok (.if_icmp .ge 6, 3) := by decide +kernel
theorem d_T_leastPartner_46 : decode prog_8_method_3_code 46 = .ok (.iload 4, 2) := by decide +kernel
theorem d_T_leastPartner_48 : decode prog_8_method_3_code 48 = .ok (.istore_n 3, 1) := by decide +kernel
theorem d_T_leastPartner_49 : decode prog_8_method_3_code 49 = .ok (.iinc 4 1, 3) := by decide +kernel
theorem d_T_leastPartner_52 : decode prog_8_method_3_code 52 = .ok (.goto (-45), 3) := by decide +kernel
theorem d_T_leastPartner_55 : decode prog_8_method_3_code 55 = .ok (.iload_n 3, 1) := by decide +kernel
theorem d_T_leastPartner_56 : decode prog_8_method_3_code 56 = .ok (.ireturn, 1) := by decide +kernel
theorem d_T_leastOf_0 : decode prog_8_method_4_code 0 = .ok (.iconst 0, 1) := by decide +kernel
theorem d_T_leastOf_1 : decode prog_8_method_4_code 1 = .ok (.istore_n 1, 1) := by decide +kernel
theorem d_T_leastOf_2 : decode prog_8_method_4_code 2 = .ok (.iload_n 1, 1) := by decide +kernel
theorem d_T_leastOf_3 : decode prog_8_method_4_code 3 = .ok (.iconst 5, 1) := by decide +kernel
theorem d_T_leastOf_4 : decode prog_8_method_4_code 4 = .ok (.if_icmp .ge 17, 3) := by decide +kernel
theorem d_T_leastOf_7 : decode prog_8_method_4_code 7 = .ok (.iload_n 0, 1) := by decide +kernel
theorem d_T_leastOf_8 : decode prog_8_method_4_code 8 = .ok (.iload_n 1, 1) := by decide +kernel
theorem d_T_leastOf_9 : decode prog_8_method_4_code 9 = .ok (.invokestatic 46, 3) := by decide +kernel
theorem d_T_leastOf_12 : decode prog_8_method_4_code 12 = .ok (.ifCond .ne 9, 3) := by decide +kernel
theorem d_T_leastOf_15 : decode prog_8_method_4_code 15 = .ok (.iinc 1 1, 3) := by decide +kernel
theorem d_T_leastOf_18 : decode prog_8_method_4_code 18 = .ok (.goto (-16), 3) := by decide +kernel
theorem d_T_leastOf_21 : decode prog_8_method_4_code 21 = .ok (.iload_n 1, 1) := by decide +kernel
theorem d_T_leastOf_22 : decode prog_8_method_4_code 22 = .ok (.ireturn, 1) := by decide +kernel
theorem d_T_waitWith_0 : decode prog_8_method_5_code 0 = .ok (.aload_n 0, 1) := by decide +kernel
theorem d_T_waitWith_1 : decode prog_8_method_5_code 1 = .ok (.getfield 9, 3) := by decide +kernel
theorem d_T_waitWith_4 : decode prog_8_method_5_code 4 = .ok (.bipush 6, 2) := by decide +kernel
theorem d_T_waitWith_6 : decode prog_8_method_5_code 6 = .ok (.iload_n 2, 1) := by decide +kernel
theorem d_T_waitWith_7 : decode prog_8_method_5_code 7 = .ok (.imul, 1) := by decide +kernel
theorem d_T_waitWith_8 : decode prog_8_method_5_code 8 = .ok (.iload_n 3, 1) := by decide +kernel
theorem d_T_waitWith_9 : decode prog_8_method_5_code 9 = .ok (.iadd, 1) := by decide +kernel
theorem d_T_waitWith_10 : decode prog_8_method_5_code 10 = .ok (.iaload, 1) := by decide +kernel
theorem d_T_waitWith_11 : decode prog_8_method_5_code 11 = .ok (.aload_n 0, 1) := by decide +kernel
theorem d_T_waitWith_12 : decode prog_8_method_5_code 12 = .ok (.getfield 15, 3) := by decide +kernel
theorem d_T_waitWith_15 : decode prog_8_method_5_code 15 = .ok (.iload_n 1, 1) := by decide +kernel
theorem d_T_waitWith_16 : decode prog_8_method_5_code 16 = .ok (.iload_n 2, 1) := by decide +kernel
theorem d_T_waitWith_17 : decode prog_8_method_5_code 17 = .ok (.iload_n 3, 1) := by decide +kernel
theorem d_T_waitWith_18 : decode prog_8_method_5_code 18 = .ok (.invokestatic 50, 3) := by decide +kernel
theorem d_T_waitWith_21 : decode prog_8_method_5_code 21 = .ok (.iaload, 1) := by decide +kernel
theorem d_T_waitWith_22 : decode prog_8_method_5_code 22 = .ok (.iadd, 1) := by decide +kernel
theorem d_T_waitWith_23 : decode prog_8_method_5_code 23 = .ok (.ireturn, 1) := by decide +kernel
theorem d_T_without_0 : decode prog_8_method_6_code 0 = .ok (.iload_n 0, 1) := by decide +kernel
theorem d_T_without_1 : decode prog_8_method_6_code 1 = .ok (.iconst 1, 1) := by decide +kernel
theorem d_T_without_2 : decode prog_8_method_6_code 2 = .ok (.iload_n 1, 1) := by decide +kernel
theorem d_T_without_3 : decode prog_8_method_6_code 3 = .ok (.ishl, 1) := by decide +kernel
theorem d_T_without_4 : decode prog_8_method_6_code 4 = .ok (.iconst (-1), 1) := by decide +kernel
theorem d_T_without_5 : decode prog_8_method_6_code 5 = .ok (.ixor, 1) := by decide +kernel
theorem d_T_without_6 : decode prog_8_method_6_code 6 = .ok (.iand, 1) := by decide +kernel
theorem d_T_without_7 : decode prog_8_method_6_code 7 = .ok (.iconst 1, 1) := by decide +kernel
theorem d_T_without_8 : decode prog_8_method_6_code 8 = .ok (.iload_n 2, 1) := by decide +kernel
theorem d_T_without_9 : decode prog_8_method_6_code 9 = .ok (.ishl, 1) := by decide +kernel
theorem d_T_without_10 : decode prog_8_method_6_code 10 = .ok (.iconst (-1), 1) := by decide +kernel
theorem d_T_without_11 : decode prog_8_method_6_code 11 = .ok (.ixor, 1) := by decide +kernel
theorem d_T_without_12 : decode prog_8_method_6_code 12 = .ok (.iand, 1) := by decide +kernel
theorem d_T_without_13 : decode prog_8_method_6_code 13 = .ok (.ireturn, 1) := by decide +kernel
theorem d_T_minutes_0 : decode prog_8_method_7_code 0 = .ok (.aload_n 0, 1) := by decide +kernel
theorem d_T_minutes_1 : decode prog_8_method_7_code 1 = .ok (.getfield 21, 3) := by decide +kernel
theorem d_T_minutes_4 : decode prog_8_method_7_code 4 = .ok (.ireturn, 1) := by decide +kernel
theorem d_T_partnerOf_0 : decode prog_8_method_8_code 0 = .ok (.aload_n 0, 1) := by decide +kernel
theorem d_T_partnerOf_1 : decode prog_8_method_8_code 1 = .ok (.getfield 18, 3) := by decide +kernel
theorem d_T_partnerOf_4 : decode prog_8_method_8_code 4 = .ok (.iload_n 1, 1) := by decide +kernel
theorem d_T_partnerOf_5 : decode prog_8_method_8_code 5 = .ok (.iaload, 1) := by decide +kernel
theorem d_T_partnerOf_6 : decode prog_8_method_8_code 6 = .ok (.ireturn, 1) := by decide +kernel
theorem d_U_append_0 : decode prog_11_method_2_code 0 = .ok (.aload_n 0, 1) := by decide +kernel
theorem d_U_append_1 : decode prog_11_method_2_code 1 = .ok (.getfield 21, 3) := by decide +kernel
theorem d_U_append_4 : decode prog_11_method_2_code 4 = .ok (.bipush 8, 2) := by decide +kernel
theorem d_U_append_6 : decode prog_11_method_2_code 6 = .ok (.if_icmp .lt 5, 3) := by decide +kernel
theorem d_U_append_9 : decode prog_11_method_2_code 9 = .ok (.iconst 0, 1) := by decide +kernel
theorem d_U_append_10 : decode prog_11_method_2_code 10 = .ok (.ireturn, 1) := by decide +kernel
theorem d_U_append_11 : decode prog_11_method_2_code 11 = .ok (.aload_n 0, 1) := by decide +kernel
theorem d_U_append_12 : decode prog_11_method_2_code 12 = .ok (.getfield 11, 3) := by decide +kernel
theorem d_U_append_15 : decode prog_11_method_2_code 15 = .ok (.aload_n 0, 1) := by decide +kernel
theorem d_U_append_16 : decode prog_11_method_2_code 16 = .ok (.getfield 21, 3) := by decide +kernel
theorem d_U_append_19 : decode prog_11_method_2_code 19 = .ok (.iload_n 1, 1) := by decide +kernel
theorem d_U_append_20 : decode prog_11_method_2_code 20 = .ok (.iastore, 1) := by decide +kernel
theorem d_U_append_21 : decode prog_11_method_2_code 21 = .ok (.aload_n 0, 1) := by decide +kernel
theorem d_U_append_22 : decode prog_11_method_2_code 22 = .ok (.getfield 15, 3) := by decide +kernel
theorem d_U_append_25 : decode prog_11_method_2_code 25 = .ok (.aload_n 0, 1) := by decide +kernel
theorem d_U_append_26 : decode prog_11_method_2_code 26 = .ok (.getfield 21, 3) := by decide +kernel
theorem d_U_append_29 : decode prog_11_method_2_code 29 = .ok (.iload_n 2, 1) := by decide +kernel
theorem d_U_append_30 : decode prog_11_method_2_code 30 = .ok (.iastore, 1) := by decide +kernel
theorem d_U_append_31 : decode prog_11_method_2_code 31 = .ok (.aload_n 0, 1) := by decide +kernel
theorem d_U_append_32 : decode prog_11_method_2_code 32 = .ok (.getfield 18, 3) := by decide +kernel
theorem d_U_append_35 : decode prog_11_method_2_code 35 = .ok (.aload_n 0, 1) := by decide +kernel
theorem d_U_append_36 : decode prog_11_method_2_code 36 = .ok (.getfield 21, 3) := by decide +kernel
theorem d_U_append_39 : decode prog_11_method_2_code 39 = .ok (.iload_n 3, 1) := by decide +kernel
theorem d_U_append_40 : decode prog_11_method_2_code 40 = .ok (.iastore, 1) := by decide +kernel
theorem d_U_append_41 : decode prog_11_method_2_code 41 = .ok (.aload_n 0, 1) := by decide +kernel
theorem d_U_append_42 : decode prog_11_method_2_code 42 = .ok (.dup, 1) := by decide +kernel
theorem d_U_append_43 : decode prog_11_method_2_code 43 = .ok (.getfield 21, 3) := by decide +kernel
theorem d_U_append_46 : decode prog_11_method_2_code 46 = .ok (.iconst 1, 1) := by decide +kernel
theorem d_U_append_47 : decode prog_11_method_2_code 47 = .ok (.iadd, 1) := by decide +kernel
theorem d_U_append_48 : decode prog_11_method_2_code 48 = .ok (.putfield 21, 3) := by decide +kernel
theorem d_U_append_51 : decode prog_11_method_2_code 51 = .ok (.iconst 1, 1) := by decide +kernel
theorem d_U_append_52 : decode prog_11_method_2_code 52 = .ok (.ireturn, 1) := by decide +kernel
theorem d_U_clear_0 : decode prog_11_method_3_code 0 = .ok (.aload_n 0, 1) := by decide +kernel
theorem d_U_clear_1 : decode prog_11_method_3_code 1 = .ok (.iconst 0, 1) := by decide +kernel
theorem d_U_clear_2 : decode prog_11_method_3_code 2 = .ok (.putfield 21, 3) := by decide +kernel
theorem d_U_clear_5 : decode prog_11_method_3_code 5 = .ok (.return_, 1) := by decide +kernel
theorem d_U_size_0 : decode prog_11_method_4_code 0 = .ok (.aload_n 0, 1) := by decide +kernel
theorem d_U_size_1 : decode prog_11_method_4_code 1 = .ok (.getfield 21, 3) := by decide +kernel
theorem d_U_size_4 : decode prog_11_method_4_code 4 = .ok (.ireturn, 1) := by decide +kernel
theorem d_U_countUnlike_0 : decode prog_11_method_5_code 0 = .ok (.iconst 0, 1) := by decide +kernel
theorem d_U_countUnlike_1 : decode prog_11_method_5_code 1 = .ok (.istore_n 1, 1) := by decide +kernel
theorem d_U_countUnlike_2 : decode prog_11_method_5_code 2 = .ok (.iconst 0, 1) := by decide +kernel
theorem d_U_countUnlike_3 : decode prog_11_method_5_code 3 = .ok (.istore_n 2, 1) := by decide +kernel
theorem d_U_countUnlike_4 : decode prog_11_method_5_code 4 = .ok (.iload_n 2, 1) := by decide +kernel
theorem d_U_countUnlike_5 : decode prog_11_method_5_code 5 = .ok (.aload_n 0, 1) := by decide +kernel
theorem d_U_countUnlike_6 : decode prog_11_method_5_code 6 = .ok (.getfield 21, 3) := by decide +kernel
theorem d_U_countUnlike_9 : decode prog_11_method_5_code 9 = .ok (.if_icmp .ge 48, 3) := by decide +kernel
theorem d_U_countUnlike_12 : decode prog_11_method_5_code 12 = .ok (.aload_n 0, 1) := by decide +kernel
theorem d_U_countUnlike_13 : decode prog_11_method_5_code 13 = .ok (.iload_n 2, 1) := by decide +kernel
theorem d_U_countUnlike_14 : decode prog_11_method_5_code 14 = .ok (.invokevirtual 29, 3) := by decide +kernel
theorem d_U_countUnlike_17 : decode prog_11_method_5_code 17 = .ok (.ifCond .eq 31, 3) := by decide +kernel
theorem d_U_countUnlike_20 : decode prog_11_method_5_code 20 = .ok (.aload_n 0, 1) := by decide +kernel
theorem d_U_countUnlike_21 : decode prog_11_method_5_code 21 = .ok (.getfield 25, 3) := by decide +kernel
theorem d_U_countUnlike_24 : decode prog_11_method_5_code 24 = .ok (.aload_n 0, 1) := by decide +kernel
theorem d_U_countUnlike_25 : decode prog_11_method_5_code 25 = .ok (.getfield 15, 3) := by decide +kernel
theorem d_U_countUnlike_28 : decode prog_11_method_5_code 28 = .ok (.iload_n 2, 1) := by decide +kernel
theorem d_U_countUnlike_29 : decode prog_11_method_5_code 29 = .ok (.iaload, 1) := by decide +kernel
theorem d_U_countUnlike_30 : decode prog_11_method_5_code 30 = .ok (.aload_n 0, 1) := by decide +kernel
theorem d_U_countUnlike_31 : decode prog_11_method_5_code 31 = .ok (.getfield 11, 3) := by decide +kernel
theorem d_U_countUnlike_34 : decode prog_11_method_5_code 34 = .ok (.iload_n 2, 1) := by decide +kernel
theorem d_U_countUnlike_35 : decode prog_11_method_5_code 35 = .ok (.iaload, 1) := by decide +kernel
theorem d_U_countUnlike_36 : decode prog_11_method_5_code 36 = .ok (.invokevirtual 33, 3) := by decide +kernel
theorem d_U_countUnlike_39 : decode prog_11_method_5_code 39 = .ok (.aload_n 0, 1) := by decide +kernel
theorem d_U_countUnlike_40 : decode prog_11_method_5_code 40 = .ok (.getfield 18, 3) := by decide +kernel
theorem d_U_countUnlike_43 : decode prog_11_method_5_code 43 = .ok (.iload_n 2, 1) := by decide +kernel
theorem d_U_countUnlike_44 : decode prog_11_method_5_code 44 = .ok (.iaload, 1) := by decide +kernel
theorem d_U_countUnlike_45 : decode prog_11_method_5_code 45 = .ok (.if_icmp .eq 6, 3) := by decide +kernel
theorem d_U_countUnlike_48 : decode prog_11_method_5_code 48 = .ok (.iinc 1 1, 3) := by decide +kernel
theorem d_U_countUnlike_51 : decode prog_11_method_5_code 51 = .ok (.iinc 2 1, 3) := by decide +kernel
theorem d_U_countUnlike_54 : decode prog_11_method_5_code 54 = .ok (.goto (-50), 3) := by decide +kernel
theorem d_U_countUnlike_57 : decode prog_11_method_5_code 57 = .ok (.iload_n 1, 1) := by decide +kernel
theorem d_U_countUnlike_58 : decode prog_11_method_5_code 58 = .ok (.ireturn, 1) := by decide +kernel
theorem d_U_fittingPaces_0 : decode prog_11_method_6_code 0 = .ok (.iconst 0, 1) := by decide +kernel
theorem d_U_fittingPaces_1 : decode prog_11_method_6_code 1 = .ok (.istore_n 3, 1) := by decide +kernel
theorem d_U_fittingPaces_2 : decode prog_11_method_6_code 2 = .ok (.iconst 1, 1) := by decide +kernel
theorem d_U_fittingPaces_3 : decode prog_11_method_6_code 3 = .ok (.istore 4, 2) := by decide +kernel
theorem d_U_fittingPaces_5 : decode prog_11_method_6_code 5 = .ok (.iload 4, 2) := by decide +kernel
theorem d_U_fittingPaces_7 : decode prog_11_method_6_code 7 = .ok (.bipush 9, 2) := by decide +kernel
theorem d_U_fittingPaces_9 : decode prog_11_method_6_code 9 = .ok (.if_icmp .gt 29, 3) := by decide +kernel
theorem d_U_fittingPaces_12 : decode prog_11_method_6_code 12 = .ok (.aload_n 0, 1) := by decide +kernel
theorem d_U_fittingPaces_13 : decode prog_11_method_6_code 13 = .ok (.iload_n 1, 1) := by decide +kernel
theorem d_U_fittingPaces_14 : decode prog_11_method_6_code 14 = .ok (.iload_n 2, 1) := by decide +kernel
theorem d_U_fittingPaces_15 : decode prog_11_method_6_code 15 = .ok (.iload 4, 2) := by decide +kernel
theorem d_U_fittingPaces_17 : decode prog_11_method_6_code 17 = .ok (.invokevirtual 39, 3) := by decide +kernel
theorem d_U_fittingPaces_20 : decode prog_11_method_6_code 20 = .ok (.ifCond .eq 12, 3) := by decide +kernel
theorem d_U_fittingPaces_23 : decode prog_11_method_6_code 23 = .ok (.iload_n 3, 1) := by decide +kernel
theorem d_U_fittingPaces_24 : decode prog_11_method_6_code 24 = .ok (.iconst 1, 1) := by decide +kernel
theorem d_U_fittingPaces_25 : decode prog_11_method_6_code 25 = .ok (.iload 4, 2) := by decide +kernel
theorem d_U_fittingPaces_27 : decode prog_11_method_6_code 27 = .ok (.iconst 1, 1) := by decide +kernel
theorem d_U_fittingPaces_28 : decode prog_11_method_6_code 28 = .ok (.isub, 1) := by decide +kernel
theorem d_U_fittingPaces_29 : decode prog_11_method_6_code 29 = .ok (.ishl, 1) := by decide +kernel
theorem d_U_fittingPaces_30 : decode prog_11_method_6_code 30 = .ok (.ior, 1) := by decide +kernel
theorem d_U_fittingPaces_31 : decode prog_11_method_6_code 31 = .ok (.istore_n 3, 1) := by decide +kernel
theorem d_U_fittingPaces_32 : decode prog_11_method_6_code 32 = .ok (.iinc 4 1, 3) := by decide +kernel
theorem d_U_fittingPaces_35 : decode prog_11_method_6_code 35 = .ok (.goto (-30), 3) := by decide +kernel
theorem d_U_fittingPaces_38 : decode prog_11_method_6_code 38 = .ok (.iload_n 3, 1) := by decide +kernel
theorem d_U_fittingPaces_39 : decode prog_11_method_6_code 39 = .ok (.ireturn, 1) := by decide +kernel
theorem d_U_fitsAll_0 : decode prog_11_method_7_code 0 = .ok (.iconst 0, 1) := by decide +kernel
theorem d_U_fitsAll_1 : decode prog_11_method_7_code 1 = .ok (.istore 4, 2) := by decide +kernel
theorem d_U_fitsAll_3 : decode prog_11_method_7_code 3 = .ok (.iload 4, 2) := by decide +kernel
theorem d_U_fitsAll_5 : decode prog_11_method_7_code 5 = .ok (.aload_n 0, 1) := by decide +kernel
theorem d_U_fitsAll_6 : decode prog_11_method_7_code 6 = .ok (.getfield 21, 3) := by decide +kernel
theorem d_U_fitsAll_9 : decode prog_11_method_7_code 9 = .ok (.if_icmp .ge 86, 3) := by decide +kernel
theorem d_U_fitsAll_12 : decode prog_11_method_7_code 12 = .ok (.aload_n 0, 1) := by decide +kernel
theorem d_U_fitsAll_13 : decode prog_11_method_7_code 13 = .ok (.iload 4, 2) := by decide +kernel
theorem d_U_fitsAll_15 : decode prog_11_method_7_code 15 = .ok (.iload_n 1, 1) := by decide +kernel
theorem d_U_fitsAll_16 : decode prog_11_method_7_code 16 = .ok (.iload_n 2, 1) := by decide +kernel
theorem d_U_fitsAll_17 : decode prog_11_method_7_code 17 = .ok (.invokevirtual 43, 3) := by decide +kernel
theorem d_U_fitsAll_20 : decode prog_11_method_7_code 20 = .ok (.ifCond .eq 69, 3) := by decide +kernel
theorem d_U_fitsAll_23 : decode prog_11_method_7_code 23 = .ok (.aload_n 0, 1) := by decide +kernel
theorem d_U_fitsAll_24 : decode prog_11_method_7_code 24 = .ok (.getfield 25, 3) := by decide +kernel
theorem d_U_fitsAll_27 : decode prog_11_method_7_code 27 = .ok (.aload_n 0, 1) := by decide +kernel
theorem d_U_fitsAll_28 : decode prog_11_method_7_code 28 = .ok (.getfield 15, 3) := by decide +kernel
theorem d_U_fitsAll_31 : decode prog_11_method_7_code 31 = .ok (.iload 4, 2) := by decide +kernel
theorem d_U_fitsAll_33 : decode prog_11_method_7_code 33 = .ok (.iaload, 1) := by decide +kernel
theorem d_U_fitsAll_34 : decode prog_11_method_7_code 34 = .ok (.iconst 1, 1) := by decide +kernel
theorem d_U_fitsAll_35 : decode prog_11_method_7_code 35 = .ok (.iload_n 1, 1) := by decide +kernel
theorem d_U_fitsAll_36 : decode prog_11_method_7_code 36 = .ok (.ishl, 1) := by decide +kernel
theorem d_U_fitsAll_37 : decode prog_11_method_7_code 37 = .ok (.iconst (-1), 1) := by decide +kernel
theorem d_U_fitsAll_38 : decode prog_11_method_7_code 38 = .ok (.ixor, 1) := by decide +kernel
theorem d_U_fitsAll_39 : decode prog_11_method_7_code 39 = .ok (.iand, 1) := by decide +kernel
theorem d_U_fitsAll_40 : decode prog_11_method_7_code 40 = .ok (.aload_n 0, 1) := by decide +kernel
theorem d_U_fitsAll_41 : decode prog_11_method_7_code 41 = .ok (.getfield 11, 3) := by decide +kernel
theorem d_U_fitsAll_44 : decode prog_11_method_7_code 44 = .ok (.iload 4, 2) := by decide +kernel
theorem d_U_fitsAll_46 : decode prog_11_method_7_code 46 = .ok (.iaload, 1) := by decide +kernel
theorem d_U_fitsAll_47 : decode prog_11_method_7_code 47 = .ok (.invokevirtual 33, 3) := by decide +kernel
theorem d_U_fitsAll_50 : decode prog_11_method_7_code 50 = .ok (.istore 5, 2) := by decide +kernel
theorem d_U_fitsAll_52 : decode prog_11_method_7_code 52 = .ok (.aload_n 0, 1) := by decide +kernel
theorem d_U_fitsAll_53 : decode prog_11_method_7_code 53 = .ok (.getfield 25, 3) := by decide +kernel
theorem d_U_fitsAll_56 : decode prog_11_method_7_code 56 = .ok (.iload_n 1, 1) := by decide +kernel
theorem d_U_fitsAll_57 : decode prog_11_method_7_code 57 = .ok (.aload_n 0, 1) := by decide +kernel
theorem d_U_fitsAll_58 : decode prog_11_method_7_code 58 = .ok (.getfield 11, 3) := by decide +kernel
theorem d_U_fitsAll_61 : decode prog_11_method_7_code 61 = .ok (.iload 4, 2) := by decide +kernel
theorem d_U_fitsAll_63 : decode prog_11_method_7_code 63 = .ok (.iaload, 1) := by decide +kernel
theorem d_U_fitsAll_64 : decode prog_11_method_7_code 64 = .ok (.iload_n 3, 1) := by decide +kernel
theorem d_U_fitsAll_65 : decode prog_11_method_7_code 65 = .ok (.invokevirtual 46, 3) := by decide +kernel
theorem d_U_fitsAll_68 : decode prog_11_method_7_code 68 = .ok (.istore 6, 2) := by decide +kernel
theorem d_U_fitsAll_70 : decode prog_11_method_7_code 70 = .ok (.iload 5, 2) := by decide +kernel
theorem d_U_fitsAll_72 : decode prog_11_method_7_code 72 = .ok (.iload 6, 2) := by decide +kernel
theorem d_U_fitsAll_74 : decode prog_11_method_7_code 74 = .ok (.invokestatic 50, 3) := by decide +kernel
theorem d_U_fitsAll_77 : decode prog_11_method_7_code 77 = .ok (.aload_n 0, 1) := by decide +kernel
theorem d_U_fitsAll_78 : decode prog_11_method_7_code 78 = .ok (.getfield 18, 3) := by decide +kernel
theorem d_U_fitsAll_81 : decode prog_11_method_7_code 81 = .ok (.iload 4, 2) := by decide +kernel
theorem d_U_fitsAll_83 : decode prog_11_method_7_code 83 = .ok (.iaload, 1) := by decide +kernel
theorem d_U_fitsAll_84 : decode prog_11_method_7_code 84 = .ok (.if_icmp .eq 5, 3) := by decide +kernel
theorem d_U_fitsAll_87 : decode prog_11_method_7_code 87 = .ok (.iconst 0, 1) := by decide +kernel
theorem d_U_fitsAll_88 : decode prog_11_method_7_code 88 = .ok (.ireturn, 1) := by decide +kernel
theorem d_U_fitsAll_89 : decode prog_11_method_7_code 89 = .ok (.iinc 4 1, 3) := by decide +kernel
theorem d_U_fitsAll_92 : decode prog_11_method_7_code 92 = .ok (.goto (-89), 3) := by decide +kernel
theorem d_U_fitsAll_95 : decode prog_11_method_7_code 95 = .ok (.iconst 1, 1) := by decide +kernel
theorem d_U_fitsAll_96 : decode prog_11_method_7_code 96 = .ok (.ireturn, 1) := by decide +kernel
theorem d_U_isThere_0 : decode prog_11_method_8_code 0 = .ok (.aload_n 0, 1) := by decide +kernel
theorem d_U_isThere_1 : decode prog_11_method_8_code 1 = .ok (.getfield 11, 3) := by decide +kernel
theorem d_U_isThere_4 : decode prog_11_method_8_code 4 = .ok (.iload_n 1, 1) := by decide +kernel
theorem d_U_isThere_5 : decode prog_11_method_8_code 5 = .ok (.iaload, 1) := by decide +kernel
theorem d_U_isThere_6 : decode prog_11_method_8_code 6 = .ok (.aload_n 0, 1) := by decide +kernel
theorem d_U_isThere_7 : decode prog_11_method_8_code 7 = .ok (.getfield 25, 3) := by decide +kernel
theorem d_U_isThere_10 : decode prog_11_method_8_code 10 = .ok (.invokevirtual 55, 3) := by decide +kernel
theorem d_U_isThere_13 : decode prog_11_method_8_code 13 = .ok (.if_icmp .ge 7, 3) := by decide +kernel
theorem d_U_isThere_16 : decode prog_11_method_8_code 16 = .ok (.iconst 1, 1) := by decide +kernel
theorem d_U_isThere_17 : decode prog_11_method_8_code 17 = .ok (.goto 4, 3) := by decide +kernel
theorem d_U_isThere_20 : decode prog_11_method_8_code 20 = .ok (.iconst 0, 1) := by decide +kernel
theorem d_U_isThere_21 : decode prog_11_method_8_code 21 = .ok (.ireturn, 1) := by decide +kernel
theorem d_U_tellsOf_0 : decode prog_11_method_9_code 0 = .ok (.aload_n 0, 1) := by decide +kernel
theorem d_U_tellsOf_1 : decode prog_11_method_9_code 1 = .ok (.iload_n 1, 1) := by decide +kernel
theorem d_U_tellsOf_2 : decode prog_11_method_9_code 2 = .ok (.invokevirtual 29, 3) := by decide +kernel
theorem d_U_tellsOf_5 : decode prog_11_method_9_code 5 = .ok (.ifCond .eq 37, 3) := by decide +kernel
theorem d_U_tellsOf_8 : decode prog_11_method_9_code 8 = .ok (.aload_n 0, 1) := by decide +kernel
theorem d_U_tellsOf_9 : decode prog_11_method_9_code 9 = .ok (.getfield 25, 3) := by decide +kernel
theorem d_U_tellsOf_12 : decode prog_11_method_9_code 12 = .ok (.aload_n 0, 1) := by decide +kernel
theorem d_U_tellsOf_13 : decode prog_11_method_9_code 13 = .ok (.getfield 11, 3) := by decide +kernel
theorem d_U_tellsOf_16 : decode prog_11_method_9_code 16 = .ok (.iload_n 1, 1) := by decide +kernel
theorem d_U_tellsOf_17 : decode prog_11_method_9_code 17 = .ok (.iaload, 1) := by decide +kernel
theorem d_U_tellsOf_18 : decode prog_11_method_9_code 18 = .ok (.invokevirtual 58, 3) := by decide +kernel
theorem d_U_tellsOf_21 : decode prog_11_method_9_code 21 = .ok (.iload_n 3, 1) := by decide +kernel
theorem d_U_tellsOf_22 : decode prog_11_method_9_code 22 = .ok (.if_icmp .ne 20, 3) := by decide +kernel
theorem d_U_tellsOf_25 : decode prog_11_method_9_code 25 = .ok (.aload_n 0, 1) := by decide +kernel
theorem d_U_tellsOf_26 : decode prog_11_method_9_code 26 = .ok (.getfield 15, 3) := by decide +kernel
theorem d_U_tellsOf_29 : decode prog_11_method_9_code 29 = .ok (.iload_n 1, 1) := by decide +kernel
theorem d_U_tellsOf_30 : decode prog_11_method_9_code 30 = .ok (.iaload, 1) := by decide +kernel
theorem d_U_tellsOf_31 : decode prog_11_method_9_code 31 = .ok (.iload_n 2, 1) := by decide +kernel
theorem d_U_tellsOf_32 : decode prog_11_method_9_code 32 = .ok (.invokestatic 62, 3) := by decide +kernel
theorem d_U_tellsOf_35 : decode prog_11_method_9_code 35 = .ok (.ifCond .eq 7, 3) := by decide +kernel
theorem d_U_tellsOf_38 : decode prog_11_method_9_code 38 = .ok (.iconst 1, 1) := by decide +kernel
theorem d_U_tellsOf_39 : decode prog_11_method_9_code 39 = .ok (.goto 4, 3) := by decide +kernel
theorem d_U_tellsOf_42 : decode prog_11_method_9_code 42 = .ok (.iconst 0, 1) := by decide +kernel
theorem d_U_tellsOf_43 : decode prog_11_method_9_code 43 = .ok (.ireturn, 1) := by decide +kernel
theorem d_D_chanceBy_0 : decode prog_5_method_2_code 0 = .ok (.iload_n 2, 1) := by decide +kernel
theorem d_D_chanceBy_1 : decode prog_5_method_2_code 1 = .ok (.sipush 3168, 3) := by decide +kernel
theorem d_D_chanceBy_4 : decode prog_5_method_2_code 4 = .ok (.invokestatic 43, 3) := by decide +kernel
theorem d_D_chanceBy_7 : decode prog_5_method_2_code 7 = .ok (.istore_n 3, 1) := by decide +kernel
theorem d_D_chanceBy_8 : decode prog_5_method_2_code 8 = .ok (.lconst 1, 1) := by decide +kernel
theorem d_D_chanceBy_9 : decode prog_5_method_2_code 9 = .ok (.lstore 4, 2) := by decide +kernel
theorem d_D_chanceBy_11 : decode prog_5_method_2_code 11 = .ok (.iconst 0, 1) := by decide +kernel
theorem d_D_chanceBy_12 : decode prog_5_method_2_code 12 = .ok (.istore 6, 2) := by decide +kernel
theorem d_D_chanceBy_14 : decode prog_5_method_2_code 14 = .ok (.iload 6, 2) := by decide +kernel
theorem d_D_chanceBy_16 : decode prog_5_method_2_code 16 = .ok (.iload_n 3, 1) := by decide +kernel
theorem d_D_chanceBy_17 : decode prog_5_method_2_code 17 = .ok (.if_icmp .gt 17, 3) := by decide +kernel
theorem d_D_chanceBy_20 : decode prog_5_method_2_code 20 = .ok (.aload_n 0, 1) := by decide +kernel
theorem d_D_chanceBy_21 : decode prog_5_method_2_code 21 = .ok (.getfield 11, 3) := by decide +kernel
theorem d_D_chanceBy_24 : decode prog_5_method_2_code 24 = .ok (.iload 6, 2) := by decide +kernel
theorem d_D_chanceBy_26 : decode prog_5_method_2_code 26 = .ok (.lconst 0, 1) := by decide +kernel
theorem d_D_chanceBy_27 : decode prog_5_method_2_code 27 = .ok (.lastore, 1) := by decide +kernel
theorem d_D_chanceBy_28 : decode prog_5_method_2_code 28 = .ok (.iinc 6 1, 3) := by decide +kernel
theorem d_D_chanceBy_31 : decode prog_5_method_2_code 31 = .ok (.goto (-17), 3) := by decide +kernel
theorem d_D_chanceBy_34 : decode prog_5_method_2_code 34 = .ok (.aload_n 0, 1) := by decide +kernel
theorem d_D_chanceBy_35 : decode prog_5_method_2_code 35 = .ok (.getfield 11, 3) := by decide +kernel
theorem d_D_chanceBy_38 : decode prog_5_method_2_code 38 = .ok (.iconst 0, 1) := by decide +kernel
theorem d_D_chanceBy_39 : decode prog_5_method_2_code 39 = .ok (.lconst 1, 1) := by decide +kernel
theorem d_D_chanceBy_40 : decode prog_5_method_2_code 40 = .ok (.lastore, 1) := by decide +kernel
theorem d_D_chanceBy_41 : decode prog_5_method_2_code 41 = .ok (.iconst 0, 1) := by decide +kernel
theorem d_D_chanceBy_42 : decode prog_5_method_2_code 42 = .ok (.istore 6, 2) := by decide +kernel
theorem d_D_chanceBy_44 : decode prog_5_method_2_code 44 = .ok (.iload 6, 2) := by decide +kernel
theorem d_D_chanceBy_46 : decode prog_5_method_2_code 46 = .ok (.aload_n 0, 1) := by decide +kernel
theorem d_D_chanceBy_47 : decode prog_5_method_2_code 47 = .ok (.getfield 39, 3) := by decide +kernel
theorem d_D_chanceBy_50 : decode prog_5_method_2_code 50 = .ok (.invokevirtual 49, 3) := by decide +kernel
theorem d_D_chanceBy_53 : decode prog_5_method_2_code 53 = .ok (.if_icmp .ge 42, 3) := by decide +kernel
theorem d_D_chanceBy_56 : decode prog_5_method_2_code 56 = .ok (.aload_n 0, 1) := by decide +kernel
theorem d_D_chanceBy_57 : decode prog_5_method_2_code 57 = .ok (.getfield 39, 3) := by decide +kernel
theorem d_D_chanceBy_60 : decode prog_5_method_2_code 60 = .ok (.iload 6, 2) := by decide +kernel
theorem d_D_chanceBy_62 : decode prog_5_method_2_code 62 = .ok (.invokevirtual 55, 3) := by decide +kernel
theorem d_D_chanceBy_65 : decode prog_5_method_2_code 65 = .ok (.ifCond .ne 24, 3) := by decide +kernel
theorem d_D_chanceBy_68 : decode prog_5_method_2_code 68 = .ok (.aload_n 0, 1) := by decide +kernel
theorem d_D_chanceBy_69 : decode prog_5_method_2_code 69 = .ok (.iload_n 1, 1) := by decide +kernel
theorem d_D_chanceBy_70 : decode prog_5_method_2_code 70 = .ok (.iload 6, 2) := by decide +kernel
theorem d_D_chanceBy_72 : decode prog_5_method_2_code 72 = .ok (.invokevirtual 59, 3) := by decide +kernel
theorem d_D_chanceBy_75 : decode prog_5_method_2_code 75 = .ok (.aload_n 0, 1) := by decide +kernel
theorem d_D_chanceBy_76 : decode prog_5_method_2_code 76 = .ok (.iload_n 3, 1) := by decide +kernel
theorem d_D_chanceBy_77 : decode prog_5_method_2_code 77 = .ok (.invokevirtual 63, 3) := by decide +kernel
theorem d_D_chanceBy_80 : decode prog_5_method_2_code 80 = .ok (.lload 4, 2) := by decide +kernel
theorem d_D_chanceBy_82 : decode prog_5_method_2_code 82 = .ok (.iload_n 1, 1) := by decide +kernel
theorem d_D_chanceBy_83 : decode prog_5_method_2_code 83 = .ok (.invokestatic 67, 3) := by decide +kernel
theorem d_D_chanceBy_86 : decode prog_5_method_2_code 86 = .ok (.lmul, 1) := by decide +kernel
theorem d_D_chanceBy_87 : decode prog_5_method_2_code 87 = .ok (.lstore 4, 2) := by decide +kernel
theorem d_D_chanceBy_89 : decode prog_5_method_2_code 89 = .ok (.iinc 6 1, 3) := by decide +kernel
theorem d_D_chanceBy_92 : decode prog_5_method_2_code 92 = .ok (.goto (-48), 3) := by decide +kernel
theorem d_D_chanceBy_95 : decode prog_5_method_2_code 95 = .ok (.lconst 0, 1) := by decide +kernel
theorem d_D_chanceBy_96 : decode prog_5_method_2_code 96 = .ok (.lstore 6, 2) := by decide +kernel
theorem d_D_chanceBy_98 : decode prog_5_method_2_code 98 = .ok (.iconst 0, 1) := by decide +kernel
theorem d_D_chanceBy_99 : decode prog_5_method_2_code 99 = .ok (.istore 8, 2) := by decide +kernel
theorem d_D_chanceBy_101 : decode prog_5_method_2_code 101 = .ok (.iload 8, 2) := by decide +kernel
theorem d_D_chanceBy_103 : decode prog_5_method_2_code 103 = .ok (.iload_n 3, 1) := by decide +kernel
theorem d_D_chanceBy_104 : decode prog_5_method_2_code 104 = .ok (.if_icmp .gt 21, 3) := by decide +kernel
theorem d_D_chanceBy_107 : decode prog_5_method_2_code 107 = .ok (.lload 6, 2) := by decide +kernel
theorem d_D_chanceBy_109 : decode prog_5_method_2_code 109 = .ok (.aload_n 0, 1) := by decide +kernel
theorem d_D_chanceBy_110 : decode prog_5_method_2_code 110 = .ok (.getfield 11, 3) := by decide +kernel
theorem d_D_chanceBy_113 : decode prog_5_method_2_code 113 = .ok (.iload 8, 2) := by decide +kernel
theorem d_D_chanceBy_115 : decode prog_5_method_2_code 115 = .ok (.laload, 1) := by decide +kernel
theorem d_D_chanceBy_116 : decode prog_5_method_2_code 116 = .ok (.ladd, 1) := by decide +kernel
theorem d_D_chanceBy_117 : decode prog_5_method_2_code 117 = .ok (.lstore 6, 2) := by decide +kernel
theorem d_D_chanceBy_119 : decode prog_5_method_2_code 119 = .ok (.iinc 8 1, 3) := by decide +kernel
theorem d_D_chanceBy_122 : decode prog_5_method_2_code 122 = .ok (.goto (-21), 3) := by decide +kernel
theorem d_D_chanceBy_125 : decode prog_5_method_2_code 125 = .ok (.aload_n 0, 1) := by decide +kernel
theorem d_D_chanceBy_126 : decode prog_5_method_2_code 126 = .ok (.lload 6, 2) := by decide +kernel
theorem d_D_chanceBy_128 : decode prog_5_method_2_code 128 = .ok (.lload 4, 2) := by decide +kernel
theorem d_D_chanceBy_130 : decode prog_5_method_2_code 130 = .ok (.invokevirtual 71, 3) := by decide +kernel
theorem d_D_chanceBy_133 : decode prog_5_method_2_code 133 = .ok (.return_, 1) := by decide +kernel
theorem d_D_meanMinutes_0 : decode prog_5_method_3_code 0 = .ok (.lconst 0, 1) := by decide +kernel
theorem d_D_meanMinutes_1 : decode prog_5_method_3_code 1 = .ok (.lstore_n 2, 1) := by decide +kernel
theorem d_D_meanMinutes_2 : decode prog_5_method_3_code 2 = .ok (.iconst 0, 1) := by decide +kernel
theorem d_D_meanMinutes_3 : decode prog_5_method_3_code 3 = .ok (.istore 4, 2) := by decide +kernel
theorem d_D_meanMinutes_5 : decode prog_5_method_3_code 5 = .ok (.iload 4, 2) := by decide +kernel
theorem d_D_meanMinutes_7 : decode prog_5_method_3_code 7 = .ok (.aload_n 0, 1) := by decide +kernel
theorem d_D_meanMinutes_8 : decode prog_5_method_3_code 8 = .ok (.getfield 39, 3) := by decide +kernel
theorem d_D_meanMinutes_11 : decode prog_5_method_3_code 11 = .ok (.invokevirtual 49, 3) := by decide +kernel
theorem d_D_meanMinutes_14 : decode prog_5_method_3_code 14 = .ok (.if_icmp .ge 66, 3) := by decide +kernel
theorem d_D_meanMinutes_17 : decode prog_5_method_3_code 17 = .ok (.aload_n 0, 1) := by decide +kernel
theorem d_D_meanMinutes_18 : decode prog_5_method_3_code 18 = .ok (.getfield 39, 3) := by decide +kernel
theorem d_D_meanMinutes_21 : decode prog_5_method_3_code 21 = .ok (.iload 4, 2) := by decide +kernel
theorem d_D_meanMinutes_23 : decode prog_5_method_3_code 23 = .ok (.invokevirtual 55, 3) := by decide +kernel
theorem d_D_meanMinutes_26 : decode prog_5_method_3_code 26 = .ok (.ifCond .ne 48, 3) := by decide +kernel
theorem d_D_meanMinutes_29 : decode prog_5_method_3_code 29 = .ok (.aload_n 0, 1) := by decide +kernel
theorem d_D_meanMinutes_30 : decode prog_5_method_3_code 30 = .ok (.iload_n 1, 1) := by decide +kernel
theorem d_D_meanMinutes_31 : decode prog_5_method_3_code 31 = .ok (.iload 4, 2) := by decide +kernel
theorem d_D_meanMinutes_33 : decode prog_5_method_3_code 33 = .ok (.invokevirtual 59, 3) := by decide +kernel
theorem d_D_meanMinutes_36 : decode prog_5_method_3_code 36 = .ok (.iconst 0, 1) := by decide +kernel
theorem d_D_meanMinutes_37 : decode prog_5_method_3_code 37 = .ok (.istore 5, 2) := by decide +kernel
theorem d_D_meanMinutes_39 : decode prog_5_method_3_code 39 = .ok (.iload 5, 2) := by decide +kernel
theorem d_D_meanMinutes_41 : decode prog_5_method_3_code 41 = .ok (.aload_n 0, 1) := by decide +kernel
theorem d_D_meanMinutes_42 : decode prog_5_method_3_code 42 = .ok (.getfield 28, 3) := by decide +kernel
theorem d_D_meanMinutes_45 : decode prog_5_method_3_code 45 = .ok (.if_icmp .ge 29, 3) := by decide +kernel
theorem d_D_meanMinutes_48 : decode prog_5_method_3_code 48 = .ok (.lload_n 2, 1) := by decide +kernel
theorem d_D_meanMinutes_49 : decode prog_5_method_3_code 49 = .ok (.aload_n 0, 1) := by decide +kernel
theorem d_D_meanMinutes_50 : decode prog_5_method_3_code 50 = .ok (.getfield 22, 3) := by decide +kernel
theorem d_D_meanMinutes_53 : decode prog_5_method_3_code 53 = .ok (.iload 5, 2) := by decide +kernel
theorem d_D_meanMinutes_55 : decode prog_5_method_3_code 55 = .ok (.iaload, 1) := by decide +kernel
theorem d_D_meanMinutes_56 : decode prog_5_method_3_code 56 = .ok (.i2l, 1) := by decide +kernel
theorem d_D_meanMinutes_57 : decode prog_5_method_3_code 57 = .ok (.aload_n 0, 1) := by decide +kernel
theorem d_D_meanMinutes_58 : decode prog_5_method_3_code 58 = .ok (.getfield 25, 3) := by decide +kernel
theorem d_D_meanMinutes_61 : decode prog_5_method_3_code 61 = .ok (.iload 5, 2) := by decide +kernel
theorem d_D_meanMinutes_63 : decode prog_5_method_3_code 63 = .ok (.iaload, 1) := by decide +kernel
theorem d_D_meanMinutes_64 : decode prog_5_method_3_code 64 = .ok (.i2l, 1) := by decide +kernel
theorem d_D_meanMinutes_65 : decode prog_5_method_3_code 65 = .ok (.lmul, 1) := by decide +kernel
theorem d_D_meanMinutes_66 : decode prog_5_method_3_code 66 = .ok (.ladd, 1) := by decide +kernel
theorem d_D_meanMinutes_67 : decode prog_5_method_3_code 67 = .ok (.lstore_n 2, 1) := by decide +kernel
theorem d_D_meanMinutes_68 : decode prog_5_method_3_code 68 = .ok (.iinc 5 1, 3) := by decide +kernel
theorem d_D_meanMinutes_71 : decode prog_5_method_3_code 71 = .ok (.goto (-32), 3) := by decide +kernel
theorem d_D_meanMinutes_74 : decode prog_5_method_3_code 74 = .ok (.iinc 4 1, 3) := by decide +kernel
theorem d_D_meanMinutes_77 : decode prog_5_method_3_code 77 = .ok (.goto (-72), 3) := by decide +kernel
theorem d_D_meanMinutes_80 : decode prog_5_method_3_code 80 = .ok (.aload_n 0, 1) := by decide +kernel
theorem d_D_meanMinutes_81 : decode prog_5_method_3_code 81 = .ok (.lload_n 2, 1) := by decide +kernel
theorem d_D_meanMinutes_82 : decode prog_5_method_3_code 82 = .ok (.iload_n 1, 1) := by decide +kernel
theorem d_D_meanMinutes_83 : decode prog_5_method_3_code 83 = .ok (.invokestatic 67, 3) := by decide +kernel
theorem d_D_meanMinutes_86 : decode prog_5_method_3_code 86 = .ok (.invokevirtual 71, 3) := by decide +kernel
theorem d_D_meanMinutes_89 : decode prog_5_method_3_code 89 = .ok (.return_, 1) := by decide +kernel
theorem d_D_casesOf_0 : decode prog_5_method_4_code 0 = .ok (.lconst 1, 1) := by decide +kernel
theorem d_D_casesOf_1 : decode prog_5_method_4_code 1 = .ok (.iconst 2, 1) := by decide +kernel
theorem d_D_casesOf_2 : decode prog_5_method_4_code 2 = .ok (.iload_n 0, 1) := by decide +kernel
theorem d_D_casesOf_3 : decode prog_5_method_4_code 3 = .ok (.invokestatic 75, 3) := by decide +kernel
theorem d_D_casesOf_6 : decode prog_5_method_4_code 6 = .ok (.imul, 1) := by decide +kernel
theorem d_D_casesOf_7 : decode prog_5_method_4_code 7 = .ok (.lshl, 1) := by decide +kernel
theorem d_D_casesOf_8 : decode prog_5_method_4_code 8 = .ok (.lreturn, 1) := by decide +kernel
theorem d_D_findOutcomes_0 : decode prog_5_method_5_code 0 = .ok (.iconst 0, 1) := by decide +kernel
theorem d_D_findOutcomes_1 : decode prog_5_method_5_code 1 = .ok (.istore_n 3, 1) := by decide +kernel
theorem d_D_findOutcomes_2 : decode prog_5_method_5_code 2 = .ok (.iconst 0, 1) := by decide +kernel
theorem d_D_findOutcomes_3 : decode prog_5_method_5_code 3 = .ok (.istore 4, 2) := by decide +kernel
theorem d_D_findOutcomes_5 : decode prog_5_method_5_code 5 = .ok (.iload 4, 2) := by decide +kernel
theorem d_D_findOutcomes_7 : decode prog_5_method_5_code 7 = .ok (.bipush 6, 2) := by decide +kernel
theorem d_D_findOutcomes_9 : decode prog_5_method_5_code 9 = .ok (.if_icmp .ge 60, 3) := by decide +kernel
theorem d_D_findOutcomes_12 : decode prog_5_method_5_code 12 = .ok (.iload_n 3, 1) := by decide +kernel
theorem d_D_findOutcomes_13 : decode prog_5_method_5_code 13 = .ok (.iconst 3, 1) := by decide +kernel
theorem d_D_findOutcomes_14 : decode prog_5_method_5_code 14 = .ok (.if_icmp .ge 55, 3) := by decide +kernel
theorem d_D_findOutcomes_17 : decode prog_5_method_5_code 17 = .ok (.iload_n 1, 1) := by decide +kernel
theorem d_D_findOutcomes_18 : decode prog_5_method_5_code 18 = .ok (.iload 4, 2) := by decide +kernel
theorem d_D_findOutcomes_20 : decode prog_5_method_5_code 20 = .ok (.invokestatic 81, 3) := by decide +kernel
theorem d_D_findOutcomes_23 : decode prog_5_method_5_code 23 = .ok (.ifCond .eq 40, 3) := by decide +kernel
theorem d_D_findOutcomes_26 : decode prog_5_method_5_code 26 = .ok (.aload_n 0, 1) := by decide +kernel
theorem d_D_findOutcomes_27 : decode prog_5_method_5_code 27 = .ok (.getfield 15, 3) := by decide +kernel
theorem d_D_findOutcomes_30 : decode prog_5_method_5_code 30 = .ok (.iload_n 3, 1) := by decide +kernel
theorem d_D_findOutcomes_31 : decode prog_5_method_5_code 31 = .ok (.aload_n 0, 1) := by decide +kernel
theorem d_D_findOutcomes_32 : decode prog_5_method_5_code 32 = .ok (.getfield 39, 3) := by decide +kernel
theorem d_D_findOutcomes_35 : decode prog_5_method_5_code 35 = .ok (.iload 4, 2) := by decide +kernel
theorem d_D_findOutcomes_37 : decode prog_5_method_5_code 37 = .ok (.iload_n 2, 1) := by decide +kernel
theorem d_D_findOutcomes_38 : decode prog_5_method_5_code 38 = .ok (.invokevirtual 85, 3) := by decide +kernel
theorem d_D_findOutcomes_41 : decode prog_5_method_5_code 41 = .ok (.iastore, 1) := by decide +kernel
theorem d_D_findOutcomes_42 : decode prog_5_method_5_code 42 = .ok (.aload_n 0, 1) := by decide +kernel
theorem d_D_findOutcomes_43 : decode prog_5_method_5_code 43 = .ok (.getfield 19, 3) := by decide +kernel
theorem d_D_findOutcomes_46 : decode prog_5_method_5_code 46 = .ok (.iload_n 3, 1) := by decide +kernel
theorem d_D_findOutcomes_47 : decode prog_5_method_5_code 47 = .ok (.aload_n 0, 1) := by decide +kernel
theorem d_D_findOutcomes_48 : decode prog_5_method_5_code 48 = .ok (.getfield 39, 3) := by decide +kernel
theorem d_D_findOutcomes_51 : decode prog_5_method_5_code 51 = .ok (.iload 4, 2) := by decide +kernel
theorem d_D_findOutcomes_53 : decode prog_5_method_5_code 53 = .ok (.invokevirtual 88, 3) := by decide +kernel
theorem d_D_findOutcomes_56 : decode prog_5_method_5_code 56 = .ok (.invokevirtual 92, 3) := by decide +kernel
theorem d_D_findOutcomes_59 : decode prog_5_method_5_code 59 = .ok (.iastore, 1) := by decide +kernel
theorem d_D_findOutcomes_60 : decode prog_5_method_5_code 60 = .ok (.iinc 3 1, 3) := by decide +kernel
theorem d_D_findOutcomes_63 : decode prog_5_method_5_code 63 = .ok (.iinc 4 1, 3) := by decide +kernel
theorem d_D_findOutcomes_66 : decode prog_5_method_5_code 66 = .ok (.goto (-61), 3) := by decide +kernel
theorem d_D_findOutcomes_69 : decode prog_5_method_5_code 69 = .ok (.aload_n 0, 1) := by decide +kernel
theorem d_D_findOutcomes_70 : decode prog_5_method_5_code 70 = .ok (.iconst 0, 1) := by decide +kernel
theorem d_D_findOutcomes_71 : decode prog_5_method_5_code 71 = .ok (.putfield 28, 3) := by decide +kernel
theorem d_D_findOutcomes_74 : decode prog_5_method_5_code 74 = .ok (.iconst 0, 1) := by decide +kernel
theorem d_D_findOutcomes_75 : decode prog_5_method_5_code 75 = .ok (.istore 4, 2) := by decide +kernel
theorem d_D_findOutcomes_77 : decode prog_5_method_5_code 77 = .ok (.iload 4, 2) := by decide +kernel
theorem d_D_findOutcomes_79 : decode prog_5_method_5_code 79 = .ok (.iconst 1, 1) := by decide +kernel
theorem d_D_findOutcomes_80 : decode prog_5_method_5_code 80 = .ok (.iload_n 3, 1) := by decide +kernel
theorem d_D_findOutcomes_81 : decode prog_5_method_5_code 81 = .ok (.ishl, 1) := by decide +kernel
theorem d_D_findOutcomes_82 : decode prog_5_method_5_code 82 = .ok (.if_icmp .ge 107, 3) := by decide +kernel
theorem d_D_findOutcomes_85 : decode prog_5_method_5_code 85 = .ok (.iconst 0, 1) := by decide +kernel
theorem d_D_findOutcomes_86 : decode prog_5_method_5_code 86 = .ok (.istore 5, 2) := by decide +kernel
theorem d_D_findOutcomes_88 : decode prog_5_method_5_code 88 = .ok (.iconst 1, 1) := by decide +kernel
theorem d_D_findOutcomes_89 : decode prog_5_method_5_code 89 = .ok (.istore 6, 2) := by decide +kernel
theorem d_D_findOutcomes_91 : decode prog_5_method_5_code 91 = .ok (.iconst 0, 1) := by decide +kernel
theorem d_D_findOutcomes_92 : decode prog_5_method_5_code 92 = .ok (.istore 7, 2) := by decide +kernel
theorem d_D_findOutcomes_94 : decode prog_5_method_5_code 94 = .ok (.iload 7, 2) := by decide +kernel
theorem d_D_findOutcomes_96 : decode prog_5_method_5_code 96 = .ok (.iload_n 3, 1) := by decide +kernel
theorem d_D_findOutcomes_97 : decode prog_5_method_5_code 97 = .ok (.if_icmp .ge 78, 3) := by decide +kernel
theorem d_D_findOutcomes_100 : decode prog_5_method_5_code 100 = .ok (.iload 4, 2) := by decide +kernel
theorem d_D_findOutcomes_102 : decode prog_5_method_5_code 102 = .ok (.iload 7, 2) := by decide +kernel
theorem d_D_findOutcomes_104 : decode prog_5_method_5_code 104 = .ok (.invokestatic 81, 3) := by decide +kernel
theorem d_D_findOutcomes_107 : decode prog_5_method_5_code 107 = .ok (.istore 8, 2) := by decide +kernel
theorem d_D_findOutcomes_109 : decode prog_5_method_5_code 109 = .ok (.iload 5, 2) := by decide +kernel
theorem d_D_findOutcomes_111 : decode prog_5_method_5_code 111 = .ok (.iload 8, 2) := by decide +kernel
theorem d_D_findOutcomes_113 : decode prog_5_method_5_code 113 = .ok (.ifCond .eq 15, 3) := by decide +kernel
theorem d_D_findOutcomes_116 : decode prog_5_method_5_code 116 = .ok (.iconst 2, 1) := by decide +kernel
theorem d_D_findOutcomes_117 : decode prog_5_method_5_code 117 = .ok (.aload_n 0, 1) := by decide +kernel
theorem d_D_findOutcomes_118 : decode prog_5_method_5_code 118 = .ok (.getfield 15, 3) := by decide +kernel
theorem d_D_findOutcomes_121 : decode prog_5_method_5_code 121 = .ok (.iload 7, 2) := by decide +kernel
theorem d_D_findOutcomes_123 : decode prog_5_method_5_code 123 = .ok (.iaload, 1) := by decide +kernel
theorem d_D_findOutcomes_124 : decode prog_5_method_5_code 124 = .ok (.imul, 1) := by decide +kernel
theorem d_D_findOutcomes_125 : decode prog_5_method_5_code 125 = .ok (.goto 10, 3) := by decide +kernel
theorem d_D_findOutcomes_128 : decode prog_5_method_5_code 128 = .ok (.aload_n 0, 1) := by decide +kernel
theorem d_D_findOutcomes_129 : decode prog_5_method_5_code 129 = .ok (.getfield 15, 3) := by decide +kernel
theorem d_D_findOutcomes_132 : decode prog_5_method_5_code 132 = .ok (.iload 7, 2) := by decide +kernel
theorem d_D_findOutcomes_134 : decode prog_5_method_5_code 134 = .ok (.iaload, 1) := by decide +kernel
theorem d_D_findOutcomes_135 : decode prog_5_method_5_code 135 = .ok (.invokestatic 97, 3) := by decide +kernel
theorem d_D_findOutcomes_138 : decode prog_5_method_5_code 138 = .ok (.istore 5, 2) := by decide +kernel
theorem d_D_findOutcomes_140 : decode prog_5_method_5_code 140 = .ok (.iload 6, 2) := by decide +kernel
theorem d_D_findOutcomes_142 : decode prog_5_method_5_code 142 = .ok (.iload 8, 2) := by decide +kernel
theorem d_D_findOutcomes_144 : decode prog_5_method_5_code 144 = .ok (.ifCond .eq 13, 3) := by decide +kernel
theorem d_D_findOutcomes_147 : decode prog_5_method_5_code 147 = .ok (.aload_n 0, 1) := by decide +kernel
theorem d_D_findOutcomes_148 : decode prog_5_method_5_code 148 = .ok (.getfield 19, 3) := by decide +kernel
theorem d_D_findOutcomes_151 : decode prog_5_method_5_code 151 = .ok (.iload 7, 2) := by decide +kernel
theorem d_D_findOutcomes_153 : decode prog_5_method_5_code 153 = .ok (.iaload, 1) := by decide +kernel
theorem d_D_findOutcomes_154 : decode prog_5_method_5_code 154 = .ok (.goto 12, 3) := by decide +kernel
theorem d_D_findOutcomes_157 : decode prog_5_method_5_code 157 = .ok (.iconst 4, 1) := by decide +kernel
theorem d_D_findOutcomes_158 : decode prog_5_method_5_code 158 = .ok (.aload_n 0, 1) := by decide +kernel
theorem d_D_findOutcomes_159 : decode prog_5_method_5_code 159 = .ok (.getfield 19, 3) := by decide +kernel
theorem d_D_findOutcomes_162 : decode prog_5_method_5_code 162 = .ok (.iload 7, 2) := by decide +kernel
theorem d_D_findOutcomes_164 : decode prog_5_method_5_code 164 = .ok (.iaload, 1) := by decide +kernel
theorem d_D_findOutcomes_165 : decode prog_5_method_5_code 165 = .ok (.isub, 1) := by decide +kernel
theorem d_D_findOutcomes_166 : decode prog_5_method_5_code 166 = .ok (.imul, 1) := by decide +kernel
theorem d_D_findOutcomes_167 : decode prog_5_method_5_code 167 = .ok (.istore 6, 2) := by decide +kernel
theorem d_D_findOutcomes_169 : decode prog_5_method_5_code 169 = .ok (.iinc 7 1, 3) := by decide +kernel
theorem d_D_findOutcomes_172 : decode prog_5_method_5_code 172 = .ok (.goto (-78), 3) := by decide +kernel
theorem d_D_findOutcomes_175 : decode prog_5_method_5_code 175 = .ok (.aload_n 0, 1) := by decide +kernel
theorem d_D_findOutcomes_176 : decode prog_5_method_5_code 176 = .ok (.iload 5, 2) := by decide +kernel
theorem d_D_findOutcomes_178 : decode prog_5_method_5_code 178 = .ok (.iload 6, 2) := by decide +kernel
theorem d_D_findOutcomes_180 : decode prog_5_method_5_code 180 = .ok (.invokevirtual 100, 3) := by decide +kernel
theorem d_D_findOutcomes_183 : decode prog_5_method_5_code 183 = .ok (.iinc 4 1, 3) := by decide +kernel
theorem d_D_findOutcomes_186 : decode prog_5_method_5_code 186 = .ok (.goto (-109), 3) := by decide +kernel
theorem d_D_findOutcomes_189 : decode prog_5_method_5_code 189 = .ok (.return_, 1) := by decide +kernel
theorem d_D_addOutcome_0 : decode prog_5_method_6_code 0 = .ok (.iload_n 2, 1) := by decide +kernel
theorem d_D_addOutcome_1 : decode prog_5_method_6_code 1 = .ok (.ifCond .ne 4, 3) := by decide +kernel
theorem d_D_addOutcome_4 : decode prog_5_method_6_code 4 = .ok (.return_, 1) := by decide +kernel
theorem d_D_addOutcome_5 : decode prog_5_method_6_code 5 = .ok (.iconst 0, 1) := by decide +kernel
theorem d_D_addOutcome_6 : decode prog_5_method_6_code 6 = .ok (.istore_n 3, 1) := by decide +kernel
theorem d_D_addOutcome_7 : decode prog_5_method_6_code 7 = .ok (.iload_n 3, 1) := by decide +kernel
theorem d_D_addOutcome_8 : decode prog_5_method_6_code 8 = .ok (.aload_n 0, 1) := by decide +kernel
theorem d_D_addOutcome_9 : decode prog_5_method_6_code 9 = .ok (.getfield 28, 3) := by decide +kernel
theorem d_D_addOutcome_12 : decode prog_5_method_6_code 12 = .ok (.if_icmp .ge 30, 3) := by decide +kernel
theorem d_D_addOutcome_15 : decode prog_5_method_6_code 15 = .ok (.aload_n 0, 1) := by decide +kernel
theorem d_D_addOutcome_16 : decode prog_5_method_6_code 16 = .ok (.getfield 22, 3) := by decide +kernel
theorem d_D_addOutcome_19 : decode prog_5_method_6_code 19 = .ok (.iload_n 3, 1) := by decide +kernel
theorem d_D_addOutcome_20 : decode prog_5_method_6_code 20 = .ok (.iaload, 1) := by decide +kernel
theorem d_D_addOutcome_21 : decode prog_5_method_6_code 21 = .ok (.iload_n 1, 1) := by decide +kernel
theorem d_D_addOutcome_22 : decode prog_5_method_6_code 22 = .ok (.if_icmp .ne 14, 3) := by decide +kernel
theorem d_D_addOutcome_25 : decode prog_5_method_6_code 25 = .ok (.aload_n 0, 1) := by decide +kernel
theorem d_D_addOutcome_26 : decode prog_5_method_6_code 26 = .ok (.getfield 25, 3) := by decide +kernel
theorem d_D_addOutcome_29 : decode prog_5_method_6_code 29 = .ok (.iload_n 3, 1) := by decide +kernel
theorem d_D_addOutcome_30 : decode prog_5_method_6_code 30 = .ok (.dup2, 1) := by decide +kernel
theorem d_D_addOutcome_31 : decode prog_5_method_6_code 31 = .ok (.iaload, 1) := by decide +kernel
theorem d_D_addOutcome_32 : decode prog_5_method_6_code 32 = .ok (.iload_n 2, 1) := by decide +kernel
theorem d_D_addOutcome_33 : decode prog_5_method_6_code 33 = .ok (.iadd, 1) := by decide +kernel
theorem d_D_addOutcome_34 : decode prog_5_method_6_code 34 = .ok (.iastore, 1) := by decide +kernel
theorem d_D_addOutcome_35 : decode prog_5_method_6_code 35 = .ok (.return_, 1) := by decide +kernel
theorem d_D_addOutcome_36 : decode prog_5_method_6_code 36 = .ok (.iinc 3 1, 3) := by decide +kernel
theorem d_D_addOutcome_39 : decode prog_5_method_6_code 39 = .ok (.goto (-32), 3) := by decide +kernel
theorem d_D_addOutcome_42 : decode prog_5_method_6_code 42 = .ok (.aload_n 0, 1) := by decide +kernel
theorem d_D_addOutcome_43 : decode prog_5_method_6_code 43 = .ok (.getfield 28, 3) := by decide +kernel
theorem d_D_addOutcome_46 : decode prog_5_method_6_code 46 = .ok (.bipush 8, 2) := by decide +kernel
theorem d_D_addOutcome_48 : decode prog_5_method_6_code 48 = .ok (.if_icmp .ge 33, 3) := by decide +kernel
theorem d_D_addOutcome_51 : decode prog_5_method_6_code 51 = .ok (.aload_n 0, 1) := by decide +kernel
theorem d_D_addOutcome_52 : decode prog_5_method_6_code 52 = .ok (.getfield 22, 3) := by decide +kernel
theorem d_D_addOutcome_55 : decode prog_5_method_6_code 55 = .ok (.aload_n 0, 1) := by decide +kernel
theorem d_D_addOutcome_56 : decode prog_5_method_6_code 56 = .ok (.getfield 28, 3) := by decide +kernel
theorem d_D_addOutcome_59 : decode prog_5_method_6_code 59 = .ok (.iload_n 1, 1) := by decide +kernel
theorem d_D_addOutcome_60 : decode prog_5_method_6_code 60 = .ok (.iastore, 1) := by decide +kernel
theorem d_D_addOutcome_61 : decode prog_5_method_6_code 61 = .ok (.aload_n 0, 1) := by decide +kernel
theorem d_D_addOutcome_62 : decode prog_5_method_6_code 62 = .ok (.getfield 25, 3) := by decide +kernel
theorem d_D_addOutcome_65 : decode prog_5_method_6_code 65 = .ok (.aload_n 0, 1) := by decide +kernel
theorem d_D_addOutcome_66 : decode prog_5_method_6_code 66 = .ok (.getfield 28, 3) := by decide +kernel
theorem d_D_addOutcome_69 : decode prog_5_method_6_code 69 = .ok (.iload_n 2, 1) := by decide +kernel
theorem d_D_addOutcome_70 : decode prog_5_method_6_code 70 = .ok (.iastore, 1) := by decide +kernel
theorem d_D_addOutcome_71 : decode prog_5_method_6_code 71 = .ok (.aload_n 0, 1) := by decide +kernel
theorem d_D_addOutcome_72 : decode prog_5_method_6_code 72 = .ok (.dup, 1) := by decide +kernel
theorem d_D_addOutcome_73 : decode prog_5_method_6_code 73 = .ok (.getfield 28, 3) := by decide +kernel
theorem d_D_addOutcome_76 : decode prog_5_method_6_code 76 = .ok (.iconst 1, 1) := by decide +kernel
theorem d_D_addOutcome_77 : decode prog_5_method_6_code 77 = .ok (.iadd, 1) := by decide +kernel
theorem d_D_addOutcome_78 : decode prog_5_method_6_code 78 = .ok (.putfield 28, 3) := by decide +kernel
theorem d_D_addOutcome_81 : decode prog_5_method_6_code 81 = .ok (.return_, 1) := by decide +kernel
theorem d_D_readOn_0 : decode prog_5_method_7_code 0 = .ok (.iload_n 1, 1) := by decide +kernel
theorem d_D_readOn_1 : decode prog_5_method_7_code 1 = .ok (.istore_n 2, 1) := by decide +kernel
theorem d_D_readOn_2 : decode prog_5_method_7_code 2 = .ok (.iload_n 2, 1) := by decide +kernel
theorem d_D_readOn_3 : decode prog_5_method_7_code 3 = .ok (.ifCond .lt 73, 3) := by decide +kernel
theorem d_D_readOn_6 : decode prog_5_method_7_code 6 = .ok (.lconst 0, 1) := by decide +kernel
theorem d_D_readOn_7 : decode prog_5_method_7_code 7 = .ok (.lstore_n 3, 1) := by decide +kernel
theorem d_D_readOn_8 : decode prog_5_method_7_code 8 = .ok (.iconst 0, 1) := by decide +kernel
theorem d_D_readOn_9 : decode prog_5_method_7_code 9 = .ok (.istore 5, 2) := by decide +kernel
theorem d_D_readOn_11 : decode prog_5_method_7_code 11 = .ok (.iload 5, 2) := by decide +kernel
theorem d_D_readOn_13 : decode prog_5_method_7_code 13 = .ok (.aload_n 0, 1) := by decide +kernel
theorem d_D_readOn_14 : decode prog_5_method_7_code 14 = .ok (.getfield 28, 3) := by decide +kernel
theorem d_D_readOn_17 : decode prog_5_method_7_code 17 = .ok (.if_icmp .ge 46, 3) := by decide +kernel
theorem d_D_readOn_20 : decode prog_5_method_7_code 20 = .ok (.aload_n 0, 1) := by decide +kernel
theorem d_D_readOn_21 : decode prog_5_method_7_code 21 = .ok (.getfield 22, 3) := by decide +kernel
theorem d_D_readOn_24 : decode prog_5_method_7_code 24 = .ok (.iload 5, 2) := by decide +kernel
theorem d_D_readOn_26 : decode prog_5_method_7_code 26 = .ok (.iaload, 1) := by decide +kernel
theorem d_D_readOn_27 : decode prog_5_method_7_code 27 = .ok (.iload_n 2, 1) := by decide +kernel
theorem d_D_readOn_28 : decode prog_5_method_7_code 28 = .ok (.if_icmp .gt 29, 3) := by decide +kernel
theorem d_D_readOn_31 : decode prog_5_method_7_code 31 = .ok (.lload_n 3, 1) := by decide +kernel
theorem d_D_readOn_32 : decode prog_5_method_7_code 32 = .ok (.aload_n 0, 1) := by decide +kernel
theorem d_D_readOn_33 : decode prog_5_method_7_code 33 = .ok (.getfield 25, 3) := by decide +kernel
theorem d_D_readOn_36 : decode prog_5_method_7_code 36 = .ok (.iload 5, 2) := by decide +kernel
theorem d_D_readOn_38 : decode prog_5_method_7_code 38 = .ok (.iaload, 1) := by decide +kernel
theorem d_D_readOn_39 : decode prog_5_method_7_code 39 = .ok (.i2l, 1) := by decide +kernel
theorem d_D_readOn_40 : decode prog_5_method_7_code 40 = .ok (.aload_n 0, 1) := by decide +kernel
theorem d_D_readOn_41 : decode prog_5_method_7_code 41 = .ok (.getfield 11, 3) := by decide +kernel
theorem d_D_readOn_44 : decode prog_5_method_7_code 44 = .ok (.iload_n 2, 1) := by decide +kernel
theorem d_D_readOn_45 : decode prog_5_method_7_code 45 = .ok (.aload_n 0, 1) := by decide +kernel
theorem d_D_readOn_46 : decode prog_5_method_7_code 46 = .ok (.getfield 22, 3) := by decide +kernel
theorem d_D_readOn_49 : decode prog_5_method_7_code 49 = .ok (.iload 5, 2) := by decide +kernel
theorem d_D_readOn_51 : decode prog_5_method_7_code 51 = .ok (.iaload, 1) := by decide +kernel
theorem d_D_readOn_52 : decode prog_5_method_7_code 52 = .ok (.isub, 1) := by decide +kernel
theorem d_D_readOn_53 : decode prog_5_method_7_code 53 = .ok (.laload, 1) := by decide +kernel
theorem d_D_readOn_54 : decode prog_5_method_7_code 54 = .ok (.lmul, 1) := by decide +kernel
theorem d_D_readOn_55 : decode prog_5_method_7_code 55 = .ok (.ladd, 1) := by decide +kernel
theorem d_D_readOn_56 : decode prog_5_method_7_code 56 = .ok (.lstore_n 3, 1) := by decide +kernel
theorem d_D_readOn_57 : decode prog_5_method_7_code 57 = .ok (.iinc 5 1, 3) := by decide +kernel
theorem d_D_readOn_60 : decode prog_5_method_7_code 60 = .ok (.goto (-49), 3) := by decide +kernel
theorem d_D_readOn_63 : decode prog_5_method_7_code 63 = .ok (.aload_n 0, 1) := by decide +kernel
theorem d_D_readOn_64 : decode prog_5_method_7_code 64 = .ok (.getfield 11, 3) := by decide +kernel
theorem d_D_readOn_67 : decode prog_5_method_7_code 67 = .ok (.iload_n 2, 1) := by decide +kernel
theorem d_D_readOn_68 : decode prog_5_method_7_code 68 = .ok (.lload_n 3, 1) := by decide +kernel
theorem d_D_readOn_69 : decode prog_5_method_7_code 69 = .ok (.lastore, 1) := by decide +kernel
theorem d_D_readOn_70 : decode prog_5_method_7_code 70 = .ok (.iinc 2 (-1), 3) := by decide +kernel
theorem d_D_readOn_73 : decode prog_5_method_7_code 73 = .ok (.goto (-71), 3) := by decide +kernel
theorem d_D_readOn_76 : decode prog_5_method_7_code 76 = .ok (.return_, 1) := by decide +kernel
theorem d_D_reduce_0 : decode prog_5_method_8_code 0 = .ok (.lload_n 1, 1) := by decide +kernel
theorem d_D_reduce_1 : decode prog_5_method_8_code 1 = .ok (.lload_n 3, 1) := by decide +kernel
theorem d_D_reduce_2 : decode prog_5_method_8_code 2 = .ok (.invokestatic 103, 3) := by decide +kernel
theorem d_D_reduce_5 : decode prog_5_method_8_code 5 = .ok (.lstore 5, 2) := by decide +kernel
theorem d_D_reduce_7 : decode prog_5_method_8_code 7 = .ok (.aload_n 0, 1) := by decide +kernel
theorem d_D_reduce_8 : decode prog_5_method_8_code 8 = .ok (.lload 5, 2) := by decide +kernel
theorem d_D_reduce_10 : decode prog_5_method_8_code 10 = .ok (.lconst 1, 1) := by decide +kernel
theorem d_D_reduce_11 : decode prog_5_method_8_code 11 = .ok (.lcmp, 1) := by decide +kernel
theorem d_D_reduce_12 : decode prog_5_method_8_code 12 = .ok (.ifCond .le 10, 3) := by decide +kernel
theorem d_D_reduce_15 : decode prog_5_method_8_code 15 = .ok (.lload_n 1, 1) := by decide +kernel
theorem d_D_reduce_16 : decode prog_5_method_8_code 16 = .ok (.lload 5, 2) := by decide +kernel
theorem d_D_reduce_18 : decode prog_5_method_8_code 18 = .ok (.ldiv, 1) := by decide +kernel
theorem d_D_reduce_19 : decode prog_5_method_8_code 19 = .ok (.goto 4, 3) := by decide +kernel
theorem d_D_reduce_22 : decode prog_5_method_8_code 22 = .ok (.lload_n 1, 1) := by decide +kernel
theorem d_D_reduce_23 : decode prog_5_method_8_code 23 = .ok (.putfield 32, 3) := by decide +kernel
theorem d_D_reduce_26 : decode prog_5_method_8_code 26 = .ok (.aload_n 0, 1) := by decide +kernel
theorem d_D_reduce_27 : decode prog_5_method_8_code 27 = .ok (.lload 5, 2) := by decide +kernel
theorem d_D_reduce_29 : decode prog_5_method_8_code 29 = .ok (.lconst 1, 1) := by decide +kernel
theorem d_D_reduce_30 : decode prog_5_method_8_code 30 = .ok (.lcmp, 1) := by decide +kernel
theorem d_D_reduce_31 : decode prog_5_method_8_code 31 = .ok (.ifCond .le 10, 3) := by decide +kernel
theorem d_D_reduce_34 : decode prog_5_method_8_code 34 = .ok (.lload_n 3, 1) := by decide +kernel
theorem d_D_reduce_35 : decode prog_5_method_8_code 35 = .ok (.lload 5, 2) := by decide +kernel
theorem d_D_reduce_37 : decode prog_5_method_8_code 37 = .ok (.ldiv, 1) := by decide +kernel
theorem d_D_reduce_38 : decode prog_5_method_8_code 38 = .ok (.goto 4, 3) := by decide +kernel
theorem d_D_reduce_41 : decode prog_5_method_8_code 41 = .ok (.lload_n 3, 1) := by decide +kernel
theorem d_D_reduce_42 : decode prog_5_method_8_code 42 = .ok (.putfield 36, 3) := by decide +kernel
theorem d_D_reduce_45 : decode prog_5_method_8_code 45 = .ok (.return_, 1) := by decide +kernel
theorem d_D_commonDivisor_0 : decode prog_5_method_9_code 0 = .ok (.lload_n 0, 1) := by decide +kernel
theorem d_D_commonDivisor_1 : decode prog_5_method_9_code 1 = .ok (.lstore 4, 2) := by decide +kernel
theorem d_D_commonDivisor_3 : decode prog_5_method_9_code 3 = .ok (.lload_n 2, 1) := by decide +kernel
theorem d_D_commonDivisor_4 : decode prog_5_method_9_code 4 = .ok (.lstore 6, 2) := by decide +kernel
theorem d_D_commonDivisor_6 : decode prog_5_method_9_code 6 = .ok (.iconst 0, 1) := by decide +kernel
theorem d_D_commonDivisor_7 : decode prog_5_method_9_code 7 = .ok (.istore 8, 2) := by decide +kernel
theorem d_D_commonDivisor_9 : decode prog_5_method_9_code 9 = .ok (.iload 8, 2) := by decide +kernel
theorem d_D_commonDivisor_11 : decode prog_5_method_9_code 11 = .ok (.sipush 200, 3) := by decide +kernel
theorem d_D_commonDivisor_14 : decode prog_5_method_9_code 14 = .ok (.if_icmp .ge 31, 3) := by decide +kernel
theorem d_D_commonDivisor_17 : decode prog_5_method_9_code 17 = .ok (.lload 6, 2) := by decide +kernel
theorem d_D_commonDivisor_19 : decode prog_5_method_9_code 19 = .ok (.lconst 0, 1) := by decide +kernel
theorem d_D_commonDivisor_20 : decode prog_5_method_9_code 20 = .ok (.lcmp, 1) := by decide +kernel
theorem d_D_commonDivisor_21 : decode prog_5_method_9_code 21 = .ok (.ifCond .eq 24, 3) := by decide +kernel
theorem d_D_commonDivisor_24 : decode prog_5_method_9_code 24 = .ok (.lload 4, 2) := by decide +kernel
theorem d_D_commonDivisor_26 : decode prog_5_method_9_code 26 = .ok (.lload 6, 2) := by decide +kernel
theorem d_D_commonDivisor_28 : decode prog_5_method_9_code 28 = .ok (.lrem, 1) := by decide +kernel
theorem d_D_commonDivisor_29 : decode prog_5_method_9_code 29 = .ok (.lstore 9, 2) := by decide +kernel
theorem d_D_commonDivisor_31 : decode prog_5_method_9_code 31 = .ok (.lload 6, 2) := by decide +kernel
theorem d_D_commonDivisor_33 : decode prog_5_method_9_code 33 = .ok (.lstore 4, 2) := by decide +kernel
theorem d_D_commonDivisor_35 : decode prog_5_method_9_code 35 = .ok (.lload 9, 2) := by decide +kernel
theorem d_D_commonDivisor_37 : decode prog_5_method_9_code 37 = .ok (.lstore 6, 2) := by decide +kernel
theorem d_D_commonDivisor_39 : decode prog_5_method_9_code 39 = .ok (.iinc 8 1, 3) := by decide +kernel
theorem d_D_commonDivisor_42 : decode prog_5_method_9_code 42 = .ok (.goto (-33), 3) := by decide +kernel
theorem d_D_commonDivisor_45 : decode prog_5_method_9_code 45 = .ok (.lload 4, 2) := by decide +kernel
theorem d_D_commonDivisor_47 : decode prog_5_method_9_code 47 = .ok (.lreturn, 1) := by decide +kernel
theorem d_D_above_0 : decode prog_5_method_10_code 0 = .ok (.aload_n 0, 1) := by decide +kernel
theorem d_D_above_1 : decode prog_5_method_10_code 1 = .ok (.getfield 32, 3) := by decide +kernel
theorem d_D_above_4 : decode prog_5_method_10_code 4 = .ok (.lreturn, 1) := by decide +kernel
theorem d_D_below_0 : decode prog_5_method_11_code 0 = .ok (.aload_n 0, 1) := by decide +kernel
theorem d_D_below_1 : decode prog_5_method_11_code 1 = .ok (.getfield 36, 3) := by decide +kernel
theorem d_D_below_4 : decode prog_5_method_11_code 4 = .ok (.lreturn, 1) := by decide +kernel
theorem d_H_renew_0 : decode prog_10_method_2_code 0 = .ok (.aload_n 0, 1) := by decide +kernel
theorem d_H_renew_1 : decode prog_10_method_2_code 1 = .ok (.iconst 0, 1) := by decide +kernel
theorem d_H_renew_2 : decode prog_10_method_2_code 2 = .ok (.putfield 15, 3) := by decide +kernel
theorem d_H_renew_5 : decode prog_10_method_2_code 5 = .ok (.aload_n 0, 1) := by decide +kernel
theorem d_H_renew_6 : decode prog_10_method_2_code 6 = .ok (.iload_n 1, 1) := by decide +kernel
theorem d_H_renew_7 : decode prog_10_method_2_code 7 = .ok (.putfield 19, 3) := by decide +kernel
theorem d_H_renew_10 : decode prog_10_method_2_code 10 = .ok (.aload_n 0, 1) := by decide +kernel
theorem d_H_renew_11 : decode prog_10_method_2_code 11 = .ok (.iload_n 2, 1) := by decide +kernel
theorem d_H_renew_12 : decode prog_10_method_2_code 12 = .ok (.putfield 23, 3) := by decide +kernel
theorem d_H_renew_15 : decode prog_10_method_2_code 15 = .ok (.iconst 0, 1) := by decide +kernel
theorem d_H_renew_16 : decode prog_10_method_2_code 16 = .ok (.istore_n 3, 1) := by decide +kernel
theorem d_H_renew_17 : decode prog_10_method_2_code 17 = .ok (.iload_n 3, 1) := by decide +kernel
theorem d_H_renew_18 : decode prog_10_method_2_code 18 = .ok (.bipush 60, 2) := by decide +kernel
theorem d_H_renew_20 : decode prog_10_method_2_code 20 = .ok (.if_icmp .ge 16, 3) := by decide +kernel
theorem d_H_renew_23 : decode prog_10_method_2_code 23 = .ok (.aload_n 0, 1) := by decide +kernel
theorem d_H_renew_24 : decode prog_10_method_2_code 24 = .ok (.getfield 9, 3) := by decide +kernel
theorem d_H_renew_27 : decode prog_10_method_2_code 27 = .ok (.iload_n 3, 1) := by decide +kernel
theorem d_H_renew_28 : decode prog_10_method_2_code 28 = .ok (.iconst 0, 1) := by decide +kernel
theorem d_H_renew_29 : decode prog_10_method_2_code 29 = .ok (.iastore, 1) := by decide +kernel
theorem d_H_renew_30 : decode prog_10_method_2_code 30 = .ok (.iinc 3 1, 3) := by decide +kernel
theorem d_H_renew_33 : decode prog_10_method_2_code 33 = .ok (.goto (-16), 3) := by decide +kernel
theorem d_H_renew_36 : decode prog_10_method_2_code 36 = .ok (.return_, 1) := by decide +kernel
theorem d_H_drop_0 : decode prog_10_method_3_code 0 = .ok (.aload_n 0, 1) := by decide +kernel
theorem d_H_drop_1 : decode prog_10_method_3_code 1 = .ok (.iconst 1, 1) := by decide +kernel
theorem d_H_drop_2 : decode prog_10_method_3_code 2 = .ok (.putfield 15, 3) := by decide +kernel
theorem d_H_drop_5 : decode prog_10_method_3_code 5 = .ok (.aload_n 0, 1) := by decide +kernel
theorem d_H_drop_6 : decode prog_10_method_3_code 6 = .ok (.iconst 0, 1) := by decide +kernel
theorem d_H_drop_7 : decode prog_10_method_3_code 7 = .ok (.putfield 23, 3) := by decide +kernel
theorem d_H_drop_10 : decode prog_10_method_3_code 10 = .ok (.return_, 1) := by decide +kernel
theorem d_H_isLost_0 : decode prog_10_method_4_code 0 = .ok (.aload_n 0, 1) := by decide +kernel
theorem d_H_isLost_1 : decode prog_10_method_4_code 1 = .ok (.getfield 15, 3) := by decide +kernel
theorem d_H_isLost_4 : decode prog_10_method_4_code 4 = .ok (.ireturn, 1) := by decide +kernel
theorem d_H_form_0 : decode prog_10_method_5_code 0 = .ok (.aload_n 0, 1) := by decide +kernel
theorem d_H_form_1 : decode prog_10_method_5_code 1 = .ok (.getfield 19, 3) := by decide +kernel
theorem d_H_form_4 : decode prog_10_method_5_code 4 = .ok (.ireturn, 1) := by decide +kernel
theorem d_H_size_0 : decode prog_10_method_6_code 0 = .ok (.aload_n 0, 1) := by decide +kernel
theorem d_H_size_1 : decode prog_10_method_6_code 1 = .ok (.getfield 23, 3) := by decide +kernel
theorem d_H_size_4 : decode prog_10_method_6_code 4 = .ok (.ireturn, 1) := by decide +kernel
theorem d_H_spans_0 : decode prog_10_method_7_code 0 = .ok (.iload_n 1, 1) := by decide +kernel
theorem d_H_spans_1 : decode prog_10_method_7_code 1 = .ok (.ifCond .lt 21, 3) := by decide +kernel
theorem d_H_spans_4 : decode prog_10_method_7_code 4 = .ok (.iload_n 2, 1) := by decide +kernel
theorem d_H_spans_5 : decode prog_10_method_7_code 5 = .ok (.ifCond .lt 17, 3) := by decide +kernel
theorem d_H_spans_8 : decode prog_10_method_7_code 8 = .ok (.iload_n 1, 1) := by decide +kernel
theorem d_H_spans_9 : decode prog_10_method_7_code 9 = .ok (.aload_n 0, 1) := by decide +kernel
theorem d_H_spans_10 : decode prog_10_method_7_code 10 = .ok (.getfield 23, 3) := by decide +kernel
theorem d_H_spans_13 : decode prog_10_method_7_code 13 = .ok (.iload_n 2, 1) := by decide +kernel
theorem d_H_spans_14 : decode prog_10_method_7_code 14 = .ok (.isub, 1) := by decide +kernel
theorem d_H_spans_15 : decode prog_10_method_7_code 15 = .ok (.if_icmp .gt 7, 3) := by decide +kernel
theorem d_H_spans_18 : decode prog_10_method_7_code 18 = .ok (.iconst 1, 1) := by decide +kernel
theorem d_H_spans_19 : decode prog_10_method_7_code 19 = .ok (.goto 4, 3) := by decide +kernel
theorem d_H_spans_22 : decode prog_10_method_7_code 22 = .ok (.iconst 0, 1) := by decide +kernel
theorem d_H_spans_23 : decode prog_10_method_7_code 23 = .ok (.ireturn, 1) := by decide +kernel
theorem d_H_item_0 : decode prog_10_method_8_code 0 = .ok (.aload_n 0, 1) := by decide +kernel
theorem d_H_item_1 : decode prog_10_method_8_code 1 = .ok (.getfield 9, 3) := by decide +kernel
theorem d_H_item_4 : decode prog_10_method_8_code 4 = .ok (.iload_n 1, 1) := by decide +kernel
theorem d_H_item_5 : decode prog_10_method_8_code 5 = .ok (.iaload, 1) := by decide +kernel
theorem d_H_item_6 : decode prog_10_method_8_code 6 = .ok (.ireturn, 1) := by decide +kernel
theorem d_H_put_0 : decode prog_10_method_9_code 0 = .ok (.aload_n 0, 1) := by decide +kernel
theorem d_H_put_1 : decode prog_10_method_9_code 1 = .ok (.getfield 9, 3) := by decide +kernel
theorem d_H_put_4 : decode prog_10_method_9_code 4 = .ok (.iload_n 1, 1) := by decide +kernel
theorem d_H_put_5 : decode prog_10_method_9_code 5 = .ok (.aload_n 0, 1) := by decide +kernel
theorem d_H_put_6 : decode prog_10_method_9_code 6 = .ok (.iload_n 2, 1) := by decide +kernel
theorem d_H_put_7 : decode prog_10_method_9_code 7 = .ok (.invokevirtual 26, 3) := by decide +kernel
theorem d_H_put_10 : decode prog_10_method_9_code 10 = .ok (.iastore, 1) := by decide +kernel
theorem d_H_put_11 : decode prog_10_method_9_code 11 = .ok (.return_, 1) := by decide +kernel
theorem d_H_narrow_0 : decode prog_10_method_10_code 0 = .ok (.aload_n 0, 1) := by decide +kernel
theorem d_H_narrow_1 : decode prog_10_method_10_code 1 = .ok (.getfield 19, 3) := by decide +kernel
theorem d_H_narrow_4 : decode prog_10_method_10_code 4 = .ok (.ifCond .ne 6, 3) := by decide +kernel
theorem d_H_narrow_7 : decode prog_10_method_10_code 7 = .ok (.iload_n 1, 1) := by decide +kernel
theorem d_H_narrow_8 : decode prog_10_method_10_code 8 = .ok (.i2b, 1) := by decide +kernel
theorem d_H_narrow_9 : decode prog_10_method_10_code 9 = .ok (.ireturn, 1) := by decide +kernel
theorem d_H_narrow_10 : decode prog_10_method_10_code 10 = .ok (.aload_n 0, 1) := by decide +kernel
theorem d_H_narrow_11 : decode prog_10_method_10_code 11 = .ok (.getfield 19, 3) := by decide +kernel
theorem d_H_narrow_14 : decode prog_10_method_10_code 14 = .ok (.iconst 1, 1) := by decide +kernel
theorem d_H_narrow_15 : decode prog_10_method_10_code 15 = .ok (.if_icmp .ne 8, 3) := by decide +kernel
theorem d_H_narrow_18 : decode prog_10_method_10_code 18 = .ok (.iload_n 1, 1) := by decide +kernel
theorem d_H_narrow_19 : decode prog_10_method_10_code 19 = .ok (.i2s, 1) := by decide +kernel
theorem d_H_narrow_20 : decode prog_10_method_10_code 20 = .ok (.goto 4, 3) := by decide +kernel
theorem d_H_narrow_23 : decode prog_10_method_10_code 23 = .ok (.iload_n 1, 1) := by decide +kernel
theorem d_H_narrow_24 : decode prog_10_method_10_code 24 = .ok (.ireturn, 1) := by decide +kernel
theorem d_H_takeFrom_0 : decode prog_10_method_11_code 0 = .ok (.aload_n 1, 1) := by decide +kernel
theorem d_H_takeFrom_1 : decode prog_10_method_11_code 1 = .ok (.getfield 9, 3) := by decide +kernel
theorem d_H_takeFrom_4 : decode prog_10_method_11_code 4 = .ok (.iload_n 2, 1) := by decide +kernel
theorem d_H_takeFrom_5 : decode prog_10_method_11_code 5 = .ok (.aload_n 0, 1) := by decide +kernel
theorem d_H_takeFrom_6 : decode prog_10_method_11_code 6 = .ok (.getfield 9, 3) := by decide +kernel
theorem d_H_takeFrom_9 : decode prog_10_method_11_code 9 = .ok (.iload_n 3, 1) := by decide +kernel
theorem d_H_takeFrom_10 : decode prog_10_method_11_code 10 = .ok (.iload 4, 2) := by decide +kernel
theorem d_H_takeFrom_12 : decode prog_10_method_11_code 12 = .ok (.invokestatic 30, 3) := by decide +kernel
theorem d_H_takeFrom_15 : decode prog_10_method_11_code 15 = .ok (.return_, 1) := by decide +kernel
theorem d_J_bitCount_0 : decode prog_14_method_49_code 0 = .ok (.iload_n 0, 1) := by decide +kernel
theorem d_J_bitCount_1 : decode prog_14_method_49_code 1 = .ok (.iload_n 0, 1) := by decide +kernel
theorem d_J_bitCount_2 : decode prog_14_method_49_code 2 = .ok (.iconst 1, 1) := by decide +kernel
theorem d_J_bitCount_3 : decode prog_14_method_49_code 3 = .ok (.iushr, 1) := by decide +kernel
theorem d_J_bitCount_4 : decode prog_14_method_49_code 4 = .ok (.ldc_w 265, 3) := by decide +kernel
theorem d_J_bitCount_7 : decode prog_14_method_49_code 7 = .ok (.iand, 1) := by decide +kernel
theorem d_J_bitCount_8 : decode prog_14_method_49_code 8 = .ok (.isub, 1) := by decide +kernel
theorem d_J_bitCount_9 : decode prog_14_method_49_code 9 = .ok (.istore_n 0, 1) := by decide +kernel
theorem d_J_bitCount_10 : decode prog_14_method_49_code 10 = .ok (.iload_n 0, 1) := by decide +kernel
theorem d_J_bitCount_11 : decode prog_14_method_49_code 11 = .ok (.ldc_w 266, 3) := by decide +kernel
theorem d_J_bitCount_14 : decode prog_14_method_49_code 14 = .ok (.iand, 1) := by decide +kernel
theorem d_J_bitCount_15 : decode prog_14_method_49_code 15 = .ok (.iload_n 0, 1) := by decide +kernel
theorem d_J_bitCount_16 : decode prog_14_method_49_code 16 = .ok (.iconst 2, 1) := by decide +kernel
theorem d_J_bitCount_17 : decode prog_14_method_49_code 17 = .ok (.iushr, 1) := by decide +kernel
theorem d_J_bitCount_18 : decode prog_14_method_49_code 18 = .ok (.ldc_w 266, 3) := by decide +kernel
theorem d_J_bitCount_21 : decode prog_14_method_49_code 21 = .ok (.iand, 1) := by decide +kernel
theorem d_J_bitCount_22 : decode prog_14_method_49_code 22 = .ok (.iadd, 1) := by decide +kernel
theorem d_J_bitCount_23 : decode prog_14_method_49_code 23 = .ok (.istore_n 0, 1) := by decide +kernel
theorem d_J_bitCount_24 : decode prog_14_method_49_code 24 = .ok (.iload_n 0, 1) := by decide +kernel
theorem d_J_bitCount_25 : decode prog_14_method_49_code 25 = .ok (.iload_n 0, 1) := by decide +kernel
theorem d_J_bitCount_26 : decode prog_14_method_49_code 26 = .ok (.iconst 4, 1) := by decide +kernel
theorem d_J_bitCount_27 : decode prog_14_method_49_code 27 = .ok (.iushr, 1) := by decide +kernel
theorem d_J_bitCount_28 : decode prog_14_method_49_code 28 = .ok (.iadd, 1) := by decide +kernel
theorem d_J_bitCount_29 : decode prog_14_method_49_code 29 = .ok (.ldc_w 267, 3) := by decide +kernel
theorem d_J_bitCount_32 : decode prog_14_method_49_code 32 = .ok (.iand, 1) := by decide +kernel
theorem d_J_bitCount_33 : decode prog_14_method_49_code 33 = .ok (.istore_n 0, 1) := by decide +kernel
theorem d_J_bitCount_34 : decode prog_14_method_49_code 34 = .ok (.iload_n 0, 1) := by decide +kernel
theorem d_J_bitCount_35 : decode prog_14_method_49_code 35 = .ok (.iload_n 0, 1) := by decide +kernel
theorem d_J_bitCount_36 : decode prog_14_method_49_code 36 = .ok (.bipush 8, 2) := by decide +kernel
theorem d_J_bitCount_38 : decode prog_14_method_49_code 38 = .ok (.iushr, 1) := by decide +kernel
theorem d_J_bitCount_39 : decode prog_14_method_49_code 39 = .ok (.iadd, 1) := by decide +kernel
theorem d_J_bitCount_40 : decode prog_14_method_49_code 40 = .ok (.istore_n 0, 1) := by decide +kernel
theorem d_J_bitCount_41 : decode prog_14_method_49_code 41 = .ok (.iload_n 0, 1) := by decide +kernel
theorem d_J_bitCount_42 : decode prog_14_method_49_code 42 = .ok (.iload_n 0, 1) := by decide +kernel
theorem d_J_bitCount_43 : decode prog_14_method_49_code 43 = .ok (.bipush 16, 2) := by decide +kernel
theorem d_J_bitCount_45 : decode prog_14_method_49_code 45 = .ok (.iushr, 1) := by decide +kernel
theorem d_J_bitCount_46 : decode prog_14_method_49_code 46 = .ok (.iadd, 1) := by decide +kernel
theorem d_J_bitCount_47 : decode prog_14_method_49_code 47 = .ok (.istore_n 0, 1) := by decide +kernel
theorem d_J_bitCount_48 : decode prog_14_method_49_code 48 = .ok (.iload_n 0, 1) := by decide +kernel
theorem d_J_bitCount_49 : decode prog_14_method_49_code 49 = .ok (.bipush 63, 2) := by decide +kernel
theorem d_J_bitCount_51 : decode prog_14_method_49_code 51 = .ok (.iand, 1) := by decide +kernel
theorem d_J_bitCount_52 : decode prog_14_method_49_code 52 = .ok (.ireturn, 1) := by decide +kernel
end
section
-- what the bytes decode to (by program: wip/gen/gen_meth.py)
theorem d_O_type_0 : decode prog_1_method_2_code 0 = .ok (.iload_n 1, 1) := by decide +kernel
theorem d_O_type_1 : decode prog_1_method_2_code 1 = .ok (.iconst 0, 1) := by decide +kernel
theorem d_O_type_2 : decode prog_1_method_2_code 2 = .ok (.sipush 255, 3) := by decide +kernel
theorem d_O_type_5 : decode prog_1_method_2_code 5 = .ok (.invokestatic 86, 3) := by decide +kernel
theorem d_O_type_8 : decode prog_1_method_2_code 8 = .ok (.ifCond .ne 6, 3) := by decide +kernel
theorem d_O_type_11 : decode prog_1_method_2_code 11 = .ok (.bipush (-2), 2) := by decide +kernel
theorem d_O_type_13 : decode prog_1_method_2_code 13 = .ok (.ireturn, 1) := by decide +kernel
theorem d_O_type_14 : decode prog_1_method_2_code 14 = .ok (.aload_n 0, 1) := by decide +kernel
theorem d_O_type_15 : decode prog_1_method_2_code 15 = .ok (.getfield 10, 3) := by decide +kernel
theorem d_O_type_18 : decode prog_1_method_2_code 18 = .ok (.iload_n 1, 1) := by decide +kernel
theorem d_O_type_19 : decode prog_1_method_2_code 19 = .ok (.invokevirtual 90, 3) := by decide +kernel
theorem d_O_type_22 : decode prog_1_method_2_code 22 = .ok (.ifCond .eq 13, 3) := by decide +kernel
theorem d_O_type_25 : decode prog_1_method_2_code 25 = .ok (.aload_n 0, 1) := by decide +kernel
theorem d_O_type_26 : decode prog_1_method_2_code 26 = .ok (.getfield 10, 3) := by decide +kernel
theorem d_O_type_29 : decode prog_1_method_2_code 29 = .ok (.invokevirtual 94, 3) := by decide +kernel
theorem d_O_type_32 : decode prog_1_method_2_code 32 = .ok (.goto 5, 3) := by decide +kernel
theorem d_O_type_35 : decode prog_1_method_2_code 35 = .ok (.bipush (-4), 2) := by decide +kernel
theorem d_O_type_37 : decode prog_1_method_2_code 37 = .ok (.ireturn, 1) := by decide +kernel
theorem d_O_wipe_0 : decode prog_1_method_3_code 0 = .ok (.aload_n 0, 1) := by decide +kernel
theorem d_O_wipe_1 : decode prog_1_method_3_code 1 = .ok (.getfield 10, 3) := by decide +kernel
theorem d_O_wipe_4 : decode prog_1_method_3_code 4 = .ok (.invokevirtual 94, 3) := by decide +kernel
theorem d_O_wipe_7 : decode prog_1_method_3_code 7 = .ok (.istore_n 1, 1) := by decide +kernel
theorem d_O_wipe_8 : decode prog_1_method_3_code 8 = .ok (.aload_n 0, 1) := by decide +kernel
theorem d_O_wipe_9 : decode prog_1_method_3_code 9 = .ok (.getfield 10, 3) := by decide +kernel
theorem d_O_wipe_12 : decode prog_1_method_3_code 12 = .ok (.invokevirtual 98, 3) := by decide +kernel
theorem d_O_wipe_15 : decode prog_1_method_3_code 15 = .ok (.iload_n 1, 1) := by decide +kernel
theorem d_O_wipe_16 : decode prog_1_method_3_code 16 = .ok (.ireturn, 1) := by decide +kernel
theorem d_O_fault_0 : decode prog_1_method_4_code 0 = .ok (.aload_n 0, 1) := by decide +kernel
theorem d_O_fault_1 : decode prog_1_method_4_code 1 = .ok (.getfield 10, 3) := by decide +kernel
theorem d_O_fault_4 : decode prog_1_method_4_code 4 = .ok (.invokevirtual 101, 3) := by decide +kernel
theorem d_O_fault_7 : decode prog_1_method_4_code 7 = .ok (.ireturn, 1) := by decide +kernel
theorem d_O_chapter_0 : decode prog_1_method_5_code 0 = .ok (.aload_n 0, 1) := by decide +kernel
theorem d_O_chapter_1 : decode prog_1_method_5_code 1 = .ok (.iload_n 1, 1) := by decide +kernel
theorem d_O_chapter_2 : decode prog_1_method_5_code 2 = .ok (.invokevirtual 104, 3) := by decide +kernel
theorem d_O_chapter_5 : decode prog_1_method_5_code 5 = .ok (.ifCond .eq 12, 3) := by decide +kernel
theorem d_O_chapter_8 : decode prog_1_method_5_code 8 = .ok (.iload_n 2, 1) := by decide +kernel
theorem d_O_chapter_9 : decode prog_1_method_5_code 9 = .ok (.iconst 0, 1) := by decide +kernel
theorem d_O_chapter_10 : decode prog_1_method_5_code 10 = .ok (.iconst 2, 1) := by decide +kernel
theorem d_O_chapter_11 : decode prog_1_method_5_code 11 = .ok (.invokestatic 86, 3) := by decide +kernel
theorem d_O_chapter_14 : decode prog_1_method_5_code 14 = .ok (.ifCond .ne 6, 3) := by decide +kernel
theorem d_O_chapter_17 : decode prog_1_method_5_code 17 = .ok (.bipush (-2), 2) := by decide +kernel
theorem d_O_chapter_19 : decode prog_1_method_5_code 19 = .ok (.ireturn, 1) := by decide +kernel
theorem d_O_chapter_20 : decode prog_1_method_5_code 20 = .ok (.iload_n 2, 1) := by decide +kernel
theorem d_O_chapter_21 : decode prog_1_method_5_code 21 = .ok (.ifCond .ne 12, 3) := by decide +kernel
theorem d_O_chapter_24 : decode prog_1_method_5_code 24 = .ok (.aload_n 0, 1) := by decide +kernel
theorem d_O_chapter_25 : decode prog_1_method_5_code 25 = .ok (.getfield 10, 3) := by decide +kernel
theorem d_O_chapter_28 : decode prog_1_method_5_code 28 = .ok (.iload_n 1, 1) := by decide +kernel
theorem d_O_chapter_29 : decode prog_1_method_5_code 29 = .ok (.invokevirtual 107, 3) := by decide +kernel
theorem d_O_chapter_32 : decode prog_1_method_5_code 32 = .ok (.ireturn, 1) := by decide +kernel
theorem d_O_chapter_33 : decode prog_1_method_5_code 33 = .ok (.iload_n 2, 1) := by decide +kernel
theorem d_O_chapter_34 : decode prog_1_method_5_code 34 = .ok (.iconst 1, 1) := by decide +kernel
theorem d_O_chapter_35 : decode prog_1_method_5_code 35 = .ok (.if_icmp .ne 14, 3) := by decide +kernel
theorem d_O_chapter_38 : decode prog_1_method_5_code 38 = .ok (.aload_n 0, 1) := by decide +kernel
theorem d_O_chapter_39 : decode prog_1_method_5_code 39 = .ok (.getfield 10, 3) := by decide +kernel
theorem d_O_chapter_42 : decode prog_1_method_5_code 42 = .ok (.iload_n 1, 1) := by decide +kernel
theorem d_O_chapter_43 : decode prog_1_method_5_code 43 = .ok (.invokevirtual 111, 3) := by decide +kernel
theorem d_O_chapter_46 : decode prog_1_method_5_code 46 = .ok (.goto 14, 3) := by decide +kernel
theorem d_O_chapter_49 : decode prog_1_method_5_code 49 = .ok (.aload_n 0, 1) := by decide +kernel
theorem d_O_chapter_50 : decode prog_1_method_5_code 50 = .ok (.getfield 21, 3) := by decide +kernel
theorem d_O_chapter_53 : decode prog_1_method_5_code 53 = .ok (.iload_n 1, 1) := by decide +kernel
theorem d_O_chapter_54 : decode prog_1_method_5_code 54 = .ok (.invokevirtual 114, 3) := by decide +kernel
theorem d_O_chapter_57 : decode prog_1_method_5_code 57 = .ok (.invokestatic 117, 3) := by decide +kernel
theorem d_O_chapter_60 : decode prog_1_method_5_code 60 = .ok (.ireturn, 1) := by decide +kernel
theorem d_O_pace_0 : decode prog_1_method_6_code 0 = .ok (.iload_n 1, 1) := by decide +kernel
theorem d_O_pace_1 : decode prog_1_method_6_code 1 = .ok (.invokestatic 121, 3) := by decide +kernel
theorem d_O_pace_4 : decode prog_1_method_6_code 4 = .ok (.ifCond .eq 20, 3) := by decide +kernel
theorem d_O_pace_7 : decode prog_1_method_6_code 7 = .ok (.iload_n 2, 1) := by decide +kernel
theorem d_O_pace_8 : decode prog_1_method_6_code 8 = .ok (.invokestatic 124, 3) := by decide +kernel
theorem d_O_pace_11 : decode prog_1_method_6_code 11 = .ok (.ifCond .eq 13, 3) := by decide +kernel
theorem d_O_pace_14 : decode prog_1_method_6_code 14 = .ok (.iload_n 3, 1) := by decide +kernel
theorem d_O_pace_15 : decode prog_1_method_6_code 15 = .ok (.iconst 1, 1) := by decide +kernel
theorem d_O_pace_16 : decode prog_1_method_6_code 16 = .ok (.bipush 9, 2) := by decide +kernel
theorem d_O_pace_18 : decode prog_1_method_6_code 18 = .ok (.invokestatic 86, 3) := by decide +kernel
theorem d_O_pace_21 : decode prog_1_method_6_code 21 = .ok (.ifCond .ne 6, 3) := by decide +kernel
theorem d_O_pace_24 : decode prog_1_method_6_code 24 = .ok (.bipush (-2), 2) := by decide +kernel
theorem d_O_pace_26 : decode prog_1_method_6_code 26 = .ok (.ireturn, 1) := by decide +kernel
theorem d_O_pace_27 : decode prog_1_method_6_code 27 = .ok (.aload_n 0, 1) := by decide +kernel
theorem d_O_pace_28 : decode prog_1_method_6_code 28 = .ok (.getfield 21, 3) := by decide +kernel
theorem d_O_pace_31 : decode prog_1_method_6_code 31 = .ok (.iload_n 1, 1) := by decide +kernel
theorem d_O_pace_32 : decode prog_1_method_6_code 32 = .ok (.invokevirtual 127, 3) := by decide +kernel
theorem d_O_pace_35 : decode prog_1_method_6_code 35 = .ok (.iload_n 2, 1) := by decide +kernel
theorem d_O_pace_36 : decode prog_1_method_6_code 36 = .ok (.iload_n 3, 1) := by decide +kernel
theorem d_O_pace_37 : decode prog_1_method_6_code 37 = .ok (.invokevirtual 131, 3) := by decide +kernel
theorem d_O_pace_40 : decode prog_1_method_6_code 40 = .ok (.ireturn, 1) := by decide +kernel
theorem d_O_read_0 : decode prog_1_method_7_code 0 = .ok (.iload_n 1, 1) := by decide +kernel
theorem d_O_read_1 : decode prog_1_method_7_code 1 = .ok (.invokestatic 137, 3) := by decide +kernel
theorem d_O_read_4 : decode prog_1_method_7_code 4 = .ok (.ifCond .eq 10, 3) := by decide +kernel
theorem d_O_read_7 : decode prog_1_method_7_code 7 = .ok (.iload_n 2, 1) := by decide +kernel
theorem d_O_read_8 : decode prog_1_method_7_code 8 = .ok (.invokestatic 121, 3) := by decide +kernel
theorem d_O_read_11 : decode prog_1_method_7_code 11 = .ok (.ifCond .ne 6, 3) := by decide +kernel
theorem d_O_read_14 : decode prog_1_method_7_code 14 = .ok (.bipush (-2), 2) := by decide +kernel
theorem d_O_read_16 : decode prog_1_method_7_code 16 = .ok (.ireturn, 1) := by decide +kernel
theorem d_O_read_17 : decode prog_1_method_7_code 17 = .ok (.aload_n 0, 1) := by decide +kernel
theorem d_O_read_18 : decode prog_1_method_7_code 18 = .ok (.getfield 71, 3) := by decide +kernel
theorem d_O_read_21 : decode prog_1_method_7_code 21 = .ok (.iload_n 1, 1) := by decide +kernel
theorem d_O_read_22 : decode prog_1_method_7_code 22 = .ok (.aaload, 1) := by decide +kernel
theorem d_O_read_23 : decode prog_1_method_7_code 23 = .ok (.astore_n 3, 1) := by decide +kernel
theorem d_O_read_24 : decode prog_1_method_7_code 24 = .ok (.aload_n 3, 1) := by decide +kernel
theorem d_O_read_25 : decode prog_1_method_7_code 25 = .ok (.invokevirtual 140, 3) := by decide +kernel
theorem d_O_read_28 : decode prog_1_method_7_code 28 = .ok (.ifCond .eq 9, 3) := by decide +kernel
theorem d_O_read_31 : decode prog_1_method_7_code 31 = .ok (.aload_n 0, 1) := by decide +kernel
theorem d_O_read_32 : decode prog_1_method_7_code 32 = .ok (.iconst 1, 1) := by decide +kernel
theorem d_O_read_33 : decode prog_1_method_7_code 33 = .ok (.invokevirtual 144, 3) := by decide +kernel
theorem d_O_read_36 : decode prog_1_method_7_code 36 = .ok (.ireturn, 1) := by decide +kernel
theorem d_O_read_37 : decode prog_1_method_7_code 37 = .ok (.iconst 3, 1) := by decide +kernel
theorem d_O_read_38 : decode prog_1_method_7_code 38 = .ok (.aload_n 3, 1) := by decide +kernel
theorem d_O_read_39 : decode prog_1_method_7_code 39 = .ok (.invokevirtual 147, 3) := by decide +kernel
theorem d_O_read_42 : decode prog_1_method_7_code 42 = .ok (.invokestatic 148, 3) := by decide +kernel
theorem d_O_read_45 : decode prog_1_method_7_code 45 = .ok (.istore 4, 2) := by decide +kernel
theorem d_O_read_47 : decode prog_1_method_7_code 47 = .ok (.iconst 0, 1) := by decide +kernel
theorem d_O_read_48 : decode prog_1_method_7_code 48 = .ok (.istore 5, 2) := by decide +kernel
theorem d_O_read_50 : decode prog_1_method_7_code 50 = .ok (.iload 5, 2) := by decide +kernel
theorem d_O_read_52 : decode prog_1_method_7_code 52 = .ok (.iload 4, 2) := by decide +kernel
theorem d_O_read_54 : decode prog_1_method_7_code 54 = .ok (.if_icmp .ge 44, 3) := by decide +kernel
theorem d_O_read_57 : decode prog_1_method_7_code 57 = .ok (.aload_n 3, 1) := by decide +kernel
theorem d_O_read_58 : decode prog_1_method_7_code 58 = .ok (.iload 5, 2) := by decide +kernel
theorem d_O_read_60 : decode prog_1_method_7_code 60 = .ok (.invokevirtual 153, 3) := by decide +kernel
theorem d_O_read_63 : decode prog_1_method_7_code 63 = .ok (.iconst 1, 1) := by decide +kernel
theorem d_O_read_64 : decode prog_1_method_7_code 64 = .ok (.bipush 9, 2) := by decide +kernel
theorem d_O_read_66 : decode prog_1_method_7_code 66 = .ok (.invokestatic 86, 3) := by decide +kernel
theorem d_O_read_69 : decode prog_1_method_7_code 69 = .ok (.ifCond .eq 29, 3) := by decide +kernel
theorem d_O_read_72 : decode prog_1_method_7_code 72 = .ok (.aload_n 0, 1) := by decide +kernel
theorem d_O_read_73 : decode prog_1_method_7_code 73 = .ok (.getfield 21, 3) := by decide +kernel
theorem d_O_read_76 : decode prog_1_method_7_code 76 = .ok (.iload_n 2, 1) := by decide +kernel
theorem d_O_read_77 : decode prog_1_method_7_code 77 = .ok (.invokevirtual 127, 3) := by decide +kernel
theorem d_O_read_80 : decode prog_1_method_7_code 80 = .ok (.iload 5, 2) := by decide +kernel
theorem d_O_read_82 : decode prog_1_method_7_code 82 = .ok (.aload_n 3, 1) := by decide +kernel
theorem d_O_read_83 : decode prog_1_method_7_code 83 = .ok (.iload 5, 2) := by decide +kernel
theorem d_O_read_85 : decode prog_1_method_7_code 85 = .ok (.invokevirtual 153, 3) := by decide +kernel
theorem d_O_read_88 : decode prog_1_method_7_code 88 = .ok (.invokevirtual 131, 3) := by decide +kernel
theorem d_O_read_91 : decode prog_1_method_7_code 91 = .ok (.pop, 1) := by decide +kernel
theorem d_O_read_92 : decode prog_1_method_7_code 92 = .ok (.iinc 5 1, 3) := by decide +kernel
theorem d_O_read_95 : decode prog_1_method_7_code 95 = .ok (.goto (-45), 3) := by decide +kernel
theorem d_O_read_98 : decode prog_1_method_7_code 98 = .ok (.iload 5, 2) := by decide +kernel
theorem d_O_read_100 : decode prog_1_method_7_code 100 = .ok (.ireturn, 1) := by decide +kernel
theorem d_O_like_0 : decode prog_1_method_8_code 0 = .ok (.iload_n 1, 1) := by decide +kernel
theorem d_O_like_1 : decode prog_1_method_8_code 1 = .ok (.invokestatic 121, 3) := by decide +kernel
theorem d_O_like_4 : decode prog_1_method_8_code 4 = .ok (.ifCond .eq 22, 3) := by decide +kernel
theorem d_O_like_7 : decode prog_1_method_8_code 7 = .ok (.iload_n 2, 1) := by decide +kernel
theorem d_O_like_8 : decode prog_1_method_8_code 8 = .ok (.iconst 0, 1) := by decide +kernel
theorem d_O_like_9 : decode prog_1_method_8_code 9 = .ok (.bipush 7, 2) := by decide +kernel
theorem d_O_like_11 : decode prog_1_method_8_code 11 = .ok (.invokestatic 86, 3) := by decide +kernel
theorem d_O_like_14 : decode prog_1_method_8_code 14 = .ok (.ifCond .eq 12, 3) := by decide +kernel
theorem d_O_like_17 : decode prog_1_method_8_code 17 = .ok (.iload_n 3, 1) := by decide +kernel
theorem d_O_like_18 : decode prog_1_method_8_code 18 = .ok (.iconst 0, 1) := by decide +kernel
theorem d_O_like_19 : decode prog_1_method_8_code 19 = .ok (.iconst 1, 1) := by decide +kernel
theorem d_O_like_20 : decode prog_1_method_8_code 20 = .ok (.invokestatic 86, 3) := by decide +kernel
theorem d_O_like_23 : decode prog_1_method_8_code 23 = .ok (.ifCond .ne 6, 3) := by decide +kernel
theorem d_O_like_26 : decode prog_1_method_8_code 26 = .ok (.bipush (-2), 2) := by decide +kernel
theorem d_O_like_28 : decode prog_1_method_8_code 28 = .ok (.ireturn, 1) := by decide +kernel
theorem d_O_like_29 : decode prog_1_method_8_code 29 = .ok (.aload_n 0, 1) := by decide +kernel
theorem d_O_like_30 : decode prog_1_method_8_code 30 = .ok (.getfield 21, 3) := by decide +kernel
theorem d_O_like_33 : decode prog_1_method_8_code 33 = .ok (.iload_n 1, 1) := by decide +kernel
theorem d_O_like_34 : decode prog_1_method_8_code 34 = .ok (.invokevirtual 127, 3) := by decide +kernel
theorem d_O_like_37 : decode prog_1_method_8_code 37 = .ok (.iload_n 2, 1) := by decide +kernel
theorem d_O_like_38 : decode prog_1_method_8_code 38 = .ok (.iload_n 3, 1) := by decide +kernel
theorem d_O_like_39 : decode prog_1_method_8_code 39 = .ok (.iconst 1, 1) := by decide +kernel
theorem d_O_like_40 : decode prog_1_method_8_code 40 = .ok (.if_icmp .ne 7, 3) := by decide +kernel
theorem d_O_like_43 : decode prog_1_method_8_code 43 = .ok (.iconst 1, 1) := by decide +kernel
theorem d_O_like_44 : decode prog_1_method_8_code 44 = .ok (.goto 4, 3) := by decide +kernel
theorem d_O_like_47 : decode prog_1_method_8_code 47 = .ok (.iconst 0, 1) := by decide +kernel
theorem d_O_like_48 : decode prog_1_method_8_code 48 = .ok (.invokevirtual 156, 3) := by decide +kernel
theorem d_O_like_51 : decode prog_1_method_8_code 51 = .ok (.invokestatic 117, 3) := by decide +kernel
theorem d_O_like_54 : decode prog_1_method_8_code 54 = .ok (.ireturn, 1) := by decide +kernel
theorem d_O_skip_0 : decode prog_1_method_9_code 0 = .ok (.iload_n 1, 1) := by decide +kernel
theorem d_O_skip_1 : decode prog_1_method_9_code 1 = .ok (.iconst 0, 1) := by decide +kernel
theorem d_O_skip_2 : decode prog_1_method_9_code 2 = .ok (.bipush 7, 2) := by decide +kernel
theorem d_O_skip_4 : decode prog_1_method_9_code 4 = .ok (.invokestatic 86, 3) := by decide +kernel
theorem d_O_skip_7 : decode prog_1_method_9_code 7 = .ok (.ifCond .eq 12, 3) := by decide +kernel
theorem d_O_skip_10 : decode prog_1_method_9_code 10 = .ok (.iload_n 2, 1) := by decide +kernel
theorem d_O_skip_11 : decode prog_1_method_9_code 11 = .ok (.iconst 0, 1) := by decide +kernel
theorem d_O_skip_12 : decode prog_1_method_9_code 12 = .ok (.iconst 1, 1) := by decide +kernel
theorem d_O_skip_13 : decode prog_1_method_9_code 13 = .ok (.invokestatic 86, 3) := by decide +kernel
theorem d_O_skip_16 : decode prog_1_method_9_code 16 = .ok (.ifCond .ne 6, 3) := by decide +kernel
theorem d_O_skip_19 : decode prog_1_method_9_code 19 = .ok (.bipush (-2), 2) := by decide +kernel
theorem d_O_skip_21 : decode prog_1_method_9_code 21 = .ok (.ireturn, 1) := by decide +kernel
theorem d_O_skip_22 : decode prog_1_method_9_code 22 = .ok (.aload_n 0, 1) := by decide +kernel
theorem d_O_skip_23 : decode prog_1_method_9_code 23 = .ok (.getfield 21, 3) := by decide +kernel
theorem d_O_skip_26 : decode prog_1_method_9_code 26 = .ok (.iload_n 1, 1) := by decide +kernel
theorem d_O_skip_27 : decode prog_1_method_9_code 27 = .ok (.iload_n 2, 1) := by decide +kernel
theorem d_O_skip_28 : decode prog_1_method_9_code 28 = .ok (.iconst 1, 1) := by decide +kernel
theorem d_O_skip_29 : decode prog_1_method_9_code 29 = .ok (.if_icmp .ne 7, 3) := by decide +kernel
theorem d_O_skip_32 : decode prog_1_method_9_code 32 = .ok (.iconst 1, 1) := by decide +kernel
theorem d_O_skip_33 : decode prog_1_method_9_code 33 = .ok (.goto 4, 3) := by decide +kernel
theorem d_O_skip_36 : decode prog_1_method_9_code 36 = .ok (.iconst 0, 1) := by decide +kernel
theorem d_O_skip_37 : decode prog_1_method_9_code 37 = .ok (.invokevirtual 160, 3) := by decide +kernel
theorem d_O_skip_40 : decode prog_1_method_9_code 40 = .ok (.invokestatic 117, 3) := by decide +kernel
theorem d_O_skip_43 : decode prog_1_method_9_code 43 = .ok (.ireturn, 1) := by decide +kernel
theorem d_O_reader_0 : decode prog_1_method_10_code 0 = .ok (.iload_n 1, 1) := by decide +kernel
theorem d_O_reader_1 : decode prog_1_method_10_code 1 = .ok (.invokestatic 121, 3) := by decide +kernel
theorem d_O_reader_4 : decode prog_1_method_10_code 4 = .ok (.ifCond .eq 24, 3) := by decide +kernel
theorem d_O_reader_7 : decode prog_1_method_10_code 7 = .ok (.iload_n 2, 1) := by decide +kernel
theorem d_O_reader_8 : decode prog_1_method_10_code 8 = .ok (.iconst 0, 1) := by decide +kernel
theorem d_O_reader_9 : decode prog_1_method_10_code 9 = .ok (.iconst 2, 1) := by decide +kernel
theorem d_O_reader_10 : decode prog_1_method_10_code 10 = .ok (.invokestatic 86, 3) := by decide +kernel
theorem d_O_reader_13 : decode prog_1_method_10_code 13 = .ok (.ifCond .eq 15, 3) := by decide +kernel
theorem d_O_reader_16 : decode prog_1_method_10_code 16 = .ok (.iload_n 3, 1) := by decide +kernel
theorem d_O_reader_17 : decode prog_1_method_10_code 17 = .ok (.iconst 0, 1) := by decide +kernel
theorem d_O_reader_18 : decode prog_1_method_10_code 18 = .ok (.iload_n 2, 1) := by decide +kernel
theorem d_O_reader_19 : decode prog_1_method_10_code 19 = .ok (.invokestatic 163, 3) := by decide +kernel
theorem d_O_reader_22 : decode prog_1_method_10_code 22 = .ok (.invokestatic 86, 3) := by decide +kernel
theorem d_O_reader_25 : decode prog_1_method_10_code 25 = .ok (.ifCond .ne 6, 3) := by decide +kernel
theorem d_O_reader_28 : decode prog_1_method_10_code 28 = .ok (.bipush (-2), 2) := by decide +kernel
theorem d_O_reader_30 : decode prog_1_method_10_code 30 = .ok (.ireturn, 1) := by decide +kernel
theorem d_O_reader_31 : decode prog_1_method_10_code 31 = .ok (.aload_n 0, 1) := by decide +kernel
theorem d_O_reader_32 : decode prog_1_method_10_code 32 = .ok (.getfield 21, 3) := by decide +kernel
theorem d_O_reader_35 : decode prog_1_method_10_code 35 = .ok (.iload_n 1, 1) := by decide +kernel
theorem d_O_reader_36 : decode prog_1_method_10_code 36 = .ok (.invokevirtual 127, 3) := by decide +kernel
theorem d_O_reader_39 : decode prog_1_method_10_code 39 = .ok (.iload_n 2, 1) := by decide +kernel
theorem d_O_reader_40 : decode prog_1_method_10_code 40 = .ok (.iload_n 3, 1) := by decide +kernel
theorem d_O_reader_41 : decode prog_1_method_10_code 41 = .ok (.invokevirtual 166, 3) := by decide +kernel
theorem d_O_reader_44 : decode prog_1_method_10_code 44 = .ok (.ireturn, 1) := by decide +kernel
theorem d_O_set_0 : decode prog_1_method_11_code 0 = .ok (.iload_n 1, 1) := by decide +kernel
theorem d_O_set_1 : decode prog_1_method_11_code 1 = .ok (.iconst 0, 1) := by decide +kernel
theorem d_O_set_2 : decode prog_1_method_11_code 2 = .ok (.iconst 1, 1) := by decide +kernel
theorem d_O_set_3 : decode prog_1_method_11_code 3 = .ok (.invokestatic 86, 3) := by decide +kernel
theorem d_O_set_6 : decode prog_1_method_11_code 6 = .ok (.ifCond .eq 14, 3) := by decide +kernel
theorem d_O_set_9 : decode prog_1_method_11_code 9 = .ok (.iload_n 2, 1) := by decide +kernel
theorem d_O_set_10 : decode prog_1_method_11_code 10 = .ok (.iconst 0, 1) := by decide +kernel
theorem d_O_set_11 : decode prog_1_method_11_code 11 = .ok (.sipush 999, 3) := by decide +kernel
theorem d_O_set_14 : decode prog_1_method_11_code 14 = .ok (.invokestatic 86, 3) := by decide +kernel
theorem d_O_set_17 : decode prog_1_method_11_code 17 = .ok (.ifCond .ne 6, 3) := by decide +kernel
theorem d_O_set_20 : decode prog_1_method_11_code 20 = .ok (.bipush (-2), 2) := by decide +kernel
theorem d_O_set_22 : decode prog_1_method_11_code 22 = .ok (.ireturn, 1) := by decide +kernel
theorem d_O_set_23 : decode prog_1_method_11_code 23 = .ok (.iload_n 1, 1) := by decide +kernel
theorem d_O_set_24 : decode prog_1_method_11_code 24 = .ok (.ifCond .ne 10, 3) := by decide +kernel
theorem d_O_set_27 : decode prog_1_method_11_code 27 = .ok (.aload_n 0, 1) := by decide +kernel
theorem d_O_set_28 : decode prog_1_method_11_code 28 = .ok (.getfield 76, 3) := by decide +kernel
theorem d_O_set_31 : decode prog_1_method_11_code 31 = .ok (.goto 7, 3) := by decide +kernel
theorem d_O_set_34 : decode prog_1_method_11_code 34 = .ok (.aload_n 0, 1) := by decide +kernel
theorem d_O_set_35 : decode prog_1_method_11_code 35 = .ok (.getfield 80, 3) := by decide +kernel
theorem d_O_set_38 : decode prog_1_method_11_code 38 = .ok (.istore_n 3, 1) := by decide +kernel
theorem d_O_set_39 : decode prog_1_method_11_code 39 = .ok (.iload_n 1, 1) := by decide +kernel
theorem d_O_set_40 : decode prog_1_method_11_code 40 = .ok (.ifCond .ne 11, 3) := by decide +kernel
theorem d_O_set_43 : decode prog_1_method_11_code 43 = .ok (.aload_n 0, 1) := by decide +kernel
theorem d_O_set_44 : decode prog_1_method_11_code 44 = .ok (.iload_n 2, 1) := by decide +kernel
theorem d_O_set_45 : decode prog_1_method_11_code 45 = .ok (.putfield 76, 3) := by decide +kernel
theorem d_O_set_48 : decode prog_1_method_11_code 48 = .ok (.goto 8, 3) := by decide +kernel
theorem d_O_set_51 : decode prog_1_method_11_code 51 = .ok (.aload_n 0, 1) := by decide +kernel
theorem d_O_set_52 : decode prog_1_method_11_code 52 = .ok (.iload_n 2, 1) := by decide +kernel
theorem d_O_set_53 : decode prog_1_method_11_code 53 = .ok (.putfield 80, 3) := by decide +kernel
theorem d_O_set_56 : decode prog_1_method_11_code 56 = .ok (.iload_n 3, 1) := by decide +kernel
theorem d_O_set_57 : decode prog_1_method_11_code 57 = .ok (.ireturn, 1) := by decide +kernel
theorem d_O_time_0 : decode prog_1_method_12_code 0 = .ok (.iload_n 1, 1) := by decide +kernel
theorem d_O_time_1 : decode prog_1_method_12_code 1 = .ok (.invokestatic 121, 3) := by decide +kernel
theorem d_O_time_4 : decode prog_1_method_12_code 4 = .ok (.ifCond .eq 11, 3) := by decide +kernel
theorem d_O_time_7 : decode prog_1_method_12_code 7 = .ok (.aload_n 0, 1) := by decide +kernel
theorem d_O_time_8 : decode prog_1_method_12_code 8 = .ok (.iload_n 2, 1) := by decide +kernel
theorem d_O_time_9 : decode prog_1_method_12_code 9 = .ok (.invokevirtual 104, 3) := by decide +kernel
theorem d_O_time_12 : decode prog_1_method_12_code 12 = .ok (.ifCond .ne 6, 3) := by decide +kernel
theorem d_O_time_15 : decode prog_1_method_12_code 15 = .ok (.bipush (-2), 2) := by decide +kernel
theorem d_O_time_17 : decode prog_1_method_12_code 17 = .ok (.ireturn, 1) := by decide +kernel
theorem d_O_time_18 : decode prog_1_method_12_code 18 = .ok (.aload_n 0, 1) := by decide +kernel
theorem d_O_time_19 : decode prog_1_method_12_code 19 = .ok (.getfield 21, 3) := by decide +kernel
theorem d_O_time_22 : decode prog_1_method_12_code 22 = .ok (.iload_n 1, 1) := by decide +kernel
theorem d_O_time_23 : decode prog_1_method_12_code 23 = .ok (.iload_n 2, 1) := by decide +kernel
theorem d_O_time_24 : decode prog_1_method_12_code 24 = .ok (.invokevirtual 169, 3) := by decide +kernel
theorem d_O_time_27 : decode prog_1_method_12_code 27 = .ok (.ireturn, 1) := by decide +kernel
theorem d_O_evening_0 : decode prog_1_method_13_code 0 = .ok (.iload_n 1, 1) := by decide +kernel
theorem d_O_evening_1 : decode prog_1_method_13_code 1 = .ok (.invokestatic 172, 3) := by decide +kernel
theorem d_O_evening_4 : decode prog_1_method_13_code 4 = .ok (.ifCond .eq 20, 3) := by decide +kernel
theorem d_O_evening_7 : decode prog_1_method_13_code 7 = .ok (.aload_n 0, 1) := by decide +kernel
theorem d_O_evening_8 : decode prog_1_method_13_code 8 = .ok (.iload_n 2, 1) := by decide +kernel
theorem d_O_evening_9 : decode prog_1_method_13_code 9 = .ok (.invokevirtual 104, 3) := by decide +kernel
theorem d_O_evening_12 : decode prog_1_method_13_code 12 = .ok (.ifCond .eq 12, 3) := by decide +kernel
theorem d_O_evening_15 : decode prog_1_method_13_code 15 = .ok (.iload_n 3, 1) := by decide +kernel
theorem d_O_evening_16 : decode prog_1_method_13_code 16 = .ok (.iconst 0, 1) := by decide +kernel
theorem d_O_evening_17 : decode prog_1_method_13_code 17 = .ok (.iconst 2, 1) := by decide +kernel
theorem d_O_evening_18 : decode prog_1_method_13_code 18 = .ok (.invokestatic 86, 3) := by decide +kernel
theorem d_O_evening_21 : decode prog_1_method_13_code 21 = .ok (.ifCond .ne 6, 3) := by decide +kernel
theorem d_O_evening_24 : decode prog_1_method_13_code 24 = .ok (.bipush (-2), 2) := by decide +kernel
theorem d_O_evening_26 : decode prog_1_method_13_code 26 = .ok (.ireturn, 1) := by decide +kernel
theorem d_O_evening_27 : decode prog_1_method_13_code 27 = .ok (.aload_n 0, 1) := by decide +kernel
theorem d_O_evening_28 : decode prog_1_method_13_code 28 = .ok (.getfield 30, 3) := by decide +kernel
theorem d_O_evening_31 : decode prog_1_method_13_code 31 = .ok (.iload_n 1, 1) := by decide +kernel
theorem d_O_evening_32 : decode prog_1_method_13_code 32 = .ok (.iload_n 2, 1) := by decide +kernel
theorem d_O_evening_33 : decode prog_1_method_13_code 33 = .ok (.aload_n 0, 1) := by decide +kernel
theorem d_O_evening_34 : decode prog_1_method_13_code 34 = .ok (.getfield 76, 3) := by decide +kernel
theorem d_O_evening_37 : decode prog_1_method_13_code 37 = .ok (.invokevirtual 175, 3) := by decide +kernel
theorem d_O_evening_40 : decode prog_1_method_13_code 40 = .ok (.iload_n 3, 1) := by decide +kernel
theorem d_O_evening_41 : decode prog_1_method_13_code 41 = .ok (.ifCond .ne 11, 3) := by decide +kernel
theorem d_O_evening_44 : decode prog_1_method_13_code 44 = .ok (.aload_n 0, 1) := by decide +kernel
theorem d_O_evening_45 : decode prog_1_method_13_code 45 = .ok (.getfield 30, 3) := by decide +kernel
theorem d_O_evening_48 : decode prog_1_method_13_code 48 = .ok (.invokevirtual 179, 3) := by decide +kernel
theorem d_O_evening_51 : decode prog_1_method_13_code 51 = .ok (.ireturn, 1) := by decide +kernel
theorem d_O_evening_52 : decode prog_1_method_13_code 52 = .ok (.iload_n 3, 1) := by decide +kernel
theorem d_O_evening_53 : decode prog_1_method_13_code 53 = .ok (.iconst 1, 1) := by decide +kernel
theorem d_O_evening_54 : decode prog_1_method_13_code 54 = .ok (.if_icmp .ne 13, 3) := by decide +kernel
theorem d_O_evening_57 : decode prog_1_method_13_code 57 = .ok (.aload_n 0, 1) := by decide +kernel
theorem d_O_evening_58 : decode prog_1_method_13_code 58 = .ok (.getfield 30, 3) := by decide +kernel
theorem d_O_evening_61 : decode prog_1_method_13_code 61 = .ok (.invokevirtual 182, 3) := by decide +kernel
theorem d_O_evening_64 : decode prog_1_method_13_code 64 = .ok (.goto 10, 3) := by decide +kernel
theorem d_O_evening_67 : decode prog_1_method_13_code 67 = .ok (.aload_n 0, 1) := by decide +kernel
theorem d_O_evening_68 : decode prog_1_method_13_code 68 = .ok (.getfield 30, 3) := by decide +kernel
theorem d_O_evening_71 : decode prog_1_method_13_code 71 = .ok (.invokevirtual 185, 3) := by decide +kernel
theorem d_O_evening_74 : decode prog_1_method_13_code 74 = .ok (.ireturn, 1) := by decide +kernel
theorem d_O_waited_0 : decode prog_1_method_14_code 0 = .ok (.iload_n 1, 1) := by decide +kernel
theorem d_O_waited_1 : decode prog_1_method_14_code 1 = .ok (.invokestatic 172, 3) := by decide +kernel
theorem d_O_waited_4 : decode prog_1_method_14_code 4 = .ok (.ifCond .eq 21, 3) := by decide +kernel
theorem d_O_waited_7 : decode prog_1_method_14_code 7 = .ok (.aload_n 0, 1) := by decide +kernel
theorem d_O_waited_8 : decode prog_1_method_14_code 8 = .ok (.iload_n 2, 1) := by decide +kernel
theorem d_O_waited_9 : decode prog_1_method_14_code 9 = .ok (.invokevirtual 104, 3) := by decide +kernel
theorem d_O_waited_12 : decode prog_1_method_14_code 12 = .ok (.ifCond .eq 13, 3) := by decide +kernel
theorem d_O_waited_15 : decode prog_1_method_14_code 15 = .ok (.iload 4, 2) := by decide +kernel
theorem d_O_waited_17 : decode prog_1_method_14_code 17 = .ok (.iconst 0, 1) := by decide +kernel
theorem d_O_waited_18 : decode prog_1_method_14_code 18 = .ok (.iconst 1, 1) := by decide +kernel
theorem d_O_waited_19 : decode prog_1_method_14_code 19 = .ok (.invokestatic 86, 3) := by decide +kernel
theorem d_O_waited_22 : decode prog_1_method_14_code 22 = .ok (.ifCond .ne 6, 3) := by decide +kernel
theorem d_O_waited_25 : decode prog_1_method_14_code 25 = .ok (.bipush (-2), 2) := by decide +kernel
theorem d_O_waited_27 : decode prog_1_method_14_code 27 = .ok (.ireturn, 1) := by decide +kernel
theorem d_O_waited_28 : decode prog_1_method_14_code 28 = .ok (.iload_n 3, 1) := by decide +kernel
theorem d_O_waited_29 : decode prog_1_method_14_code 29 = .ok (.invokestatic 121, 3) := by decide +kernel
theorem d_O_waited_32 : decode prog_1_method_14_code 32 = .ok (.ifCond .eq 11, 3) := by decide +kernel
theorem d_O_waited_35 : decode prog_1_method_14_code 35 = .ok (.iload_n 1, 1) := by decide +kernel
theorem d_O_waited_36 : decode prog_1_method_14_code 36 = .ok (.iload_n 3, 1) := by decide +kernel
theorem d_O_waited_37 : decode prog_1_method_14_code 37 = .ok (.invokestatic 188, 3) := by decide +kernel
theorem d_O_waited_40 : decode prog_1_method_14_code 40 = .ok (.ifCond .ne 6, 3) := by decide +kernel
theorem d_O_waited_43 : decode prog_1_method_14_code 43 = .ok (.bipush (-2), 2) := by decide +kernel
theorem d_O_waited_45 : decode prog_1_method_14_code 45 = .ok (.ireturn, 1) := by decide +kernel
theorem d_O_waited_46 : decode prog_1_method_14_code 46 = .ok (.aload_n 0, 1) := by decide +kernel
theorem d_O_waited_47 : decode prog_1_method_14_code 47 = .ok (.getfield 30, 3) := by decide +kernel
theorem d_O_waited_50 : decode prog_1_method_14_code 50 = .ok (.iload_n 1, 1) := by decide +kernel
theorem d_O_waited_51 : decode prog_1_method_14_code 51 = .ok (.iload_n 2, 1) := by decide +kernel
theorem d_O_waited_52 : decode prog_1_method_14_code 52 = .ok (.aload_n 0, 1) := by decide +kernel
theorem d_O_waited_53 : decode prog_1_method_14_code 53 = .ok (.getfield 76, 3) := by decide +kernel
theorem d_O_waited_56 : decode prog_1_method_14_code 56 = .ok (.invokevirtual 175, 3) := by decide +kernel
theorem d_O_waited_59 : decode prog_1_method_14_code 59 = .ok (.iload 4, 2) := by decide +kernel
theorem d_O_waited_61 : decode prog_1_method_14_code 61 = .ok (.ifCond .ne 14, 3) := by decide +kernel
theorem d_O_waited_64 : decode prog_1_method_14_code 64 = .ok (.aload_n 0, 1) := by decide +kernel
theorem d_O_waited_65 : decode prog_1_method_14_code 65 = .ok (.getfield 30, 3) := by decide +kernel
theorem d_O_waited_68 : decode prog_1_method_14_code 68 = .ok (.iload_n 3, 1) := by decide +kernel
theorem d_O_waited_69 : decode prog_1_method_14_code 69 = .ok (.invokevirtual 192, 3) := by decide +kernel
theorem d_O_waited_72 : decode prog_1_method_14_code 72 = .ok (.goto 11, 3) := by decide +kernel
theorem d_O_waited_75 : decode prog_1_method_14_code 75 = .ok (.aload_n 0, 1) := by decide +kernel
theorem d_O_waited_76 : decode prog_1_method_14_code 76 = .ok (.getfield 30, 3) := by decide +kernel
theorem d_O_waited_79 : decode prog_1_method_14_code 79 = .ok (.iload_n 3, 1) := by decide +kernel
theorem d_O_waited_80 : decode prog_1_method_14_code 80 = .ok (.invokevirtual 195, 3) := by decide +kernel
theorem d_O_waited_83 : decode prog_1_method_14_code 83 = .ok (.ireturn, 1) := by decide +kernel
theorem d_O_best_0 : decode prog_1_method_15_code 0 = .ok (.iload_n 1, 1) := by decide +kernel
theorem d_O_best_1 : decode prog_1_method_15_code 1 = .ok (.iload_n 2, 1) := by decide +kernel
theorem d_O_best_2 : decode prog_1_method_15_code 2 = .ok (.invokestatic 198, 3) := by decide +kernel
theorem d_O_best_5 : decode prog_1_method_15_code 5 = .ok (.ifCond .eq 12, 3) := by decide +kernel
theorem d_O_best_8 : decode prog_1_method_15_code 8 = .ok (.iload_n 3, 1) := by decide +kernel
theorem d_O_best_9 : decode prog_1_method_15_code 9 = .ok (.iconst 0, 1) := by decide +kernel
theorem d_O_best_10 : decode prog_1_method_15_code 10 = .ok (.iconst 2, 1) := by decide +kernel
theorem d_O_best_11 : decode prog_1_method_15_code 11 = .ok (.invokestatic 86, 3) := by decide +kernel
theorem d_O_best_14 : decode prog_1_method_15_code 14 = .ok (.ifCond .ne 6, 3) := by decide +kernel
theorem d_O_best_17 : decode prog_1_method_15_code 17 = .ok (.bipush (-2), 2) := by decide +kernel
theorem d_O_best_19 : decode prog_1_method_15_code 19 = .ok (.ireturn, 1) := by decide +kernel
theorem d_O_best_20 : decode prog_1_method_15_code 20 = .ok (.aload_n 0, 1) := by decide +kernel
theorem d_O_best_21 : decode prog_1_method_15_code 21 = .ok (.getfield 37, 3) := by decide +kernel
theorem d_O_best_24 : decode prog_1_method_15_code 24 = .ok (.iload_n 1, 1) := by decide +kernel
theorem d_O_best_25 : decode prog_1_method_15_code 25 = .ok (.iload_n 2, 1) := by decide +kernel
theorem d_O_best_26 : decode prog_1_method_15_code 26 = .ok (.aload_n 0, 1) := by decide +kernel
theorem d_O_best_27 : decode prog_1_method_15_code 27 = .ok (.getfield 76, 3) := by decide +kernel
theorem d_O_best_30 : decode prog_1_method_15_code 30 = .ok (.aload_n 0, 1) := by decide +kernel
theorem d_O_best_31 : decode prog_1_method_15_code 31 = .ok (.getfield 80, 3) := by decide +kernel
theorem d_O_best_34 : decode prog_1_method_15_code 34 = .ok (.invokevirtual 201, 3) := by decide +kernel
theorem d_O_best_37 : decode prog_1_method_15_code 37 = .ok (.iload_n 3, 1) := by decide +kernel
theorem d_O_best_38 : decode prog_1_method_15_code 38 = .ok (.ifCond .ne 11, 3) := by decide +kernel
theorem d_O_best_41 : decode prog_1_method_15_code 41 = .ok (.aload_n 0, 1) := by decide +kernel
theorem d_O_best_42 : decode prog_1_method_15_code 42 = .ok (.getfield 37, 3) := by decide +kernel
theorem d_O_best_45 : decode prog_1_method_15_code 45 = .ok (.invokevirtual 205, 3) := by decide +kernel
theorem d_O_best_48 : decode prog_1_method_15_code 48 = .ok (.ireturn, 1) := by decide +kernel
theorem d_O_best_49 : decode prog_1_method_15_code 49 = .ok (.iload_n 3, 1) := by decide +kernel
theorem d_O_best_50 : decode prog_1_method_15_code 50 = .ok (.iconst 1, 1) := by decide +kernel
theorem d_O_best_51 : decode prog_1_method_15_code 51 = .ok (.if_icmp .ne 13, 3) := by decide +kernel
theorem d_O_best_54 : decode prog_1_method_15_code 54 = .ok (.aload_n 0, 1) := by decide +kernel
theorem d_O_best_55 : decode prog_1_method_15_code 55 = .ok (.getfield 37, 3) := by decide +kernel
theorem d_O_best_58 : decode prog_1_method_15_code 58 = .ok (.invokevirtual 208, 3) := by decide +kernel
theorem d_O_best_61 : decode prog_1_method_15_code 61 = .ok (.goto 10, 3) := by decide +kernel
theorem d_O_best_64 : decode prog_1_method_15_code 64 = .ok (.aload_n 0, 1) := by decide +kernel
theorem d_O_best_65 : decode prog_1_method_15_code 65 = .ok (.getfield 37, 3) := by decide +kernel
theorem d_O_best_68 : decode prog_1_method_15_code 68 = .ok (.invokevirtual 211, 3) := by decide +kernel
theorem d_O_best_71 : decode prog_1_method_15_code 71 = .ok (.ireturn, 1) := by decide +kernel
theorem d_O_how_0 : decode prog_1_method_16_code 0 = .ok (.iload_n 1, 1) := by decide +kernel
theorem d_O_how_1 : decode prog_1_method_16_code 1 = .ok (.iload_n 2, 1) := by decide +kernel
theorem d_O_how_2 : decode prog_1_method_16_code 2 = .ok (.invokestatic 198, 3) := by decide +kernel
theorem d_O_how_5 : decode prog_1_method_16_code 5 = .ok (.ifCond .eq 11, 3) := by decide +kernel
theorem d_O_how_8 : decode prog_1_method_16_code 8 = .ok (.aload_n 0, 1) := by decide +kernel
theorem d_O_how_9 : decode prog_1_method_16_code 9 = .ok (.iload_n 3, 1) := by decide +kernel
theorem d_O_how_10 : decode prog_1_method_16_code 10 = .ok (.invokevirtual 104, 3) := by decide +kernel
theorem d_O_how_13 : decode prog_1_method_16_code 13 = .ok (.ifCond .ne 6, 3) := by decide +kernel
theorem d_O_how_16 : decode prog_1_method_16_code 16 = .ok (.bipush (-2), 2) := by decide +kernel
theorem d_O_how_18 : decode prog_1_method_16_code 18 = .ok (.ireturn, 1) := by decide +kernel
theorem d_O_how_19 : decode prog_1_method_16_code 19 = .ok (.aload_n 0, 1) := by decide +kernel
theorem d_O_how_20 : decode prog_1_method_16_code 20 = .ok (.getfield 37, 3) := by decide +kernel
theorem d_O_how_23 : decode prog_1_method_16_code 23 = .ok (.iload_n 1, 1) := by decide +kernel
theorem d_O_how_24 : decode prog_1_method_16_code 24 = .ok (.iload_n 2, 1) := by decide +kernel
theorem d_O_how_25 : decode prog_1_method_16_code 25 = .ok (.aload_n 0, 1) := by decide +kernel
theorem d_O_how_26 : decode prog_1_method_16_code 26 = .ok (.getfield 76, 3) := by decide +kernel
theorem d_O_how_29 : decode prog_1_method_16_code 29 = .ok (.aload_n 0, 1) := by decide +kernel
theorem d_O_how_30 : decode prog_1_method_16_code 30 = .ok (.getfield 80, 3) := by decide +kernel
theorem d_O_how_33 : decode prog_1_method_16_code 33 = .ok (.invokevirtual 201, 3) := by decide +kernel
theorem d_O_how_36 : decode prog_1_method_16_code 36 = .ok (.aload_n 0, 1) := by decide +kernel
theorem d_O_how_37 : decode prog_1_method_16_code 37 = .ok (.getfield 37, 3) := by decide +kernel
theorem d_O_how_40 : decode prog_1_method_16_code 40 = .ok (.iload_n 3, 1) := by decide +kernel
theorem d_O_how_41 : decode prog_1_method_16_code 41 = .ok (.invokevirtual 213, 3) := by decide +kernel
theorem d_O_how_44 : decode prog_1_method_16_code 44 = .ok (.ireturn, 1) := by decide +kernel
theorem d_O_gain_0 : decode prog_1_method_17_code 0 = .ok (.iload_n 1, 1) := by decide +kernel
theorem d_O_gain_1 : decode prog_1_method_17_code 1 = .ok (.iload_n 2, 1) := by decide +kernel
theorem d_O_gain_2 : decode prog_1_method_17_code 2 = .ok (.invokestatic 198, 3) := by decide +kernel
theorem d_O_gain_5 : decode prog_1_method_17_code 5 = .ok (.ifCond .eq 22, 3) := by decide +kernel
theorem d_O_gain_8 : decode prog_1_method_17_code 8 = .ok (.iload_n 3, 1) := by decide +kernel
theorem d_O_gain_9 : decode prog_1_method_17_code 9 = .ok (.iconst 0, 1) := by decide +kernel
theorem d_O_gain_10 : decode prog_1_method_17_code 10 = .ok (.iconst 3, 1) := by decide +kernel
theorem d_O_gain_11 : decode prog_1_method_17_code 11 = .ok (.invokestatic 86, 3) := by decide +kernel
theorem d_O_gain_14 : decode prog_1_method_17_code 14 = .ok (.ifCond .eq 13, 3) := by decide +kernel
theorem d_O_gain_17 : decode prog_1_method_17_code 17 = .ok (.iload 4, 2) := by decide +kernel
theorem d_O_gain_19 : decode prog_1_method_17_code 19 = .ok (.iconst 0, 1) := by decide +kernel
theorem d_O_gain_20 : decode prog_1_method_17_code 20 = .ok (.iconst 3, 1) := by decide +kernel
theorem d_O_gain_21 : decode prog_1_method_17_code 21 = .ok (.invokestatic 86, 3) := by decide +kernel
theorem d_O_gain_24 : decode prog_1_method_17_code 24 = .ok (.ifCond .ne 7, 3) := by decide +kernel
theorem d_O_gain_27 : decode prog_1_method_17_code 27 = .ok (.sipush (-10002), 3) := by decide +kernel
theorem d_O_gain_30 : decode prog_1_method_17_code 30 = .ok (.ireturn, 1) := by decide +kernel
theorem d_O_gain_31 : decode prog_1_method_17_code 31 = .ok (.aload_n 0, 1) := by decide +kernel
theorem d_O_gain_32 : decode prog_1_method_17_code 32 = .ok (.getfield 44, 3) := by decide +kernel
theorem d_O_gain_35 : decode prog_1_method_17_code 35 = .ok (.iload_n 1, 1) := by decide +kernel
theorem d_O_gain_36 : decode prog_1_method_17_code 36 = .ok (.iload_n 2, 1) := by decide +kernel
theorem d_O_gain_37 : decode prog_1_method_17_code 37 = .ok (.iload_n 3, 1) := by decide +kernel
theorem d_O_gain_38 : decode prog_1_method_17_code 38 = .ok (.iload 4, 2) := by decide +kernel
theorem d_O_gain_40 : decode prog_1_method_17_code 40 = .ok (.invokevirtual 216, 3) := by decide +kernel
theorem d_O_gain_43 : decode prog_1_method_17_code 43 = .ok (.ireturn, 1) := by decide +kernel
theorem d_O_rests_0 : decode prog_1_method_18_code 0 = .ok (.iload_n 1, 1) := by decide +kernel
theorem d_O_rests_1 : decode prog_1_method_18_code 1 = .ok (.iload_n 2, 1) := by decide +kernel
theorem d_O_rests_2 : decode prog_1_method_18_code 2 = .ok (.invokestatic 198, 3) := by decide +kernel
theorem d_O_rests_5 : decode prog_1_method_18_code 5 = .ok (.ifCond .eq 8, 3) := by decide +kernel
theorem d_O_rests_8 : decode prog_1_method_18_code 8 = .ok (.iload_n 3, 1) := by decide +kernel
theorem d_O_rests_9 : decode prog_1_method_18_code 9 = .ok (.iconst (-1), 1) := by decide +kernel
theorem d_O_rests_10 : decode prog_1_method_18_code 10 = .ok (.if_icmp .ge 6, 3) := by decide +kernel
theorem d_O_rests_13 : decode prog_1_method_18_code 13 = .ok (.bipush (-2), 2) := by decide +kernel
theorem d_O_rests_15 : decode prog_1_method_18_code 15 = .ok (.ireturn, 1) := by decide +kernel
theorem d_O_rests_16 : decode prog_1_method_18_code 16 = .ok (.aload_n 0, 1) := by decide +kernel
theorem d_O_rests_17 : decode prog_1_method_18_code 17 = .ok (.getfield 44, 3) := by decide +kernel
theorem d_O_rests_20 : decode prog_1_method_18_code 20 = .ok (.iload_n 1, 1) := by decide +kernel
theorem d_O_rests_21 : decode prog_1_method_18_code 21 = .ok (.iload_n 2, 1) := by decide +kernel
theorem d_O_rests_22 : decode prog_1_method_18_code 22 = .ok (.invokevirtual 220, 3) := by decide +kernel
theorem d_O_rests_25 : decode prog_1_method_18_code 25 = .ok (.iload_n 3, 1) := by decide +kernel
theorem d_O_rests_26 : decode prog_1_method_18_code 26 = .ok (.iconst (-1), 1) := by decide +kernel
theorem d_O_rests_27 : decode prog_1_method_18_code 27 = .ok (.if_icmp .ne 13, 3) := by decide +kernel
theorem d_O_rests_30 : decode prog_1_method_18_code 30 = .ok (.aload_n 0, 1) := by decide +kernel
theorem d_O_rests_31 : decode prog_1_method_18_code 31 = .ok (.getfield 44, 3) := by decide +kernel
theorem d_O_rests_34 : decode prog_1_method_18_code 34 = .ok (.invokevirtual 224, 3) := by decide +kernel
theorem d_O_rests_37 : decode prog_1_method_18_code 37 = .ok (.goto 11, 3) := by decide +kernel
theorem d_O_rests_40 : decode prog_1_method_18_code 40 = .ok (.aload_n 0, 1) := by decide +kernel
theorem d_O_rests_41 : decode prog_1_method_18_code 41 = .ok (.getfield 44, 3) := by decide +kernel
theorem d_O_rests_44 : decode prog_1_method_18_code 44 = .ok (.iload_n 3, 1) := by decide +kernel
theorem d_O_rests_45 : decode prog_1_method_18_code 45 = .ok (.invokevirtual 227, 3) := by decide +kernel
theorem d_O_rests_48 : decode prog_1_method_18_code 48 = .ok (.ireturn, 1) := by decide +kernel
theorem d_O_pairs_0 : decode prog_1_method_19_code 0 = .ok (.iload_n 1, 1) := by decide +kernel
theorem d_O_pairs_1 : decode prog_1_method_19_code 1 = .ok (.invokestatic 172, 3) := by decide +kernel
theorem d_O_pairs_4 : decode prog_1_method_19_code 4 = .ok (.ifCond .ne 6, 3) := by decide +kernel
theorem d_O_pairs_7 : decode prog_1_method_19_code 7 = .ok (.bipush (-2), 2) := by decide +kernel
theorem d_O_pairs_9 : decode prog_1_method_19_code 9 = .ok (.ireturn, 1) := by decide +kernel
theorem d_O_pairs_10 : decode prog_1_method_19_code 10 = .ok (.iload_n 2, 1) := by decide +kernel
theorem d_O_pairs_11 : decode prog_1_method_19_code 11 = .ok (.iconst (-1), 1) := by decide +kernel
theorem d_O_pairs_12 : decode prog_1_method_19_code 12 = .ok (.if_icmp .eq 21, 3) := by decide +kernel
theorem d_O_pairs_15 : decode prog_1_method_19_code 15 = .ok (.iload_n 2, 1) := by decide +kernel
theorem d_O_pairs_16 : decode prog_1_method_19_code 16 = .ok (.invokestatic 121, 3) := by decide +kernel
theorem d_O_pairs_19 : decode prog_1_method_19_code 19 = .ok (.ifCond .eq 11, 3) := by decide +kernel
theorem d_O_pairs_22 : decode prog_1_method_19_code 22 = .ok (.iload_n 1, 1) := by decide +kernel
theorem d_O_pairs_23 : decode prog_1_method_19_code 23 = .ok (.iload_n 2, 1) := by decide +kernel
theorem d_O_pairs_24 : decode prog_1_method_19_code 24 = .ok (.invokestatic 188, 3) := by decide +kernel
theorem d_O_pairs_27 : decode prog_1_method_19_code 27 = .ok (.ifCond .ne 6, 3) := by decide +kernel
theorem d_O_pairs_30 : decode prog_1_method_19_code 30 = .ok (.bipush (-2), 2) := by decide +kernel
theorem d_O_pairs_32 : decode prog_1_method_19_code 32 = .ok (.ireturn, 1) := by decide +kernel
theorem d_O_pairs_33 : decode prog_1_method_19_code 33 = .ok (.iload_n 1, 1) := by decide +kernel
theorem d_O_pairs_34 : decode prog_1_method_19_code 34 = .ok (.invokestatic 230, 3) := by decide +kernel
theorem d_O_pairs_37 : decode prog_1_method_19_code 37 = .ok (.iconst 2, 1) := by decide +kernel
theorem d_O_pairs_38 : decode prog_1_method_19_code 38 = .ok (.irem, 1) := by decide +kernel
theorem d_O_pairs_39 : decode prog_1_method_19_code 39 = .ok (.ifCond .eq 6, 3) := by decide +kernel
theorem d_O_pairs_42 : decode prog_1_method_19_code 42 = .ok (.bipush (-3), 2) := by decide +kernel
theorem d_O_pairs_44 : decode prog_1_method_19_code 44 = .ok (.ireturn, 1) := by decide +kernel
theorem d_O_pairs_45 : decode prog_1_method_19_code 45 = .ok (.aload_n 0, 1) := by decide +kernel
theorem d_O_pairs_46 : decode prog_1_method_19_code 46 = .ok (.getfield 51, 3) := by decide +kernel
theorem d_O_pairs_49 : decode prog_1_method_19_code 49 = .ok (.iload_n 1, 1) := by decide +kernel
theorem d_O_pairs_50 : decode prog_1_method_19_code 50 = .ok (.invokevirtual 235, 3) := by decide +kernel
theorem d_O_pairs_53 : decode prog_1_method_19_code 53 = .ok (.iload_n 2, 1) := by decide +kernel
theorem d_O_pairs_54 : decode prog_1_method_19_code 54 = .ok (.iconst (-1), 1) := by decide +kernel
theorem d_O_pairs_55 : decode prog_1_method_19_code 55 = .ok (.if_icmp .ne 13, 3) := by decide +kernel
theorem d_O_pairs_58 : decode prog_1_method_19_code 58 = .ok (.aload_n 0, 1) := by decide +kernel
theorem d_O_pairs_59 : decode prog_1_method_19_code 59 = .ok (.getfield 51, 3) := by decide +kernel
theorem d_O_pairs_62 : decode prog_1_method_19_code 62 = .ok (.invokevirtual 239, 3) := by decide +kernel
theorem d_O_pairs_65 : decode prog_1_method_19_code 65 = .ok (.goto 11, 3) := by decide +kernel
theorem d_O_pairs_68 : decode prog_1_method_19_code 68 = .ok (.aload_n 0, 1) := by decide +kernel
theorem d_O_pairs_69 : decode prog_1_method_19_code 69 = .ok (.getfield 51, 3) := by decide +kernel
theorem d_O_pairs_72 : decode prog_1_method_19_code 72 = .ok (.iload_n 2, 1) := by decide +kernel
theorem d_O_pairs_73 : decode prog_1_method_19_code 73 = .ok (.invokevirtual 240, 3) := by decide +kernel
theorem d_O_pairs_76 : decode prog_1_method_19_code 76 = .ok (.ireturn, 1) := by decide +kernel
theorem d_O_turn_0 : decode prog_1_method_20_code 0 = .ok (.iload_n 1, 1) := by decide +kernel
theorem d_O_turn_1 : decode prog_1_method_20_code 1 = .ok (.iconst 0, 1) := by decide +kernel
theorem d_O_turn_2 : decode prog_1_method_20_code 2 = .ok (.bipush 7, 2) := by decide +kernel
theorem d_O_turn_4 : decode prog_1_method_20_code 4 = .ok (.invokestatic 86, 3) := by decide +kernel
theorem d_O_turn_7 : decode prog_1_method_20_code 7 = .ok (.ifCond .eq 21, 3) := by decide +kernel
theorem d_O_turn_10 : decode prog_1_method_20_code 10 = .ok (.iload_n 2, 1) := by decide +kernel
theorem d_O_turn_11 : decode prog_1_method_20_code 11 = .ok (.invokestatic 172, 3) := by decide +kernel
theorem d_O_turn_14 : decode prog_1_method_20_code 14 = .ok (.ifCond .eq 14, 3) := by decide +kernel
theorem d_O_turn_17 : decode prog_1_method_20_code 17 = .ok (.iload_n 3, 1) := by decide +kernel
theorem d_O_turn_18 : decode prog_1_method_20_code 18 = .ok (.iconst 0, 1) := by decide +kernel
theorem d_O_turn_19 : decode prog_1_method_20_code 19 = .ok (.sipush 999, 3) := by decide +kernel
theorem d_O_turn_22 : decode prog_1_method_20_code 22 = .ok (.invokestatic 86, 3) := by decide +kernel
theorem d_O_turn_25 : decode prog_1_method_20_code 25 = .ok (.ifCond .ne 6, 3) := by decide +kernel
theorem d_O_turn_28 : decode prog_1_method_20_code 28 = .ok (.bipush (-2), 2) := by decide +kernel
theorem d_O_turn_30 : decode prog_1_method_20_code 30 = .ok (.ireturn, 1) := by decide +kernel
theorem d_O_turn_31 : decode prog_1_method_20_code 31 = .ok (.aload_n 0, 1) := by decide +kernel
theorem d_O_turn_32 : decode prog_1_method_20_code 32 = .ok (.getfield 58, 3) := by decide +kernel
theorem d_O_turn_35 : decode prog_1_method_20_code 35 = .ok (.iload_n 1, 1) := by decide +kernel
theorem d_O_turn_36 : decode prog_1_method_20_code 36 = .ok (.iload_n 2, 1) := by decide +kernel
theorem d_O_turn_37 : decode prog_1_method_20_code 37 = .ok (.iload_n 3, 1) := by decide +kernel
theorem d_O_turn_38 : decode prog_1_method_20_code 38 = .ok (.invokevirtual 243, 3) := by decide +kernel
theorem d_O_turn_41 : decode prog_1_method_20_code 41 = .ok (.ifCond .eq 13, 3) := by decide +kernel
theorem d_O_turn_44 : decode prog_1_method_20_code 44 = .ok (.aload_n 0, 1) := by decide +kernel
theorem d_O_turn_45 : decode prog_1_method_20_code 45 = .ok (.getfield 58, 3) := by decide +kernel
theorem d_O_turn_48 : decode prog_1_method_20_code 48 = .ok (.invokevirtual 245, 3) := by decide +kernel
theorem d_O_turn_51 : decode prog_1_method_20_code 51 = .ok (.goto 5, 3) := by decide +kernel
theorem d_O_turn_54 : decode prog_1_method_20_code 54 = .ok (.bipush (-4), 2) := by decide +kernel
theorem d_O_turn_56 : decode prog_1_method_20_code 56 = .ok (.ireturn, 1) := by decide +kernel
theorem d_O_forget_0 : decode prog_1_method_21_code 0 = .ok (.aload_n 0, 1) := by decide +kernel
theorem d_O_forget_1 : decode prog_1_method_21_code 1 = .ok (.getfield 58, 3) := by decide +kernel
theorem d_O_forget_4 : decode prog_1_method_21_code 4 = .ok (.invokevirtual 245, 3) := by decide +kernel
theorem d_O_forget_7 : decode prog_1_method_21_code 7 = .ok (.istore_n 1, 1) := by decide +kernel
theorem d_O_forget_8 : decode prog_1_method_21_code 8 = .ok (.aload_n 0, 1) := by decide +kernel
theorem d_O_forget_9 : decode prog_1_method_21_code 9 = .ok (.getfield 58, 3) := by decide +kernel
theorem d_O_forget_12 : decode prog_1_method_21_code 12 = .ok (.invokevirtual 246, 3) := by decide +kernel
theorem d_O_forget_15 : decode prog_1_method_21_code 15 = .ok (.iload_n 1, 1) := by decide +kernel
theorem d_O_forget_16 : decode prog_1_method_21_code 16 = .ok (.ireturn, 1) := by decide +kernel
theorem d_O_paces_0 : decode prog_1_method_22_code 0 = .ok (.iload_n 1, 1) := by decide +kernel
theorem d_O_paces_1 : decode prog_1_method_22_code 1 = .ok (.invokestatic 121, 3) := by decide +kernel
theorem d_O_paces_4 : decode prog_1_method_22_code 4 = .ok (.ifCond .eq 10, 3) := by decide +kernel
theorem d_O_paces_7 : decode prog_1_method_22_code 7 = .ok (.iload_n 2, 1) := by decide +kernel
theorem d_O_paces_8 : decode prog_1_method_22_code 8 = .ok (.invokestatic 124, 3) := by decide +kernel
theorem d_O_paces_11 : decode prog_1_method_22_code 11 = .ok (.ifCond .ne 6, 3) := by decide +kernel
theorem d_O_paces_14 : decode prog_1_method_22_code 14 = .ok (.bipush (-2), 2) := by decide +kernel
theorem d_O_paces_16 : decode prog_1_method_22_code 16 = .ok (.ireturn, 1) := by decide +kernel
theorem d_O_paces_17 : decode prog_1_method_22_code 17 = .ok (.aload_n 0, 1) := by decide +kernel
theorem d_O_paces_18 : decode prog_1_method_22_code 18 = .ok (.getfield 58, 3) := by decide +kernel
theorem d_O_paces_21 : decode prog_1_method_22_code 21 = .ok (.iload_n 1, 1) := by decide +kernel
theorem d_O_paces_22 : decode prog_1_method_22_code 22 = .ok (.iload_n 2, 1) := by decide +kernel
theorem d_O_paces_23 : decode prog_1_method_22_code 23 = .ok (.invokevirtual 247, 3) := by decide +kernel
theorem d_O_paces_26 : decode prog_1_method_22_code 26 = .ok (.ireturn, 1) := by decide +kernel
theorem d_O_unlike_0 : decode prog_1_method_23_code 0 = .ok (.aload_n 0, 1) := by decide +kernel
theorem d_O_unlike_1 : decode prog_1_method_23_code 1 = .ok (.getfield 58, 3) := by decide +kernel
theorem d_O_unlike_4 : decode prog_1_method_23_code 4 = .ok (.invokevirtual 250, 3) := by decide +kernel
theorem d_O_unlike_7 : decode prog_1_method_23_code 7 = .ok (.ireturn, 1) := by decide +kernel
theorem d_O_done_0 : decode prog_1_method_24_code 0 = .ok (.iload_n 1, 1) := by decide +kernel
theorem d_O_done_1 : decode prog_1_method_24_code 1 = .ok (.invokestatic 172, 3) := by decide +kernel
theorem d_O_done_4 : decode prog_1_method_24_code 4 = .ok (.ifCond .eq 23, 3) := by decide +kernel
theorem d_O_done_7 : decode prog_1_method_24_code 7 = .ok (.iload_n 2, 1) := by decide +kernel
theorem d_O_done_8 : decode prog_1_method_24_code 8 = .ok (.iconst 0, 1) := by decide +kernel
theorem d_O_done_9 : decode prog_1_method_24_code 9 = .ok (.sipush 9999, 3) := by decide +kernel
theorem d_O_done_12 : decode prog_1_method_24_code 12 = .ok (.invokestatic 86, 3) := by decide +kernel
theorem d_O_done_15 : decode prog_1_method_24_code 15 = .ok (.ifCond .eq 12, 3) := by decide +kernel
theorem d_O_done_18 : decode prog_1_method_24_code 18 = .ok (.iload_n 3, 1) := by decide +kernel
theorem d_O_done_19 : decode prog_1_method_24_code 19 = .ok (.iconst 0, 1) := by decide +kernel
theorem d_O_done_20 : decode prog_1_method_24_code 20 = .ok (.iconst 1, 1) := by decide +kernel
theorem d_O_done_21 : decode prog_1_method_24_code 21 = .ok (.invokestatic 86, 3) := by decide +kernel
theorem d_O_done_24 : decode prog_1_method_24_code 24 = .ok (.ifCond .ne 9, 3) := by decide +kernel
theorem d_O_done_27 : decode prog_1_method_24_code 27 = .ok (.bipush (-2), 2) := by decide +kernel
theorem d_O_done_29 : decode prog_1_method_24_code 29 = .ok (.invokestatic 253, 3) := by decide +kernel
theorem d_O_done_32 : decode prog_1_method_24_code 32 = .ok (.lreturn, 1) := by decide +kernel
theorem d_O_done_33 : decode prog_1_method_24_code 33 = .ok (.iload_n 1, 1) := by decide +kernel
theorem d_O_done_34 : decode prog_1_method_24_code 34 = .ok (.invokestatic 230, 3) := by decide +kernel
theorem d_O_done_37 : decode prog_1_method_24_code 37 = .ok (.iconst 3, 1) := by decide +kernel
theorem d_O_done_38 : decode prog_1_method_24_code 38 = .ok (.if_icmp .le 9, 3) := by decide +kernel
theorem d_O_done_41 : decode prog_1_method_24_code 41 = .ok (.bipush (-4), 2) := by decide +kernel
theorem d_O_done_43 : decode prog_1_method_24_code 43 = .ok (.invokestatic 253, 3) := by decide +kernel
theorem d_O_done_46 : decode prog_1_method_24_code 46 = .ok (.lreturn, 1) := by decide +kernel
theorem d_O_done_47 : decode prog_1_method_24_code 47 = .ok (.aload_n 0, 1) := by decide +kernel
theorem d_O_done_48 : decode prog_1_method_24_code 48 = .ok (.getfield 65, 3) := by decide +kernel
theorem d_O_done_51 : decode prog_1_method_24_code 51 = .ok (.iload_n 1, 1) := by decide +kernel
theorem d_O_done_52 : decode prog_1_method_24_code 52 = .ok (.iload_n 2, 1) := by decide +kernel
theorem d_O_done_53 : decode prog_1_method_24_code 53 = .ok (.invokevirtual 257, 3) := by decide +kernel
theorem d_O_done_56 : decode prog_1_method_24_code 56 = .ok (.iload_n 3, 1) := by decide +kernel
theorem d_O_done_57 : decode prog_1_method_24_code 57 = .ok (.ifCond .ne 13, 3) := by decide +kernel
theorem d_O_done_60 : decode prog_1_method_24_code 60 = .ok (.aload_n 0, 1) := by decide +kernel
theorem d_O_done_61 : decode prog_1_method_24_code 61 = .ok (.getfield 65, 3) := by decide +kernel
theorem d_O_done_64 : decode prog_1_method_24_code 64 = .ok (.invokevirtual 260, 3) := by decide +kernel
theorem d_O_done_67 : decode prog_1_method_24_code 67 = .ok (.goto 10, 3) := by decide +kernel
theorem d_O_done_70 : decode prog_1_method_24_code 70 = .ok (.aload_n 0, 1) := by decide +kernel
theorem d_O_done_71 : decode prog_1_method_24_code 71 = .ok (.getfield 65, 3) := by decide +kernel
theorem d_O_done_74 : decode prog_1_method_24_code 74 = .ok (.invokevirtual 264, 3) := by decide +kernel
theorem d_O_done_77 : decode prog_1_method_24_code 77 = .ok (.lreturn, 1) := by decide +kernel
theorem d_O_mean_0 : decode prog_1_method_25_code 0 = .ok (.iload_n 1, 1) := by decide +kernel
theorem d_O_mean_1 : decode prog_1_method_25_code 1 = .ok (.invokestatic 172, 3) := by decide +kernel
theorem d_O_mean_4 : decode prog_1_method_25_code 4 = .ok (.ifCond .eq 12, 3) := by decide +kernel
theorem d_O_mean_7 : decode prog_1_method_25_code 7 = .ok (.iload_n 2, 1) := by decide +kernel
theorem d_O_mean_8 : decode prog_1_method_25_code 8 = .ok (.iconst 0, 1) := by decide +kernel
theorem d_O_mean_9 : decode prog_1_method_25_code 9 = .ok (.iconst 1, 1) := by decide +kernel
theorem d_O_mean_10 : decode prog_1_method_25_code 10 = .ok (.invokestatic 86, 3) := by decide +kernel
theorem d_O_mean_13 : decode prog_1_method_25_code 13 = .ok (.ifCond .ne 9, 3) := by decide +kernel
theorem d_O_mean_16 : decode prog_1_method_25_code 16 = .ok (.bipush (-2), 2) := by decide +kernel
theorem d_O_mean_18 : decode prog_1_method_25_code 18 = .ok (.invokestatic 253, 3) := by decide +kernel
theorem d_O_mean_21 : decode prog_1_method_25_code 21 = .ok (.lreturn, 1) := by decide +kernel
theorem d_O_mean_22 : decode prog_1_method_25_code 22 = .ok (.iload_n 1, 1) := by decide +kernel
theorem d_O_mean_23 : decode prog_1_method_25_code 23 = .ok (.invokestatic 230, 3) := by decide +kernel
theorem d_O_mean_26 : decode prog_1_method_25_code 26 = .ok (.iconst 3, 1) := by decide +kernel
theorem d_O_mean_27 : decode prog_1_method_25_code 27 = .ok (.if_icmp .le 9, 3) := by decide +kernel
theorem d_O_mean_30 : decode prog_1_method_25_code 30 = .ok (.bipush (-4), 2) := by decide +kernel
theorem d_O_mean_32 : decode prog_1_method_25_code 32 = .ok (.invokestatic 253, 3) := by decide +kernel
theorem d_O_mean_35 : decode prog_1_method_25_code 35 = .ok (.lreturn, 1) := by decide +kernel
theorem d_O_mean_36 : decode prog_1_method_25_code 36 = .ok (.aload_n 0, 1) := by decide +kernel
theorem d_O_mean_37 : decode prog_1_method_25_code 37 = .ok (.getfield 65, 3) := by decide +kernel
theorem d_O_mean_40 : decode prog_1_method_25_code 40 = .ok (.iload_n 1, 1) := by decide +kernel
theorem d_O_mean_41 : decode prog_1_method_25_code 41 = .ok (.invokevirtual 267, 3) := by decide +kernel
theorem d_O_mean_44 : decode prog_1_method_25_code 44 = .ok (.iload_n 2, 1) := by decide +kernel
theorem d_O_mean_45 : decode prog_1_method_25_code 45 = .ok (.ifCond .ne 13, 3) := by decide +kernel
theorem d_O_mean_48 : decode prog_1_method_25_code 48 = .ok (.aload_n 0, 1) := by decide +kernel
theorem d_O_mean_49 : decode prog_1_method_25_code 49 = .ok (.getfield 65, 3) := by decide +kernel
theorem d_O_mean_52 : decode prog_1_method_25_code 52 = .ok (.invokevirtual 260, 3) := by decide +kernel
theorem d_O_mean_55 : decode prog_1_method_25_code 55 = .ok (.goto 10, 3) := by decide +kernel
theorem d_O_mean_58 : decode prog_1_method_25_code 58 = .ok (.aload_n 0, 1) := by decide +kernel
theorem d_O_mean_59 : decode prog_1_method_25_code 59 = .ok (.getfield 65, 3) := by decide +kernel
theorem d_O_mean_62 : decode prog_1_method_25_code 62 = .ok (.invokevirtual 264, 3) := by decide +kernel
theorem d_O_mean_65 : decode prog_1_method_25_code 65 = .ok (.lreturn, 1) := by decide +kernel
theorem d_O_sheet_0 : decode prog_1_method_26_code 0 = .ok (.iload_n 1, 1) := by decide +kernel
theorem d_O_sheet_1 : decode prog_1_method_26_code 1 = .ok (.invokestatic 137, 3) := by decide +kernel
theorem d_O_sheet_4 : decode prog_1_method_26_code 4 = .ok (.ifCond .eq 16, 3) := by decide +kernel
theorem d_O_sheet_7 : decode prog_1_method_26_code 7 = .ok (.iload_n 2, 1) := by decide +kernel
theorem d_O_sheet_8 : decode prog_1_method_26_code 8 = .ok (.invokestatic 270, 3) := by decide +kernel
theorem d_O_sheet_11 : decode prog_1_method_26_code 11 = .ok (.ifCond .eq 9, 3) := by decide +kernel
theorem d_O_sheet_14 : decode prog_1_method_26_code 14 = .ok (.iload_n 3, 1) := by decide +kernel
theorem d_O_sheet_15 : decode prog_1_method_26_code 15 = .ok (.bipush 60, 2) := by decide +kernel
theorem d_O_sheet_17 : decode prog_1_method_26_code 17 = .ok (.if_icmp .le 6, 3) := by decide +kernel
theorem d_O_sheet_20 : decode prog_1_method_26_code 20 = .ok (.bipush (-2), 2) := by decide +kernel
theorem d_O_sheet_22 : decode prog_1_method_26_code 22 = .ok (.ireturn, 1) := by decide +kernel
theorem d_O_sheet_23 : decode prog_1_method_26_code 23 = .ok (.iload_n 3, 1) := by decide +kernel
theorem d_O_sheet_24 : decode prog_1_method_26_code 24 = .ok (.ifCond .ge 9, 3) := by decide +kernel
theorem d_O_sheet_27 : decode prog_1_method_26_code 27 = .ok (.aload_n 0, 1) := by decide +kernel
theorem d_O_sheet_28 : decode prog_1_method_26_code 28 = .ok (.iconst 5, 1) := by decide +kernel
theorem d_O_sheet_29 : decode prog_1_method_26_code 29 = .ok (.invokevirtual 144, 3) := by decide +kernel
theorem d_O_sheet_32 : decode prog_1_method_26_code 32 = .ok (.ireturn, 1) := by decide +kernel
theorem d_O_sheet_33 : decode prog_1_method_26_code 33 = .ok (.aload_n 0, 1) := by decide +kernel
theorem d_O_sheet_34 : decode prog_1_method_26_code 34 = .ok (.getfield 71, 3) := by decide +kernel
theorem d_O_sheet_37 : decode prog_1_method_26_code 37 = .ok (.iload_n 1, 1) := by decide +kernel
theorem d_O_sheet_38 : decode prog_1_method_26_code 38 = .ok (.aaload, 1) := by decide +kernel
theorem d_O_sheet_39 : decode prog_1_method_26_code 39 = .ok (.iload_n 2, 1) := by decide +kernel
theorem d_O_sheet_40 : decode prog_1_method_26_code 40 = .ok (.iload_n 3, 1) := by decide +kernel
theorem d_O_sheet_41 : decode prog_1_method_26_code 41 = .ok (.invokevirtual 273, 3) := by decide +kernel
theorem d_O_sheet_44 : decode prog_1_method_26_code 44 = .ok (.iload_n 3, 1) := by decide +kernel
theorem d_O_sheet_45 : decode prog_1_method_26_code 45 = .ok (.ireturn, 1) := by decide +kernel
theorem d_O_lose_0 : decode prog_1_method_27_code 0 = .ok (.iload_n 1, 1) := by decide +kernel
theorem d_O_lose_1 : decode prog_1_method_27_code 1 = .ok (.invokestatic 137, 3) := by decide +kernel
theorem d_O_lose_4 : decode prog_1_method_27_code 4 = .ok (.ifCond .ne 6, 3) := by decide +kernel
theorem d_O_lose_7 : decode prog_1_method_27_code 7 = .ok (.bipush (-2), 2) := by decide +kernel
theorem d_O_lose_9 : decode prog_1_method_27_code 9 = .ok (.ireturn, 1) := by decide +kernel
theorem d_O_lose_10 : decode prog_1_method_27_code 10 = .ok (.aload_n 0, 1) := by decide +kernel
theorem d_O_lose_11 : decode prog_1_method_27_code 11 = .ok (.getfield 71, 3) := by decide +kernel
theorem d_O_lose_14 : decode prog_1_method_27_code 14 = .ok (.iload_n 1, 1) := by decide +kernel
theorem d_O_lose_15 : decode prog_1_method_27_code 15 = .ok (.aaload, 1) := by decide +kernel
theorem d_O_lose_16 : decode prog_1_method_27_code 16 = .ok (.invokevirtual 140, 3) := by decide +kernel
theorem d_O_lose_19 : decode prog_1_method_27_code 19 = .ok (.ifCond .eq 9, 3) := by decide +kernel
theorem d_O_lose_22 : decode prog_1_method_27_code 22 = .ok (.aload_n 0, 1) := by decide +kernel
theorem d_O_lose_23 : decode prog_1_method_27_code 23 = .ok (.iconst 1, 1) := by decide +kernel
theorem d_O_lose_24 : decode prog_1_method_27_code 24 = .ok (.invokevirtual 144, 3) := by decide +kernel
theorem d_O_lose_27 : decode prog_1_method_27_code 27 = .ok (.ireturn, 1) := by decide +kernel
theorem d_O_lose_28 : decode prog_1_method_27_code 28 = .ok (.aload_n 0, 1) := by decide +kernel
theorem d_O_lose_29 : decode prog_1_method_27_code 29 = .ok (.getfield 71, 3) := by decide +kernel
theorem d_O_lose_32 : decode prog_1_method_27_code 32 = .ok (.iload_n 1, 1) := by decide +kernel
theorem d_O_lose_33 : decode prog_1_method_27_code 33 = .ok (.aaload, 1) := by decide +kernel
theorem d_O_lose_34 : decode prog_1_method_27_code 34 = .ok (.invokevirtual 147, 3) := by decide +kernel
theorem d_O_lose_37 : decode prog_1_method_27_code 37 = .ok (.istore_n 2, 1) := by decide +kernel
theorem d_O_lose_38 : decode prog_1_method_27_code 38 = .ok (.aload_n 0, 1) := by decide +kernel
theorem d_O_lose_39 : decode prog_1_method_27_code 39 = .ok (.getfield 71, 3) := by decide +kernel
theorem d_O_lose_42 : decode prog_1_method_27_code 42 = .ok (.iload_n 1, 1) := by decide +kernel
theorem d_O_lose_43 : decode prog_1_method_27_code 43 = .ok (.aaload, 1) := by decide +kernel
theorem d_O_lose_44 : decode prog_1_method_27_code 44 = .ok (.invokevirtual 276, 3) := by decide +kernel
theorem d_O_lose_47 : decode prog_1_method_27_code 47 = .ok (.iload_n 2, 1) := by decide +kernel
theorem d_O_lose_48 : decode prog_1_method_27_code 48 = .ok (.ireturn, 1) := by decide +kernel
theorem d_O_lay_0 : decode prog_1_method_28_code 0 = .ok (.iload_n 1, 1) := by decide +kernel
theorem d_O_lay_1 : decode prog_1_method_28_code 1 = .ok (.invokestatic 137, 3) := by decide +kernel
theorem d_O_lay_4 : decode prog_1_method_28_code 4 = .ok (.ifCond .eq 10, 3) := by decide +kernel
theorem d_O_lay_7 : decode prog_1_method_28_code 7 = .ok (.iload_n 2, 1) := by decide +kernel
theorem d_O_lay_8 : decode prog_1_method_28_code 8 = .ok (.invokestatic 270, 3) := by decide +kernel
theorem d_O_lay_11 : decode prog_1_method_28_code 11 = .ok (.ifCond .ne 6, 3) := by decide +kernel
theorem d_O_lay_14 : decode prog_1_method_28_code 14 = .ok (.bipush (-2), 2) := by decide +kernel
theorem d_O_lay_16 : decode prog_1_method_28_code 16 = .ok (.ireturn, 1) := by decide +kernel
theorem d_O_lay_17 : decode prog_1_method_28_code 17 = .ok (.aload_n 0, 1) := by decide +kernel
theorem d_O_lay_18 : decode prog_1_method_28_code 18 = .ok (.getfield 71, 3) := by decide +kernel
theorem d_O_lay_21 : decode prog_1_method_28_code 21 = .ok (.iload_n 1, 1) := by decide +kernel
theorem d_O_lay_22 : decode prog_1_method_28_code 22 = .ok (.aaload, 1) := by decide +kernel
theorem d_O_lay_23 : decode prog_1_method_28_code 23 = .ok (.iload_n 2, 1) := by decide +kernel
theorem d_O_lay_24 : decode prog_1_method_28_code 24 = .ok (.iload_n 3, 1) := by decide +kernel
theorem d_O_lay_25 : decode prog_1_method_28_code 25 = .ok (.invokestatic 279, 3) := by decide +kernel
theorem d_O_lay_28 : decode prog_1_method_28_code 28 = .ok (.istore 5, 2) := by decide +kernel
theorem d_O_lay_30 : decode prog_1_method_28_code 30 = .ok (.iload 5, 2) := by decide +kernel
theorem d_O_lay_32 : decode prog_1_method_28_code 32 = .ok (.ifCond .eq 10, 3) := by decide +kernel
theorem d_O_lay_35 : decode prog_1_method_28_code 35 = .ok (.aload_n 0, 1) := by decide +kernel
theorem d_O_lay_36 : decode prog_1_method_28_code 36 = .ok (.iload 5, 2) := by decide +kernel
theorem d_O_lay_38 : decode prog_1_method_28_code 38 = .ok (.invokevirtual 144, 3) := by decide +kernel
theorem d_O_lay_41 : decode prog_1_method_28_code 41 = .ok (.ireturn, 1) := by decide +kernel
theorem d_O_lay_42 : decode prog_1_method_28_code 42 = .ok (.aload_n 0, 1) := by decide +kernel
theorem d_O_lay_43 : decode prog_1_method_28_code 43 = .ok (.getfield 71, 3) := by decide +kernel
theorem d_O_lay_46 : decode prog_1_method_28_code 46 = .ok (.iload_n 1, 1) := by decide +kernel
theorem d_O_lay_47 : decode prog_1_method_28_code 47 = .ok (.aaload, 1) := by decide +kernel
theorem d_O_lay_48 : decode prog_1_method_28_code 48 = .ok (.iload_n 3, 1) := by decide +kernel
theorem d_O_lay_49 : decode prog_1_method_28_code 49 = .ok (.iload 4, 2) := by decide +kernel
theorem d_O_lay_51 : decode prog_1_method_28_code 51 = .ok (.invokevirtual 283, 3) := by decide +kernel
theorem d_O_lay_54 : decode prog_1_method_28_code 54 = .ok (.iconst 1, 1) := by decide +kernel
theorem d_O_lay_55 : decode prog_1_method_28_code 55 = .ok (.ireturn, 1) := by decide +kernel
theorem d_O_get_0 : decode prog_1_method_29_code 0 = .ok (.iload_n 1, 1) := by decide +kernel
theorem d_O_get_1 : decode prog_1_method_29_code 1 = .ok (.invokestatic 137, 3) := by decide +kernel
theorem d_O_get_4 : decode prog_1_method_29_code 4 = .ok (.ifCond .eq 10, 3) := by decide +kernel
theorem d_O_get_7 : decode prog_1_method_29_code 7 = .ok (.iload_n 2, 1) := by decide +kernel
theorem d_O_get_8 : decode prog_1_method_29_code 8 = .ok (.invokestatic 270, 3) := by decide +kernel
theorem d_O_get_11 : decode prog_1_method_29_code 11 = .ok (.ifCond .ne 7, 3) := by decide +kernel
theorem d_O_get_14 : decode prog_1_method_29_code 14 = .ok (.ldc_w 286, 3) := by decide +kernel
theorem d_O_get_17 : decode prog_1_method_29_code 17 = .ok (.ireturn, 1) := by decide +kernel
theorem d_O_get_18 : decode prog_1_method_29_code 18 = .ok (.aload_n 0, 1) := by decide +kernel
theorem d_O_get_19 : decode prog_1_method_29_code 19 = .ok (.getfield 71, 3) := by decide +kernel
theorem d_O_get_22 : decode prog_1_method_29_code 22 = .ok (.iload_n 1, 1) := by decide +kernel
theorem d_O_get_23 : decode prog_1_method_29_code 23 = .ok (.aaload, 1) := by decide +kernel
theorem d_O_get_24 : decode prog_1_method_29_code 24 = .ok (.iload_n 2, 1) := by decide +kernel
theorem d_O_get_25 : decode prog_1_method_29_code 25 = .ok (.iload_n 3, 1) := by decide +kernel
theorem d_O_get_26 : decode prog_1_method_29_code 26 = .ok (.invokestatic 279, 3) := by decide +kernel
theorem d_O_get_29 : decode prog_1_method_29_code 29 = .ok (.istore 4, 2) := by decide +kernel
theorem d_O_get_31 : decode prog_1_method_29_code 31 = .ok (.iload 4, 2) := by decide +kernel
theorem d_O_get_33 : decode prog_1_method_29_code 33 = .ok (.ifCond .eq 13, 3) := by decide +kernel
theorem d_O_get_36 : decode prog_1_method_29_code 36 = .ok (.aload_n 0, 1) := by decide +kernel
theorem d_O_get_37 : decode prog_1_method_29_code 37 = .ok (.iload 4, 2) := by decide +kernel
theorem d_O_get_39 : decode prog_1_method_29_code 39 = .ok (.putfield 83, 3) := by decide +kernel
theorem d_O_get_42 : decode prog_1_method_29_code 42 = .ok (.ldc_w 286, 3) := by decide +kernel
theorem d_O_get_45 : decode prog_1_method_29_code 45 = .ok (.ireturn, 1) := by decide +kernel
theorem d_O_get_46 : decode prog_1_method_29_code 46 = .ok (.aload_n 0, 1) := by decide +kernel
theorem d_O_get_47 : decode prog_1_method_29_code 47 = .ok (.getfield 71, 3) := by decide +kernel
theorem d_O_get_50 : decode prog_1_method_29_code 50 = .ok (.iload_n 1, 1) := by decide +kernel
theorem d_O_get_51 : decode prog_1_method_29_code 51 = .ok (.aaload, 1) := by decide +kernel
theorem d_O_get_52 : decode prog_1_method_29_code 52 = .ok (.iload_n 3, 1) := by decide +kernel
theorem d_O_get_53 : decode prog_1_method_29_code 53 = .ok (.invokevirtual 153, 3) := by decide +kernel
theorem d_O_get_56 : decode prog_1_method_29_code 56 = .ok (.ireturn, 1) := by decide +kernel
theorem d_O_copy_0 : decode prog_1_method_30_code 0 = .ok (.iload_n 1, 1) := by decide +kernel
theorem d_O_copy_1 : decode prog_1_method_30_code 1 = .ok (.invokestatic 137, 3) := by decide +kernel
theorem d_O_copy_4 : decode prog_1_method_30_code 4 = .ok (.ifCond .eq 10, 3) := by decide +kernel
theorem d_O_copy_7 : decode prog_1_method_30_code 7 = .ok (.iload_n 3, 1) := by decide +kernel
theorem d_O_copy_8 : decode prog_1_method_30_code 8 = .ok (.invokestatic 137, 3) := by decide +kernel
theorem d_O_copy_11 : decode prog_1_method_30_code 11 = .ok (.ifCond .ne 6, 3) := by decide +kernel
theorem d_O_copy_14 : decode prog_1_method_30_code 14 = .ok (.bipush (-2), 2) := by decide +kernel
theorem d_O_copy_16 : decode prog_1_method_30_code 16 = .ok (.ireturn, 1) := by decide +kernel
theorem d_O_copy_17 : decode prog_1_method_30_code 17 = .ok (.aload_n 0, 1) := by decide +kernel
theorem d_O_copy_18 : decode prog_1_method_30_code 18 = .ok (.getfield 71, 3) := by decide +kernel
theorem d_O_copy_21 : decode prog_1_method_30_code 21 = .ok (.iload_n 1, 1) := by decide +kernel
theorem d_O_copy_22 : decode prog_1_method_30_code 22 = .ok (.aaload, 1) := by decide +kernel
theorem d_O_copy_23 : decode prog_1_method_30_code 23 = .ok (.astore 6, 2) := by decide +kernel
theorem d_O_copy_25 : decode prog_1_method_30_code 25 = .ok (.aload_n 0, 1) := by decide +kernel
theorem d_O_copy_26 : decode prog_1_method_30_code 26 = .ok (.getfield 71, 3) := by decide +kernel
theorem d_O_copy_29 : decode prog_1_method_30_code 29 = .ok (.iload_n 3, 1) := by decide +kernel
theorem d_O_copy_30 : decode prog_1_method_30_code 30 = .ok (.aaload, 1) := by decide +kernel
theorem d_O_copy_31 : decode prog_1_method_30_code 31 = .ok (.astore 7, 2) := by decide +kernel
theorem d_O_copy_33 : decode prog_1_method_30_code 33 = .ok (.aload 6, 2) := by decide +kernel
theorem d_O_copy_35 : decode prog_1_method_30_code 35 = .ok (.invokevirtual 140, 3) := by decide +kernel
theorem d_O_copy_38 : decode prog_1_method_30_code 38 = .ok (.ifCond .ne 11, 3) := by decide +kernel
theorem d_O_copy_41 : decode prog_1_method_30_code 41 = .ok (.aload 7, 2) := by decide +kernel
theorem d_O_copy_43 : decode prog_1_method_30_code 43 = .ok (.invokevirtual 140, 3) := by decide +kernel
theorem d_O_copy_46 : decode prog_1_method_30_code 46 = .ok (.ifCond .eq 9, 3) := by decide +kernel
theorem d_O_copy_49 : decode prog_1_method_30_code 49 = .ok (.aload_n 0, 1) := by decide +kernel
theorem d_O_copy_50 : decode prog_1_method_30_code 50 = .ok (.iconst 1, 1) := by decide +kernel
theorem d_O_copy_51 : decode prog_1_method_30_code 51 = .ok (.invokevirtual 144, 3) := by decide +kernel
theorem d_O_copy_54 : decode prog_1_method_30_code 54 = .ok (.ireturn, 1) := by decide +kernel
theorem d_O_copy_55 : decode prog_1_method_30_code 55 = .ok (.aload 6, 2) := by decide +kernel
theorem d_O_copy_57 : decode prog_1_method_30_code 57 = .ok (.invokevirtual 287, 3) := by decide +kernel
theorem d_O_copy_60 : decode prog_1_method_30_code 60 = .ok (.aload 7, 2) := by decide +kernel
theorem d_O_copy_62 : decode prog_1_method_30_code 62 = .ok (.invokevirtual 287, 3) := by decide +kernel
theorem d_O_copy_65 : decode prog_1_method_30_code 65 = .ok (.if_icmp .eq 9, 3) := by decide +kernel
theorem d_O_copy_68 : decode prog_1_method_30_code 68 = .ok (.aload_n 0, 1) := by decide +kernel
theorem d_O_copy_69 : decode prog_1_method_30_code 69 = .ok (.iconst 4, 1) := by decide +kernel
theorem d_O_copy_70 : decode prog_1_method_30_code 70 = .ok (.invokevirtual 144, 3) := by decide +kernel
theorem d_O_copy_73 : decode prog_1_method_30_code 73 = .ok (.ireturn, 1) := by decide +kernel
theorem d_O_copy_74 : decode prog_1_method_30_code 74 = .ok (.aload 6, 2) := by decide +kernel
theorem d_O_copy_76 : decode prog_1_method_30_code 76 = .ok (.iload_n 2, 1) := by decide +kernel
theorem d_O_copy_77 : decode prog_1_method_30_code 77 = .ok (.iload 5, 2) := by decide +kernel
theorem d_O_copy_79 : decode prog_1_method_30_code 79 = .ok (.invokevirtual 290, 3) := by decide +kernel
theorem d_O_copy_82 : decode prog_1_method_30_code 82 = .ok (.ifCond .eq 15, 3) := by decide +kernel
theorem d_O_copy_85 : decode prog_1_method_30_code 85 = .ok (.aload 7, 2) := by decide +kernel
theorem d_O_copy_87 : decode prog_1_method_30_code 87 = .ok (.iload 4, 2) := by decide +kernel
theorem d_O_copy_89 : decode prog_1_method_30_code 89 = .ok (.iload 5, 2) := by decide +kernel
theorem d_O_copy_91 : decode prog_1_method_30_code 91 = .ok (.invokevirtual 290, 3) := by decide +kernel
theorem d_O_copy_94 : decode prog_1_method_30_code 94 = .ok (.ifCond .ne 9, 3) := by decide +kernel
theorem d_O_copy_97 : decode prog_1_method_30_code 97 = .ok (.aload_n 0, 1) := by decide +kernel
theorem d_O_copy_98 : decode prog_1_method_30_code 98 = .ok (.iconst 2, 1) := by decide +kernel
theorem d_O_copy_99 : decode prog_1_method_30_code 99 = .ok (.invokevirtual 144, 3) := by decide +kernel
theorem d_O_copy_102 : decode prog_1_method_30_code 102 = .ok (.ireturn, 1) := by decide +kernel
theorem d_O_copy_103 : decode prog_1_method_30_code 103 = .ok (.aload 7, 2) := by decide +kernel
theorem d_O_copy_105 : decode prog_1_method_30_code 105 = .ok (.aload 6, 2) := by decide +kernel
theorem d_O_copy_107 : decode prog_1_method_30_code 107 = .ok (.iload_n 2, 1) := by decide +kernel
theorem d_O_copy_108 : decode prog_1_method_30_code 108 = .ok (.iload 4, 2) := by decide +kernel
theorem d_O_copy_110 : decode prog_1_method_30_code 110 = .ok (.iload 5, 2) := by decide +kernel
theorem d_O_copy_112 : decode prog_1_method_30_code 112 = .ok (.invokevirtual 293, 3) := by decide +kernel
theorem d_O_copy_115 : decode prog_1_method_30_code 115 = .ok (.iconst 1, 1) := by decide +kernel
theorem d_O_copy_116 : decode prog_1_method_30_code 116 = .ok (.ireturn, 1) := by decide +kernel
theorem d_O_write_0 : decode prog_1_method_31_code 0 = .ok (.iload_n 1, 1) := by decide +kernel
theorem d_O_write_1 : decode prog_1_method_31_code 1 = .ok (.invokestatic 121, 3) := by decide +kernel
theorem d_O_write_4 : decode prog_1_method_31_code 4 = .ok (.ifCond .eq 10, 3) := by decide +kernel
theorem d_O_write_7 : decode prog_1_method_31_code 7 = .ok (.iload_n 2, 1) := by decide +kernel
theorem d_O_write_8 : decode prog_1_method_31_code 8 = .ok (.invokestatic 137, 3) := by decide +kernel
theorem d_O_write_11 : decode prog_1_method_31_code 11 = .ok (.ifCond .ne 6, 3) := by decide +kernel
theorem d_O_write_14 : decode prog_1_method_31_code 14 = .ok (.bipush (-2), 2) := by decide +kernel
theorem d_O_write_16 : decode prog_1_method_31_code 16 = .ok (.ireturn, 1) := by decide +kernel
theorem d_O_write_17 : decode prog_1_method_31_code 17 = .ok (.aload_n 0, 1) := by decide +kernel
theorem d_O_write_18 : decode prog_1_method_31_code 18 = .ok (.getfield 71, 3) := by decide +kernel
theorem d_O_write_21 : decode prog_1_method_31_code 21 = .ok (.iload_n 2, 1) := by decide +kernel
theorem d_O_write_22 : decode prog_1_method_31_code 22 = .ok (.aaload, 1) := by decide +kernel
theorem d_O_write_23 : decode prog_1_method_31_code 23 = .ok (.astore_n 3, 1) := by decide +kernel
theorem d_O_write_24 : decode prog_1_method_31_code 24 = .ok (.aload_n 3, 1) := by decide +kernel
theorem d_O_write_25 : decode prog_1_method_31_code 25 = .ok (.invokevirtual 140, 3) := by decide +kernel
theorem d_O_write_28 : decode prog_1_method_31_code 28 = .ok (.ifCond .eq 9, 3) := by decide +kernel
theorem d_O_write_31 : decode prog_1_method_31_code 31 = .ok (.aload_n 0, 1) := by decide +kernel
theorem d_O_write_32 : decode prog_1_method_31_code 32 = .ok (.iconst 1, 1) := by decide +kernel
theorem d_O_write_33 : decode prog_1_method_31_code 33 = .ok (.invokevirtual 144, 3) := by decide +kernel
theorem d_O_write_36 : decode prog_1_method_31_code 36 = .ok (.ireturn, 1) := by decide +kernel
theorem d_O_write_37 : decode prog_1_method_31_code 37 = .ok (.aload_n 0, 1) := by decide +kernel
theorem d_O_write_38 : decode prog_1_method_31_code 38 = .ok (.getfield 10, 3) := by decide +kernel
theorem d_O_write_41 : decode prog_1_method_31_code 41 = .ok (.invokevirtual 297, 3) := by decide +kernel
theorem d_O_write_44 : decode prog_1_method_31_code 44 = .ok (.aload_n 3, 1) := by decide +kernel
theorem d_O_write_45 : decode prog_1_method_31_code 45 = .ok (.invokevirtual 147, 3) := by decide +kernel
theorem d_O_write_48 : decode prog_1_method_31_code 48 = .ok (.invokestatic 148, 3) := by decide +kernel
theorem d_O_write_51 : decode prog_1_method_31_code 51 = .ok (.istore 4, 2) := by decide +kernel
theorem d_O_write_53 : decode prog_1_method_31_code 53 = .ok (.iconst 0, 1) := by decide +kernel
theorem d_O_write_54 : decode prog_1_method_31_code 54 = .ok (.istore 5, 2) := by decide +kernel
theorem d_O_write_56 : decode prog_1_method_31_code 56 = .ok (.iload 5, 2) := by decide +kernel
theorem d_O_write_58 : decode prog_1_method_31_code 58 = .ok (.iload 4, 2) := by decide +kernel
theorem d_O_write_60 : decode prog_1_method_31_code 60 = .ok (.if_icmp .ge 25, 3) := by decide +kernel
theorem d_O_write_63 : decode prog_1_method_31_code 63 = .ok (.aload_n 3, 1) := by decide +kernel
theorem d_O_write_64 : decode prog_1_method_31_code 64 = .ok (.iload 5, 2) := by decide +kernel
theorem d_O_write_66 : decode prog_1_method_31_code 66 = .ok (.aload_n 0, 1) := by decide +kernel
theorem d_O_write_67 : decode prog_1_method_31_code 67 = .ok (.getfield 21, 3) := by decide +kernel
theorem d_O_write_70 : decode prog_1_method_31_code 70 = .ok (.iload_n 1, 1) := by decide +kernel
theorem d_O_write_71 : decode prog_1_method_31_code 71 = .ok (.iload 5, 2) := by decide +kernel
theorem d_O_write_73 : decode prog_1_method_31_code 73 = .ok (.invokevirtual 169, 3) := by decide +kernel
theorem d_O_write_76 : decode prog_1_method_31_code 76 = .ok (.invokevirtual 283, 3) := by decide +kernel
theorem d_O_write_79 : decode prog_1_method_31_code 79 = .ok (.iinc 5 1, 3) := by decide +kernel
theorem d_O_write_82 : decode prog_1_method_31_code 82 = .ok (.goto (-26), 3) := by decide +kernel
theorem d_O_write_85 : decode prog_1_method_31_code 85 = .ok (.iload 4, 2) := by decide +kernel
theorem d_O_write_87 : decode prog_1_method_31_code 87 = .ok (.ireturn, 1) := by decide +kernel
theorem d_O_count_0 : decode prog_1_method_32_code 0 = .ok (.iload_n 1, 1) := by decide +kernel
theorem d_O_count_1 : decode prog_1_method_32_code 1 = .ok (.tableswitch 114 0 8 #[51, 59, 67, 75, 83, 91, 99, 104, 109], 51) := by decide +kernel
theorem d_O_count_52 : decode prog_1_method_32_code 52 = .ok (.aload_n 0, 1) := by decide +kernel
theorem d_O_count_53 : decode prog_1_method_32_code 53 = .ok (.getfield 10, 3) := by decide +kernel
theorem d_O_count_56 : decode prog_1_method_32_code 56 = .ok (.invokevirtual 297, 3) := by decide +kernel
theorem d_O_count_59 : decode prog_1_method_32_code 59 = .ok (.ireturn, 1) := by decide +kernel
theorem d_O_count_60 : decode prog_1_method_32_code 60 = .ok (.aload_n 0, 1) := by decide +kernel
theorem d_O_count_61 : decode prog_1_method_32_code 61 = .ok (.getfield 10, 3) := by decide +kernel
theorem d_O_count_64 : decode prog_1_method_32_code 64 = .ok (.invokevirtual 94, 3) := by decide +kernel
theorem d_O_count_67 : decode prog_1_method_32_code 67 = .ok (.ireturn, 1) := by decide +kernel
theorem d_O_count_68 : decode prog_1_method_32_code 68 = .ok (.aload_n 0, 1) := by decide +kernel
theorem d_O_count_69 : decode prog_1_method_32_code 69 = .ok (.getfield 10, 3) := by decide +kernel
theorem d_O_count_72 : decode prog_1_method_32_code 72 = .ok (.invokevirtual 298, 3) := by decide +kernel
theorem d_O_count_75 : decode prog_1_method_32_code 75 = .ok (.ireturn, 1) := by decide +kernel
theorem d_O_count_76 : decode prog_1_method_32_code 76 = .ok (.aload_n 0, 1) := by decide +kernel
theorem d_O_count_77 : decode prog_1_method_32_code 77 = .ok (.getfield 21, 3) := by decide +kernel
theorem d_O_count_80 : decode prog_1_method_32_code 80 = .ok (.invokevirtual 301, 3) := by decide +kernel
theorem d_O_count_83 : decode prog_1_method_32_code 83 = .ok (.ireturn, 1) := by decide +kernel
theorem d_O_count_84 : decode prog_1_method_32_code 84 = .ok (.aload_n 0, 1) := by decide +kernel
theorem d_O_count_85 : decode prog_1_method_32_code 85 = .ok (.getfield 21, 3) := by decide +kernel
theorem d_O_count_88 : decode prog_1_method_32_code 88 = .ok (.invokevirtual 304, 3) := by decide +kernel
theorem d_O_count_91 : decode prog_1_method_32_code 91 = .ok (.ireturn, 1) := by decide +kernel
theorem d_O_count_92 : decode prog_1_method_32_code 92 = .ok (.aload_n 0, 1) := by decide +kernel
theorem d_O_count_93 : decode prog_1_method_32_code 93 = .ok (.getfield 58, 3) := by decide +kernel
theorem d_O_count_96 : decode prog_1_method_32_code 96 = .ok (.invokevirtual 245, 3) := by decide +kernel
theorem d_O_count_99 : decode prog_1_method_32_code 99 = .ok (.ireturn, 1) := by decide +kernel
theorem d_O_count_100 : decode prog_1_method_32_code 100 = .ok (.aload_n 0, 1) := by decide +kernel
theorem d_O_count_101 : decode prog_1_method_32_code 101 = .ok (.getfield 76, 3) := by decide +kernel
theorem d_O_count_104 : decode prog_1_method_32_code 104 = .ok (.ireturn, 1) := by decide +kernel
theorem d_O_count_105 : decode prog_1_method_32_code 105 = .ok (.aload_n 0, 1) := by decide +kernel
theorem d_O_count_106 : decode prog_1_method_32_code 106 = .ok (.getfield 80, 3) := by decide +kernel
theorem d_O_count_109 : decode prog_1_method_32_code 109 = .ok (.ireturn, 1) := by decide +kernel
theorem d_O_count_110 : decode prog_1_method_32_code 110 = .ok (.aload_n 0, 1) := by decide +kernel
theorem d_O_count_111 : decode prog_1_method_32_code 111 = .ok (.getfield 83, 3) := by decide +kernel
theorem d_O_count_114 : decode prog_1_method_32_code 114 = .ok (.ireturn, 1) := by decide +kernel
theorem d_O_count_115 : decode prog_1_method_32_code 115 = .ok (.bipush (-2), 2) := by decide +kernel
theorem d_O_count_117 : decode prog_1_method_32_code 117 = .ok (.ireturn, 1) := by decide +kernel
theorem d_O_digest_0 : decode prog_1_method_33_code 0 = .ok (.ldc2_w 307, 3) := by decide +kernel
theorem d_O_digest_3 : decode prog_1_method_33_code 3 = .ok (.lstore_n 1, 1) := by decide +kernel
theorem d_O_digest_4 : decode prog_1_method_33_code 4 = .ok (.iconst 0, 1) := by decide +kernel
theorem d_O_digest_5 : decode prog_1_method_33_code 5 = .ok (.istore_n 3, 1) := by decide +kernel
theorem d_O_digest_6 : decode prog_1_method_33_code 6 = .ok (.iload_n 3, 1) := by decide +kernel
theorem d_O_digest_7 : decode prog_1_method_33_code 7 = .ok (.bipush 7, 2) := by decide +kernel
theorem d_O_digest_9 : decode prog_1_method_33_code 9 = .ok (.if_icmp .gt 20, 3) := by decide +kernel
theorem d_O_digest_12 : decode prog_1_method_33_code 12 = .ok (.lload_n 1, 1) := by decide +kernel
theorem d_O_digest_13 : decode prog_1_method_33_code 13 = .ok (.aload_n 0, 1) := by decide +kernel
theorem d_O_digest_14 : decode prog_1_method_33_code 14 = .ok (.iload_n 3, 1) := by decide +kernel
theorem d_O_digest_15 : decode prog_1_method_33_code 15 = .ok (.invokevirtual 309, 3) := by decide +kernel
theorem d_O_digest_18 : decode prog_1_method_33_code 18 = .ok (.i2l, 1) := by decide +kernel
theorem d_O_digest_19 : decode prog_1_method_33_code 19 = .ok (.invokestatic 312, 3) := by decide +kernel
theorem d_O_digest_22 : decode prog_1_method_33_code 22 = .ok (.lstore_n 1, 1) := by decide +kernel
theorem d_O_digest_23 : decode prog_1_method_33_code 23 = .ok (.iinc 3 1, 3) := by decide +kernel
theorem d_O_digest_26 : decode prog_1_method_33_code 26 = .ok (.goto (-20), 3) := by decide +kernel
theorem d_O_digest_29 : decode prog_1_method_33_code 29 = .ok (.lload_n 1, 1) := by decide +kernel
theorem d_O_digest_30 : decode prog_1_method_33_code 30 = .ok (.aload_n 0, 1) := by decide +kernel
theorem d_O_digest_31 : decode prog_1_method_33_code 31 = .ok (.invokevirtual 316, 3) := by decide +kernel
theorem d_O_digest_34 : decode prog_1_method_33_code 34 = .ok (.i2l, 1) := by decide +kernel
theorem d_O_digest_35 : decode prog_1_method_33_code 35 = .ok (.invokestatic 312, 3) := by decide +kernel
theorem d_O_digest_38 : decode prog_1_method_33_code 38 = .ok (.lstore_n 1, 1) := by decide +kernel
theorem d_O_digest_39 : decode prog_1_method_33_code 39 = .ok (.aload_n 0, 1) := by decide +kernel
theorem d_O_digest_40 : decode prog_1_method_33_code 40 = .ok (.getfield 37, 3) := by decide +kernel
theorem d_O_digest_43 : decode prog_1_method_33_code 43 = .ok (.iconst 0, 1) := by decide +kernel
theorem d_O_digest_44 : decode prog_1_method_33_code 44 = .ok (.iconst 1, 1) := by decide +kernel
theorem d_O_digest_45 : decode prog_1_method_33_code 45 = .ok (.aload_n 0, 1) := by decide +kernel
theorem d_O_digest_46 : decode prog_1_method_33_code 46 = .ok (.getfield 76, 3) := by decide +kernel
theorem d_O_digest_49 : decode prog_1_method_33_code 49 = .ok (.aload_n 0, 1) := by decide +kernel
theorem d_O_digest_50 : decode prog_1_method_33_code 50 = .ok (.getfield 80, 3) := by decide +kernel
theorem d_O_digest_53 : decode prog_1_method_33_code 53 = .ok (.invokevirtual 201, 3) := by decide +kernel
theorem d_O_digest_56 : decode prog_1_method_33_code 56 = .ok (.iconst 0, 1) := by decide +kernel
theorem d_O_digest_57 : decode prog_1_method_33_code 57 = .ok (.istore_n 3, 1) := by decide +kernel
theorem d_O_digest_58 : decode prog_1_method_33_code 58 = .ok (.iload_n 3, 1) := by decide +kernel
theorem d_O_digest_59 : decode prog_1_method_33_code 59 = .ok (.aload_n 0, 1) := by decide +kernel
theorem d_O_digest_60 : decode prog_1_method_33_code 60 = .ok (.getfield 10, 3) := by decide +kernel
theorem d_O_digest_63 : decode prog_1_method_33_code 63 = .ok (.invokevirtual 297, 3) := by decide +kernel
theorem d_O_digest_66 : decode prog_1_method_33_code 66 = .ok (.if_icmp .ge 16, 3) := by decide +kernel
theorem d_O_digest_69 : decode prog_1_method_33_code 69 = .ok (.aload_n 0, 1) := by decide +kernel
theorem d_O_digest_70 : decode prog_1_method_33_code 70 = .ok (.lload_n 1, 1) := by decide +kernel
theorem d_O_digest_71 : decode prog_1_method_33_code 71 = .ok (.iload_n 3, 1) := by decide +kernel
theorem d_O_digest_72 : decode prog_1_method_33_code 72 = .ok (.invokevirtual 319, 3) := by decide +kernel
theorem d_O_digest_75 : decode prog_1_method_33_code 75 = .ok (.lstore_n 1, 1) := by decide +kernel
theorem d_O_digest_76 : decode prog_1_method_33_code 76 = .ok (.iinc 3 1, 3) := by decide +kernel
theorem d_O_digest_79 : decode prog_1_method_33_code 79 = .ok (.goto (-21), 3) := by decide +kernel
theorem d_O_digest_82 : decode prog_1_method_33_code 82 = .ok (.aload_n 0, 1) := by decide +kernel
theorem d_O_digest_83 : decode prog_1_method_33_code 83 = .ok (.lload_n 1, 1) := by decide +kernel
theorem d_O_digest_84 : decode prog_1_method_33_code 84 = .ok (.invokevirtual 323, 3) := by decide +kernel
theorem d_O_digest_87 : decode prog_1_method_33_code 87 = .ok (.lstore_n 1, 1) := by decide +kernel
theorem d_O_digest_88 : decode prog_1_method_33_code 88 = .ok (.aload_n 0, 1) := by decide +kernel
theorem d_O_digest_89 : decode prog_1_method_33_code 89 = .ok (.getfield 37, 3) := by decide +kernel
theorem d_O_digest_92 : decode prog_1_method_33_code 92 = .ok (.iconst 4, 1) := by decide +kernel
theorem d_O_digest_93 : decode prog_1_method_33_code 93 = .ok (.iconst 5, 1) := by decide +kernel
theorem d_O_digest_94 : decode prog_1_method_33_code 94 = .ok (.aload_n 0, 1) := by decide +kernel
theorem d_O_digest_95 : decode prog_1_method_33_code 95 = .ok (.getfield 76, 3) := by decide +kernel
theorem d_O_digest_98 : decode prog_1_method_33_code 98 = .ok (.aload_n 0, 1) := by decide +kernel
theorem d_O_digest_99 : decode prog_1_method_33_code 99 = .ok (.getfield 80, 3) := by decide +kernel
theorem d_O_digest_102 : decode prog_1_method_33_code 102 = .ok (.invokevirtual 201, 3) := by decide +kernel
theorem d_O_digest_105 : decode prog_1_method_33_code 105 = .ok (.aload_n 0, 1) := by decide +kernel
theorem d_O_digest_106 : decode prog_1_method_33_code 106 = .ok (.lload_n 1, 1) := by decide +kernel
theorem d_O_digest_107 : decode prog_1_method_33_code 107 = .ok (.invokevirtual 323, 3) := by decide +kernel
theorem d_O_digest_110 : decode prog_1_method_33_code 110 = .ok (.lstore_n 1, 1) := by decide +kernel
theorem d_O_digest_111 : decode prog_1_method_33_code 111 = .ok (.aload_n 0, 1) := by decide +kernel
theorem d_O_digest_112 : decode prog_1_method_33_code 112 = .ok (.lload_n 1, 1) := by decide +kernel
theorem d_O_digest_113 : decode prog_1_method_33_code 113 = .ok (.invokevirtual 327, 3) := by decide +kernel
theorem d_O_digest_116 : decode prog_1_method_33_code 116 = .ok (.lstore_n 1, 1) := by decide +kernel
theorem d_O_digest_117 : decode prog_1_method_33_code 117 = .ok (.aload_n 0, 1) := by decide +kernel
theorem d_O_digest_118 : decode prog_1_method_33_code 118 = .ok (.lload_n 1, 1) := by decide +kernel
theorem d_O_digest_119 : decode prog_1_method_33_code 119 = .ok (.invokevirtual 330, 3) := by decide +kernel
theorem d_O_digest_122 : decode prog_1_method_33_code 122 = .ok (.lstore_n 1, 1) := by decide +kernel
theorem d_O_digest_123 : decode prog_1_method_33_code 123 = .ok (.lload_n 1, 1) := by decide +kernel
theorem d_O_digest_124 : decode prog_1_method_33_code 124 = .ok (.aload_n 0, 1) := by decide +kernel
theorem d_O_digest_125 : decode prog_1_method_33_code 125 = .ok (.invokevirtual 333, 3) := by decide +kernel
theorem d_O_digest_128 : decode prog_1_method_33_code 128 = .ok (.i2l, 1) := by decide +kernel
theorem d_O_digest_129 : decode prog_1_method_33_code 129 = .ok (.invokestatic 312, 3) := by decide +kernel
theorem d_O_digest_132 : decode prog_1_method_33_code 132 = .ok (.lstore_n 1, 1) := by decide +kernel
theorem d_O_digest_133 : decode prog_1_method_33_code 133 = .ok (.aload_n 0, 1) := by decide +kernel
theorem d_O_digest_134 : decode prog_1_method_33_code 134 = .ok (.lload_n 1, 1) := by decide +kernel
theorem d_O_digest_135 : decode prog_1_method_33_code 135 = .ok (.invokevirtual 336, 3) := by decide +kernel
theorem d_O_digest_138 : decode prog_1_method_33_code 138 = .ok (.lreturn, 1) := by decide +kernel
theorem d_O_mix_0 : decode prog_1_method_34_code 0 = .ok (.ldc2_w 339, 3) := by decide +kernel
theorem d_O_mix_3 : decode prog_1_method_34_code 3 = .ok (.lload_n 0, 1) := by decide +kernel
theorem d_O_mix_4 : decode prog_1_method_34_code 4 = .ok (.lmul, 1) := by decide +kernel
theorem d_O_mix_5 : decode prog_1_method_34_code 5 = .ok (.lload_n 2, 1) := by decide +kernel
theorem d_O_mix_6 : decode prog_1_method_34_code 6 = .ok (.ladd, 1) := by decide +kernel
theorem d_O_mix_7 : decode prog_1_method_34_code 7 = .ok (.lreturn, 1) := by decide +kernel
theorem d_O_mixChapter_0 : decode prog_1_method_35_code 0 = .ok (.lload_n 1, 1) := by decide +kernel
theorem d_O_mixChapter_1 : decode prog_1_method_35_code 1 = .ok (.lstore 4, 2) := by decide +kernel
theorem d_O_mixChapter_3 : decode prog_1_method_35_code 3 = .ok (.iconst 0, 1) := by decide +kernel
theorem d_O_mixChapter_4 : decode prog_1_method_35_code 4 = .ok (.istore 6, 2) := by decide +kernel
theorem d_O_mixChapter_6 : decode prog_1_method_35_code 6 = .ok (.iload 6, 2) := by decide +kernel
theorem d_O_mixChapter_8 : decode prog_1_method_35_code 8 = .ok (.iconst 2, 1) := by decide +kernel
theorem d_O_mixChapter_9 : decode prog_1_method_35_code 9 = .ok (.if_icmp .gt 24, 3) := by decide +kernel
theorem d_O_mixChapter_12 : decode prog_1_method_35_code 12 = .ok (.lload 4, 2) := by decide +kernel
theorem d_O_mixChapter_14 : decode prog_1_method_35_code 14 = .ok (.aload_n 0, 1) := by decide +kernel
theorem d_O_mixChapter_15 : decode prog_1_method_35_code 15 = .ok (.iload_n 3, 1) := by decide +kernel
theorem d_O_mixChapter_16 : decode prog_1_method_35_code 16 = .ok (.iload 6, 2) := by decide +kernel
theorem d_O_mixChapter_18 : decode prog_1_method_35_code 18 = .ok (.invokevirtual 341, 3) := by decide +kernel
theorem d_O_mixChapter_21 : decode prog_1_method_35_code 21 = .ok (.i2l, 1) := by decide +kernel
theorem d_O_mixChapter_22 : decode prog_1_method_35_code 22 = .ok (.invokestatic 312, 3) := by decide +kernel
theorem d_O_mixChapter_25 : decode prog_1_method_35_code 25 = .ok (.lstore 4, 2) := by decide +kernel
theorem d_O_mixChapter_27 : decode prog_1_method_35_code 27 = .ok (.iinc 6 1, 3) := by decide +kernel
theorem d_O_mixChapter_30 : decode prog_1_method_35_code 30 = .ok (.goto (-24), 3) := by decide +kernel
theorem d_O_mixChapter_33 : decode prog_1_method_35_code 33 = .ok (.iconst 0, 1) := by decide +kernel
theorem d_O_mixChapter_34 : decode prog_1_method_35_code 34 = .ok (.istore 6, 2) := by decide +kernel
theorem d_O_mixChapter_36 : decode prog_1_method_35_code 36 = .ok (.iload 6, 2) := by decide +kernel
theorem d_O_mixChapter_38 : decode prog_1_method_35_code 38 = .ok (.bipush 6, 2) := by decide +kernel
theorem d_O_mixChapter_40 : decode prog_1_method_35_code 40 = .ok (.if_icmp .ge 27, 3) := by decide +kernel
theorem d_O_mixChapter_43 : decode prog_1_method_35_code 43 = .ok (.lload 4, 2) := by decide +kernel
theorem d_O_mixChapter_45 : decode prog_1_method_35_code 45 = .ok (.aload_n 0, 1) := by decide +kernel
theorem d_O_mixChapter_46 : decode prog_1_method_35_code 46 = .ok (.getfield 21, 3) := by decide +kernel
theorem d_O_mixChapter_49 : decode prog_1_method_35_code 49 = .ok (.iload 6, 2) := by decide +kernel
theorem d_O_mixChapter_51 : decode prog_1_method_35_code 51 = .ok (.iload_n 3, 1) := by decide +kernel
theorem d_O_mixChapter_52 : decode prog_1_method_35_code 52 = .ok (.invokevirtual 169, 3) := by decide +kernel
theorem d_O_mixChapter_55 : decode prog_1_method_35_code 55 = .ok (.i2l, 1) := by decide +kernel
theorem d_O_mixChapter_56 : decode prog_1_method_35_code 56 = .ok (.invokestatic 312, 3) := by decide +kernel
theorem d_O_mixChapter_59 : decode prog_1_method_35_code 59 = .ok (.lstore 4, 2) := by decide +kernel
theorem d_O_mixChapter_61 : decode prog_1_method_35_code 61 = .ok (.iinc 6 1, 3) := by decide +kernel
theorem d_O_mixChapter_64 : decode prog_1_method_35_code 64 = .ok (.goto (-28), 3) := by decide +kernel
theorem d_O_mixChapter_67 : decode prog_1_method_35_code 67 = .ok (.aload_n 0, 1) := by decide +kernel
theorem d_O_mixChapter_68 : decode prog_1_method_35_code 68 = .ok (.getfield 30, 3) := by decide +kernel
theorem d_O_mixChapter_71 : decode prog_1_method_35_code 71 = .ok (.iconst 3, 1) := by decide +kernel
theorem d_O_mixChapter_72 : decode prog_1_method_35_code 72 = .ok (.iload_n 3, 1) := by decide +kernel
theorem d_O_mixChapter_73 : decode prog_1_method_35_code 73 = .ok (.aload_n 0, 1) := by decide +kernel
theorem d_O_mixChapter_74 : decode prog_1_method_35_code 74 = .ok (.getfield 76, 3) := by decide +kernel
theorem d_O_mixChapter_77 : decode prog_1_method_35_code 77 = .ok (.invokevirtual 175, 3) := by decide +kernel
theorem d_O_mixChapter_80 : decode prog_1_method_35_code 80 = .ok (.lload 4, 2) := by decide +kernel
theorem d_O_mixChapter_82 : decode prog_1_method_35_code 82 = .ok (.aload_n 0, 1) := by decide +kernel
theorem d_O_mixChapter_83 : decode prog_1_method_35_code 83 = .ok (.getfield 30, 3) := by decide +kernel
theorem d_O_mixChapter_86 : decode prog_1_method_35_code 86 = .ok (.invokevirtual 179, 3) := by decide +kernel
theorem d_O_mixChapter_89 : decode prog_1_method_35_code 89 = .ok (.i2l, 1) := by decide +kernel
theorem d_O_mixChapter_90 : decode prog_1_method_35_code 90 = .ok (.invokestatic 312, 3) := by decide +kernel
theorem d_O_mixChapter_93 : decode prog_1_method_35_code 93 = .ok (.lstore 4, 2) := by decide +kernel
theorem d_O_mixChapter_95 : decode prog_1_method_35_code 95 = .ok (.lload 4, 2) := by decide +kernel
theorem d_O_mixChapter_97 : decode prog_1_method_35_code 97 = .ok (.aload_n 0, 1) := by decide +kernel
theorem d_O_mixChapter_98 : decode prog_1_method_35_code 98 = .ok (.getfield 30, 3) := by decide +kernel
theorem d_O_mixChapter_101 : decode prog_1_method_35_code 101 = .ok (.invokevirtual 182, 3) := by decide +kernel
theorem d_O_mixChapter_104 : decode prog_1_method_35_code 104 = .ok (.i2l, 1) := by decide +kernel
theorem d_O_mixChapter_105 : decode prog_1_method_35_code 105 = .ok (.invokestatic 312, 3) := by decide +kernel
theorem d_O_mixChapter_108 : decode prog_1_method_35_code 108 = .ok (.lstore 4, 2) := by decide +kernel
theorem d_O_mixChapter_110 : decode prog_1_method_35_code 110 = .ok (.lload 4, 2) := by decide +kernel
theorem d_O_mixChapter_112 : decode prog_1_method_35_code 112 = .ok (.aload_n 0, 1) := by decide +kernel
theorem d_O_mixChapter_113 : decode prog_1_method_35_code 113 = .ok (.getfield 30, 3) := by decide +kernel
theorem d_O_mixChapter_116 : decode prog_1_method_35_code 116 = .ok (.invokevirtual 185, 3) := by decide +kernel
theorem d_O_mixChapter_119 : decode prog_1_method_35_code 119 = .ok (.i2l, 1) := by decide +kernel
theorem d_O_mixChapter_120 : decode prog_1_method_35_code 120 = .ok (.invokestatic 312, 3) := by decide +kernel
theorem d_O_mixChapter_123 : decode prog_1_method_35_code 123 = .ok (.lstore 4, 2) := by decide +kernel
theorem d_O_mixChapter_125 : decode prog_1_method_35_code 125 = .ok (.lload 4, 2) := by decide +kernel
theorem d_O_mixChapter_127 : decode prog_1_method_35_code 127 = .ok (.aload_n 0, 1) := by decide +kernel
theorem d_O_mixChapter_128 : decode prog_1_method_35_code 128 = .ok (.getfield 30, 3) := by decide +kernel
theorem d_O_mixChapter_131 : decode prog_1_method_35_code 131 = .ok (.iconst 1, 1) := by decide +kernel
theorem d_O_mixChapter_132 : decode prog_1_method_35_code 132 = .ok (.invokevirtual 192, 3) := by decide +kernel
theorem d_O_mixChapter_135 : decode prog_1_method_35_code 135 = .ok (.i2l, 1) := by decide +kernel
theorem d_O_mixChapter_136 : decode prog_1_method_35_code 136 = .ok (.invokestatic 312, 3) := by decide +kernel
theorem d_O_mixChapter_139 : decode prog_1_method_35_code 139 = .ok (.lstore 4, 2) := by decide +kernel
theorem d_O_mixChapter_141 : decode prog_1_method_35_code 141 = .ok (.lload 4, 2) := by decide +kernel
theorem d_O_mixChapter_143 : decode prog_1_method_35_code 143 = .ok (.aload_n 0, 1) := by decide +kernel
theorem d_O_mixChapter_144 : decode prog_1_method_35_code 144 = .ok (.getfield 30, 3) := by decide +kernel
theorem d_O_mixChapter_147 : decode prog_1_method_35_code 147 = .ok (.iconst 1, 1) := by decide +kernel
theorem d_O_mixChapter_148 : decode prog_1_method_35_code 148 = .ok (.invokevirtual 195, 3) := by decide +kernel
theorem d_O_mixChapter_151 : decode prog_1_method_35_code 151 = .ok (.i2l, 1) := by decide +kernel
theorem d_O_mixChapter_152 : decode prog_1_method_35_code 152 = .ok (.invokestatic 312, 3) := by decide +kernel
theorem d_O_mixChapter_155 : decode prog_1_method_35_code 155 = .ok (.lstore 4, 2) := by decide +kernel
theorem d_O_mixChapter_157 : decode prog_1_method_35_code 157 = .ok (.lload 4, 2) := by decide +kernel
theorem d_O_mixChapter_159 : decode prog_1_method_35_code 159 = .ok (.aload_n 0, 1) := by decide +kernel
theorem d_O_mixChapter_160 : decode prog_1_method_35_code 160 = .ok (.getfield 37, 3) := by decide +kernel
theorem d_O_mixChapter_163 : decode prog_1_method_35_code 163 = .ok (.iload_n 3, 1) := by decide +kernel
theorem d_O_mixChapter_164 : decode prog_1_method_35_code 164 = .ok (.invokevirtual 213, 3) := by decide +kernel
theorem d_O_mixChapter_167 : decode prog_1_method_35_code 167 = .ok (.i2l, 1) := by decide +kernel
theorem d_O_mixChapter_168 : decode prog_1_method_35_code 168 = .ok (.invokestatic 312, 3) := by decide +kernel
theorem d_O_mixChapter_171 : decode prog_1_method_35_code 171 = .ok (.lreturn, 1) := by decide +kernel
theorem d_O_mixPlan_0 : decode prog_1_method_36_code 0 = .ok (.lload_n 1, 1) := by decide +kernel
theorem d_O_mixPlan_1 : decode prog_1_method_36_code 1 = .ok (.aload_n 0, 1) := by decide +kernel
theorem d_O_mixPlan_2 : decode prog_1_method_36_code 2 = .ok (.getfield 37, 3) := by decide +kernel
theorem d_O_mixPlan_5 : decode prog_1_method_36_code 5 = .ok (.invokevirtual 205, 3) := by decide +kernel
theorem d_O_mixPlan_8 : decode prog_1_method_36_code 8 = .ok (.i2l, 1) := by decide +kernel
theorem d_O_mixPlan_9 : decode prog_1_method_36_code 9 = .ok (.invokestatic 312, 3) := by decide +kernel
theorem d_O_mixPlan_12 : decode prog_1_method_36_code 12 = .ok (.lstore_n 3, 1) := by decide +kernel
theorem d_O_mixPlan_13 : decode prog_1_method_36_code 13 = .ok (.lload_n 3, 1) := by decide +kernel
theorem d_O_mixPlan_14 : decode prog_1_method_36_code 14 = .ok (.aload_n 0, 1) := by decide +kernel
theorem d_O_mixPlan_15 : decode prog_1_method_36_code 15 = .ok (.getfield 37, 3) := by decide +kernel
theorem d_O_mixPlan_18 : decode prog_1_method_36_code 18 = .ok (.invokevirtual 208, 3) := by decide +kernel
theorem d_O_mixPlan_21 : decode prog_1_method_36_code 21 = .ok (.i2l, 1) := by decide +kernel
theorem d_O_mixPlan_22 : decode prog_1_method_36_code 22 = .ok (.invokestatic 312, 3) := by decide +kernel
theorem d_O_mixPlan_25 : decode prog_1_method_36_code 25 = .ok (.lstore_n 3, 1) := by decide +kernel
theorem d_O_mixPlan_26 : decode prog_1_method_36_code 26 = .ok (.lload_n 3, 1) := by decide +kernel
theorem d_O_mixPlan_27 : decode prog_1_method_36_code 27 = .ok (.aload_n 0, 1) := by decide +kernel
theorem d_O_mixPlan_28 : decode prog_1_method_36_code 28 = .ok (.getfield 37, 3) := by decide +kernel
theorem d_O_mixPlan_31 : decode prog_1_method_36_code 31 = .ok (.invokevirtual 211, 3) := by decide +kernel
theorem d_O_mixPlan_34 : decode prog_1_method_36_code 34 = .ok (.i2l, 1) := by decide +kernel
theorem d_O_mixPlan_35 : decode prog_1_method_36_code 35 = .ok (.invokestatic 312, 3) := by decide +kernel
theorem d_O_mixPlan_38 : decode prog_1_method_36_code 38 = .ok (.lreturn, 1) := by decide +kernel
theorem d_O_mixSeeming_0 : decode prog_1_method_37_code 0 = .ok (.aload_n 0, 1) := by decide +kernel
theorem d_O_mixSeeming_1 : decode prog_1_method_37_code 1 = .ok (.getfield 44, 3) := by decide +kernel
theorem d_O_mixSeeming_4 : decode prog_1_method_37_code 4 = .ok (.iconst 0, 1) := by decide +kernel
theorem d_O_mixSeeming_5 : decode prog_1_method_37_code 5 = .ok (.iconst 1, 1) := by decide +kernel
theorem d_O_mixSeeming_6 : decode prog_1_method_37_code 6 = .ok (.invokevirtual 220, 3) := by decide +kernel
theorem d_O_mixSeeming_9 : decode prog_1_method_37_code 9 = .ok (.lload_n 1, 1) := by decide +kernel
theorem d_O_mixSeeming_10 : decode prog_1_method_37_code 10 = .ok (.aload_n 0, 1) := by decide +kernel
theorem d_O_mixSeeming_11 : decode prog_1_method_37_code 11 = .ok (.getfield 44, 3) := by decide +kernel
theorem d_O_mixSeeming_14 : decode prog_1_method_37_code 14 = .ok (.invokevirtual 224, 3) := by decide +kernel
theorem d_O_mixSeeming_17 : decode prog_1_method_37_code 17 = .ok (.i2l, 1) := by decide +kernel
theorem d_O_mixSeeming_18 : decode prog_1_method_37_code 18 = .ok (.invokestatic 312, 3) := by decide +kernel
theorem d_O_mixSeeming_21 : decode prog_1_method_37_code 21 = .ok (.lstore_n 3, 1) := by decide +kernel
theorem d_O_mixSeeming_22 : decode prog_1_method_37_code 22 = .ok (.lload_n 3, 1) := by decide +kernel
theorem d_O_mixSeeming_23 : decode prog_1_method_37_code 23 = .ok (.aload_n 0, 1) := by decide +kernel
theorem d_O_mixSeeming_24 : decode prog_1_method_37_code 24 = .ok (.getfield 44, 3) := by decide +kernel
theorem d_O_mixSeeming_27 : decode prog_1_method_37_code 27 = .ok (.iconst 0, 1) := by decide +kernel
theorem d_O_mixSeeming_28 : decode prog_1_method_37_code 28 = .ok (.invokevirtual 227, 3) := by decide +kernel
theorem d_O_mixSeeming_31 : decode prog_1_method_37_code 31 = .ok (.i2l, 1) := by decide +kernel
theorem d_O_mixSeeming_32 : decode prog_1_method_37_code 32 = .ok (.invokestatic 312, 3) := by decide +kernel
theorem d_O_mixSeeming_35 : decode prog_1_method_37_code 35 = .ok (.lstore_n 3, 1) := by decide +kernel
theorem d_O_mixSeeming_36 : decode prog_1_method_37_code 36 = .ok (.lload_n 3, 1) := by decide +kernel
theorem d_O_mixSeeming_37 : decode prog_1_method_37_code 37 = .ok (.aload_n 0, 1) := by decide +kernel
theorem d_O_mixSeeming_38 : decode prog_1_method_37_code 38 = .ok (.getfield 44, 3) := by decide +kernel
theorem d_O_mixSeeming_41 : decode prog_1_method_37_code 41 = .ok (.iconst 0, 1) := by decide +kernel
theorem d_O_mixSeeming_42 : decode prog_1_method_37_code 42 = .ok (.iconst 1, 1) := by decide +kernel
theorem d_O_mixSeeming_43 : decode prog_1_method_37_code 43 = .ok (.iconst 2, 1) := by decide +kernel
theorem d_O_mixSeeming_44 : decode prog_1_method_37_code 44 = .ok (.iconst 1, 1) := by decide +kernel
theorem d_O_mixSeeming_45 : decode prog_1_method_37_code 45 = .ok (.invokevirtual 216, 3) := by decide +kernel
theorem d_O_mixSeeming_48 : decode prog_1_method_37_code 48 = .ok (.i2l, 1) := by decide +kernel
theorem d_O_mixSeeming_49 : decode prog_1_method_37_code 49 = .ok (.invokestatic 312, 3) := by decide +kernel
theorem d_O_mixSeeming_52 : decode prog_1_method_37_code 52 = .ok (.lstore_n 3, 1) := by decide +kernel
theorem d_O_mixSeeming_53 : decode prog_1_method_37_code 53 = .ok (.lload_n 3, 1) := by decide +kernel
theorem d_O_mixSeeming_54 : decode prog_1_method_37_code 54 = .ok (.aload_n 0, 1) := by decide +kernel
theorem d_O_mixSeeming_55 : decode prog_1_method_37_code 55 = .ok (.getfield 44, 3) := by decide +kernel
theorem d_O_mixSeeming_58 : decode prog_1_method_37_code 58 = .ok (.iconst 1, 1) := by decide +kernel
theorem d_O_mixSeeming_59 : decode prog_1_method_37_code 59 = .ok (.iconst 0, 1) := by decide +kernel
theorem d_O_mixSeeming_60 : decode prog_1_method_37_code 60 = .ok (.iconst 1, 1) := by decide +kernel
theorem d_O_mixSeeming_61 : decode prog_1_method_37_code 61 = .ok (.iconst 2, 1) := by decide +kernel
theorem d_O_mixSeeming_62 : decode prog_1_method_37_code 62 = .ok (.invokevirtual 216, 3) := by decide +kernel
theorem d_O_mixSeeming_65 : decode prog_1_method_37_code 65 = .ok (.i2l, 1) := by decide +kernel
theorem d_O_mixSeeming_66 : decode prog_1_method_37_code 66 = .ok (.invokestatic 312, 3) := by decide +kernel
theorem d_O_mixSeeming_69 : decode prog_1_method_37_code 69 = .ok (.lreturn, 1) := by decide +kernel
theorem d_O_mixSeats_0 : decode prog_1_method_38_code 0 = .ok (.aload_n 0, 1) := by decide +kernel
theorem d_O_mixSeats_1 : decode prog_1_method_38_code 1 = .ok (.getfield 51, 3) := by decide +kernel
theorem d_O_mixSeats_4 : decode prog_1_method_38_code 4 = .ok (.bipush 63, 2) := by decide +kernel
theorem d_O_mixSeats_6 : decode prog_1_method_38_code 6 = .ok (.invokevirtual 235, 3) := by decide +kernel
theorem d_O_mixSeats_9 : decode prog_1_method_38_code 9 = .ok (.lload_n 1, 1) := by decide +kernel
theorem d_O_mixSeats_10 : decode prog_1_method_38_code 10 = .ok (.aload_n 0, 1) := by decide +kernel
theorem d_O_mixSeats_11 : decode prog_1_method_38_code 11 = .ok (.getfield 51, 3) := by decide +kernel
theorem d_O_mixSeats_14 : decode prog_1_method_38_code 14 = .ok (.invokevirtual 239, 3) := by decide +kernel
theorem d_O_mixSeats_17 : decode prog_1_method_38_code 17 = .ok (.i2l, 1) := by decide +kernel
theorem d_O_mixSeats_18 : decode prog_1_method_38_code 18 = .ok (.invokestatic 312, 3) := by decide +kernel
theorem d_O_mixSeats_21 : decode prog_1_method_38_code 21 = .ok (.lstore_n 3, 1) := by decide +kernel
theorem d_O_mixSeats_22 : decode prog_1_method_38_code 22 = .ok (.iconst 0, 1) := by decide +kernel
theorem d_O_mixSeats_23 : decode prog_1_method_38_code 23 = .ok (.istore 5, 2) := by decide +kernel
theorem d_O_mixSeats_25 : decode prog_1_method_38_code 25 = .ok (.iload 5, 2) := by decide +kernel
theorem d_O_mixSeats_27 : decode prog_1_method_38_code 27 = .ok (.bipush 6, 2) := by decide +kernel
theorem d_O_mixSeats_29 : decode prog_1_method_38_code 29 = .ok (.if_icmp .ge 56, 3) := by decide +kernel
theorem d_O_mixSeats_32 : decode prog_1_method_38_code 32 = .ok (.lload_n 3, 1) := by decide +kernel
theorem d_O_mixSeats_33 : decode prog_1_method_38_code 33 = .ok (.aload_n 0, 1) := by decide +kernel
theorem d_O_mixSeats_34 : decode prog_1_method_38_code 34 = .ok (.getfield 51, 3) := by decide +kernel
theorem d_O_mixSeats_37 : decode prog_1_method_38_code 37 = .ok (.iload 5, 2) := by decide +kernel
theorem d_O_mixSeats_39 : decode prog_1_method_38_code 39 = .ok (.invokevirtual 240, 3) := by decide +kernel
theorem d_O_mixSeats_42 : decode prog_1_method_38_code 42 = .ok (.i2l, 1) := by decide +kernel
theorem d_O_mixSeats_43 : decode prog_1_method_38_code 43 = .ok (.invokestatic 312, 3) := by decide +kernel
theorem d_O_mixSeats_46 : decode prog_1_method_38_code 46 = .ok (.lstore_n 3, 1) := by decide +kernel
theorem d_O_mixSeats_47 : decode prog_1_method_38_code 47 = .ok (.iconst 0, 1) := by decide +kernel
theorem d_O_mixSeats_48 : decode prog_1_method_38_code 48 = .ok (.istore 6, 2) := by decide +kernel
theorem d_O_mixSeats_50 : decode prog_1_method_38_code 50 = .ok (.iload 6, 2) := by decide +kernel
theorem d_O_mixSeats_52 : decode prog_1_method_38_code 52 = .ok (.iconst 3, 1) := by decide +kernel
theorem d_O_mixSeats_53 : decode prog_1_method_38_code 53 = .ok (.if_icmp .ge 26, 3) := by decide +kernel
theorem d_O_mixSeats_56 : decode prog_1_method_38_code 56 = .ok (.lload_n 3, 1) := by decide +kernel
theorem d_O_mixSeats_57 : decode prog_1_method_38_code 57 = .ok (.aload_n 0, 1) := by decide +kernel
theorem d_O_mixSeats_58 : decode prog_1_method_38_code 58 = .ok (.getfield 58, 3) := by decide +kernel
theorem d_O_mixSeats_61 : decode prog_1_method_38_code 61 = .ok (.iload 5, 2) := by decide +kernel
theorem d_O_mixSeats_63 : decode prog_1_method_38_code 63 = .ok (.iload 6, 2) := by decide +kernel
theorem d_O_mixSeats_65 : decode prog_1_method_38_code 65 = .ok (.invokevirtual 247, 3) := by decide +kernel
theorem d_O_mixSeats_68 : decode prog_1_method_38_code 68 = .ok (.i2l, 1) := by decide +kernel
theorem d_O_mixSeats_69 : decode prog_1_method_38_code 69 = .ok (.invokestatic 312, 3) := by decide +kernel
theorem d_O_mixSeats_72 : decode prog_1_method_38_code 72 = .ok (.lstore_n 3, 1) := by decide +kernel
theorem d_O_mixSeats_73 : decode prog_1_method_38_code 73 = .ok (.iinc 6 1, 3) := by decide +kernel
theorem d_O_mixSeats_76 : decode prog_1_method_38_code 76 = .ok (.goto (-26), 3) := by decide +kernel
theorem d_O_mixSeats_79 : decode prog_1_method_38_code 79 = .ok (.iinc 5 1, 3) := by decide +kernel
theorem d_O_mixSeats_82 : decode prog_1_method_38_code 82 = .ok (.goto (-57), 3) := by decide +kernel
theorem d_O_mixSeats_85 : decode prog_1_method_38_code 85 = .ok (.lload_n 3, 1) := by decide +kernel
theorem d_O_mixSeats_86 : decode prog_1_method_38_code 86 = .ok (.lreturn, 1) := by decide +kernel
theorem d_O_mixMoods_0 : decode prog_1_method_39_code 0 = .ok (.aload_n 0, 1) := by decide +kernel
theorem d_O_mixMoods_1 : decode prog_1_method_39_code 1 = .ok (.getfield 65, 3) := by decide +kernel
theorem d_O_mixMoods_4 : decode prog_1_method_39_code 4 = .ok (.bipush 7, 2) := by decide +kernel
theorem d_O_mixMoods_6 : decode prog_1_method_39_code 6 = .ok (.bipush 60, 2) := by decide +kernel
theorem d_O_mixMoods_8 : decode prog_1_method_39_code 8 = .ok (.invokevirtual 257, 3) := by decide +kernel
theorem d_O_mixMoods_11 : decode prog_1_method_39_code 11 = .ok (.lload_n 1, 1) := by decide +kernel
theorem d_O_mixMoods_12 : decode prog_1_method_39_code 12 = .ok (.aload_n 0, 1) := by decide +kernel
theorem d_O_mixMoods_13 : decode prog_1_method_39_code 13 = .ok (.getfield 65, 3) := by decide +kernel
theorem d_O_mixMoods_16 : decode prog_1_method_39_code 16 = .ok (.invokevirtual 260, 3) := by decide +kernel
theorem d_O_mixMoods_19 : decode prog_1_method_39_code 19 = .ok (.invokestatic 312, 3) := by decide +kernel
theorem d_O_mixMoods_22 : decode prog_1_method_39_code 22 = .ok (.lstore_n 3, 1) := by decide +kernel
theorem d_O_mixMoods_23 : decode prog_1_method_39_code 23 = .ok (.lload_n 3, 1) := by decide +kernel
theorem d_O_mixMoods_24 : decode prog_1_method_39_code 24 = .ok (.aload_n 0, 1) := by decide +kernel
theorem d_O_mixMoods_25 : decode prog_1_method_39_code 25 = .ok (.getfield 65, 3) := by decide +kernel
theorem d_O_mixMoods_28 : decode prog_1_method_39_code 28 = .ok (.invokevirtual 264, 3) := by decide +kernel
theorem d_O_mixMoods_31 : decode prog_1_method_39_code 31 = .ok (.invokestatic 312, 3) := by decide +kernel
theorem d_O_mixMoods_34 : decode prog_1_method_39_code 34 = .ok (.lstore_n 3, 1) := by decide +kernel
theorem d_O_mixMoods_35 : decode prog_1_method_39_code 35 = .ok (.aload_n 0, 1) := by decide +kernel
theorem d_O_mixMoods_36 : decode prog_1_method_39_code 36 = .ok (.getfield 65, 3) := by decide +kernel
theorem d_O_mixMoods_39 : decode prog_1_method_39_code 39 = .ok (.bipush 7, 2) := by decide +kernel
theorem d_O_mixMoods_41 : decode prog_1_method_39_code 41 = .ok (.invokevirtual 267, 3) := by decide +kernel
theorem d_O_mixMoods_44 : decode prog_1_method_39_code 44 = .ok (.lload_n 3, 1) := by decide +kernel
theorem d_O_mixMoods_45 : decode prog_1_method_39_code 45 = .ok (.aload_n 0, 1) := by decide +kernel
theorem d_O_mixMoods_46 : decode prog_1_method_39_code 46 = .ok (.getfield 65, 3) := by decide +kernel
theorem d_O_mixMoods_49 : decode prog_1_method_39_code 49 = .ok (.invokevirtual 260, 3) := by decide +kernel
theorem d_O_mixMoods_52 : decode prog_1_method_39_code 52 = .ok (.invokestatic 312, 3) := by decide +kernel
theorem d_O_mixMoods_55 : decode prog_1_method_39_code 55 = .ok (.lstore_n 3, 1) := by decide +kernel
theorem d_O_mixMoods_56 : decode prog_1_method_39_code 56 = .ok (.lload_n 3, 1) := by decide +kernel
theorem d_O_mixMoods_57 : decode prog_1_method_39_code 57 = .ok (.aload_n 0, 1) := by decide +kernel
theorem d_O_mixMoods_58 : decode prog_1_method_39_code 58 = .ok (.getfield 65, 3) := by decide +kernel
theorem d_O_mixMoods_61 : decode prog_1_method_39_code 61 = .ok (.invokevirtual 264, 3) := by decide +kernel
theorem d_O_mixMoods_64 : decode prog_1_method_39_code 64 = .ok (.invokestatic 312, 3) := by decide +kernel
theorem d_O_mixMoods_67 : decode prog_1_method_39_code 67 = .ok (.lreturn, 1) := by decide +kernel
theorem d_O_within_0 : decode prog_1_method_40_code 0 = .ok (.iload_n 0, 1) := by decide +kernel
theorem d_O_within_1 : decode prog_1_method_40_code 1 = .ok (.iload_n 1, 1) := by decide +kernel
theorem d_O_within_2 : decode prog_1_method_40_code 2 = .ok (.if_icmp .lt 12, 3) := by decide +kernel
theorem d_O_within_5 : decode prog_1_method_40_code 5 = .ok (.iload_n 0, 1) := by decide +kernel
theorem d_O_within_6 : decode prog_1_method_40_code 6 = .ok (.iload_n 2, 1) := by decide +kernel
theorem d_O_within_7 : decode prog_1_method_40_code 7 = .ok (.if_icmp .gt 7, 3) := by decide +kernel
theorem d_O_within_10 : decode prog_1_method_40_code 10 = .ok (.iconst 1, 1) := by decide +kernel
theorem d_O_within_11 : decode prog_1_method_40_code 11 = .ok (.goto 4, 3) := by decide +kernel
theorem d_O_within_14 : decode prog_1_method_40_code 14 = .ok (.iconst 0, 1) := by decide +kernel
theorem d_O_within_15 : decode prog_1_method_40_code 15 = .ok (.ireturn, 1) := by decide +kernel
theorem d_O_isReader_0 : decode prog_1_method_41_code 0 = .ok (.iload_n 0, 1) := by decide +kernel
theorem d_O_isReader_1 : decode prog_1_method_41_code 1 = .ok (.iconst 0, 1) := by decide +kernel
theorem d_O_isReader_2 : decode prog_1_method_41_code 2 = .ok (.iconst 5, 1) := by decide +kernel
theorem d_O_isReader_3 : decode prog_1_method_41_code 3 = .ok (.invokestatic 86, 3) := by decide +kernel
theorem d_O_isReader_6 : decode prog_1_method_41_code 6 = .ok (.ireturn, 1) := by decide +kernel
theorem d_O_areTwo_0 : decode prog_1_method_42_code 0 = .ok (.iload_n 0, 1) := by decide +kernel
theorem d_O_areTwo_1 : decode prog_1_method_42_code 1 = .ok (.invokestatic 121, 3) := by decide +kernel
theorem d_O_areTwo_4 : decode prog_1_method_42_code 4 = .ok (.ifCond .eq 19, 3) := by decide +kernel
theorem d_O_areTwo_7 : decode prog_1_method_42_code 7 = .ok (.iload_n 1, 1) := by decide +kernel
theorem d_O_areTwo_8 : decode prog_1_method_42_code 8 = .ok (.invokestatic 121, 3) := by decide +kernel
theorem d_O_areTwo_11 : decode prog_1_method_42_code 11 = .ok (.ifCond .eq 12, 3) := by decide +kernel
theorem d_O_areTwo_14 : decode prog_1_method_42_code 14 = .ok (.iload_n 0, 1) := by decide +kernel
theorem d_O_areTwo_15 : decode prog_1_method_42_code 15 = .ok (.iload_n 1, 1) := by decide +kernel
theorem d_O_areTwo_16 : decode prog_1_method_42_code 16 = .ok (.if_icmp .eq 7, 3) := by decide +kernel
theorem d_O_areTwo_19 : decode prog_1_method_42_code 19 = .ok (.iconst 1, 1) := by decide +kernel
theorem d_O_areTwo_20 : decode prog_1_method_42_code 20 = .ok (.goto 4, 3) := by decide +kernel
theorem d_O_areTwo_23 : decode prog_1_method_42_code 23 = .ok (.iconst 0, 1) := by decide +kernel
theorem d_O_areTwo_24 : decode prog_1_method_42_code 24 = .ok (.ireturn, 1) := by decide +kernel
theorem d_O_isCompany_0 : decode prog_1_method_43_code 0 = .ok (.iload_n 0, 1) := by decide +kernel
theorem d_O_isCompany_1 : decode prog_1_method_43_code 1 = .ok (.iconst 1, 1) := by decide +kernel
theorem d_O_isCompany_2 : decode prog_1_method_43_code 2 = .ok (.bipush 63, 2) := by decide +kernel
theorem d_O_isCompany_4 : decode prog_1_method_43_code 4 = .ok (.invokestatic 86, 3) := by decide +kernel
theorem d_O_isCompany_7 : decode prog_1_method_43_code 7 = .ok (.ireturn, 1) := by decide +kernel
theorem d_O_holds_0 : decode prog_1_method_44_code 0 = .ok (.iload_n 0, 1) := by decide +kernel
theorem d_O_holds_1 : decode prog_1_method_44_code 1 = .ok (.iload_n 1, 1) := by decide +kernel
theorem d_O_holds_2 : decode prog_1_method_44_code 2 = .ok (.ishr, 1) := by decide +kernel
theorem d_O_holds_3 : decode prog_1_method_44_code 3 = .ok (.iconst 1, 1) := by decide +kernel
theorem d_O_holds_4 : decode prog_1_method_44_code 4 = .ok (.iand, 1) := by decide +kernel
theorem d_O_holds_5 : decode prog_1_method_44_code 5 = .ok (.iconst 1, 1) := by decide +kernel
theorem d_O_holds_6 : decode prog_1_method_44_code 6 = .ok (.if_icmp .ne 7, 3) := by decide +kernel
theorem d_O_holds_9 : decode prog_1_method_44_code 9 = .ok (.iconst 1, 1) := by decide +kernel
theorem d_O_holds_10 : decode prog_1_method_44_code 10 = .ok (.goto 4, 3) := by decide +kernel
theorem d_O_holds_13 : decode prog_1_method_44_code 13 = .ok (.iconst 0, 1) := by decide +kernel
theorem d_O_holds_14 : decode prog_1_method_44_code 14 = .ok (.ireturn, 1) := by decide +kernel
theorem d_O_isKind_0 : decode prog_1_method_45_code 0 = .ok (.iload_n 0, 1) := by decide +kernel
theorem d_O_isKind_1 : decode prog_1_method_45_code 1 = .ok (.iconst 0, 1) := by decide +kernel
theorem d_O_isKind_2 : decode prog_1_method_45_code 2 = .ok (.iconst 2, 1) := by decide +kernel
theorem d_O_isKind_3 : decode prog_1_method_45_code 3 = .ok (.invokestatic 86, 3) := by decide +kernel
theorem d_O_isKind_6 : decode prog_1_method_45_code 6 = .ok (.ireturn, 1) := by decide +kernel
theorem d_O_isSheet_0 : decode prog_1_method_46_code 0 = .ok (.iload_n 0, 1) := by decide +kernel
theorem d_O_isSheet_1 : decode prog_1_method_46_code 1 = .ok (.iconst 0, 1) := by decide +kernel
theorem d_O_isSheet_2 : decode prog_1_method_46_code 2 = .ok (.iconst 3, 1) := by decide +kernel
theorem d_O_isSheet_3 : decode prog_1_method_46_code 3 = .ok (.invokestatic 86, 3) := by decide +kernel
theorem d_O_isSheet_6 : decode prog_1_method_46_code 6 = .ok (.ireturn, 1) := by decide +kernel
theorem d_O_isForm_0 : decode prog_1_method_47_code 0 = .ok (.iload_n 0, 1) := by decide +kernel
theorem d_O_isForm_1 : decode prog_1_method_47_code 1 = .ok (.iconst 0, 1) := by decide +kernel
theorem d_O_isForm_2 : decode prog_1_method_47_code 2 = .ok (.iconst 2, 1) := by decide +kernel
theorem d_O_isForm_3 : decode prog_1_method_47_code 3 = .ok (.invokestatic 86, 3) := by decide +kernel
theorem d_O_isForm_6 : decode prog_1_method_47_code 6 = .ok (.ireturn, 1) := by decide +kernel
theorem d_O_isChapter_0 : decode prog_1_method_48_code 0 = .ok (.iload_n 1, 1) := by decide +kernel
theorem d_O_isChapter_1 : decode prog_1_method_48_code 1 = .ok (.iconst 0, 1) := by decide +kernel
theorem d_O_isChapter_2 : decode prog_1_method_48_code 2 = .ok (.aload_n 0, 1) := by decide +kernel
theorem d_O_isChapter_3 : decode prog_1_method_48_code 3 = .ok (.getfield 10, 3) := by decide +kernel
theorem d_O_isChapter_6 : decode prog_1_method_48_code 6 = .ok (.invokevirtual 297, 3) := by decide +kernel
theorem d_O_isChapter_9 : decode prog_1_method_48_code 9 = .ok (.iconst 1, 1) := by decide +kernel
theorem d_O_isChapter_10 : decode prog_1_method_48_code 10 = .ok (.isub, 1) := by decide +kernel
theorem d_O_isChapter_11 : decode prog_1_method_48_code 11 = .ok (.invokestatic 86, 3) := by decide +kernel
theorem d_O_isChapter_14 : decode prog_1_method_48_code 14 = .ok (.ireturn, 1) := by decide +kernel
theorem d_O_mostOfTrait_0 : decode prog_1_method_49_code 0 = .ok (.iload_n 0, 1) := by decide +kernel
theorem d_O_mostOfTrait_1 : decode prog_1_method_49_code 1 = .ok (.ifCond .ne 6, 3) := by decide +kernel
theorem d_O_mostOfTrait_4 : decode prog_1_method_49_code 4 = .ok (.bipush 99, 2) := by decide +kernel
theorem d_O_mostOfTrait_6 : decode prog_1_method_49_code 6 = .ok (.ireturn, 1) := by decide +kernel
theorem d_O_mostOfTrait_7 : decode prog_1_method_49_code 7 = .ok (.iload_n 0, 1) := by decide +kernel
theorem d_O_mostOfTrait_8 : decode prog_1_method_49_code 8 = .ok (.iconst 1, 1) := by decide +kernel
theorem d_O_mostOfTrait_9 : decode prog_1_method_49_code 9 = .ok (.if_icmp .ne 8, 3) := by decide +kernel
theorem d_O_mostOfTrait_12 : decode prog_1_method_49_code 12 = .ok (.bipush 9, 2) := by decide +kernel
theorem d_O_mostOfTrait_14 : decode prog_1_method_49_code 14 = .ok (.goto 4, 3) := by decide +kernel
theorem d_O_mostOfTrait_17 : decode prog_1_method_49_code 17 = .ok (.iconst 4, 1) := by decide +kernel
theorem d_O_mostOfTrait_18 : decode prog_1_method_49_code 18 = .ok (.ireturn, 1) := by decide +kernel
theorem d_O_asNumber_0 : decode prog_1_method_50_code 0 = .ok (.iload_n 0, 1) := by decide +kernel
theorem d_O_asNumber_1 : decode prog_1_method_50_code 1 = .ok (.ifCond .eq 7, 3) := by decide +kernel
theorem d_O_asNumber_4 : decode prog_1_method_50_code 4 = .ok (.iconst 1, 1) := by decide +kernel
theorem d_O_asNumber_5 : decode prog_1_method_50_code 5 = .ok (.goto 4, 3) := by decide +kernel
theorem d_O_asNumber_8 : decode prog_1_method_50_code 8 = .ok (.iconst 0, 1) := by decide +kernel
theorem d_O_asNumber_9 : decode prog_1_method_50_code 9 = .ok (.ireturn, 1) := by decide +kernel
theorem d_O_refusedLong_0 : decode prog_1_method_51_code 0 = .ok (.ldc2_w 346, 3) := by decide +kernel
theorem d_O_refusedLong_3 : decode prog_1_method_51_code 3 = .ok (.iload_n 0, 1) := by decide +kernel
theorem d_O_refusedLong_4 : decode prog_1_method_51_code 4 = .ok (.i2l, 1) := by decide +kernel
theorem d_O_refusedLong_5 : decode prog_1_method_51_code 5 = .ok (.lsub, 1) := by decide +kernel
theorem d_O_refusedLong_6 : decode prog_1_method_51_code 6 = .ok (.lreturn, 1) := by decide +kernel
theorem d_O_found_0 : decode prog_1_method_52_code 0 = .ok (.aload_n 0, 1) := by decide +kernel
theorem d_O_found_1 : decode prog_1_method_52_code 1 = .ok (.iload_n 1, 1) := by decide +kernel
theorem d_O_found_2 : decode prog_1_method_52_code 2 = .ok (.putfield 83, 3) := by decide +kernel
theorem d_O_found_5 : decode prog_1_method_52_code 5 = .ok (.bipush (-10), 2) := by decide +kernel
theorem d_O_found_7 : decode prog_1_method_52_code 7 = .ok (.iload_n 1, 1) := by decide +kernel
theorem d_O_found_8 : decode prog_1_method_52_code 8 = .ok (.isub, 1) := by decide +kernel
theorem d_O_found_9 : decode prog_1_method_52_code 9 = .ok (.ireturn, 1) := by decide +kernel
theorem d_O_findingAt_0 : decode prog_1_method_53_code 0 = .ok (.aload_n 0, 1) := by decide +kernel
theorem d_O_findingAt_1 : decode prog_1_method_53_code 1 = .ok (.invokevirtual 140, 3) := by decide +kernel
theorem d_O_findingAt_4 : decode prog_1_method_53_code 4 = .ok (.ifCond .eq 5, 3) := by decide +kernel
theorem d_O_findingAt_7 : decode prog_1_method_53_code 7 = .ok (.iconst 1, 1) := by decide +kernel
theorem d_O_findingAt_8 : decode prog_1_method_53_code 8 = .ok (.ireturn, 1) := by decide +kernel
theorem d_O_findingAt_9 : decode prog_1_method_53_code 9 = .ok (.aload_n 0, 1) := by decide +kernel
theorem d_O_findingAt_10 : decode prog_1_method_53_code 10 = .ok (.invokevirtual 287, 3) := by decide +kernel
theorem d_O_findingAt_13 : decode prog_1_method_53_code 13 = .ok (.iload_n 1, 1) := by decide +kernel
theorem d_O_findingAt_14 : decode prog_1_method_53_code 14 = .ok (.if_icmp .eq 5, 3) := by decide +kernel
theorem d_O_findingAt_17 : decode prog_1_method_53_code 17 = .ok (.iconst 3, 1) := by decide +kernel
theorem d_O_findingAt_18 : decode prog_1_method_53_code 18 = .ok (.ireturn, 1) := by decide +kernel
theorem d_O_findingAt_19 : decode prog_1_method_53_code 19 = .ok (.aload_n 0, 1) := by decide +kernel
theorem d_O_findingAt_20 : decode prog_1_method_53_code 20 = .ok (.iload_n 2, 1) := by decide +kernel
theorem d_O_findingAt_21 : decode prog_1_method_53_code 21 = .ok (.iconst 1, 1) := by decide +kernel
theorem d_O_findingAt_22 : decode prog_1_method_53_code 22 = .ok (.invokevirtual 290, 3) := by decide +kernel
theorem d_O_findingAt_25 : decode prog_1_method_53_code 25 = .ok (.ifCond .eq 7, 3) := by decide +kernel
theorem d_O_findingAt_28 : decode prog_1_method_53_code 28 = .ok (.iconst 0, 1) := by decide +kernel
theorem d_O_findingAt_29 : decode prog_1_method_53_code 29 = .ok (.goto 4, 3) := by decide +kernel
theorem d_O_findingAt_32 : decode prog_1_method_53_code 32 = .ok (.iconst 2, 1) := by decide +kernel
theorem d_O_findingAt_33 : decode prog_1_method_53_code 33 = .ok (.ireturn, 1) := by decide +kernel
end
section
-- what the bytes decode to (by program: wip/gen/gen_meth.py)
theorem d_M_in_0 : decode prog_13_method_3_code 0 = .ok (.lload_n 0, 1) := by decide +kernel
theorem d_M_in_1 : decode prog_13_method_3_code 1 = .ok (.lload_n 2, 1) := by decide +kernel
theorem d_M_in_2 : decode prog_13_method_3_code 2 = .ok (.lcmp, 1) := by decide +kernel
theorem d_M_in_3 : decode prog_13_method_3_code 3 = .ok (.ifCond .lt 14, 3) := by decide +kernel
theorem d_M_in_6 : decode prog_13_method_3_code 6 = .ok (.lload_n 0, 1) := by decide +kernel
theorem d_M_in_7 : decode prog_13_method_3_code 7 = .ok (.lload 4, 2) := by decide +kernel
theorem d_M_in_9 : decode prog_13_method_3_code 9 = .ok (.lcmp, 1) := by decide +kernel
theorem d_M_in_10 : decode prog_13_method_3_code 10 = .ok (.ifCond .gt 7, 3) := by decide +kernel
theorem d_M_in_13 : decode prog_13_method_3_code 13 = .ok (.iconst 1, 1) := by decide +kernel
theorem d_M_in_14 : decode prog_13_method_3_code 14 = .ok (.goto 4, 3) := by decide +kernel
theorem d_M_in_17 : decode prog_13_method_3_code 17 = .ok (.iconst 0, 1) := by decide +kernel
theorem d_M_in_18 : decode prog_13_method_3_code 18 = .ok (.ireturn, 1) := by decide +kernel
theorem d_M_no_0 : decode prog_13_method_4_code 0 = .ok (.ldc2_w 74, 3) := by decide +kernel
theorem d_M_no_3 : decode prog_13_method_4_code 3 = .ok (.iload_n 0, 1) := by decide +kernel
theorem d_M_no_4 : decode prog_13_method_4_code 4 = .ok (.i2l, 1) := by decide +kernel
theorem d_M_no_5 : decode prog_13_method_4_code 5 = .ok (.lsub, 1) := by decide +kernel
theorem d_M_no_6 : decode prog_13_method_4_code 6 = .ok (.lreturn, 1) := by decide +kernel
theorem d_M_isTwo_0 : decode prog_13_method_5_code 0 = .ok (.iload_n 0, 1) := by decide +kernel
theorem d_M_isTwo_1 : decode prog_13_method_5_code 1 = .ok (.i2l, 1) := by decide +kernel
theorem d_M_isTwo_2 : decode prog_13_method_5_code 2 = .ok (.lconst 0, 1) := by decide +kernel
theorem d_M_isTwo_3 : decode prog_13_method_5_code 3 = .ok (.lconst 1, 1) := by decide +kernel
theorem d_M_isTwo_4 : decode prog_13_method_5_code 4 = .ok (.invokestatic 76, 3) := by decide +kernel
theorem d_M_isTwo_7 : decode prog_13_method_5_code 7 = .ok (.ireturn, 1) := by decide +kernel
theorem d_M_isIn_0 : decode prog_13_method_6_code 0 = .ok (.iload_n 0, 1) := by decide +kernel
theorem d_M_isIn_1 : decode prog_13_method_6_code 1 = .ok (.iload_n 1, 1) := by decide +kernel
theorem d_M_isIn_2 : decode prog_13_method_6_code 2 = .ok (.ishr, 1) := by decide +kernel
theorem d_M_isIn_3 : decode prog_13_method_6_code 3 = .ok (.iconst 1, 1) := by decide +kernel
theorem d_M_isIn_4 : decode prog_13_method_6_code 4 = .ok (.iand, 1) := by decide +kernel
theorem d_M_isIn_5 : decode prog_13_method_6_code 5 = .ok (.iconst 1, 1) := by decide +kernel
theorem d_M_isIn_6 : decode prog_13_method_6_code 6 = .ok (.if_icmp .ne 7, 3) := by decide +kernel
theorem d_M_isIn_9 : decode prog_13_method_6_code 9 = .ok (.iconst 1, 1) := by decide +kernel
theorem d_M_isIn_10 : decode prog_13_method_6_code 10 = .ok (.goto 4, 3) := by decide +kernel
theorem d_M_isIn_13 : decode prog_13_method_6_code 13 = .ok (.iconst 0, 1) := by decide +kernel
theorem d_M_isIn_14 : decode prog_13_method_6_code 14 = .ok (.ireturn, 1) := by decide +kernel
theorem d_M_ones_0 : decode prog_13_method_7_code 0 = .ok (.iconst 0, 1) := by decide +kernel
theorem d_M_ones_1 : decode prog_13_method_7_code 1 = .ok (.istore_n 1, 1) := by decide +kernel
theorem d_M_ones_2 : decode prog_13_method_7_code 2 = .ok (.iload_n 0, 1) := by decide +kernel
theorem d_M_ones_3 : decode prog_13_method_7_code 3 = .ok (.istore_n 2, 1) := by decide +kernel
theorem d_M_ones_4 : decode prog_13_method_7_code 4 = .ok (.iload_n 2, 1) := by decide +kernel
theorem d_M_ones_5 : decode prog_13_method_7_code 5 = .ok (.ifCond .eq 15, 3) := by decide +kernel
theorem d_M_ones_8 : decode prog_13_method_7_code 8 = .ok (.iinc 1 1, 3) := by decide +kernel
theorem d_M_ones_11 : decode prog_13_method_7_code 11 = .ok (.iload_n 2, 1) := by decide +kernel
theorem d_M_ones_12 : decode prog_13_method_7_code 12 = .ok (.iload_n 2, 1) := by decide +kernel
theorem d_M_ones_13 : decode prog_13_method_7_code 13 = .ok (.iconst 1, 1) := by decide +kernel
theorem d_M_ones_14 : decode prog_13_method_7_code 14 = .ok (.isub, 1) := by decide +kernel
theorem d_M_ones_15 : decode prog_13_method_7_code 15 = .ok (.iand, 1) := by decide +kernel
theorem d_M_ones_16 : decode prog_13_method_7_code 16 = .ok (.istore_n 2, 1) := by decide +kernel
theorem d_M_ones_17 : decode prog_13_method_7_code 17 = .ok (.goto (-13), 3) := by decide +kernel
theorem d_M_ones_20 : decode prog_13_method_7_code 20 = .ok (.iload_n 1, 1) := by decide +kernel
theorem d_M_ones_21 : decode prog_13_method_7_code 21 = .ok (.ireturn, 1) := by decide +kernel
theorem d_M_met_0 : decode prog_13_method_8_code 0 = .ok (.aload_n 0, 1) := by decide +kernel
theorem d_M_met_1 : decode prog_13_method_8_code 1 = .ok (.iload_n 1, 1) := by decide +kernel
theorem d_M_met_2 : decode prog_13_method_8_code 2 = .ok (.putfield 80, 3) := by decide +kernel
theorem d_M_met_5 : decode prog_13_method_8_code 5 = .ok (.bipush (-10), 2) := by decide +kernel
theorem d_M_met_7 : decode prog_13_method_8_code 7 = .ok (.iload_n 1, 1) := by decide +kernel
theorem d_M_met_8 : decode prog_13_method_8_code 8 = .ok (.isub, 1) := by decide +kernel
theorem d_M_met_9 : decode prog_13_method_8_code 9 = .ok (.ireturn, 1) := by decide +kernel
theorem d_M_isSheet_0 : decode prog_13_method_9_code 0 = .ok (.iload_n 0, 1) := by decide +kernel
theorem d_M_isSheet_1 : decode prog_13_method_9_code 1 = .ok (.i2l, 1) := by decide +kernel
theorem d_M_isSheet_2 : decode prog_13_method_9_code 2 = .ok (.lconst 0, 1) := by decide +kernel
theorem d_M_isSheet_3 : decode prog_13_method_9_code 3 = .ok (.ldc2_w 84, 3) := by decide +kernel
theorem d_M_isSheet_6 : decode prog_13_method_9_code 6 = .ok (.invokestatic 76, 3) := by decide +kernel
theorem d_M_isSheet_9 : decode prog_13_method_9_code 9 = .ok (.ireturn, 1) := by decide +kernel
theorem d_M_sheet_0 : decode prog_13_method_10_code 0 = .ok (.iload_n 1, 1) := by decide +kernel
theorem d_M_sheet_1 : decode prog_13_method_10_code 1 = .ok (.invokestatic 86, 3) := by decide +kernel
theorem d_M_sheet_4 : decode prog_13_method_10_code 4 = .ok (.ifCond .eq 21, 3) := by decide +kernel
theorem d_M_sheet_7 : decode prog_13_method_10_code 7 = .ok (.iload_n 2, 1) := by decide +kernel
theorem d_M_sheet_8 : decode prog_13_method_10_code 8 = .ok (.i2l, 1) := by decide +kernel
theorem d_M_sheet_9 : decode prog_13_method_10_code 9 = .ok (.lconst 0, 1) := by decide +kernel
theorem d_M_sheet_10 : decode prog_13_method_10_code 10 = .ok (.ldc2_w 90, 3) := by decide +kernel
theorem d_M_sheet_13 : decode prog_13_method_10_code 13 = .ok (.invokestatic 76, 3) := by decide +kernel
theorem d_M_sheet_16 : decode prog_13_method_10_code 16 = .ok (.ifCond .eq 9, 3) := by decide +kernel
theorem d_M_sheet_19 : decode prog_13_method_10_code 19 = .ok (.iload_n 3, 1) := by decide +kernel
theorem d_M_sheet_20 : decode prog_13_method_10_code 20 = .ok (.bipush 60, 2) := by decide +kernel
theorem d_M_sheet_22 : decode prog_13_method_10_code 22 = .ok (.if_icmp .le 6, 3) := by decide +kernel
theorem d_M_sheet_25 : decode prog_13_method_10_code 25 = .ok (.bipush (-2), 2) := by decide +kernel
theorem d_M_sheet_27 : decode prog_13_method_10_code 27 = .ok (.ireturn, 1) := by decide +kernel
theorem d_M_sheet_28 : decode prog_13_method_10_code 28 = .ok (.iload_n 3, 1) := by decide +kernel
theorem d_M_sheet_29 : decode prog_13_method_10_code 29 = .ok (.ifCond .ge 9, 3) := by decide +kernel
theorem d_M_sheet_32 : decode prog_13_method_10_code 32 = .ok (.aload_n 0, 1) := by decide +kernel
theorem d_M_sheet_33 : decode prog_13_method_10_code 33 = .ok (.iconst 5, 1) := by decide +kernel
theorem d_M_sheet_34 : decode prog_13_method_10_code 34 = .ok (.invokevirtual 92, 3) := by decide +kernel
theorem d_M_sheet_37 : decode prog_13_method_10_code 37 = .ok (.ireturn, 1) := by decide +kernel
theorem d_M_sheet_38 : decode prog_13_method_10_code 38 = .ok (.aload_n 0, 1) := by decide +kernel
theorem d_M_sheet_39 : decode prog_13_method_10_code 39 = .ok (.getfield 7, 3) := by decide +kernel
theorem d_M_sheet_42 : decode prog_13_method_10_code 42 = .ok (.iload_n 1, 1) := by decide +kernel
theorem d_M_sheet_43 : decode prog_13_method_10_code 43 = .ok (.iload_n 2, 1) := by decide +kernel
theorem d_M_sheet_44 : decode prog_13_method_10_code 44 = .ok (.iastore, 1) := by decide +kernel
theorem d_M_sheet_45 : decode prog_13_method_10_code 45 = .ok (.aload_n 0, 1) := by decide +kernel
theorem d_M_sheet_46 : decode prog_13_method_10_code 46 = .ok (.getfield 13, 3) := by decide +kernel
theorem d_M_sheet_49 : decode prog_13_method_10_code 49 = .ok (.iload_n 1, 1) := by decide +kernel
theorem d_M_sheet_50 : decode prog_13_method_10_code 50 = .ok (.iload_n 3, 1) := by decide +kernel
theorem d_M_sheet_51 : decode prog_13_method_10_code 51 = .ok (.iastore, 1) := by decide +kernel
theorem d_M_sheet_52 : decode prog_13_method_10_code 52 = .ok (.iconst 0, 1) := by decide +kernel
theorem d_M_sheet_53 : decode prog_13_method_10_code 53 = .ok (.istore 4, 2) := by decide +kernel
theorem d_M_sheet_55 : decode prog_13_method_10_code 55 = .ok (.iload 4, 2) := by decide +kernel
theorem d_M_sheet_57 : decode prog_13_method_10_code 57 = .ok (.iload_n 3, 1) := by decide +kernel
theorem d_M_sheet_58 : decode prog_13_method_10_code 58 = .ok (.if_icmp .ge 22, 3) := by decide +kernel
theorem d_M_sheet_61 : decode prog_13_method_10_code 61 = .ok (.aload_n 0, 1) := by decide +kernel
theorem d_M_sheet_62 : decode prog_13_method_10_code 62 = .ok (.getfield 16, 3) := by decide +kernel
theorem d_M_sheet_65 : decode prog_13_method_10_code 65 = .ok (.bipush 60, 2) := by decide +kernel
theorem d_M_sheet_67 : decode prog_13_method_10_code 67 = .ok (.iload_n 1, 1) := by decide +kernel
theorem d_M_sheet_68 : decode prog_13_method_10_code 68 = .ok (.imul, 1) := by decide +kernel
theorem d_M_sheet_69 : decode prog_13_method_10_code 69 = .ok (.iload 4, 2) := by decide +kernel
theorem d_M_sheet_71 : decode prog_13_method_10_code 71 = .ok (.iadd, 1) := by decide +kernel
theorem d_M_sheet_72 : decode prog_13_method_10_code 72 = .ok (.iconst 0, 1) := by decide +kernel
theorem d_M_sheet_73 : decode prog_13_method_10_code 73 = .ok (.iastore, 1) := by decide +kernel
theorem d_M_sheet_74 : decode prog_13_method_10_code 74 = .ok (.iinc 4 1, 3) := by decide +kernel
theorem d_M_sheet_77 : decode prog_13_method_10_code 77 = .ok (.goto (-22), 3) := by decide +kernel
theorem d_M_sheet_80 : decode prog_13_method_10_code 80 = .ok (.iload_n 3, 1) := by decide +kernel
theorem d_M_sheet_81 : decode prog_13_method_10_code 81 = .ok (.ireturn, 1) := by decide +kernel
theorem d_M_lose_0 : decode prog_13_method_11_code 0 = .ok (.iload_n 1, 1) := by decide +kernel
theorem d_M_lose_1 : decode prog_13_method_11_code 1 = .ok (.invokestatic 86, 3) := by decide +kernel
theorem d_M_lose_4 : decode prog_13_method_11_code 4 = .ok (.ifCond .ne 6, 3) := by decide +kernel
theorem d_M_lose_7 : decode prog_13_method_11_code 7 = .ok (.bipush (-2), 2) := by decide +kernel
theorem d_M_lose_9 : decode prog_13_method_11_code 9 = .ok (.ireturn, 1) := by decide +kernel
theorem d_M_lose_10 : decode prog_13_method_11_code 10 = .ok (.aload_n 0, 1) := by decide +kernel
theorem d_M_lose_11 : decode prog_13_method_11_code 11 = .ok (.getfield 7, 3) := by decide +kernel
theorem d_M_lose_14 : decode prog_13_method_11_code 14 = .ok (.iload_n 1, 1) := by decide +kernel
theorem d_M_lose_15 : decode prog_13_method_11_code 15 = .ok (.iaload, 1) := by decide +kernel
theorem d_M_lose_16 : decode prog_13_method_11_code 16 = .ok (.ifCond .ge 9, 3) := by decide +kernel
theorem d_M_lose_19 : decode prog_13_method_11_code 19 = .ok (.aload_n 0, 1) := by decide +kernel
theorem d_M_lose_20 : decode prog_13_method_11_code 20 = .ok (.iconst 1, 1) := by decide +kernel
theorem d_M_lose_21 : decode prog_13_method_11_code 21 = .ok (.invokevirtual 92, 3) := by decide +kernel
theorem d_M_lose_24 : decode prog_13_method_11_code 24 = .ok (.ireturn, 1) := by decide +kernel
theorem d_M_lose_25 : decode prog_13_method_11_code 25 = .ok (.aload_n 0, 1) := by decide +kernel
theorem d_M_lose_26 : decode prog_13_method_11_code 26 = .ok (.getfield 7, 3) := by decide +kernel
theorem d_M_lose_29 : decode prog_13_method_11_code 29 = .ok (.iload_n 1, 1) := by decide +kernel
theorem d_M_lose_30 : decode prog_13_method_11_code 30 = .ok (.iconst (-1), 1) := by decide +kernel
theorem d_M_lose_31 : decode prog_13_method_11_code 31 = .ok (.iastore, 1) := by decide +kernel
theorem d_M_lose_32 : decode prog_13_method_11_code 32 = .ok (.aload_n 0, 1) := by decide +kernel
theorem d_M_lose_33 : decode prog_13_method_11_code 33 = .ok (.getfield 13, 3) := by decide +kernel
theorem d_M_lose_36 : decode prog_13_method_11_code 36 = .ok (.iload_n 1, 1) := by decide +kernel
theorem d_M_lose_37 : decode prog_13_method_11_code 37 = .ok (.iaload, 1) := by decide +kernel
theorem d_M_lose_38 : decode prog_13_method_11_code 38 = .ok (.ireturn, 1) := by decide +kernel
theorem d_M_lacks_0 : decode prog_13_method_12_code 0 = .ok (.aload_n 0, 1) := by decide +kernel
theorem d_M_lacks_1 : decode prog_13_method_12_code 1 = .ok (.getfield 7, 3) := by decide +kernel
theorem d_M_lacks_4 : decode prog_13_method_12_code 4 = .ok (.iload_n 1, 1) := by decide +kernel
theorem d_M_lacks_5 : decode prog_13_method_12_code 5 = .ok (.iaload, 1) := by decide +kernel
theorem d_M_lacks_6 : decode prog_13_method_12_code 6 = .ok (.ifCond .ge 9, 3) := by decide +kernel
theorem d_M_lacks_9 : decode prog_13_method_12_code 9 = .ok (.aload_n 0, 1) := by decide +kernel
theorem d_M_lacks_10 : decode prog_13_method_12_code 10 = .ok (.iconst 1, 1) := by decide +kernel
theorem d_M_lacks_11 : decode prog_13_method_12_code 11 = .ok (.invokevirtual 92, 3) := by decide +kernel
theorem d_M_lacks_14 : decode prog_13_method_12_code 14 = .ok (.ireturn, 1) := by decide +kernel
theorem d_M_lacks_15 : decode prog_13_method_12_code 15 = .ok (.aload_n 0, 1) := by decide +kernel
theorem d_M_lacks_16 : decode prog_13_method_12_code 16 = .ok (.getfield 7, 3) := by decide +kernel
theorem d_M_lacks_19 : decode prog_13_method_12_code 19 = .ok (.iload_n 1, 1) := by decide +kernel
theorem d_M_lacks_20 : decode prog_13_method_12_code 20 = .ok (.iaload, 1) := by decide +kernel
theorem d_M_lacks_21 : decode prog_13_method_12_code 21 = .ok (.iload_n 2, 1) := by decide +kernel
theorem d_M_lacks_22 : decode prog_13_method_12_code 22 = .ok (.if_icmp .eq 9, 3) := by decide +kernel
theorem d_M_lacks_25 : decode prog_13_method_12_code 25 = .ok (.aload_n 0, 1) := by decide +kernel
theorem d_M_lacks_26 : decode prog_13_method_12_code 26 = .ok (.iconst 3, 1) := by decide +kernel
theorem d_M_lacks_27 : decode prog_13_method_12_code 27 = .ok (.invokevirtual 92, 3) := by decide +kernel
theorem d_M_lacks_30 : decode prog_13_method_12_code 30 = .ok (.ireturn, 1) := by decide +kernel
theorem d_M_lacks_31 : decode prog_13_method_12_code 31 = .ok (.iload_n 3, 1) := by decide +kernel
theorem d_M_lacks_32 : decode prog_13_method_12_code 32 = .ok (.i2l, 1) := by decide +kernel
theorem d_M_lacks_33 : decode prog_13_method_12_code 33 = .ok (.lconst 0, 1) := by decide +kernel
theorem d_M_lacks_34 : decode prog_13_method_12_code 34 = .ok (.aload_n 0, 1) := by decide +kernel
theorem d_M_lacks_35 : decode prog_13_method_12_code 35 = .ok (.getfield 13, 3) := by decide +kernel
theorem d_M_lacks_38 : decode prog_13_method_12_code 38 = .ok (.iload_n 1, 1) := by decide +kernel
theorem d_M_lacks_39 : decode prog_13_method_12_code 39 = .ok (.iaload, 1) := by decide +kernel
theorem d_M_lacks_40 : decode prog_13_method_12_code 40 = .ok (.iconst 1, 1) := by decide +kernel
theorem d_M_lacks_41 : decode prog_13_method_12_code 41 = .ok (.isub, 1) := by decide +kernel
theorem d_M_lacks_42 : decode prog_13_method_12_code 42 = .ok (.i2l, 1) := by decide +kernel
theorem d_M_lacks_43 : decode prog_13_method_12_code 43 = .ok (.invokestatic 76, 3) := by decide +kernel
theorem d_M_lacks_46 : decode prog_13_method_12_code 46 = .ok (.ifCond .eq 7, 3) := by decide +kernel
theorem d_M_lacks_49 : decode prog_13_method_12_code 49 = .ok (.iconst 0, 1) := by decide +kernel
theorem d_M_lacks_50 : decode prog_13_method_12_code 50 = .ok (.goto 8, 3) := by decide +kernel
theorem d_M_lacks_53 : decode prog_13_method_12_code 53 = .ok (.aload_n 0, 1) := by decide +kernel
theorem d_M_lacks_54 : decode prog_13_method_12_code 54 = .ok (.iconst 2, 1) := by decide +kernel
theorem d_M_lacks_55 : decode prog_13_method_12_code 55 = .ok (.invokevirtual 92, 3) := by decide +kernel
theorem d_M_lacks_58 : decode prog_13_method_12_code 58 = .ok (.ireturn, 1) := by decide +kernel
theorem d_M_cut_0 : decode prog_13_method_13_code 0 = .ok (.iload_n 0, 1) := by decide +kernel
theorem d_M_cut_1 : decode prog_13_method_13_code 1 = .ok (.ifCond .ne 8, 3) := by decide +kernel
theorem d_M_cut_4 : decode prog_13_method_13_code 4 = .ok (.iload_n 1, 1) := by decide +kernel
theorem d_M_cut_5 : decode prog_13_method_13_code 5 = .ok (.i2b, 1) := by decide +kernel
theorem d_M_cut_6 : decode prog_13_method_13_code 6 = .ok (.goto 14, 3) := by decide +kernel
theorem d_M_cut_9 : decode prog_13_method_13_code 9 = .ok (.iload_n 0, 1) := by decide +kernel
theorem d_M_cut_10 : decode prog_13_method_13_code 10 = .ok (.iconst 1, 1) := by decide +kernel
theorem d_M_cut_11 : decode prog_13_method_13_code 11 = .ok (.if_icmp .ne 8, 3) := by decide +kernel
theorem d_M_cut_14 : decode prog_13_method_13_code 14 = .ok (.iload_n 1, 1) := by decide +kernel
theorem d_M_cut_15 : decode prog_13_method_13_code 15 = .ok (.i2s, 1) := by decide +kernel
theorem d_M_cut_16 : decode prog_13_method_13_code 16 = .ok (.goto 4, 3) := by decide +kernel
theorem d_M_cut_19 : decode prog_13_method_13_code 19 = .ok (.iload_n 1, 1) := by decide +kernel
theorem d_M_cut_20 : decode prog_13_method_13_code 20 = .ok (.ireturn, 1) := by decide +kernel
theorem d_M_lay_0 : decode prog_13_method_14_code 0 = .ok (.iload_n 1, 1) := by decide +kernel
theorem d_M_lay_1 : decode prog_13_method_14_code 1 = .ok (.invokestatic 86, 3) := by decide +kernel
theorem d_M_lay_4 : decode prog_13_method_14_code 4 = .ok (.ifCond .eq 15, 3) := by decide +kernel
theorem d_M_lay_7 : decode prog_13_method_14_code 7 = .ok (.iload_n 2, 1) := by decide +kernel
theorem d_M_lay_8 : decode prog_13_method_14_code 8 = .ok (.i2l, 1) := by decide +kernel
theorem d_M_lay_9 : decode prog_13_method_14_code 9 = .ok (.lconst 0, 1) := by decide +kernel
theorem d_M_lay_10 : decode prog_13_method_14_code 10 = .ok (.ldc2_w 90, 3) := by decide +kernel
theorem d_M_lay_13 : decode prog_13_method_14_code 13 = .ok (.invokestatic 76, 3) := by decide +kernel
theorem d_M_lay_16 : decode prog_13_method_14_code 16 = .ok (.ifCond .ne 6, 3) := by decide +kernel
theorem d_M_lay_19 : decode prog_13_method_14_code 19 = .ok (.bipush (-2), 2) := by decide +kernel
theorem d_M_lay_21 : decode prog_13_method_14_code 21 = .ok (.ireturn, 1) := by decide +kernel
theorem d_M_lay_22 : decode prog_13_method_14_code 22 = .ok (.aload_n 0, 1) := by decide +kernel
theorem d_M_lay_23 : decode prog_13_method_14_code 23 = .ok (.iload_n 1, 1) := by decide +kernel
theorem d_M_lay_24 : decode prog_13_method_14_code 24 = .ok (.iload_n 2, 1) := by decide +kernel
theorem d_M_lay_25 : decode prog_13_method_14_code 25 = .ok (.iload_n 3, 1) := by decide +kernel
theorem d_M_lay_26 : decode prog_13_method_14_code 26 = .ok (.invokevirtual 96, 3) := by decide +kernel
theorem d_M_lay_29 : decode prog_13_method_14_code 29 = .ok (.istore 5, 2) := by decide +kernel
theorem d_M_lay_31 : decode prog_13_method_14_code 31 = .ok (.iload 5, 2) := by decide +kernel
theorem d_M_lay_33 : decode prog_13_method_14_code 33 = .ok (.ifCond .eq 6, 3) := by decide +kernel
theorem d_M_lay_36 : decode prog_13_method_14_code 36 = .ok (.iload 5, 2) := by decide +kernel
theorem d_M_lay_38 : decode prog_13_method_14_code 38 = .ok (.ireturn, 1) := by decide +kernel
theorem d_M_lay_39 : decode prog_13_method_14_code 39 = .ok (.aload_n 0, 1) := by decide +kernel
theorem d_M_lay_40 : decode prog_13_method_14_code 40 = .ok (.getfield 16, 3) := by decide +kernel
theorem d_M_lay_43 : decode prog_13_method_14_code 43 = .ok (.bipush 60, 2) := by decide +kernel
theorem d_M_lay_45 : decode prog_13_method_14_code 45 = .ok (.iload_n 1, 1) := by decide +kernel
theorem d_M_lay_46 : decode prog_13_method_14_code 46 = .ok (.imul, 1) := by decide +kernel
theorem d_M_lay_47 : decode prog_13_method_14_code 47 = .ok (.iload_n 3, 1) := by decide +kernel
theorem d_M_lay_48 : decode prog_13_method_14_code 48 = .ok (.iadd, 1) := by decide +kernel
theorem d_M_lay_49 : decode prog_13_method_14_code 49 = .ok (.iload_n 2, 1) := by decide +kernel
theorem d_M_lay_50 : decode prog_13_method_14_code 50 = .ok (.iload 4, 2) := by decide +kernel
theorem d_M_lay_52 : decode prog_13_method_14_code 52 = .ok (.invokestatic 100, 3) := by decide +kernel
theorem d_M_lay_55 : decode prog_13_method_14_code 55 = .ok (.iastore, 1) := by decide +kernel
theorem d_M_lay_56 : decode prog_13_method_14_code 56 = .ok (.iconst 1, 1) := by decide +kernel
theorem d_M_lay_57 : decode prog_13_method_14_code 57 = .ok (.ireturn, 1) := by decide +kernel
theorem d_M_get_0 : decode prog_13_method_15_code 0 = .ok (.iload_n 1, 1) := by decide +kernel
theorem d_M_get_1 : decode prog_13_method_15_code 1 = .ok (.invokestatic 86, 3) := by decide +kernel
theorem d_M_get_4 : decode prog_13_method_15_code 4 = .ok (.ifCond .eq 25, 3) := by decide +kernel
theorem d_M_get_7 : decode prog_13_method_15_code 7 = .ok (.iload_n 2, 1) := by decide +kernel
theorem d_M_get_8 : decode prog_13_method_15_code 8 = .ok (.i2l, 1) := by decide +kernel
theorem d_M_get_9 : decode prog_13_method_15_code 9 = .ok (.lconst 0, 1) := by decide +kernel
theorem d_M_get_10 : decode prog_13_method_15_code 10 = .ok (.ldc2_w 90, 3) := by decide +kernel
theorem d_M_get_13 : decode prog_13_method_15_code 13 = .ok (.invokestatic 76, 3) := by decide +kernel
theorem d_M_get_16 : decode prog_13_method_15_code 16 = .ok (.ifCond .eq 13, 3) := by decide +kernel
theorem d_M_get_19 : decode prog_13_method_15_code 19 = .ok (.aload_n 0, 1) := by decide +kernel
theorem d_M_get_20 : decode prog_13_method_15_code 20 = .ok (.iload_n 1, 1) := by decide +kernel
theorem d_M_get_21 : decode prog_13_method_15_code 21 = .ok (.iload_n 2, 1) := by decide +kernel
theorem d_M_get_22 : decode prog_13_method_15_code 22 = .ok (.iload_n 3, 1) := by decide +kernel
theorem d_M_get_23 : decode prog_13_method_15_code 23 = .ok (.invokevirtual 96, 3) := by decide +kernel
theorem d_M_get_26 : decode prog_13_method_15_code 26 = .ok (.ifCond .eq 6, 3) := by decide +kernel
theorem d_M_get_29 : decode prog_13_method_15_code 29 = .ok (.ldc 104, 2) := by decide +kernel
theorem d_M_get_31 : decode prog_13_method_15_code 31 = .ok (.ireturn, 1) := by decide +kernel
theorem d_M_get_32 : decode prog_13_method_15_code 32 = .ok (.aload_n 0, 1) := by decide +kernel
theorem d_M_get_33 : decode prog_13_method_15_code 33 = .ok (.getfield 16, 3) := by decide +kernel
theorem d_M_get_36 : decode prog_13_method_15_code 36 = .ok (.bipush 60, 2) := by decide +kernel
theorem d_M_get_38 : decode prog_13_method_15_code 38 = .ok (.iload_n 1, 1) := by decide +kernel
theorem d_M_get_39 : decode prog_13_method_15_code 39 = .ok (.imul, 1) := by decide +kernel
theorem d_M_get_40 : decode prog_13_method_15_code 40 = .ok (.iload_n 3, 1) := by decide +kernel
theorem d_M_get_41 : decode prog_13_method_15_code 41 = .ok (.iadd, 1) := by decide +kernel
theorem d_M_get_42 : decode prog_13_method_15_code 42 = .ok (.iaload, 1) := by decide +kernel
theorem d_M_get_43 : decode prog_13_method_15_code 43 = .ok (.ireturn, 1) := by decide +kernel
theorem d_M_copy_0 : decode prog_13_method_16_code 0 = .ok (.iload_n 1, 1) := by decide +kernel
theorem d_M_copy_1 : decode prog_13_method_16_code 1 = .ok (.invokestatic 86, 3) := by decide +kernel
theorem d_M_copy_4 : decode prog_13_method_16_code 4 = .ok (.ifCond .eq 10, 3) := by decide +kernel
theorem d_M_copy_7 : decode prog_13_method_16_code 7 = .ok (.iload_n 3, 1) := by decide +kernel
theorem d_M_copy_8 : decode prog_13_method_16_code 8 = .ok (.invokestatic 86, 3) := by decide +kernel
theorem d_M_copy_11 : decode prog_13_method_16_code 11 = .ok (.ifCond .ne 6, 3) := by decide +kernel
theorem d_M_copy_14 : decode prog_13_method_16_code 14 = .ok (.bipush (-2), 2) := by decide +kernel
theorem d_M_copy_16 : decode prog_13_method_16_code 16 = .ok (.ireturn, 1) := by decide +kernel
theorem d_M_copy_17 : decode prog_13_method_16_code 17 = .ok (.aload_n 0, 1) := by decide +kernel
theorem d_M_copy_18 : decode prog_13_method_16_code 18 = .ok (.getfield 7, 3) := by decide +kernel
theorem d_M_copy_21 : decode prog_13_method_16_code 21 = .ok (.iload_n 1, 1) := by decide +kernel
theorem d_M_copy_22 : decode prog_13_method_16_code 22 = .ok (.iaload, 1) := by decide +kernel
theorem d_M_copy_23 : decode prog_13_method_16_code 23 = .ok (.ifCond .lt 12, 3) := by decide +kernel
theorem d_M_copy_26 : decode prog_13_method_16_code 26 = .ok (.aload_n 0, 1) := by decide +kernel
theorem d_M_copy_27 : decode prog_13_method_16_code 27 = .ok (.getfield 7, 3) := by decide +kernel
theorem d_M_copy_30 : decode prog_13_method_16_code 30 = .ok (.iload_n 3, 1) := by decide +kernel
theorem d_M_copy_31 : decode prog_13_method_16_code 31 = .ok (.iaload, 1) := by decide +kernel
theorem d_M_copy_32 : decode prog_13_method_16_code 32 = .ok (.ifCond .ge 9, 3) := by decide +kernel
theorem d_M_copy_35 : decode prog_13_method_16_code 35 = .ok (.aload_n 0, 1) := by decide +kernel
theorem d_M_copy_36 : decode prog_13_method_16_code 36 = .ok (.iconst 1, 1) := by decide +kernel
theorem d_M_copy_37 : decode prog_13_method_16_code 37 = .ok (.invokevirtual 92, 3) := by decide +kernel
theorem d_M_copy_40 : decode prog_13_method_16_code 40 = .ok (.ireturn, 1) := by decide +kernel
theorem d_M_copy_41 : decode prog_13_method_16_code 41 = .ok (.aload_n 0, 1) := by decide +kernel
theorem d_M_copy_42 : decode prog_13_method_16_code 42 = .ok (.getfield 7, 3) := by decide +kernel
theorem d_M_copy_45 : decode prog_13_method_16_code 45 = .ok (.iload_n 1, 1) := by decide +kernel
theorem d_M_copy_46 : decode prog_13_method_16_code 46 = .ok (.iaload, 1) := by decide +kernel
theorem d_M_copy_47 : decode prog_13_method_16_code 47 = .ok (.aload_n 0, 1) := by decide +kernel
theorem d_M_copy_48 : decode prog_13_method_16_code 48 = .ok (.getfield 7, 3) := by decide +kernel
theorem d_M_copy_51 : decode prog_13_method_16_code 51 = .ok (.iload_n 3, 1) := by decide +kernel
theorem d_M_copy_52 : decode prog_13_method_16_code 52 = .ok (.iaload, 1) := by decide +kernel
theorem d_M_copy_53 : decode prog_13_method_16_code 53 = .ok (.if_icmp .eq 9, 3) := by decide +kernel
theorem d_M_copy_56 : decode prog_13_method_16_code 56 = .ok (.aload_n 0, 1) := by decide +kernel
theorem d_M_copy_57 : decode prog_13_method_16_code 57 = .ok (.iconst 4, 1) := by decide +kernel
theorem d_M_copy_58 : decode prog_13_method_16_code 58 = .ok (.invokevirtual 92, 3) := by decide +kernel
theorem d_M_copy_61 : decode prog_13_method_16_code 61 = .ok (.ireturn, 1) := by decide +kernel
theorem d_M_copy_62 : decode prog_13_method_16_code 62 = .ok (.iload_n 2, 1) := by decide +kernel
theorem d_M_copy_63 : decode prog_13_method_16_code 63 = .ok (.ifCond .lt 48, 3) := by decide +kernel
theorem d_M_copy_66 : decode prog_13_method_16_code 66 = .ok (.iload 4, 2) := by decide +kernel
theorem d_M_copy_68 : decode prog_13_method_16_code 68 = .ok (.ifCond .lt 43, 3) := by decide +kernel
theorem d_M_copy_71 : decode prog_13_method_16_code 71 = .ok (.iload 5, 2) := by decide +kernel
theorem d_M_copy_73 : decode prog_13_method_16_code 73 = .ok (.ifCond .lt 38, 3) := by decide +kernel
theorem d_M_copy_76 : decode prog_13_method_16_code 76 = .ok (.iload_n 2, 1) := by decide +kernel
theorem d_M_copy_77 : decode prog_13_method_16_code 77 = .ok (.i2l, 1) := by decide +kernel
theorem d_M_copy_78 : decode prog_13_method_16_code 78 = .ok (.iload 5, 2) := by decide +kernel
theorem d_M_copy_80 : decode prog_13_method_16_code 80 = .ok (.i2l, 1) := by decide +kernel
theorem d_M_copy_81 : decode prog_13_method_16_code 81 = .ok (.ladd, 1) := by decide +kernel
theorem d_M_copy_82 : decode prog_13_method_16_code 82 = .ok (.aload_n 0, 1) := by decide +kernel
theorem d_M_copy_83 : decode prog_13_method_16_code 83 = .ok (.getfield 13, 3) := by decide +kernel
theorem d_M_copy_86 : decode prog_13_method_16_code 86 = .ok (.iload_n 1, 1) := by decide +kernel
theorem d_M_copy_87 : decode prog_13_method_16_code 87 = .ok (.iaload, 1) := by decide +kernel
theorem d_M_copy_88 : decode prog_13_method_16_code 88 = .ok (.i2l, 1) := by decide +kernel
theorem d_M_copy_89 : decode prog_13_method_16_code 89 = .ok (.lcmp, 1) := by decide +kernel
theorem d_M_copy_90 : decode prog_13_method_16_code 90 = .ok (.ifCond .gt 21, 3) := by decide +kernel
theorem d_M_copy_93 : decode prog_13_method_16_code 93 = .ok (.iload 4, 2) := by decide +kernel
theorem d_M_copy_95 : decode prog_13_method_16_code 95 = .ok (.i2l, 1) := by decide +kernel
theorem d_M_copy_96 : decode prog_13_method_16_code 96 = .ok (.iload 5, 2) := by decide +kernel
theorem d_M_copy_98 : decode prog_13_method_16_code 98 = .ok (.i2l, 1) := by decide +kernel
theorem d_M_copy_99 : decode prog_13_method_16_code 99 = .ok (.ladd, 1) := by decide +kernel
theorem d_M_copy_100 : decode prog_13_method_16_code 100 = .ok (.aload_n 0, 1) := by decide +kernel
theorem d_M_copy_101 : decode prog_13_method_16_code 101 = .ok (.getfield 13, 3) := by decide +kernel
theorem d_M_copy_104 : decode prog_13_method_16_code 104 = .ok (.iload_n 3, 1) := by decide +kernel
theorem d_M_copy_105 : decode prog_13_method_16_code 105 = .ok (.iaload, 1) := by decide +kernel
theorem d_M_copy_106 : decode prog_13_method_16_code 106 = .ok (.i2l, 1) := by decide +kernel
theorem d_M_copy_107 : decode prog_13_method_16_code 107 = .ok (.lcmp, 1) := by decide +kernel
theorem d_M_copy_108 : decode prog_13_method_16_code 108 = .ok (.ifCond .le 9, 3) := by decide +kernel
theorem d_M_copy_111 : decode prog_13_method_16_code 111 = .ok (.aload_n 0, 1) := by decide +kernel
theorem d_M_copy_112 : decode prog_13_method_16_code 112 = .ok (.iconst 2, 1) := by decide +kernel
theorem d_M_copy_113 : decode prog_13_method_16_code 113 = .ok (.invokevirtual 92, 3) := by decide +kernel
theorem d_M_copy_116 : decode prog_13_method_16_code 116 = .ok (.ireturn, 1) := by decide +kernel
theorem d_M_copy_117 : decode prog_13_method_16_code 117 = .ok (.iconst 0, 1) := by decide +kernel
theorem d_M_copy_118 : decode prog_13_method_16_code 118 = .ok (.istore 6, 2) := by decide +kernel
theorem d_M_copy_120 : decode prog_13_method_16_code 120 = .ok (.iload 6, 2) := by decide +kernel
theorem d_M_copy_122 : decode prog_13_method_16_code 122 = .ok (.iload 5, 2) := by decide +kernel
theorem d_M_copy_124 : decode prog_13_method_16_code 124 = .ok (.if_icmp .ge 30, 3) := by decide +kernel
theorem d_M_copy_127 : decode prog_13_method_16_code 127 = .ok (.aload_n 0, 1) := by decide +kernel
theorem d_M_copy_128 : decode prog_13_method_16_code 128 = .ok (.getfield 19, 3) := by decide +kernel
theorem d_M_copy_131 : decode prog_13_method_16_code 131 = .ok (.iload 6, 2) := by decide +kernel
theorem d_M_copy_133 : decode prog_13_method_16_code 133 = .ok (.aload_n 0, 1) := by decide +kernel
theorem d_M_copy_134 : decode prog_13_method_16_code 134 = .ok (.getfield 16, 3) := by decide +kernel
theorem d_M_copy_137 : decode prog_13_method_16_code 137 = .ok (.bipush 60, 2) := by decide +kernel
theorem d_M_copy_139 : decode prog_13_method_16_code 139 = .ok (.iload_n 1, 1) := by decide +kernel
theorem d_M_copy_140 : decode prog_13_method_16_code 140 = .ok (.imul, 1) := by decide +kernel
theorem d_M_copy_141 : decode prog_13_method_16_code 141 = .ok (.iload_n 2, 1) := by decide +kernel
theorem d_M_copy_142 : decode prog_13_method_16_code 142 = .ok (.iadd, 1) := by decide +kernel
theorem d_M_copy_143 : decode prog_13_method_16_code 143 = .ok (.iload 6, 2) := by decide +kernel
theorem d_M_copy_145 : decode prog_13_method_16_code 145 = .ok (.iadd, 1) := by decide +kernel
theorem d_M_copy_146 : decode prog_13_method_16_code 146 = .ok (.iaload, 1) := by decide +kernel
theorem d_M_copy_147 : decode prog_13_method_16_code 147 = .ok (.iastore, 1) := by decide +kernel
theorem d_M_copy_148 : decode prog_13_method_16_code 148 = .ok (.iinc 6 1, 3) := by decide +kernel
theorem d_M_copy_151 : decode prog_13_method_16_code 151 = .ok (.goto (-31), 3) := by decide +kernel
theorem d_M_copy_154 : decode prog_13_method_16_code 154 = .ok (.iconst 0, 1) := by decide +kernel
theorem d_M_copy_155 : decode prog_13_method_16_code 155 = .ok (.istore 6, 2) := by decide +kernel
theorem d_M_copy_157 : decode prog_13_method_16_code 157 = .ok (.iload 6, 2) := by decide +kernel
theorem d_M_copy_159 : decode prog_13_method_16_code 159 = .ok (.iload 5, 2) := by decide +kernel
theorem d_M_copy_161 : decode prog_13_method_16_code 161 = .ok (.if_icmp .ge 31, 3) := by decide +kernel
theorem d_M_copy_164 : decode prog_13_method_16_code 164 = .ok (.aload_n 0, 1) := by decide +kernel
theorem d_M_copy_165 : decode prog_13_method_16_code 165 = .ok (.getfield 16, 3) := by decide +kernel
theorem d_M_copy_168 : decode prog_13_method_16_code 168 = .ok (.bipush 60, 2) := by decide +kernel
theorem d_M_copy_170 : decode prog_13_method_16_code 170 = .ok (.iload_n 3, 1) := by decide +kernel
theorem d_M_copy_171 : decode prog_13_method_16_code 171 = .ok (.imul, 1) := by decide +kernel
theorem d_M_copy_172 : decode prog_13_method_16_code 172 = .ok (.iload 4, 2) := by decide +kernel
theorem d_M_copy_174 : decode prog_13_method_16_code 174 = .ok (.iadd, 1) := by decide +kernel
theorem d_M_copy_175 : decode prog_13_method_16_code 175 = .ok (.iload 6, 2) := by decide +kernel
theorem d_M_copy_177 : decode prog_13_method_16_code 177 = .ok (.iadd, 1) := by decide +kernel
theorem d_M_copy_178 : decode prog_13_method_16_code 178 = .ok (.aload_n 0, 1) := by decide +kernel
theorem d_M_copy_179 : decode prog_13_method_16_code 179 = .ok (.getfield 19, 3) := by decide +kernel
theorem d_M_copy_182 : decode prog_13_method_16_code 182 = .ok (.iload 6, 2) := by decide +kernel
theorem d_M_copy_184 : decode prog_13_method_16_code 184 = .ok (.iaload, 1) := by decide +kernel
theorem d_M_copy_185 : decode prog_13_method_16_code 185 = .ok (.iastore, 1) := by decide +kernel
theorem d_M_copy_186 : decode prog_13_method_16_code 186 = .ok (.iinc 6 1, 3) := by decide +kernel
theorem d_M_copy_189 : decode prog_13_method_16_code 189 = .ok (.goto (-32), 3) := by decide +kernel
theorem d_M_copy_192 : decode prog_13_method_16_code 192 = .ok (.iconst 1, 1) := by decide +kernel
theorem d_M_copy_193 : decode prog_13_method_16_code 193 = .ok (.ireturn, 1) := by decide +kernel
theorem d_M_type_0 : decode prog_13_method_17_code 0 = .ok (.iload_n 1, 1) := by decide +kernel
theorem d_M_type_1 : decode prog_13_method_17_code 1 = .ok (.i2l, 1) := by decide +kernel
theorem d_M_type_2 : decode prog_13_method_17_code 2 = .ok (.lconst 0, 1) := by decide +kernel
theorem d_M_type_3 : decode prog_13_method_17_code 3 = .ok (.ldc2_w 105, 3) := by decide +kernel
theorem d_M_type_6 : decode prog_13_method_17_code 6 = .ok (.invokestatic 76, 3) := by decide +kernel
theorem d_M_type_9 : decode prog_13_method_17_code 9 = .ok (.ifCond .ne 6, 3) := by decide +kernel
theorem d_M_type_12 : decode prog_13_method_17_code 12 = .ok (.bipush (-2), 2) := by decide +kernel
theorem d_M_type_14 : decode prog_13_method_17_code 14 = .ok (.ireturn, 1) := by decide +kernel
theorem d_M_type_15 : decode prog_13_method_17_code 15 = .ok (.aload_n 0, 1) := by decide +kernel
theorem d_M_type_16 : decode prog_13_method_17_code 16 = .ok (.getfield 107, 3) := by decide +kernel
theorem d_M_type_19 : decode prog_13_method_17_code 19 = .ok (.bipush 60, 2) := by decide +kernel
theorem d_M_type_21 : decode prog_13_method_17_code 21 = .ok (.if_icmp .ne 6, 3) := by decide +kernel
theorem d_M_type_24 : decode prog_13_method_17_code 24 = .ok (.bipush (-4), 2) := by decide +kernel
theorem d_M_type_26 : decode prog_13_method_17_code 26 = .ok (.ireturn, 1) := by decide +kernel
theorem d_M_type_27 : decode prog_13_method_17_code 27 = .ok (.aload_n 0, 1) := by decide +kernel
theorem d_M_type_28 : decode prog_13_method_17_code 28 = .ok (.getfield 22, 3) := by decide +kernel
theorem d_M_type_31 : decode prog_13_method_17_code 31 = .ok (.aload_n 0, 1) := by decide +kernel
theorem d_M_type_32 : decode prog_13_method_17_code 32 = .ok (.getfield 107, 3) := by decide +kernel
theorem d_M_type_35 : decode prog_13_method_17_code 35 = .ok (.iload_n 1, 1) := by decide +kernel
theorem d_M_type_36 : decode prog_13_method_17_code 36 = .ok (.iastore, 1) := by decide +kernel
theorem d_M_type_37 : decode prog_13_method_17_code 37 = .ok (.aload_n 0, 1) := by decide +kernel
theorem d_M_type_38 : decode prog_13_method_17_code 38 = .ok (.dup, 1) := by decide +kernel
theorem d_M_type_39 : decode prog_13_method_17_code 39 = .ok (.getfield 107, 3) := by decide +kernel
theorem d_M_type_42 : decode prog_13_method_17_code 42 = .ok (.iconst 1, 1) := by decide +kernel
theorem d_M_type_43 : decode prog_13_method_17_code 43 = .ok (.iadd, 1) := by decide +kernel
theorem d_M_type_44 : decode prog_13_method_17_code 44 = .ok (.putfield 107, 3) := by decide +kernel
theorem d_M_type_47 : decode prog_13_method_17_code 47 = .ok (.aload_n 0, 1) := by decide +kernel
theorem d_M_type_48 : decode prog_13_method_17_code 48 = .ok (.getfield 107, 3) := by decide +kernel
theorem d_M_type_51 : decode prog_13_method_17_code 51 = .ok (.ireturn, 1) := by decide +kernel
theorem d_M_wipe_0 : decode prog_13_method_18_code 0 = .ok (.aload_n 0, 1) := by decide +kernel
theorem d_M_wipe_1 : decode prog_13_method_18_code 1 = .ok (.getfield 107, 3) := by decide +kernel
theorem d_M_wipe_4 : decode prog_13_method_18_code 4 = .ok (.istore_n 1, 1) := by decide +kernel
theorem d_M_wipe_5 : decode prog_13_method_18_code 5 = .ok (.aload_n 0, 1) := by decide +kernel
theorem d_M_wipe_6 : decode prog_13_method_18_code 6 = .ok (.iconst 0, 1) := by decide +kernel
theorem d_M_wipe_7 : decode prog_13_method_18_code 7 = .ok (.putfield 107, 3) := by decide +kernel
theorem d_M_wipe_10 : decode prog_13_method_18_code 10 = .ok (.iload_n 1, 1) := by decide +kernel
theorem d_M_wipe_11 : decode prog_13_method_18_code 11 = .ok (.ireturn, 1) := by decide +kernel
theorem d_M_here_0 : decode prog_13_method_19_code 0 = .ok (.aload_n 0, 1) := by decide +kernel
theorem d_M_here_1 : decode prog_13_method_19_code 1 = .ok (.getfield 110, 3) := by decide +kernel
theorem d_M_here_4 : decode prog_13_method_19_code 4 = .ok (.aload_n 0, 1) := by decide +kernel
theorem d_M_here_5 : decode prog_13_method_19_code 5 = .ok (.getfield 107, 3) := by decide +kernel
theorem d_M_here_8 : decode prog_13_method_19_code 8 = .ok (.if_icmp .ge 15, 3) := by decide +kernel
theorem d_M_here_11 : decode prog_13_method_19_code 11 = .ok (.aload_n 0, 1) := by decide +kernel
theorem d_M_here_12 : decode prog_13_method_19_code 12 = .ok (.getfield 22, 3) := by decide +kernel
theorem d_M_here_15 : decode prog_13_method_19_code 15 = .ok (.aload_n 0, 1) := by decide +kernel
theorem d_M_here_16 : decode prog_13_method_19_code 16 = .ok (.getfield 110, 3) := by decide +kernel
theorem d_M_here_19 : decode prog_13_method_19_code 19 = .ok (.iaload, 1) := by decide +kernel
theorem d_M_here_20 : decode prog_13_method_19_code 20 = .ok (.goto 4, 3) := by decide +kernel
theorem d_M_here_23 : decode prog_13_method_19_code 23 = .ok (.iconst (-1), 1) := by decide +kernel
theorem d_M_here_24 : decode prog_13_method_19_code 24 = .ok (.ireturn, 1) := by decide +kernel
theorem d_M_none_0 : decode prog_13_method_20_code 0 = .ok (.aload_n 0, 1) := by decide +kernel
theorem d_M_none_1 : decode prog_13_method_20_code 1 = .ok (.iconst 0, 1) := by decide +kernel
theorem d_M_none_2 : decode prog_13_method_20_code 2 = .ok (.putfield 113, 3) := by decide +kernel
theorem d_M_none_5 : decode prog_13_method_20_code 5 = .ok (.aload_n 0, 1) := by decide +kernel
theorem d_M_none_6 : decode prog_13_method_20_code 6 = .ok (.getfield 110, 3) := by decide +kernel
theorem d_M_none_9 : decode prog_13_method_20_code 9 = .ok (.ireturn, 1) := by decide +kernel
theorem d_M_readsPart_0 : decode prog_13_method_21_code 0 = .ok (.aload_n 0, 1) := by decide +kernel
theorem d_M_readsPart_1 : decode prog_13_method_21_code 1 = .ok (.invokevirtual 116, 3) := by decide +kernel
theorem d_M_readsPart_4 : decode prog_13_method_21_code 4 = .ok (.istore_n 1, 1) := by decide +kernel
theorem d_M_readsPart_5 : decode prog_13_method_21_code 5 = .ok (.iload_n 1, 1) := by decide +kernel
theorem d_M_readsPart_6 : decode prog_13_method_21_code 6 = .ok (.bipush 112, 2) := by decide +kernel
theorem d_M_readsPart_8 : decode prog_13_method_21_code 8 = .ok (.if_icmp .ne 7, 3) := by decide +kernel
theorem d_M_readsPart_11 : decode prog_13_method_21_code 11 = .ok (.iconst 0, 1) := by decide +kernel
theorem d_M_readsPart_12 : decode prog_13_method_21_code 12 = .ok (.goto 24, 3) := by decide +kernel
theorem d_M_readsPart_15 : decode prog_13_method_21_code 15 = .ok (.iload_n 1, 1) := by decide +kernel
theorem d_M_readsPart_16 : decode prog_13_method_21_code 16 = .ok (.bipush 118, 2) := by decide +kernel
theorem d_M_readsPart_18 : decode prog_13_method_21_code 18 = .ok (.if_icmp .ne 7, 3) := by decide +kernel
theorem d_M_readsPart_21 : decode prog_13_method_21_code 21 = .ok (.iconst 1, 1) := by decide +kernel
theorem d_M_readsPart_22 : decode prog_13_method_21_code 22 = .ok (.goto 14, 3) := by decide +kernel
theorem d_M_readsPart_25 : decode prog_13_method_21_code 25 = .ok (.iload_n 1, 1) := by decide +kernel
theorem d_M_readsPart_26 : decode prog_13_method_21_code 26 = .ok (.bipush 100, 2) := by decide +kernel
theorem d_M_readsPart_28 : decode prog_13_method_21_code 28 = .ok (.if_icmp .ne 7, 3) := by decide +kernel
theorem d_M_readsPart_31 : decode prog_13_method_21_code 31 = .ok (.iconst 2, 1) := by decide +kernel
theorem d_M_readsPart_32 : decode prog_13_method_21_code 32 = .ok (.goto 4, 3) := by decide +kernel
theorem d_M_readsPart_35 : decode prog_13_method_21_code 35 = .ok (.iconst (-1), 1) := by decide +kernel
theorem d_M_readsPart_36 : decode prog_13_method_21_code 36 = .ok (.istore_n 2, 1) := by decide +kernel
theorem d_M_readsPart_37 : decode prog_13_method_21_code 37 = .ok (.iload_n 2, 1) := by decide +kernel
theorem d_M_readsPart_38 : decode prog_13_method_21_code 38 = .ok (.iconst (-1), 1) := by decide +kernel
theorem d_M_readsPart_39 : decode prog_13_method_21_code 39 = .ok (.if_icmp .eq 12, 3) := by decide +kernel
theorem d_M_readsPart_42 : decode prog_13_method_21_code 42 = .ok (.aload_n 0, 1) := by decide +kernel
theorem d_M_readsPart_43 : decode prog_13_method_21_code 43 = .ok (.getfield 113, 3) := by decide +kernel
theorem d_M_readsPart_46 : decode prog_13_method_21_code 46 = .ok (.bipush 8, 2) := by decide +kernel
theorem d_M_readsPart_48 : decode prog_13_method_21_code 48 = .ok (.if_icmp .ne 5, 3) := by decide +kernel
theorem d_M_readsPart_51 : decode prog_13_method_21_code 51 = .ok (.iconst 0, 1) := by decide +kernel
theorem d_M_readsPart_52 : decode prog_13_method_21_code 52 = .ok (.ireturn, 1) := by decide +kernel
theorem d_M_readsPart_53 : decode prog_13_method_21_code 53 = .ok (.aload_n 0, 1) := by decide +kernel
theorem d_M_readsPart_54 : decode prog_13_method_21_code 54 = .ok (.dup, 1) := by decide +kernel
theorem d_M_readsPart_55 : decode prog_13_method_21_code 55 = .ok (.getfield 110, 3) := by decide +kernel
theorem d_M_readsPart_58 : decode prog_13_method_21_code 58 = .ok (.iconst 1, 1) := by decide +kernel
theorem d_M_readsPart_59 : decode prog_13_method_21_code 59 = .ok (.iadd, 1) := by decide +kernel
theorem d_M_readsPart_60 : decode prog_13_method_21_code 60 = .ok (.putfield 110, 3) := by decide +kernel
theorem d_M_readsPart_63 : decode prog_13_method_21_code 63 = .ok (.iconst 0, 1) := by decide +kernel
theorem d_M_readsPart_64 : decode prog_13_method_21_code 64 = .ok (.istore_n 3, 1) := by decide +kernel
theorem d_M_readsPart_65 : decode prog_13_method_21_code 65 = .ok (.iconst 0, 1) := by decide +kernel
theorem d_M_readsPart_66 : decode prog_13_method_21_code 66 = .ok (.istore 4, 2) := by decide +kernel
theorem d_M_readsPart_68 : decode prog_13_method_21_code 68 = .ok (.iload 4, 2) := by decide +kernel
theorem d_M_readsPart_70 : decode prog_13_method_21_code 70 = .ok (.iconst 2, 1) := by decide +kernel
theorem d_M_readsPart_71 : decode prog_13_method_21_code 71 = .ok (.if_icmp .ge 51, 3) := by decide +kernel
theorem d_M_readsPart_74 : decode prog_13_method_21_code 74 = .ok (.aload_n 0, 1) := by decide +kernel
theorem d_M_readsPart_75 : decode prog_13_method_21_code 75 = .ok (.invokevirtual 116, 3) := by decide +kernel
theorem d_M_readsPart_78 : decode prog_13_method_21_code 78 = .ok (.i2l, 1) := by decide +kernel
theorem d_M_readsPart_79 : decode prog_13_method_21_code 79 = .ok (.ldc2_w 120, 3) := by decide +kernel
theorem d_M_readsPart_82 : decode prog_13_method_21_code 82 = .ok (.ldc2_w 122, 3) := by decide +kernel
theorem d_M_readsPart_85 : decode prog_13_method_21_code 85 = .ok (.invokestatic 76, 3) := by decide +kernel
theorem d_M_readsPart_88 : decode prog_13_method_21_code 88 = .ok (.ifCond .ne 5, 3) := by decide +kernel
theorem d_M_readsPart_91 : decode prog_13_method_21_code 91 = .ok (.iconst 0, 1) := by decide +kernel
theorem d_M_readsPart_92 : decode prog_13_method_21_code 92 = .ok (.ireturn, 1) := by decide +kernel
theorem d_M_readsPart_93 : decode prog_13_method_21_code 93 = .ok (.bipush 10, 2) := by decide +kernel
theorem d_M_readsPart_95 : decode prog_13_method_21_code 95 = .ok (.iload_n 3, 1) := by decide +kernel
theorem d_M_readsPart_96 : decode prog_13_method_21_code 96 = .ok (.imul, 1) := by decide +kernel
theorem d_M_readsPart_97 : decode prog_13_method_21_code 97 = .ok (.aload_n 0, 1) := by decide +kernel
theorem d_M_readsPart_98 : decode prog_13_method_21_code 98 = .ok (.invokevirtual 116, 3) := by decide +kernel
theorem d_M_readsPart_101 : decode prog_13_method_21_code 101 = .ok (.iadd, 1) := by decide +kernel
theorem d_M_readsPart_102 : decode prog_13_method_21_code 102 = .ok (.bipush 48, 2) := by decide +kernel
theorem d_M_readsPart_104 : decode prog_13_method_21_code 104 = .ok (.isub, 1) := by decide +kernel
theorem d_M_readsPart_105 : decode prog_13_method_21_code 105 = .ok (.istore_n 3, 1) := by decide +kernel
theorem d_M_readsPart_106 : decode prog_13_method_21_code 106 = .ok (.aload_n 0, 1) := by decide +kernel
theorem d_M_readsPart_107 : decode prog_13_method_21_code 107 = .ok (.dup, 1) := by decide +kernel
theorem d_M_readsPart_108 : decode prog_13_method_21_code 108 = .ok (.getfield 110, 3) := by decide +kernel
theorem d_M_readsPart_111 : decode prog_13_method_21_code 111 = .ok (.iconst 1, 1) := by decide +kernel
theorem d_M_readsPart_112 : decode prog_13_method_21_code 112 = .ok (.iadd, 1) := by decide +kernel
theorem d_M_readsPart_113 : decode prog_13_method_21_code 113 = .ok (.putfield 110, 3) := by decide +kernel
theorem d_M_readsPart_116 : decode prog_13_method_21_code 116 = .ok (.iinc 4 1, 3) := by decide +kernel
theorem d_M_readsPart_119 : decode prog_13_method_21_code 119 = .ok (.goto (-51), 3) := by decide +kernel
theorem d_M_readsPart_122 : decode prog_13_method_21_code 122 = .ok (.iload_n 3, 1) := by decide +kernel
theorem d_M_readsPart_123 : decode prog_13_method_21_code 123 = .ok (.ifCond .ne 15, 3) := by decide +kernel
theorem d_M_readsPart_126 : decode prog_13_method_21_code 126 = .ok (.aload_n 0, 1) := by decide +kernel
theorem d_M_readsPart_127 : decode prog_13_method_21_code 127 = .ok (.dup, 1) := by decide +kernel
theorem d_M_readsPart_128 : decode prog_13_method_21_code 128 = .ok (.getfield 110, 3) := by decide +kernel
theorem d_M_readsPart_131 : decode prog_13_method_21_code 131 = .ok (.iconst 2, 1) := by decide +kernel
theorem d_M_readsPart_132 : decode prog_13_method_21_code 132 = .ok (.isub, 1) := by decide +kernel
theorem d_M_readsPart_133 : decode prog_13_method_21_code 133 = .ok (.putfield 110, 3) := by decide +kernel
theorem d_M_readsPart_136 : decode prog_13_method_21_code 136 = .ok (.iconst 0, 1) := by decide +kernel
theorem d_M_readsPart_137 : decode prog_13_method_21_code 137 = .ok (.ireturn, 1) := by decide +kernel
theorem d_M_readsPart_138 : decode prog_13_method_21_code 138 = .ok (.aload_n 0, 1) := by decide +kernel
theorem d_M_readsPart_139 : decode prog_13_method_21_code 139 = .ok (.getfield 25, 3) := by decide +kernel
theorem d_M_readsPart_142 : decode prog_13_method_21_code 142 = .ok (.aload_n 0, 1) := by decide +kernel
theorem d_M_readsPart_143 : decode prog_13_method_21_code 143 = .ok (.getfield 113, 3) := by decide +kernel
theorem d_M_readsPart_146 : decode prog_13_method_21_code 146 = .ok (.iload_n 2, 1) := by decide +kernel
theorem d_M_readsPart_147 : decode prog_13_method_21_code 147 = .ok (.iastore, 1) := by decide +kernel
theorem d_M_readsPart_148 : decode prog_13_method_21_code 148 = .ok (.aload_n 0, 1) := by decide +kernel
theorem d_M_readsPart_149 : decode prog_13_method_21_code 149 = .ok (.getfield 28, 3) := by decide +kernel
theorem d_M_readsPart_152 : decode prog_13_method_21_code 152 = .ok (.aload_n 0, 1) := by decide +kernel
theorem d_M_readsPart_153 : decode prog_13_method_21_code 153 = .ok (.getfield 113, 3) := by decide +kernel
theorem d_M_readsPart_156 : decode prog_13_method_21_code 156 = .ok (.iload_n 3, 1) := by decide +kernel
theorem d_M_readsPart_157 : decode prog_13_method_21_code 157 = .ok (.iastore, 1) := by decide +kernel
theorem d_M_readsPart_158 : decode prog_13_method_21_code 158 = .ok (.aload_n 0, 1) := by decide +kernel
theorem d_M_readsPart_159 : decode prog_13_method_21_code 159 = .ok (.dup, 1) := by decide +kernel
theorem d_M_readsPart_160 : decode prog_13_method_21_code 160 = .ok (.getfield 113, 3) := by decide +kernel
theorem d_M_readsPart_163 : decode prog_13_method_21_code 163 = .ok (.iconst 1, 1) := by decide +kernel
theorem d_M_readsPart_164 : decode prog_13_method_21_code 164 = .ok (.iadd, 1) := by decide +kernel
theorem d_M_readsPart_165 : decode prog_13_method_21_code 165 = .ok (.putfield 113, 3) := by decide +kernel
theorem d_M_readsPart_168 : decode prog_13_method_21_code 168 = .ok (.iconst 1, 1) := by decide +kernel
theorem d_M_readsPart_169 : decode prog_13_method_21_code 169 = .ok (.ireturn, 1) := by decide +kernel
theorem d_M_reads_0 : decode prog_13_method_22_code 0 = .ok (.aload_n 0, 1) := by decide +kernel
theorem d_M_reads_1 : decode prog_13_method_22_code 1 = .ok (.iconst 0, 1) := by decide +kernel
theorem d_M_reads_2 : decode prog_13_method_22_code 2 = .ok (.putfield 110, 3) := by decide +kernel
theorem d_M_reads_5 : decode prog_13_method_22_code 5 = .ok (.aload_n 0, 1) := by decide +kernel
theorem d_M_reads_6 : decode prog_13_method_22_code 6 = .ok (.iconst 0, 1) := by decide +kernel
theorem d_M_reads_7 : decode prog_13_method_22_code 7 = .ok (.putfield 113, 3) := by decide +kernel
theorem d_M_reads_10 : decode prog_13_method_22_code 10 = .ok (.aload_n 0, 1) := by decide +kernel
theorem d_M_reads_11 : decode prog_13_method_22_code 11 = .ok (.getfield 107, 3) := by decide +kernel
theorem d_M_reads_14 : decode prog_13_method_22_code 14 = .ok (.ifCond .le 7, 3) := by decide +kernel
theorem d_M_reads_17 : decode prog_13_method_22_code 17 = .ok (.iconst 1, 1) := by decide +kernel
theorem d_M_reads_18 : decode prog_13_method_22_code 18 = .ok (.goto 4, 3) := by decide +kernel
theorem d_M_reads_21 : decode prog_13_method_22_code 21 = .ok (.iconst 0, 1) := by decide +kernel
theorem d_M_reads_22 : decode prog_13_method_22_code 22 = .ok (.istore_n 1, 1) := by decide +kernel
theorem d_M_reads_23 : decode prog_13_method_22_code 23 = .ok (.iload_n 1, 1) := by decide +kernel
theorem d_M_reads_24 : decode prog_13_method_22_code 24 = .ok (.ifCond .eq 71, 3) := by decide +kernel
theorem d_M_reads_27 : decode prog_13_method_22_code 27 = .ok (.aload_n 0, 1) := by decide +kernel
theorem d_M_reads_28 : decode prog_13_method_22_code 28 = .ok (.invokevirtual 124, 3) := by decide +kernel
theorem d_M_reads_31 : decode prog_13_method_22_code 31 = .ok (.ifCond .ne 8, 3) := by decide +kernel
theorem d_M_reads_34 : decode prog_13_method_22_code 34 = .ok (.aload_n 0, 1) := by decide +kernel
theorem d_M_reads_35 : decode prog_13_method_22_code 35 = .ok (.invokevirtual 128, 3) := by decide +kernel
theorem d_M_reads_38 : decode prog_13_method_22_code 38 = .ok (.ireturn, 1) := by decide +kernel
theorem d_M_reads_39 : decode prog_13_method_22_code 39 = .ok (.aload_n 0, 1) := by decide +kernel
theorem d_M_reads_40 : decode prog_13_method_22_code 40 = .ok (.getfield 110, 3) := by decide +kernel
theorem d_M_reads_43 : decode prog_13_method_22_code 43 = .ok (.aload_n 0, 1) := by decide +kernel
theorem d_M_reads_44 : decode prog_13_method_22_code 44 = .ok (.getfield 107, 3) := by decide +kernel
theorem d_M_reads_47 : decode prog_13_method_22_code 47 = .ok (.if_icmp .ge 7, 3) := by decide +kernel
theorem d_M_reads_50 : decode prog_13_method_22_code 50 = .ok (.iconst 1, 1) := by decide +kernel
theorem d_M_reads_51 : decode prog_13_method_22_code 51 = .ok (.goto 4, 3) := by decide +kernel
theorem d_M_reads_54 : decode prog_13_method_22_code 54 = .ok (.iconst 0, 1) := by decide +kernel
theorem d_M_reads_55 : decode prog_13_method_22_code 55 = .ok (.istore_n 1, 1) := by decide +kernel
theorem d_M_reads_56 : decode prog_13_method_22_code 56 = .ok (.iload_n 1, 1) := by decide +kernel
theorem d_M_reads_57 : decode prog_13_method_22_code 57 = .ok (.ifCond .eq 17, 3) := by decide +kernel
theorem d_M_reads_60 : decode prog_13_method_22_code 60 = .ok (.aload_n 0, 1) := by decide +kernel
theorem d_M_reads_61 : decode prog_13_method_22_code 61 = .ok (.invokevirtual 116, 3) := by decide +kernel
theorem d_M_reads_64 : decode prog_13_method_22_code 64 = .ok (.bipush 59, 2) := by decide +kernel
theorem d_M_reads_66 : decode prog_13_method_22_code 66 = .ok (.if_icmp .eq 8, 3) := by decide +kernel
theorem d_M_reads_69 : decode prog_13_method_22_code 69 = .ok (.aload_n 0, 1) := by decide +kernel
theorem d_M_reads_70 : decode prog_13_method_22_code 70 = .ok (.invokevirtual 128, 3) := by decide +kernel
theorem d_M_reads_73 : decode prog_13_method_22_code 73 = .ok (.ireturn, 1) := by decide +kernel
theorem d_M_reads_74 : decode prog_13_method_22_code 74 = .ok (.aload_n 0, 1) := by decide +kernel
theorem d_M_reads_75 : decode prog_13_method_22_code 75 = .ok (.dup, 1) := by decide +kernel
theorem d_M_reads_76 : decode prog_13_method_22_code 76 = .ok (.getfield 110, 3) := by decide +kernel
theorem d_M_reads_79 : decode prog_13_method_22_code 79 = .ok (.iload_n 1, 1) := by decide +kernel
theorem d_M_reads_80 : decode prog_13_method_22_code 80 = .ok (.ifCond .eq 7, 3) := by decide +kernel
theorem d_M_reads_83 : decode prog_13_method_22_code 83 = .ok (.iconst 1, 1) := by decide +kernel
theorem d_M_reads_84 : decode prog_13_method_22_code 84 = .ok (.goto 4, 3) := by decide +kernel
theorem d_M_reads_87 : decode prog_13_method_22_code 87 = .ok (.iconst 0, 1) := by decide +kernel
theorem d_M_reads_88 : decode prog_13_method_22_code 88 = .ok (.iadd, 1) := by decide +kernel
theorem d_M_reads_89 : decode prog_13_method_22_code 89 = .ok (.putfield 110, 3) := by decide +kernel
theorem d_M_reads_92 : decode prog_13_method_22_code 92 = .ok (.goto (-69), 3) := by decide +kernel
theorem d_M_reads_95 : decode prog_13_method_22_code 95 = .ok (.iconst (-1), 1) := by decide +kernel
theorem d_M_reads_96 : decode prog_13_method_22_code 96 = .ok (.ireturn, 1) := by decide +kernel
theorem d_M_fault_0 : decode prog_13_method_23_code 0 = .ok (.aload_n 0, 1) := by decide +kernel
theorem d_M_fault_1 : decode prog_13_method_23_code 1 = .ok (.invokevirtual 131, 3) := by decide +kernel
theorem d_M_fault_4 : decode prog_13_method_23_code 4 = .ok (.ireturn, 1) := by decide +kernel
theorem d_M_isChapter_0 : decode prog_13_method_24_code 0 = .ok (.aload_n 0, 1) := by decide +kernel
theorem d_M_isChapter_1 : decode prog_13_method_24_code 1 = .ok (.invokevirtual 131, 3) := by decide +kernel
theorem d_M_isChapter_4 : decode prog_13_method_24_code 4 = .ok (.pop, 1) := by decide +kernel
theorem d_M_isChapter_5 : decode prog_13_method_24_code 5 = .ok (.iload_n 1, 1) := by decide +kernel
theorem d_M_isChapter_6 : decode prog_13_method_24_code 6 = .ok (.i2l, 1) := by decide +kernel
theorem d_M_isChapter_7 : decode prog_13_method_24_code 7 = .ok (.lconst 0, 1) := by decide +kernel
theorem d_M_isChapter_8 : decode prog_13_method_24_code 8 = .ok (.aload_n 0, 1) := by decide +kernel
theorem d_M_isChapter_9 : decode prog_13_method_24_code 9 = .ok (.getfield 113, 3) := by decide +kernel
theorem d_M_isChapter_12 : decode prog_13_method_24_code 12 = .ok (.iconst 1, 1) := by decide +kernel
theorem d_M_isChapter_13 : decode prog_13_method_24_code 13 = .ok (.isub, 1) := by decide +kernel
theorem d_M_isChapter_14 : decode prog_13_method_24_code 14 = .ok (.i2l, 1) := by decide +kernel
theorem d_M_isChapter_15 : decode prog_13_method_24_code 15 = .ok (.invokestatic 76, 3) := by decide +kernel
theorem d_M_isChapter_18 : decode prog_13_method_24_code 18 = .ok (.ireturn, 1) := by decide +kernel
theorem d_M_isAnyChapter_0 : decode prog_13_method_25_code 0 = .ok (.iload_n 0, 1) := by decide +kernel
theorem d_M_isAnyChapter_1 : decode prog_13_method_25_code 1 = .ok (.i2l, 1) := by decide +kernel
theorem d_M_isAnyChapter_2 : decode prog_13_method_25_code 2 = .ok (.lconst 0, 1) := by decide +kernel
theorem d_M_isAnyChapter_3 : decode prog_13_method_25_code 3 = .ok (.ldc2_w 134, 3) := by decide +kernel
theorem d_M_isAnyChapter_6 : decode prog_13_method_25_code 6 = .ok (.invokestatic 76, 3) := by decide +kernel
theorem d_M_isAnyChapter_9 : decode prog_13_method_25_code 9 = .ok (.ireturn, 1) := by decide +kernel
theorem d_M_isReader_0 : decode prog_13_method_26_code 0 = .ok (.iload_n 0, 1) := by decide +kernel
theorem d_M_isReader_1 : decode prog_13_method_26_code 1 = .ok (.i2l, 1) := by decide +kernel
theorem d_M_isReader_2 : decode prog_13_method_26_code 2 = .ok (.lconst 0, 1) := by decide +kernel
theorem d_M_isReader_3 : decode prog_13_method_26_code 3 = .ok (.ldc2_w 136, 3) := by decide +kernel
theorem d_M_isReader_6 : decode prog_13_method_26_code 6 = .ok (.invokestatic 76, 3) := by decide +kernel
theorem d_M_isReader_9 : decode prog_13_method_26_code 9 = .ok (.ireturn, 1) := by decide +kernel
theorem d_M_isSome_0 : decode prog_13_method_27_code 0 = .ok (.iload_n 0, 1) := by decide +kernel
theorem d_M_isSome_1 : decode prog_13_method_27_code 1 = .ok (.i2l, 1) := by decide +kernel
theorem d_M_isSome_2 : decode prog_13_method_27_code 2 = .ok (.lconst 1, 1) := by decide +kernel
theorem d_M_isSome_3 : decode prog_13_method_27_code 3 = .ok (.ldc2_w 138, 3) := by decide +kernel
theorem d_M_isSome_6 : decode prog_13_method_27_code 6 = .ok (.invokestatic 76, 3) := by decide +kernel
theorem d_M_isSome_9 : decode prog_13_method_27_code 9 = .ok (.ireturn, 1) := by decide +kernel
theorem d_M_chapterOf_0 : decode prog_13_method_28_code 0 = .ok (.iload_n 2, 1) := by decide +kernel
theorem d_M_chapterOf_1 : decode prog_13_method_28_code 1 = .ok (.ifCond .ne 12, 3) := by decide +kernel
theorem d_M_chapterOf_4 : decode prog_13_method_28_code 4 = .ok (.aload_n 0, 1) := by decide +kernel
theorem d_M_chapterOf_5 : decode prog_13_method_28_code 5 = .ok (.getfield 25, 3) := by decide +kernel
theorem d_M_chapterOf_8 : decode prog_13_method_28_code 8 = .ok (.iload_n 1, 1) := by decide +kernel
theorem d_M_chapterOf_9 : decode prog_13_method_28_code 9 = .ok (.iaload, 1) := by decide +kernel
theorem d_M_chapterOf_10 : decode prog_13_method_28_code 10 = .ok (.goto 25, 3) := by decide +kernel
theorem d_M_chapterOf_13 : decode prog_13_method_28_code 13 = .ok (.iload_n 2, 1) := by decide +kernel
theorem d_M_chapterOf_14 : decode prog_13_method_28_code 14 = .ok (.iconst 1, 1) := by decide +kernel
theorem d_M_chapterOf_15 : decode prog_13_method_28_code 15 = .ok (.if_icmp .ne 12, 3) := by decide +kernel
theorem d_M_chapterOf_18 : decode prog_13_method_28_code 18 = .ok (.aload_n 0, 1) := by decide +kernel
theorem d_M_chapterOf_19 : decode prog_13_method_28_code 19 = .ok (.getfield 28, 3) := by decide +kernel
theorem d_M_chapterOf_22 : decode prog_13_method_28_code 22 = .ok (.iload_n 1, 1) := by decide +kernel
theorem d_M_chapterOf_23 : decode prog_13_method_28_code 23 = .ok (.iaload, 1) := by decide +kernel
theorem d_M_chapterOf_24 : decode prog_13_method_28_code 24 = .ok (.goto 11, 3) := by decide +kernel
theorem d_M_chapterOf_27 : decode prog_13_method_28_code 27 = .ok (.aload_n 0, 1) := by decide +kernel
theorem d_M_chapterOf_28 : decode prog_13_method_28_code 28 = .ok (.getfield 140, 3) := by decide +kernel
theorem d_M_chapterOf_31 : decode prog_13_method_28_code 31 = .ok (.iload_n 1, 1) := by decide +kernel
theorem d_M_chapterOf_32 : decode prog_13_method_28_code 32 = .ok (.ishr, 1) := by decide +kernel
theorem d_M_chapterOf_33 : decode prog_13_method_28_code 33 = .ok (.iconst 1, 1) := by decide +kernel
theorem d_M_chapterOf_34 : decode prog_13_method_28_code 34 = .ok (.iand, 1) := by decide +kernel
theorem d_M_chapterOf_35 : decode prog_13_method_28_code 35 = .ok (.ireturn, 1) := by decide +kernel
theorem d_M_chapter_0 : decode prog_13_method_29_code 0 = .ok (.aload_n 0, 1) := by decide +kernel
theorem d_M_chapter_1 : decode prog_13_method_29_code 1 = .ok (.iload_n 1, 1) := by decide +kernel
theorem d_M_chapter_2 : decode prog_13_method_29_code 2 = .ok (.invokevirtual 143, 3) := by decide +kernel
theorem d_M_chapter_5 : decode prog_13_method_29_code 5 = .ok (.ifCond .eq 24, 3) := by decide +kernel
theorem d_M_chapter_8 : decode prog_13_method_29_code 8 = .ok (.iload_n 2, 1) := by decide +kernel
theorem d_M_chapter_9 : decode prog_13_method_29_code 9 = .ok (.i2l, 1) := by decide +kernel
theorem d_M_chapter_10 : decode prog_13_method_29_code 10 = .ok (.lconst 0, 1) := by decide +kernel
theorem d_M_chapter_11 : decode prog_13_method_29_code 11 = .ok (.ldc2_w 90, 3) := by decide +kernel
theorem d_M_chapter_14 : decode prog_13_method_29_code 14 = .ok (.invokestatic 76, 3) := by decide +kernel
theorem d_M_chapter_17 : decode prog_13_method_29_code 17 = .ok (.ifCond .eq 12, 3) := by decide +kernel
theorem d_M_chapter_20 : decode prog_13_method_29_code 20 = .ok (.aload_n 0, 1) := by decide +kernel
theorem d_M_chapter_21 : decode prog_13_method_29_code 21 = .ok (.iload_n 1, 1) := by decide +kernel
theorem d_M_chapter_22 : decode prog_13_method_29_code 22 = .ok (.iload_n 2, 1) := by decide +kernel
theorem d_M_chapter_23 : decode prog_13_method_29_code 23 = .ok (.invokevirtual 146, 3) := by decide +kernel
theorem d_M_chapter_26 : decode prog_13_method_29_code 26 = .ok (.goto 5, 3) := by decide +kernel
theorem d_M_chapter_29 : decode prog_13_method_29_code 29 = .ok (.bipush (-2), 2) := by decide +kernel
theorem d_M_chapter_31 : decode prog_13_method_29_code 31 = .ok (.ireturn, 1) := by decide +kernel
theorem d_M_pace_0 : decode prog_13_method_30_code 0 = .ok (.iload_n 1, 1) := by decide +kernel
theorem d_M_pace_1 : decode prog_13_method_30_code 1 = .ok (.invokestatic 149, 3) := by decide +kernel
theorem d_M_pace_4 : decode prog_13_method_30_code 4 = .ok (.ifCond .eq 27, 3) := by decide +kernel
theorem d_M_pace_7 : decode prog_13_method_30_code 7 = .ok (.iload_n 2, 1) := by decide +kernel
theorem d_M_pace_8 : decode prog_13_method_30_code 8 = .ok (.i2l, 1) := by decide +kernel
theorem d_M_pace_9 : decode prog_13_method_30_code 9 = .ok (.lconst 0, 1) := by decide +kernel
theorem d_M_pace_10 : decode prog_13_method_30_code 10 = .ok (.ldc2_w 90, 3) := by decide +kernel
theorem d_M_pace_13 : decode prog_13_method_30_code 13 = .ok (.invokestatic 76, 3) := by decide +kernel
theorem d_M_pace_16 : decode prog_13_method_30_code 16 = .ok (.ifCond .eq 15, 3) := by decide +kernel
theorem d_M_pace_19 : decode prog_13_method_30_code 19 = .ok (.iload_n 3, 1) := by decide +kernel
theorem d_M_pace_20 : decode prog_13_method_30_code 20 = .ok (.i2l, 1) := by decide +kernel
theorem d_M_pace_21 : decode prog_13_method_30_code 21 = .ok (.lconst 1, 1) := by decide +kernel
theorem d_M_pace_22 : decode prog_13_method_30_code 22 = .ok (.ldc2_w 152, 3) := by decide +kernel
theorem d_M_pace_25 : decode prog_13_method_30_code 25 = .ok (.invokestatic 76, 3) := by decide +kernel
theorem d_M_pace_28 : decode prog_13_method_30_code 28 = .ok (.ifCond .ne 6, 3) := by decide +kernel
theorem d_M_pace_31 : decode prog_13_method_30_code 31 = .ok (.bipush (-2), 2) := by decide +kernel
theorem d_M_pace_33 : decode prog_13_method_30_code 33 = .ok (.ireturn, 1) := by decide +kernel
theorem d_M_pace_34 : decode prog_13_method_30_code 34 = .ok (.aload_n 0, 1) := by decide +kernel
theorem d_M_pace_35 : decode prog_13_method_30_code 35 = .ok (.getfield 31, 3) := by decide +kernel
theorem d_M_pace_38 : decode prog_13_method_30_code 38 = .ok (.iconst 3, 1) := by decide +kernel
theorem d_M_pace_39 : decode prog_13_method_30_code 39 = .ok (.iload_n 1, 1) := by decide +kernel
theorem d_M_pace_40 : decode prog_13_method_30_code 40 = .ok (.imul, 1) := by decide +kernel
theorem d_M_pace_41 : decode prog_13_method_30_code 41 = .ok (.iload_n 2, 1) := by decide +kernel
theorem d_M_pace_42 : decode prog_13_method_30_code 42 = .ok (.iadd, 1) := by decide +kernel
theorem d_M_pace_43 : decode prog_13_method_30_code 43 = .ok (.iaload, 1) := by decide +kernel
theorem d_M_pace_44 : decode prog_13_method_30_code 44 = .ok (.istore 4, 2) := by decide +kernel
theorem d_M_pace_46 : decode prog_13_method_30_code 46 = .ok (.aload_n 0, 1) := by decide +kernel
theorem d_M_pace_47 : decode prog_13_method_30_code 47 = .ok (.getfield 31, 3) := by decide +kernel
theorem d_M_pace_50 : decode prog_13_method_30_code 50 = .ok (.iconst 3, 1) := by decide +kernel
theorem d_M_pace_51 : decode prog_13_method_30_code 51 = .ok (.iload_n 1, 1) := by decide +kernel
theorem d_M_pace_52 : decode prog_13_method_30_code 52 = .ok (.imul, 1) := by decide +kernel
theorem d_M_pace_53 : decode prog_13_method_30_code 53 = .ok (.iload_n 2, 1) := by decide +kernel
theorem d_M_pace_54 : decode prog_13_method_30_code 54 = .ok (.iadd, 1) := by decide +kernel
theorem d_M_pace_55 : decode prog_13_method_30_code 55 = .ok (.iload_n 3, 1) := by decide +kernel
theorem d_M_pace_56 : decode prog_13_method_30_code 56 = .ok (.iastore, 1) := by decide +kernel
theorem d_M_pace_57 : decode prog_13_method_30_code 57 = .ok (.iload 4, 2) := by decide +kernel
theorem d_M_pace_59 : decode prog_13_method_30_code 59 = .ok (.ireturn, 1) := by decide +kernel
theorem d_M_read_0 : decode prog_13_method_31_code 0 = .ok (.iload_n 1, 1) := by decide +kernel
theorem d_M_read_1 : decode prog_13_method_31_code 1 = .ok (.invokestatic 86, 3) := by decide +kernel
theorem d_M_read_4 : decode prog_13_method_31_code 4 = .ok (.ifCond .eq 10, 3) := by decide +kernel
theorem d_M_read_7 : decode prog_13_method_31_code 7 = .ok (.iload_n 2, 1) := by decide +kernel
theorem d_M_read_8 : decode prog_13_method_31_code 8 = .ok (.invokestatic 149, 3) := by decide +kernel
theorem d_M_read_11 : decode prog_13_method_31_code 11 = .ok (.ifCond .ne 6, 3) := by decide +kernel
theorem d_M_read_14 : decode prog_13_method_31_code 14 = .ok (.bipush (-2), 2) := by decide +kernel
theorem d_M_read_16 : decode prog_13_method_31_code 16 = .ok (.ireturn, 1) := by decide +kernel
theorem d_M_read_17 : decode prog_13_method_31_code 17 = .ok (.aload_n 0, 1) := by decide +kernel
theorem d_M_read_18 : decode prog_13_method_31_code 18 = .ok (.getfield 7, 3) := by decide +kernel
theorem d_M_read_21 : decode prog_13_method_31_code 21 = .ok (.iload_n 1, 1) := by decide +kernel
theorem d_M_read_22 : decode prog_13_method_31_code 22 = .ok (.iaload, 1) := by decide +kernel
theorem d_M_read_23 : decode prog_13_method_31_code 23 = .ok (.ifCond .ge 9, 3) := by decide +kernel
theorem d_M_read_26 : decode prog_13_method_31_code 26 = .ok (.aload_n 0, 1) := by decide +kernel
theorem d_M_read_27 : decode prog_13_method_31_code 27 = .ok (.iconst 1, 1) := by decide +kernel
theorem d_M_read_28 : decode prog_13_method_31_code 28 = .ok (.invokevirtual 92, 3) := by decide +kernel
theorem d_M_read_31 : decode prog_13_method_31_code 31 = .ok (.ireturn, 1) := by decide +kernel
theorem d_M_read_32 : decode prog_13_method_31_code 32 = .ok (.iconst 0, 1) := by decide +kernel
theorem d_M_read_33 : decode prog_13_method_31_code 33 = .ok (.istore_n 3, 1) := by decide +kernel
theorem d_M_read_34 : decode prog_13_method_31_code 34 = .ok (.iload_n 3, 1) := by decide +kernel
theorem d_M_read_35 : decode prog_13_method_31_code 35 = .ok (.aload_n 0, 1) := by decide +kernel
theorem d_M_read_36 : decode prog_13_method_31_code 36 = .ok (.getfield 13, 3) := by decide +kernel
theorem d_M_read_39 : decode prog_13_method_31_code 39 = .ok (.iload_n 1, 1) := by decide +kernel
theorem d_M_read_40 : decode prog_13_method_31_code 40 = .ok (.iaload, 1) := by decide +kernel
theorem d_M_read_41 : decode prog_13_method_31_code 41 = .ok (.if_icmp .ge 29, 3) := by decide +kernel
theorem d_M_read_44 : decode prog_13_method_31_code 44 = .ok (.aload_n 0, 1) := by decide +kernel
theorem d_M_read_45 : decode prog_13_method_31_code 45 = .ok (.iload_n 2, 1) := by decide +kernel
theorem d_M_read_46 : decode prog_13_method_31_code 46 = .ok (.iload_n 3, 1) := by decide +kernel
theorem d_M_read_47 : decode prog_13_method_31_code 47 = .ok (.aload_n 0, 1) := by decide +kernel
theorem d_M_read_48 : decode prog_13_method_31_code 48 = .ok (.getfield 16, 3) := by decide +kernel
theorem d_M_read_51 : decode prog_13_method_31_code 51 = .ok (.bipush 60, 2) := by decide +kernel
theorem d_M_read_53 : decode prog_13_method_31_code 53 = .ok (.iload_n 1, 1) := by decide +kernel
theorem d_M_read_54 : decode prog_13_method_31_code 54 = .ok (.imul, 1) := by decide +kernel
theorem d_M_read_55 : decode prog_13_method_31_code 55 = .ok (.iload_n 3, 1) := by decide +kernel
theorem d_M_read_56 : decode prog_13_method_31_code 56 = .ok (.iadd, 1) := by decide +kernel
theorem d_M_read_57 : decode prog_13_method_31_code 57 = .ok (.iaload, 1) := by decide +kernel
theorem d_M_read_58 : decode prog_13_method_31_code 58 = .ok (.invokevirtual 154, 3) := by decide +kernel
theorem d_M_read_61 : decode prog_13_method_31_code 61 = .ok (.ifCond .le 9, 3) := by decide +kernel
theorem d_M_read_64 : decode prog_13_method_31_code 64 = .ok (.iinc 3 1, 3) := by decide +kernel
theorem d_M_read_67 : decode prog_13_method_31_code 67 = .ok (.goto (-33), 3) := by decide +kernel
theorem d_M_read_70 : decode prog_13_method_31_code 70 = .ok (.iload_n 3, 1) := by decide +kernel
theorem d_M_read_71 : decode prog_13_method_31_code 71 = .ok (.ireturn, 1) := by decide +kernel
theorem d_M_like_0 : decode prog_13_method_32_code 0 = .ok (.iload_n 1, 1) := by decide +kernel
theorem d_M_like_1 : decode prog_13_method_32_code 1 = .ok (.invokestatic 149, 3) := by decide +kernel
theorem d_M_like_4 : decode prog_13_method_32_code 4 = .ok (.ifCond .eq 17, 3) := by decide +kernel
theorem d_M_like_7 : decode prog_13_method_32_code 7 = .ok (.iload_n 2, 1) := by decide +kernel
theorem d_M_like_8 : decode prog_13_method_32_code 8 = .ok (.invokestatic 157, 3) := by decide +kernel
theorem d_M_like_11 : decode prog_13_method_32_code 11 = .ok (.ifCond .eq 10, 3) := by decide +kernel
theorem d_M_like_14 : decode prog_13_method_32_code 14 = .ok (.iload_n 3, 1) := by decide +kernel
theorem d_M_like_15 : decode prog_13_method_32_code 15 = .ok (.invokestatic 160, 3) := by decide +kernel
theorem d_M_like_18 : decode prog_13_method_32_code 18 = .ok (.ifCond .ne 6, 3) := by decide +kernel
theorem d_M_like_21 : decode prog_13_method_32_code 21 = .ok (.bipush (-2), 2) := by decide +kernel
theorem d_M_like_23 : decode prog_13_method_32_code 23 = .ok (.ireturn, 1) := by decide +kernel
theorem d_M_like_24 : decode prog_13_method_32_code 24 = .ok (.aload_n 0, 1) := by decide +kernel
theorem d_M_like_25 : decode prog_13_method_32_code 25 = .ok (.getfield 34, 3) := by decide +kernel
theorem d_M_like_28 : decode prog_13_method_32_code 28 = .ok (.iload_n 1, 1) := by decide +kernel
theorem d_M_like_29 : decode prog_13_method_32_code 29 = .ok (.iaload, 1) := by decide +kernel
theorem d_M_like_30 : decode prog_13_method_32_code 30 = .ok (.iload_n 2, 1) := by decide +kernel
theorem d_M_like_31 : decode prog_13_method_32_code 31 = .ok (.ishr, 1) := by decide +kernel
theorem d_M_like_32 : decode prog_13_method_32_code 32 = .ok (.iconst 1, 1) := by decide +kernel
theorem d_M_like_33 : decode prog_13_method_32_code 33 = .ok (.iand, 1) := by decide +kernel
theorem d_M_like_34 : decode prog_13_method_32_code 34 = .ok (.istore 4, 2) := by decide +kernel
theorem d_M_like_36 : decode prog_13_method_32_code 36 = .ok (.aload_n 0, 1) := by decide +kernel
theorem d_M_like_37 : decode prog_13_method_32_code 37 = .ok (.getfield 34, 3) := by decide +kernel
theorem d_M_like_40 : decode prog_13_method_32_code 40 = .ok (.iload_n 1, 1) := by decide +kernel
theorem d_M_like_41 : decode prog_13_method_32_code 41 = .ok (.aload_n 0, 1) := by decide +kernel
theorem d_M_like_42 : decode prog_13_method_32_code 42 = .ok (.getfield 34, 3) := by decide +kernel
theorem d_M_like_45 : decode prog_13_method_32_code 45 = .ok (.iload_n 1, 1) := by decide +kernel
theorem d_M_like_46 : decode prog_13_method_32_code 46 = .ok (.iaload, 1) := by decide +kernel
theorem d_M_like_47 : decode prog_13_method_32_code 47 = .ok (.iconst 1, 1) := by decide +kernel
theorem d_M_like_48 : decode prog_13_method_32_code 48 = .ok (.iload_n 2, 1) := by decide +kernel
theorem d_M_like_49 : decode prog_13_method_32_code 49 = .ok (.ishl, 1) := by decide +kernel
theorem d_M_like_50 : decode prog_13_method_32_code 50 = .ok (.iconst (-1), 1) := by decide +kernel
theorem d_M_like_51 : decode prog_13_method_32_code 51 = .ok (.ixor, 1) := by decide +kernel
theorem d_M_like_52 : decode prog_13_method_32_code 52 = .ok (.iand, 1) := by decide +kernel
theorem d_M_like_53 : decode prog_13_method_32_code 53 = .ok (.iload_n 3, 1) := by decide +kernel
theorem d_M_like_54 : decode prog_13_method_32_code 54 = .ok (.iload_n 2, 1) := by decide +kernel
theorem d_M_like_55 : decode prog_13_method_32_code 55 = .ok (.ishl, 1) := by decide +kernel
theorem d_M_like_56 : decode prog_13_method_32_code 56 = .ok (.ior, 1) := by decide +kernel
theorem d_M_like_57 : decode prog_13_method_32_code 57 = .ok (.iastore, 1) := by decide +kernel
theorem d_M_like_58 : decode prog_13_method_32_code 58 = .ok (.iload 4, 2) := by decide +kernel
theorem d_M_like_60 : decode prog_13_method_32_code 60 = .ok (.ireturn, 1) := by decide +kernel
theorem d_M_skip_0 : decode prog_13_method_33_code 0 = .ok (.iload_n 1, 1) := by decide +kernel
theorem d_M_skip_1 : decode prog_13_method_33_code 1 = .ok (.invokestatic 157, 3) := by decide +kernel
theorem d_M_skip_4 : decode prog_13_method_33_code 4 = .ok (.ifCond .eq 10, 3) := by decide +kernel
theorem d_M_skip_7 : decode prog_13_method_33_code 7 = .ok (.iload_n 2, 1) := by decide +kernel
theorem d_M_skip_8 : decode prog_13_method_33_code 8 = .ok (.invokestatic 160, 3) := by decide +kernel
theorem d_M_skip_11 : decode prog_13_method_33_code 11 = .ok (.ifCond .ne 6, 3) := by decide +kernel
theorem d_M_skip_14 : decode prog_13_method_33_code 14 = .ok (.bipush (-2), 2) := by decide +kernel
theorem d_M_skip_16 : decode prog_13_method_33_code 16 = .ok (.ireturn, 1) := by decide +kernel
theorem d_M_skip_17 : decode prog_13_method_33_code 17 = .ok (.aload_n 0, 1) := by decide +kernel
theorem d_M_skip_18 : decode prog_13_method_33_code 18 = .ok (.getfield 140, 3) := by decide +kernel
theorem d_M_skip_21 : decode prog_13_method_33_code 21 = .ok (.iload_n 1, 1) := by decide +kernel
theorem d_M_skip_22 : decode prog_13_method_33_code 22 = .ok (.ishr, 1) := by decide +kernel
theorem d_M_skip_23 : decode prog_13_method_33_code 23 = .ok (.iconst 1, 1) := by decide +kernel
theorem d_M_skip_24 : decode prog_13_method_33_code 24 = .ok (.iand, 1) := by decide +kernel
theorem d_M_skip_25 : decode prog_13_method_33_code 25 = .ok (.istore_n 3, 1) := by decide +kernel
theorem d_M_skip_26 : decode prog_13_method_33_code 26 = .ok (.aload_n 0, 1) := by decide +kernel
theorem d_M_skip_27 : decode prog_13_method_33_code 27 = .ok (.aload_n 0, 1) := by decide +kernel
theorem d_M_skip_28 : decode prog_13_method_33_code 28 = .ok (.getfield 140, 3) := by decide +kernel
theorem d_M_skip_31 : decode prog_13_method_33_code 31 = .ok (.iconst 1, 1) := by decide +kernel
theorem d_M_skip_32 : decode prog_13_method_33_code 32 = .ok (.iload_n 1, 1) := by decide +kernel
theorem d_M_skip_33 : decode prog_13_method_33_code 33 = .ok (.ishl, 1) := by decide +kernel
theorem d_M_skip_34 : decode prog_13_method_33_code 34 = .ok (.iconst (-1), 1) := by decide +kernel
theorem d_M_skip_35 : decode prog_13_method_33_code 35 = .ok (.ixor, 1) := by decide +kernel
theorem d_M_skip_36 : decode prog_13_method_33_code 36 = .ok (.iand, 1) := by decide +kernel
theorem d_M_skip_37 : decode prog_13_method_33_code 37 = .ok (.iload_n 2, 1) := by decide +kernel
theorem d_M_skip_38 : decode prog_13_method_33_code 38 = .ok (.iload_n 1, 1) := by decide +kernel
theorem d_M_skip_39 : decode prog_13_method_33_code 39 = .ok (.ishl, 1) := by decide +kernel
theorem d_M_skip_40 : decode prog_13_method_33_code 40 = .ok (.ior, 1) := by decide +kernel
theorem d_M_skip_41 : decode prog_13_method_33_code 41 = .ok (.putfield 140, 3) := by decide +kernel
theorem d_M_skip_44 : decode prog_13_method_33_code 44 = .ok (.iload_n 3, 1) := by decide +kernel
theorem d_M_skip_45 : decode prog_13_method_33_code 45 = .ok (.ireturn, 1) := by decide +kernel
theorem d_M_reader_0 : decode prog_13_method_34_code 0 = .ok (.iload_n 1, 1) := by decide +kernel
theorem d_M_reader_1 : decode prog_13_method_34_code 1 = .ok (.invokestatic 149, 3) := by decide +kernel
theorem d_M_reader_4 : decode prog_13_method_34_code 4 = .ok (.ifCond .eq 48, 3) := by decide +kernel
theorem d_M_reader_7 : decode prog_13_method_34_code 7 = .ok (.iload_n 2, 1) := by decide +kernel
theorem d_M_reader_8 : decode prog_13_method_34_code 8 = .ok (.i2l, 1) := by decide +kernel
theorem d_M_reader_9 : decode prog_13_method_34_code 9 = .ok (.lconst 0, 1) := by decide +kernel
theorem d_M_reader_10 : decode prog_13_method_34_code 10 = .ok (.ldc2_w 90, 3) := by decide +kernel
theorem d_M_reader_13 : decode prog_13_method_34_code 13 = .ok (.invokestatic 76, 3) := by decide +kernel
theorem d_M_reader_16 : decode prog_13_method_34_code 16 = .ok (.ifCond .eq 36, 3) := by decide +kernel
theorem d_M_reader_19 : decode prog_13_method_34_code 19 = .ok (.iload_n 3, 1) := by decide +kernel
theorem d_M_reader_20 : decode prog_13_method_34_code 20 = .ok (.i2l, 1) := by decide +kernel
theorem d_M_reader_21 : decode prog_13_method_34_code 21 = .ok (.lconst 0, 1) := by decide +kernel
theorem d_M_reader_22 : decode prog_13_method_34_code 22 = .ok (.iload_n 2, 1) := by decide +kernel
theorem d_M_reader_23 : decode prog_13_method_34_code 23 = .ok (.ifCond .ne 9, 3) := by decide +kernel
theorem d_M_reader_26 : decode prog_13_method_34_code 26 = .ok (.ldc2_w 163, 3) := by decide +kernel
theorem d_M_reader_29 : decode prog_13_method_34_code 29 = .ok (.goto 17, 3) := by decide +kernel
theorem d_M_reader_32 : decode prog_13_method_34_code 32 = .ok (.iload_n 2, 1) := by decide +kernel
theorem d_M_reader_33 : decode prog_13_method_34_code 33 = .ok (.iconst 1, 1) := by decide +kernel
theorem d_M_reader_34 : decode prog_13_method_34_code 34 = .ok (.if_icmp .ne 9, 3) := by decide +kernel
theorem d_M_reader_37 : decode prog_13_method_34_code 37 = .ok (.ldc2_w 152, 3) := by decide +kernel
theorem d_M_reader_40 : decode prog_13_method_34_code 40 = .ok (.goto 6, 3) := by decide +kernel
theorem d_M_reader_43 : decode prog_13_method_34_code 43 = .ok (.ldc2_w 165, 3) := by decide +kernel
theorem d_M_reader_46 : decode prog_13_method_34_code 46 = .ok (.invokestatic 76, 3) := by decide +kernel
theorem d_M_reader_49 : decode prog_13_method_34_code 49 = .ok (.ifCond .ne 6, 3) := by decide +kernel
theorem d_M_reader_52 : decode prog_13_method_34_code 52 = .ok (.bipush (-2), 2) := by decide +kernel
theorem d_M_reader_54 : decode prog_13_method_34_code 54 = .ok (.ireturn, 1) := by decide +kernel
theorem d_M_reader_55 : decode prog_13_method_34_code 55 = .ok (.iload_n 2, 1) := by decide +kernel
theorem d_M_reader_56 : decode prog_13_method_34_code 56 = .ok (.ifCond .ne 12, 3) := by decide +kernel
theorem d_M_reader_59 : decode prog_13_method_34_code 59 = .ok (.aload_n 0, 1) := by decide +kernel
theorem d_M_reader_60 : decode prog_13_method_34_code 60 = .ok (.getfield 37, 3) := by decide +kernel
theorem d_M_reader_63 : decode prog_13_method_34_code 63 = .ok (.iload_n 1, 1) := by decide +kernel
theorem d_M_reader_64 : decode prog_13_method_34_code 64 = .ok (.iaload, 1) := by decide +kernel
theorem d_M_reader_65 : decode prog_13_method_34_code 65 = .ok (.goto 23, 3) := by decide +kernel
theorem d_M_reader_68 : decode prog_13_method_34_code 68 = .ok (.iload_n 2, 1) := by decide +kernel
theorem d_M_reader_69 : decode prog_13_method_34_code 69 = .ok (.iconst 1, 1) := by decide +kernel
theorem d_M_reader_70 : decode prog_13_method_34_code 70 = .ok (.if_icmp .ne 12, 3) := by decide +kernel
theorem d_M_reader_73 : decode prog_13_method_34_code 73 = .ok (.aload_n 0, 1) := by decide +kernel
theorem d_M_reader_74 : decode prog_13_method_34_code 74 = .ok (.getfield 40, 3) := by decide +kernel
theorem d_M_reader_77 : decode prog_13_method_34_code 77 = .ok (.iload_n 1, 1) := by decide +kernel
theorem d_M_reader_78 : decode prog_13_method_34_code 78 = .ok (.iaload, 1) := by decide +kernel
theorem d_M_reader_79 : decode prog_13_method_34_code 79 = .ok (.goto 9, 3) := by decide +kernel
theorem d_M_reader_82 : decode prog_13_method_34_code 82 = .ok (.aload_n 0, 1) := by decide +kernel
theorem d_M_reader_83 : decode prog_13_method_34_code 83 = .ok (.getfield 43, 3) := by decide +kernel
theorem d_M_reader_86 : decode prog_13_method_34_code 86 = .ok (.iload_n 1, 1) := by decide +kernel
theorem d_M_reader_87 : decode prog_13_method_34_code 87 = .ok (.iaload, 1) := by decide +kernel
theorem d_M_reader_88 : decode prog_13_method_34_code 88 = .ok (.istore 4, 2) := by decide +kernel
theorem d_M_reader_90 : decode prog_13_method_34_code 90 = .ok (.iload_n 2, 1) := by decide +kernel
theorem d_M_reader_91 : decode prog_13_method_34_code 91 = .ok (.ifCond .ne 13, 3) := by decide +kernel
theorem d_M_reader_94 : decode prog_13_method_34_code 94 = .ok (.aload_n 0, 1) := by decide +kernel
theorem d_M_reader_95 : decode prog_13_method_34_code 95 = .ok (.getfield 37, 3) := by decide +kernel
theorem d_M_reader_98 : decode prog_13_method_34_code 98 = .ok (.iload_n 1, 1) := by decide +kernel
theorem d_M_reader_99 : decode prog_13_method_34_code 99 = .ok (.iload_n 3, 1) := by decide +kernel
theorem d_M_reader_100 : decode prog_13_method_34_code 100 = .ok (.iastore, 1) := by decide +kernel
theorem d_M_reader_101 : decode prog_13_method_34_code 101 = .ok (.goto 25, 3) := by decide +kernel
theorem d_M_reader_104 : decode prog_13_method_34_code 104 = .ok (.iload_n 2, 1) := by decide +kernel
theorem d_M_reader_105 : decode prog_13_method_34_code 105 = .ok (.iconst 1, 1) := by decide +kernel
theorem d_M_reader_106 : decode prog_13_method_34_code 106 = .ok (.if_icmp .ne 13, 3) := by decide +kernel
theorem d_M_reader_109 : decode prog_13_method_34_code 109 = .ok (.aload_n 0, 1) := by decide +kernel
theorem d_M_reader_110 : decode prog_13_method_34_code 110 = .ok (.getfield 40, 3) := by decide +kernel
theorem d_M_reader_113 : decode prog_13_method_34_code 113 = .ok (.iload_n 1, 1) := by decide +kernel
theorem d_M_reader_114 : decode prog_13_method_34_code 114 = .ok (.iload_n 3, 1) := by decide +kernel
theorem d_M_reader_115 : decode prog_13_method_34_code 115 = .ok (.iastore, 1) := by decide +kernel
theorem d_M_reader_116 : decode prog_13_method_34_code 116 = .ok (.goto 10, 3) := by decide +kernel
theorem d_M_reader_119 : decode prog_13_method_34_code 119 = .ok (.aload_n 0, 1) := by decide +kernel
theorem d_M_reader_120 : decode prog_13_method_34_code 120 = .ok (.getfield 43, 3) := by decide +kernel
theorem d_M_reader_123 : decode prog_13_method_34_code 123 = .ok (.iload_n 1, 1) := by decide +kernel
theorem d_M_reader_124 : decode prog_13_method_34_code 124 = .ok (.iload_n 3, 1) := by decide +kernel
theorem d_M_reader_125 : decode prog_13_method_34_code 125 = .ok (.iastore, 1) := by decide +kernel
theorem d_M_reader_126 : decode prog_13_method_34_code 126 = .ok (.iload 4, 2) := by decide +kernel
theorem d_M_reader_128 : decode prog_13_method_34_code 128 = .ok (.ireturn, 1) := by decide +kernel
theorem d_M_set_0 : decode prog_13_method_35_code 0 = .ok (.iload_n 1, 1) := by decide +kernel
theorem d_M_set_1 : decode prog_13_method_35_code 1 = .ok (.invokestatic 160, 3) := by decide +kernel
theorem d_M_set_4 : decode prog_13_method_35_code 4 = .ok (.ifCond .eq 15, 3) := by decide +kernel
theorem d_M_set_7 : decode prog_13_method_35_code 7 = .ok (.iload_n 2, 1) := by decide +kernel
theorem d_M_set_8 : decode prog_13_method_35_code 8 = .ok (.i2l, 1) := by decide +kernel
theorem d_M_set_9 : decode prog_13_method_35_code 9 = .ok (.lconst 0, 1) := by decide +kernel
theorem d_M_set_10 : decode prog_13_method_35_code 10 = .ok (.ldc2_w 167, 3) := by decide +kernel
theorem d_M_set_13 : decode prog_13_method_35_code 13 = .ok (.invokestatic 76, 3) := by decide +kernel
theorem d_M_set_16 : decode prog_13_method_35_code 16 = .ok (.ifCond .ne 6, 3) := by decide +kernel
theorem d_M_set_19 : decode prog_13_method_35_code 19 = .ok (.bipush (-2), 2) := by decide +kernel
theorem d_M_set_21 : decode prog_13_method_35_code 21 = .ok (.ireturn, 1) := by decide +kernel
theorem d_M_set_22 : decode prog_13_method_35_code 22 = .ok (.aload_n 0, 1) := by decide +kernel
theorem d_M_set_23 : decode prog_13_method_35_code 23 = .ok (.getfield 46, 3) := by decide +kernel
theorem d_M_set_26 : decode prog_13_method_35_code 26 = .ok (.iload_n 1, 1) := by decide +kernel
theorem d_M_set_27 : decode prog_13_method_35_code 27 = .ok (.iaload, 1) := by decide +kernel
theorem d_M_set_28 : decode prog_13_method_35_code 28 = .ok (.istore_n 3, 1) := by decide +kernel
theorem d_M_set_29 : decode prog_13_method_35_code 29 = .ok (.aload_n 0, 1) := by decide +kernel
theorem d_M_set_30 : decode prog_13_method_35_code 30 = .ok (.getfield 46, 3) := by decide +kernel
theorem d_M_set_33 : decode prog_13_method_35_code 33 = .ok (.iload_n 1, 1) := by decide +kernel
theorem d_M_set_34 : decode prog_13_method_35_code 34 = .ok (.iload_n 2, 1) := by decide +kernel
theorem d_M_set_35 : decode prog_13_method_35_code 35 = .ok (.iastore, 1) := by decide +kernel
theorem d_M_set_36 : decode prog_13_method_35_code 36 = .ok (.iload_n 3, 1) := by decide +kernel
theorem d_M_set_37 : decode prog_13_method_35_code 37 = .ok (.ireturn, 1) := by decide +kernel
theorem d_M_timeBy_0 : decode prog_13_method_36_code 0 = .ok (.aload_n 0, 1) := by decide +kernel
theorem d_M_timeBy_1 : decode prog_13_method_36_code 1 = .ok (.getfield 28, 3) := by decide +kernel
theorem d_M_timeBy_4 : decode prog_13_method_36_code 4 = .ok (.iload_n 2, 1) := by decide +kernel
theorem d_M_timeBy_5 : decode prog_13_method_36_code 5 = .ok (.iaload, 1) := by decide +kernel
theorem d_M_timeBy_6 : decode prog_13_method_36_code 6 = .ok (.iload_n 3, 1) := by decide +kernel
theorem d_M_timeBy_7 : decode prog_13_method_36_code 7 = .ok (.iadd, 1) := by decide +kernel
theorem d_M_timeBy_8 : decode prog_13_method_36_code 8 = .ok (.iconst 1, 1) := by decide +kernel
theorem d_M_timeBy_9 : decode prog_13_method_36_code 9 = .ok (.isub, 1) := by decide +kernel
theorem d_M_timeBy_10 : decode prog_13_method_36_code 10 = .ok (.iload_n 3, 1) := by decide +kernel
theorem d_M_timeBy_11 : decode prog_13_method_36_code 11 = .ok (.idiv, 1) := by decide +kernel
theorem d_M_timeBy_12 : decode prog_13_method_36_code 12 = .ok (.istore 4, 2) := by decide +kernel
theorem d_M_timeBy_14 : decode prog_13_method_36_code 14 = .ok (.aload_n 0, 1) := by decide +kernel
theorem d_M_timeBy_15 : decode prog_13_method_36_code 15 = .ok (.getfield 34, 3) := by decide +kernel
theorem d_M_timeBy_18 : decode prog_13_method_36_code 18 = .ok (.iload_n 1, 1) := by decide +kernel
theorem d_M_timeBy_19 : decode prog_13_method_36_code 19 = .ok (.iaload, 1) := by decide +kernel
theorem d_M_timeBy_20 : decode prog_13_method_36_code 20 = .ok (.iload_n 2, 1) := by decide +kernel
theorem d_M_timeBy_21 : decode prog_13_method_36_code 21 = .ok (.invokestatic 169, 3) := by decide +kernel
theorem d_M_timeBy_24 : decode prog_13_method_36_code 24 = .ok (.ifCond .eq 10, 3) := by decide +kernel
theorem d_M_timeBy_27 : decode prog_13_method_36_code 27 = .ok (.iconst 2, 1) := by decide +kernel
theorem d_M_timeBy_28 : decode prog_13_method_36_code 28 = .ok (.iload 4, 2) := by decide +kernel
theorem d_M_timeBy_30 : decode prog_13_method_36_code 30 = .ok (.imul, 1) := by decide +kernel
theorem d_M_timeBy_31 : decode prog_13_method_36_code 31 = .ok (.goto 5, 3) := by decide +kernel
theorem d_M_timeBy_34 : decode prog_13_method_36_code 34 = .ok (.iload 4, 2) := by decide +kernel
theorem d_M_timeBy_36 : decode prog_13_method_36_code 36 = .ok (.ireturn, 1) := by decide +kernel
theorem d_M_timeOf_0 : decode prog_13_method_37_code 0 = .ok (.aload_n 0, 1) := by decide +kernel
theorem d_M_timeOf_1 : decode prog_13_method_37_code 1 = .ok (.iload_n 1, 1) := by decide +kernel
theorem d_M_timeOf_2 : decode prog_13_method_37_code 2 = .ok (.iload_n 2, 1) := by decide +kernel
theorem d_M_timeOf_3 : decode prog_13_method_37_code 3 = .ok (.aload_n 0, 1) := by decide +kernel
theorem d_M_timeOf_4 : decode prog_13_method_37_code 4 = .ok (.getfield 31, 3) := by decide +kernel
theorem d_M_timeOf_7 : decode prog_13_method_37_code 7 = .ok (.iconst 3, 1) := by decide +kernel
theorem d_M_timeOf_8 : decode prog_13_method_37_code 8 = .ok (.iload_n 1, 1) := by decide +kernel
theorem d_M_timeOf_9 : decode prog_13_method_37_code 9 = .ok (.imul, 1) := by decide +kernel
theorem d_M_timeOf_10 : decode prog_13_method_37_code 10 = .ok (.aload_n 0, 1) := by decide +kernel
theorem d_M_timeOf_11 : decode prog_13_method_37_code 11 = .ok (.getfield 25, 3) := by decide +kernel
theorem d_M_timeOf_14 : decode prog_13_method_37_code 14 = .ok (.iload_n 2, 1) := by decide +kernel
theorem d_M_timeOf_15 : decode prog_13_method_37_code 15 = .ok (.iaload, 1) := by decide +kernel
theorem d_M_timeOf_16 : decode prog_13_method_37_code 16 = .ok (.iadd, 1) := by decide +kernel
theorem d_M_timeOf_17 : decode prog_13_method_37_code 17 = .ok (.iaload, 1) := by decide +kernel
theorem d_M_timeOf_18 : decode prog_13_method_37_code 18 = .ok (.invokevirtual 173, 3) := by decide +kernel
theorem d_M_timeOf_21 : decode prog_13_method_37_code 21 = .ok (.ireturn, 1) := by decide +kernel
theorem d_M_time_0 : decode prog_13_method_38_code 0 = .ok (.iload_n 1, 1) := by decide +kernel
theorem d_M_time_1 : decode prog_13_method_38_code 1 = .ok (.invokestatic 149, 3) := by decide +kernel
theorem d_M_time_4 : decode prog_13_method_38_code 4 = .ok (.ifCond .eq 20, 3) := by decide +kernel
theorem d_M_time_7 : decode prog_13_method_38_code 7 = .ok (.aload_n 0, 1) := by decide +kernel
theorem d_M_time_8 : decode prog_13_method_38_code 8 = .ok (.iload_n 2, 1) := by decide +kernel
theorem d_M_time_9 : decode prog_13_method_38_code 9 = .ok (.invokevirtual 143, 3) := by decide +kernel
theorem d_M_time_12 : decode prog_13_method_38_code 12 = .ok (.ifCond .eq 12, 3) := by decide +kernel
theorem d_M_time_15 : decode prog_13_method_38_code 15 = .ok (.aload_n 0, 1) := by decide +kernel
theorem d_M_time_16 : decode prog_13_method_38_code 16 = .ok (.iload_n 1, 1) := by decide +kernel
theorem d_M_time_17 : decode prog_13_method_38_code 17 = .ok (.iload_n 2, 1) := by decide +kernel
theorem d_M_time_18 : decode prog_13_method_38_code 18 = .ok (.invokevirtual 176, 3) := by decide +kernel
theorem d_M_time_21 : decode prog_13_method_38_code 21 = .ok (.goto 5, 3) := by decide +kernel
theorem d_M_time_24 : decode prog_13_method_38_code 24 = .ok (.bipush (-2), 2) := by decide +kernel
theorem d_M_time_26 : decode prog_13_method_38_code 26 = .ok (.ireturn, 1) := by decide +kernel
theorem d_M_together_0 : decode prog_13_method_39_code 0 = .ok (.iconst 0, 1) := by decide +kernel
theorem d_M_together_1 : decode prog_13_method_39_code 1 = .ok (.istore_n 3, 1) := by decide +kernel
theorem d_M_together_2 : decode prog_13_method_39_code 2 = .ok (.iconst 0, 1) := by decide +kernel
theorem d_M_together_3 : decode prog_13_method_39_code 3 = .ok (.istore 4, 2) := by decide +kernel
theorem d_M_together_5 : decode prog_13_method_39_code 5 = .ok (.iload 4, 2) := by decide +kernel
theorem d_M_together_7 : decode prog_13_method_39_code 7 = .ok (.bipush 6, 2) := by decide +kernel
theorem d_M_together_9 : decode prog_13_method_39_code 9 = .ok (.if_icmp .ge 44, 3) := by decide +kernel
theorem d_M_together_12 : decode prog_13_method_39_code 12 = .ok (.iload_n 1, 1) := by decide +kernel
theorem d_M_together_13 : decode prog_13_method_39_code 13 = .ok (.iload 4, 2) := by decide +kernel
theorem d_M_together_15 : decode prog_13_method_39_code 15 = .ok (.invokestatic 169, 3) := by decide +kernel
theorem d_M_together_18 : decode prog_13_method_39_code 18 = .ok (.ifCond .eq 13, 3) := by decide +kernel
theorem d_M_together_21 : decode prog_13_method_39_code 21 = .ok (.aload_n 0, 1) := by decide +kernel
theorem d_M_together_22 : decode prog_13_method_39_code 22 = .ok (.iload 4, 2) := by decide +kernel
theorem d_M_together_24 : decode prog_13_method_39_code 24 = .ok (.iload_n 2, 1) := by decide +kernel
theorem d_M_together_25 : decode prog_13_method_39_code 25 = .ok (.invokevirtual 176, 3) := by decide +kernel
theorem d_M_together_28 : decode prog_13_method_39_code 28 = .ok (.goto 4, 3) := by decide +kernel
theorem d_M_together_31 : decode prog_13_method_39_code 31 = .ok (.iconst 0, 1) := by decide +kernel
theorem d_M_together_32 : decode prog_13_method_39_code 32 = .ok (.istore 5, 2) := by decide +kernel
theorem d_M_together_34 : decode prog_13_method_39_code 34 = .ok (.iload 5, 2) := by decide +kernel
theorem d_M_together_36 : decode prog_13_method_39_code 36 = .ok (.iload_n 3, 1) := by decide +kernel
theorem d_M_together_37 : decode prog_13_method_39_code 37 = .ok (.if_icmp .le 8, 3) := by decide +kernel
theorem d_M_together_40 : decode prog_13_method_39_code 40 = .ok (.iload 5, 2) := by decide +kernel
theorem d_M_together_42 : decode prog_13_method_39_code 42 = .ok (.goto 4, 3) := by decide +kernel
theorem d_M_together_45 : decode prog_13_method_39_code 45 = .ok (.iload_n 3, 1) := by decide +kernel
theorem d_M_together_46 : decode prog_13_method_39_code 46 = .ok (.istore_n 3, 1) := by decide +kernel
theorem d_M_together_47 : decode prog_13_method_39_code 47 = .ok (.iinc 4 1, 3) := by decide +kernel
theorem d_M_together_50 : decode prog_13_method_39_code 50 = .ok (.goto (-45), 3) := by decide +kernel
theorem d_M_together_53 : decode prog_13_method_39_code 53 = .ok (.iload_n 3, 1) := by decide +kernel
theorem d_M_together_54 : decode prog_13_method_39_code 54 = .ok (.ireturn, 1) := by decide +kernel
theorem d_M_isRead_0 : decode prog_13_method_40_code 0 = .ok (.iload_n 1, 1) := by decide +kernel
theorem d_M_isRead_1 : decode prog_13_method_40_code 1 = .ok (.aload_n 0, 1) := by decide +kernel
theorem d_M_isRead_2 : decode prog_13_method_40_code 2 = .ok (.getfield 113, 3) := by decide +kernel
theorem d_M_isRead_5 : decode prog_13_method_40_code 5 = .ok (.if_icmp .ge 18, 3) := by decide +kernel
theorem d_M_isRead_8 : decode prog_13_method_40_code 8 = .ok (.aload_n 0, 1) := by decide +kernel
theorem d_M_isRead_9 : decode prog_13_method_40_code 9 = .ok (.getfield 140, 3) := by decide +kernel
theorem d_M_isRead_12 : decode prog_13_method_40_code 12 = .ok (.iload_n 1, 1) := by decide +kernel
theorem d_M_isRead_13 : decode prog_13_method_40_code 13 = .ok (.invokestatic 169, 3) := by decide +kernel
theorem d_M_isRead_16 : decode prog_13_method_40_code 16 = .ok (.ifCond .ne 7, 3) := by decide +kernel
theorem d_M_isRead_19 : decode prog_13_method_40_code 19 = .ok (.iconst 1, 1) := by decide +kernel
theorem d_M_isRead_20 : decode prog_13_method_40_code 20 = .ok (.goto 4, 3) := by decide +kernel
theorem d_M_isRead_23 : decode prog_13_method_40_code 23 = .ok (.iconst 0, 1) := by decide +kernel
theorem d_M_isRead_24 : decode prog_13_method_40_code 24 = .ok (.ireturn, 1) := by decide +kernel
theorem d_M_findEvening_0 : decode prog_13_method_41_code 0 = .ok (.aload_n 0, 1) := by decide +kernel
theorem d_M_findEvening_1 : decode prog_13_method_41_code 1 = .ok (.iconst 0, 1) := by decide +kernel
theorem d_M_findEvening_2 : decode prog_13_method_41_code 2 = .ok (.putfield 179, 3) := by decide +kernel
theorem d_M_findEvening_5 : decode prog_13_method_41_code 5 = .ok (.aload_n 0, 1) := by decide +kernel
theorem d_M_findEvening_6 : decode prog_13_method_41_code 6 = .ok (.iconst 0, 1) := by decide +kernel
theorem d_M_findEvening_7 : decode prog_13_method_41_code 7 = .ok (.putfield 182, 3) := by decide +kernel
theorem d_M_findEvening_10 : decode prog_13_method_41_code 10 = .ok (.aload_n 0, 1) := by decide +kernel
theorem d_M_findEvening_11 : decode prog_13_method_41_code 11 = .ok (.iconst (-1), 1) := by decide +kernel
theorem d_M_findEvening_12 : decode prog_13_method_41_code 12 = .ok (.putfield 185, 3) := by decide +kernel
theorem d_M_findEvening_15 : decode prog_13_method_41_code 15 = .ok (.iconst 0, 1) := by decide +kernel
theorem d_M_findEvening_16 : decode prog_13_method_41_code 16 = .ok (.istore_n 3, 1) := by decide +kernel
theorem d_M_findEvening_17 : decode prog_13_method_41_code 17 = .ok (.iload_n 3, 1) := by decide +kernel
theorem d_M_findEvening_18 : decode prog_13_method_41_code 18 = .ok (.bipush 6, 2) := by decide +kernel
theorem d_M_findEvening_20 : decode prog_13_method_41_code 20 = .ok (.if_icmp .ge 16, 3) := by decide +kernel
theorem d_M_findEvening_23 : decode prog_13_method_41_code 23 = .ok (.aload_n 0, 1) := by decide +kernel
theorem d_M_findEvening_24 : decode prog_13_method_41_code 24 = .ok (.getfield 49, 3) := by decide +kernel
theorem d_M_findEvening_27 : decode prog_13_method_41_code 27 = .ok (.iload_n 3, 1) := by decide +kernel
theorem d_M_findEvening_28 : decode prog_13_method_41_code 28 = .ok (.iconst 0, 1) := by decide +kernel
theorem d_M_findEvening_29 : decode prog_13_method_41_code 29 = .ok (.iastore, 1) := by decide +kernel
theorem d_M_findEvening_30 : decode prog_13_method_41_code 30 = .ok (.iinc 3 1, 3) := by decide +kernel
theorem d_M_findEvening_33 : decode prog_13_method_41_code 33 = .ok (.goto (-16), 3) := by decide +kernel
theorem d_M_findEvening_36 : decode prog_13_method_41_code 36 = .ok (.iload_n 2, 1) := by decide +kernel
theorem d_M_findEvening_37 : decode prog_13_method_41_code 37 = .ok (.istore_n 3, 1) := by decide +kernel
theorem d_M_findEvening_38 : decode prog_13_method_41_code 38 = .ok (.iload_n 3, 1) := by decide +kernel
theorem d_M_findEvening_39 : decode prog_13_method_41_code 39 = .ok (.aload_n 0, 1) := by decide +kernel
theorem d_M_findEvening_40 : decode prog_13_method_41_code 40 = .ok (.getfield 113, 3) := by decide +kernel
theorem d_M_findEvening_43 : decode prog_13_method_41_code 43 = .ok (.if_icmp .ge 114, 3) := by decide +kernel
theorem d_M_findEvening_46 : decode prog_13_method_41_code 46 = .ok (.aload_n 0, 1) := by decide +kernel
theorem d_M_findEvening_47 : decode prog_13_method_41_code 47 = .ok (.getfield 185, 3) := by decide +kernel
theorem d_M_findEvening_50 : decode prog_13_method_41_code 50 = .ok (.iconst (-1), 1) := by decide +kernel
theorem d_M_findEvening_51 : decode prog_13_method_41_code 51 = .ok (.if_icmp .ne 106, 3) := by decide +kernel
theorem d_M_findEvening_54 : decode prog_13_method_41_code 54 = .ok (.aload_n 0, 1) := by decide +kernel
theorem d_M_findEvening_55 : decode prog_13_method_41_code 55 = .ok (.iload_n 3, 1) := by decide +kernel
theorem d_M_findEvening_56 : decode prog_13_method_41_code 56 = .ok (.invokevirtual 188, 3) := by decide +kernel
theorem d_M_findEvening_59 : decode prog_13_method_41_code 59 = .ok (.ifCond .eq 92, 3) := by decide +kernel
theorem d_M_findEvening_62 : decode prog_13_method_41_code 62 = .ok (.aload_n 0, 1) := by decide +kernel
theorem d_M_findEvening_63 : decode prog_13_method_41_code 63 = .ok (.iload_n 1, 1) := by decide +kernel
theorem d_M_findEvening_64 : decode prog_13_method_41_code 64 = .ok (.iload_n 3, 1) := by decide +kernel
theorem d_M_findEvening_65 : decode prog_13_method_41_code 65 = .ok (.invokevirtual 191, 3) := by decide +kernel
theorem d_M_findEvening_68 : decode prog_13_method_41_code 68 = .ok (.istore 4, 2) := by decide +kernel
theorem d_M_findEvening_70 : decode prog_13_method_41_code 70 = .ok (.aload_n 0, 1) := by decide +kernel
theorem d_M_findEvening_71 : decode prog_13_method_41_code 71 = .ok (.getfield 182, 3) := by decide +kernel
theorem d_M_findEvening_74 : decode prog_13_method_41_code 74 = .ok (.iload 4, 2) := by decide +kernel
theorem d_M_findEvening_76 : decode prog_13_method_41_code 76 = .ok (.iadd, 1) := by decide +kernel
theorem d_M_findEvening_77 : decode prog_13_method_41_code 77 = .ok (.aload_n 0, 1) := by decide +kernel
theorem d_M_findEvening_78 : decode prog_13_method_41_code 78 = .ok (.getfield 46, 3) := by decide +kernel
theorem d_M_findEvening_81 : decode prog_13_method_41_code 81 = .ok (.iconst 0, 1) := by decide +kernel
theorem d_M_findEvening_82 : decode prog_13_method_41_code 82 = .ok (.iaload, 1) := by decide +kernel
theorem d_M_findEvening_83 : decode prog_13_method_41_code 83 = .ok (.if_icmp .le 11, 3) := by decide +kernel
theorem d_M_findEvening_86 : decode prog_13_method_41_code 86 = .ok (.aload_n 0, 1) := by decide +kernel
theorem d_M_findEvening_87 : decode prog_13_method_41_code 87 = .ok (.iload_n 3, 1) := by decide +kernel
theorem d_M_findEvening_88 : decode prog_13_method_41_code 88 = .ok (.putfield 185, 3) := by decide +kernel
theorem d_M_findEvening_91 : decode prog_13_method_41_code 91 = .ok (.goto 60, 3) := by decide +kernel
theorem d_M_findEvening_94 : decode prog_13_method_41_code 94 = .ok (.aload_n 0, 1) := by decide +kernel
theorem d_M_findEvening_95 : decode prog_13_method_41_code 95 = .ok (.dup, 1) := by decide +kernel
theorem d_M_findEvening_96 : decode prog_13_method_41_code 96 = .ok (.getfield 179, 3) := by decide +kernel
theorem d_M_findEvening_99 : decode prog_13_method_41_code 99 = .ok (.iconst 1, 1) := by decide +kernel
theorem d_M_findEvening_100 : decode prog_13_method_41_code 100 = .ok (.iadd, 1) := by decide +kernel
theorem d_M_findEvening_101 : decode prog_13_method_41_code 101 = .ok (.putfield 179, 3) := by decide +kernel
theorem d_M_findEvening_104 : decode prog_13_method_41_code 104 = .ok (.aload_n 0, 1) := by decide +kernel
theorem d_M_findEvening_105 : decode prog_13_method_41_code 105 = .ok (.dup, 1) := by decide +kernel
theorem d_M_findEvening_106 : decode prog_13_method_41_code 106 = .ok (.getfield 182, 3) := by decide +kernel
theorem d_M_findEvening_109 : decode prog_13_method_41_code 109 = .ok (.iload 4, 2) := by decide +kernel
theorem d_M_findEvening_111 : decode prog_13_method_41_code 111 = .ok (.iadd, 1) := by decide +kernel
theorem d_M_findEvening_112 : decode prog_13_method_41_code 112 = .ok (.putfield 182, 3) := by decide +kernel
theorem d_M_findEvening_115 : decode prog_13_method_41_code 115 = .ok (.iconst 0, 1) := by decide +kernel
theorem d_M_findEvening_116 : decode prog_13_method_41_code 116 = .ok (.istore 5, 2) := by decide +kernel
theorem d_M_findEvening_118 : decode prog_13_method_41_code 118 = .ok (.iload 5, 2) := by decide +kernel
theorem d_M_findEvening_120 : decode prog_13_method_41_code 120 = .ok (.bipush 6, 2) := by decide +kernel
theorem d_M_findEvening_122 : decode prog_13_method_41_code 122 = .ok (.if_icmp .ge 29, 3) := by decide +kernel
theorem d_M_findEvening_125 : decode prog_13_method_41_code 125 = .ok (.aload_n 0, 1) := by decide +kernel
theorem d_M_findEvening_126 : decode prog_13_method_41_code 126 = .ok (.getfield 49, 3) := by decide +kernel
theorem d_M_findEvening_129 : decode prog_13_method_41_code 129 = .ok (.iload 5, 2) := by decide +kernel
theorem d_M_findEvening_131 : decode prog_13_method_41_code 131 = .ok (.dup2, 1) := by decide +kernel
theorem d_M_findEvening_132 : decode prog_13_method_41_code 132 = .ok (.iaload, 1) := by decide +kernel
theorem d_M_findEvening_133 : decode prog_13_method_41_code 133 = .ok (.iload 4, 2) := by decide +kernel
theorem d_M_findEvening_135 : decode prog_13_method_41_code 135 = .ok (.aload_n 0, 1) := by decide +kernel
theorem d_M_findEvening_136 : decode prog_13_method_41_code 136 = .ok (.iload 5, 2) := by decide +kernel
theorem d_M_findEvening_138 : decode prog_13_method_41_code 138 = .ok (.iload_n 3, 1) := by decide +kernel
theorem d_M_findEvening_139 : decode prog_13_method_41_code 139 = .ok (.invokevirtual 176, 3) := by decide +kernel
theorem d_M_findEvening_142 : decode prog_13_method_41_code 142 = .ok (.isub, 1) := by decide +kernel
theorem d_M_findEvening_143 : decode prog_13_method_41_code 143 = .ok (.iadd, 1) := by decide +kernel
theorem d_M_findEvening_144 : decode prog_13_method_41_code 144 = .ok (.iastore, 1) := by decide +kernel
theorem d_M_findEvening_145 : decode prog_13_method_41_code 145 = .ok (.iinc 5 1, 3) := by decide +kernel
theorem d_M_findEvening_148 : decode prog_13_method_41_code 148 = .ok (.goto (-30), 3) := by decide +kernel
theorem d_M_findEvening_151 : decode prog_13_method_41_code 151 = .ok (.iinc 3 1, 3) := by decide +kernel
theorem d_M_findEvening_154 : decode prog_13_method_41_code 154 = .ok (.goto (-116), 3) := by decide +kernel
theorem d_M_findEvening_157 : decode prog_13_method_41_code 157 = .ok (.return_, 1) := by decide +kernel
theorem d_M_eveningOf_0 : decode prog_13_method_42_code 0 = .ok (.aload_n 0, 1) := by decide +kernel
theorem d_M_eveningOf_1 : decode prog_13_method_42_code 1 = .ok (.iload_n 1, 1) := by decide +kernel
theorem d_M_eveningOf_2 : decode prog_13_method_42_code 2 = .ok (.iload_n 2, 1) := by decide +kernel
theorem d_M_eveningOf_3 : decode prog_13_method_42_code 3 = .ok (.invokevirtual 194, 3) := by decide +kernel
theorem d_M_eveningOf_6 : decode prog_13_method_42_code 6 = .ok (.iload_n 3, 1) := by decide +kernel
theorem d_M_eveningOf_7 : decode prog_13_method_42_code 7 = .ok (.ifCond .ne 10, 3) := by decide +kernel
theorem d_M_eveningOf_10 : decode prog_13_method_42_code 10 = .ok (.aload_n 0, 1) := by decide +kernel
theorem d_M_eveningOf_11 : decode prog_13_method_42_code 11 = .ok (.getfield 179, 3) := by decide +kernel
theorem d_M_eveningOf_14 : decode prog_13_method_42_code 14 = .ok (.goto 19, 3) := by decide +kernel
theorem d_M_eveningOf_17 : decode prog_13_method_42_code 17 = .ok (.iload_n 3, 1) := by decide +kernel
theorem d_M_eveningOf_18 : decode prog_13_method_42_code 18 = .ok (.iconst 1, 1) := by decide +kernel
theorem d_M_eveningOf_19 : decode prog_13_method_42_code 19 = .ok (.if_icmp .ne 10, 3) := by decide +kernel
theorem d_M_eveningOf_22 : decode prog_13_method_42_code 22 = .ok (.aload_n 0, 1) := by decide +kernel
theorem d_M_eveningOf_23 : decode prog_13_method_42_code 23 = .ok (.getfield 182, 3) := by decide +kernel
theorem d_M_eveningOf_26 : decode prog_13_method_42_code 26 = .ok (.goto 7, 3) := by decide +kernel
theorem d_M_eveningOf_29 : decode prog_13_method_42_code 29 = .ok (.aload_n 0, 1) := by decide +kernel
theorem d_M_eveningOf_30 : decode prog_13_method_42_code 30 = .ok (.getfield 185, 3) := by decide +kernel
theorem d_M_eveningOf_33 : decode prog_13_method_42_code 33 = .ok (.ireturn, 1) := by decide +kernel
theorem d_M_evening_0 : decode prog_13_method_43_code 0 = .ok (.iload_n 1, 1) := by decide +kernel
theorem d_M_evening_1 : decode prog_13_method_43_code 1 = .ok (.invokestatic 198, 3) := by decide +kernel
theorem d_M_evening_4 : decode prog_13_method_43_code 4 = .ok (.ifCond .eq 33, 3) := by decide +kernel
theorem d_M_evening_7 : decode prog_13_method_43_code 7 = .ok (.aload_n 0, 1) := by decide +kernel
theorem d_M_evening_8 : decode prog_13_method_43_code 8 = .ok (.iload_n 2, 1) := by decide +kernel
theorem d_M_evening_9 : decode prog_13_method_43_code 9 = .ok (.invokevirtual 143, 3) := by decide +kernel
theorem d_M_evening_12 : decode prog_13_method_43_code 12 = .ok (.ifCond .eq 25, 3) := by decide +kernel
theorem d_M_evening_15 : decode prog_13_method_43_code 15 = .ok (.iload_n 3, 1) := by decide +kernel
theorem d_M_evening_16 : decode prog_13_method_43_code 16 = .ok (.i2l, 1) := by decide +kernel
theorem d_M_evening_17 : decode prog_13_method_43_code 17 = .ok (.lconst 0, 1) := by decide +kernel
theorem d_M_evening_18 : decode prog_13_method_43_code 18 = .ok (.ldc2_w 90, 3) := by decide +kernel
theorem d_M_evening_21 : decode prog_13_method_43_code 21 = .ok (.invokestatic 76, 3) := by decide +kernel
theorem d_M_evening_24 : decode prog_13_method_43_code 24 = .ok (.ifCond .eq 13, 3) := by decide +kernel
theorem d_M_evening_27 : decode prog_13_method_43_code 27 = .ok (.aload_n 0, 1) := by decide +kernel
theorem d_M_evening_28 : decode prog_13_method_43_code 28 = .ok (.iload_n 1, 1) := by decide +kernel
theorem d_M_evening_29 : decode prog_13_method_43_code 29 = .ok (.iload_n 2, 1) := by decide +kernel
theorem d_M_evening_30 : decode prog_13_method_43_code 30 = .ok (.iload_n 3, 1) := by decide +kernel
theorem d_M_evening_31 : decode prog_13_method_43_code 31 = .ok (.invokevirtual 201, 3) := by decide +kernel
theorem d_M_evening_34 : decode prog_13_method_43_code 34 = .ok (.goto 5, 3) := by decide +kernel
theorem d_M_evening_37 : decode prog_13_method_43_code 37 = .ok (.bipush (-2), 2) := by decide +kernel
theorem d_M_evening_39 : decode prog_13_method_43_code 39 = .ok (.ireturn, 1) := by decide +kernel
theorem d_M_waitedOf_0 : decode prog_13_method_44_code 0 = .ok (.aload_n 0, 1) := by decide +kernel
theorem d_M_waitedOf_1 : decode prog_13_method_44_code 1 = .ok (.iload_n 1, 1) := by decide +kernel
theorem d_M_waitedOf_2 : decode prog_13_method_44_code 2 = .ok (.iload_n 2, 1) := by decide +kernel
theorem d_M_waitedOf_3 : decode prog_13_method_44_code 3 = .ok (.invokevirtual 194, 3) := by decide +kernel
theorem d_M_waitedOf_6 : decode prog_13_method_44_code 6 = .ok (.aload_n 0, 1) := by decide +kernel
theorem d_M_waitedOf_7 : decode prog_13_method_44_code 7 = .ok (.getfield 37, 3) := by decide +kernel
theorem d_M_waitedOf_10 : decode prog_13_method_44_code 10 = .ok (.iload_n 3, 1) := by decide +kernel
theorem d_M_waitedOf_11 : decode prog_13_method_44_code 11 = .ok (.iaload, 1) := by decide +kernel
theorem d_M_waitedOf_12 : decode prog_13_method_44_code 12 = .ok (.aload_n 0, 1) := by decide +kernel
theorem d_M_waitedOf_13 : decode prog_13_method_44_code 13 = .ok (.getfield 49, 3) := by decide +kernel
theorem d_M_waitedOf_16 : decode prog_13_method_44_code 16 = .ok (.iload_n 3, 1) := by decide +kernel
theorem d_M_waitedOf_17 : decode prog_13_method_44_code 17 = .ok (.iaload, 1) := by decide +kernel
theorem d_M_waitedOf_18 : decode prog_13_method_44_code 18 = .ok (.isub, 1) := by decide +kernel
theorem d_M_waitedOf_19 : decode prog_13_method_44_code 19 = .ok (.istore 5, 2) := by decide +kernel
theorem d_M_waitedOf_21 : decode prog_13_method_44_code 21 = .ok (.iload 4, 2) := by decide +kernel
theorem d_M_waitedOf_23 : decode prog_13_method_44_code 23 = .ok (.ifCond .ne 12, 3) := by decide +kernel
theorem d_M_waitedOf_26 : decode prog_13_method_44_code 26 = .ok (.aload_n 0, 1) := by decide +kernel
theorem d_M_waitedOf_27 : decode prog_13_method_44_code 27 = .ok (.getfield 49, 3) := by decide +kernel
theorem d_M_waitedOf_30 : decode prog_13_method_44_code 30 = .ok (.iload_n 3, 1) := by decide +kernel
theorem d_M_waitedOf_31 : decode prog_13_method_44_code 31 = .ok (.iaload, 1) := by decide +kernel
theorem d_M_waitedOf_32 : decode prog_13_method_44_code 32 = .ok (.goto 14, 3) := by decide +kernel
theorem d_M_waitedOf_35 : decode prog_13_method_44_code 35 = .ok (.iload 5, 2) := by decide +kernel
theorem d_M_waitedOf_37 : decode prog_13_method_44_code 37 = .ok (.ifCond .ge 7, 3) := by decide +kernel
theorem d_M_waitedOf_40 : decode prog_13_method_44_code 40 = .ok (.iconst 0, 1) := by decide +kernel
theorem d_M_waitedOf_41 : decode prog_13_method_44_code 41 = .ok (.goto 5, 3) := by decide +kernel
theorem d_M_waitedOf_44 : decode prog_13_method_44_code 44 = .ok (.iload 5, 2) := by decide +kernel
theorem d_M_waitedOf_46 : decode prog_13_method_44_code 46 = .ok (.ireturn, 1) := by decide +kernel
theorem d_M_waited_0 : decode prog_13_method_45_code 0 = .ok (.iload_n 1, 1) := by decide +kernel
theorem d_M_waited_1 : decode prog_13_method_45_code 1 = .ok (.invokestatic 198, 3) := by decide +kernel
theorem d_M_waited_4 : decode prog_13_method_45_code 4 = .ok (.ifCond .eq 30, 3) := by decide +kernel
theorem d_M_waited_7 : decode prog_13_method_45_code 7 = .ok (.aload_n 0, 1) := by decide +kernel
theorem d_M_waited_8 : decode prog_13_method_45_code 8 = .ok (.iload_n 2, 1) := by decide +kernel
theorem d_M_waited_9 : decode prog_13_method_45_code 9 = .ok (.invokevirtual 143, 3) := by decide +kernel
theorem d_M_waited_12 : decode prog_13_method_45_code 12 = .ok (.ifCond .eq 22, 3) := by decide +kernel
theorem d_M_waited_15 : decode prog_13_method_45_code 15 = .ok (.iload_n 3, 1) := by decide +kernel
theorem d_M_waited_16 : decode prog_13_method_45_code 16 = .ok (.invokestatic 149, 3) := by decide +kernel
theorem d_M_waited_19 : decode prog_13_method_45_code 19 = .ok (.ifCond .eq 15, 3) := by decide +kernel
theorem d_M_waited_22 : decode prog_13_method_45_code 22 = .ok (.iload 4, 2) := by decide +kernel
theorem d_M_waited_24 : decode prog_13_method_45_code 24 = .ok (.invokestatic 160, 3) := by decide +kernel
theorem d_M_waited_27 : decode prog_13_method_45_code 27 = .ok (.ifCond .eq 7, 3) := by decide +kernel
theorem d_M_waited_30 : decode prog_13_method_45_code 30 = .ok (.iconst 1, 1) := by decide +kernel
theorem d_M_waited_31 : decode prog_13_method_45_code 31 = .ok (.goto 4, 3) := by decide +kernel
theorem d_M_waited_34 : decode prog_13_method_45_code 34 = .ok (.iconst 0, 1) := by decide +kernel
theorem d_M_waited_35 : decode prog_13_method_45_code 35 = .ok (.istore 5, 2) := by decide +kernel
theorem d_M_waited_37 : decode prog_13_method_45_code 37 = .ok (.iload 5, 2) := by decide +kernel
theorem d_M_waited_39 : decode prog_13_method_45_code 39 = .ok (.ifCond .eq 23, 3) := by decide +kernel
theorem d_M_waited_42 : decode prog_13_method_45_code 42 = .ok (.iload_n 1, 1) := by decide +kernel
theorem d_M_waited_43 : decode prog_13_method_45_code 43 = .ok (.iload_n 3, 1) := by decide +kernel
theorem d_M_waited_44 : decode prog_13_method_45_code 44 = .ok (.invokestatic 169, 3) := by decide +kernel
theorem d_M_waited_47 : decode prog_13_method_45_code 47 = .ok (.ifCond .eq 15, 3) := by decide +kernel
theorem d_M_waited_50 : decode prog_13_method_45_code 50 = .ok (.aload_n 0, 1) := by decide +kernel
theorem d_M_waited_51 : decode prog_13_method_45_code 51 = .ok (.iload_n 1, 1) := by decide +kernel
theorem d_M_waited_52 : decode prog_13_method_45_code 52 = .ok (.iload_n 2, 1) := by decide +kernel
theorem d_M_waited_53 : decode prog_13_method_45_code 53 = .ok (.iload_n 3, 1) := by decide +kernel
theorem d_M_waited_54 : decode prog_13_method_45_code 54 = .ok (.iload 4, 2) := by decide +kernel
theorem d_M_waited_56 : decode prog_13_method_45_code 56 = .ok (.invokevirtual 204, 3) := by decide +kernel
theorem d_M_waited_59 : decode prog_13_method_45_code 59 = .ok (.goto 5, 3) := by decide +kernel
theorem d_M_waited_62 : decode prog_13_method_45_code 62 = .ok (.bipush (-2), 2) := by decide +kernel
theorem d_M_waited_64 : decode prog_13_method_45_code 64 = .ok (.ireturn, 1) := by decide +kernel
theorem d_M_amount_0 : decode prog_13_method_46_code 0 = .ok (.iload_n 0, 1) := by decide +kernel
theorem d_M_amount_1 : decode prog_13_method_46_code 1 = .ok (.ifCond .ge 8, 3) := by decide +kernel
theorem d_M_amount_4 : decode prog_13_method_46_code 4 = .ok (.iload_n 0, 1) := by decide +kernel
theorem d_M_amount_5 : decode prog_13_method_46_code 5 = .ok (.ineg, 1) := by decide +kernel
theorem d_M_amount_6 : decode prog_13_method_46_code 6 = .ok (.goto 4, 3) := by decide +kernel
theorem d_M_amount_9 : decode prog_13_method_46_code 9 = .ok (.iload_n 0, 1) := by decide +kernel
theorem d_M_amount_10 : decode prog_13_method_46_code 10 = .ok (.ireturn, 1) := by decide +kernel
theorem d_M_tries_0 : decode prog_13_method_47_code 0 = .ok (.iconst 0, 1) := by decide +kernel
theorem d_M_tries_1 : decode prog_13_method_47_code 1 = .ok (.istore_n 3, 1) := by decide +kernel
theorem d_M_tries_2 : decode prog_13_method_47_code 2 = .ok (.iconst 0, 1) := by decide +kernel
theorem d_M_tries_3 : decode prog_13_method_47_code 3 = .ok (.istore 4, 2) := by decide +kernel
theorem d_M_tries_5 : decode prog_13_method_47_code 5 = .ok (.iconst 0, 1) := by decide +kernel
theorem d_M_tries_6 : decode prog_13_method_47_code 6 = .ok (.istore 5, 2) := by decide +kernel
theorem d_M_tries_8 : decode prog_13_method_47_code 8 = .ok (.iconst 0, 1) := by decide +kernel
theorem d_M_tries_9 : decode prog_13_method_47_code 9 = .ok (.istore 6, 2) := by decide +kernel
theorem d_M_tries_11 : decode prog_13_method_47_code 11 = .ok (.iconst 0, 1) := by decide +kernel
theorem d_M_tries_12 : decode prog_13_method_47_code 12 = .ok (.istore 7, 2) := by decide +kernel
theorem d_M_tries_14 : decode prog_13_method_47_code 14 = .ok (.iconst 0, 1) := by decide +kernel
theorem d_M_tries_15 : decode prog_13_method_47_code 15 = .ok (.istore 8, 2) := by decide +kernel
theorem d_M_tries_17 : decode prog_13_method_47_code 17 = .ok (.iload 8, 2) := by decide +kernel
theorem d_M_tries_19 : decode prog_13_method_47_code 19 = .ok (.aload_n 0, 1) := by decide +kernel
theorem d_M_tries_20 : decode prog_13_method_47_code 20 = .ok (.getfield 113, 3) := by decide +kernel
theorem d_M_tries_23 : decode prog_13_method_47_code 23 = .ok (.if_icmp .ge 156, 3) := by decide +kernel
theorem d_M_tries_26 : decode prog_13_method_47_code 26 = .ok (.aload_n 0, 1) := by decide +kernel
theorem d_M_tries_27 : decode prog_13_method_47_code 27 = .ok (.iload_n 1, 1) := by decide +kernel
theorem d_M_tries_28 : decode prog_13_method_47_code 28 = .ok (.iload 8, 2) := by decide +kernel
theorem d_M_tries_30 : decode prog_13_method_47_code 30 = .ok (.invokevirtual 176, 3) := by decide +kernel
theorem d_M_tries_33 : decode prog_13_method_47_code 33 = .ok (.istore 9, 2) := by decide +kernel
theorem d_M_tries_35 : decode prog_13_method_47_code 35 = .ok (.aload_n 0, 1) := by decide +kernel
theorem d_M_tries_36 : decode prog_13_method_47_code 36 = .ok (.iload_n 2, 1) := by decide +kernel
theorem d_M_tries_37 : decode prog_13_method_47_code 37 = .ok (.iload 8, 2) := by decide +kernel
theorem d_M_tries_39 : decode prog_13_method_47_code 39 = .ok (.invokevirtual 176, 3) := by decide +kernel
theorem d_M_tries_42 : decode prog_13_method_47_code 42 = .ok (.istore 10, 2) := by decide +kernel
theorem d_M_tries_44 : decode prog_13_method_47_code 44 = .ok (.iload_n 3, 1) := by decide +kernel
theorem d_M_tries_45 : decode prog_13_method_47_code 45 = .ok (.aload_n 0, 1) := by decide +kernel
theorem d_M_tries_46 : decode prog_13_method_47_code 46 = .ok (.getfield 52, 3) := by decide +kernel
theorem d_M_tries_49 : decode prog_13_method_47_code 49 = .ok (.iload 8, 2) := by decide +kernel
theorem d_M_tries_51 : decode prog_13_method_47_code 51 = .ok (.iaload, 1) := by decide +kernel
theorem d_M_tries_52 : decode prog_13_method_47_code 52 = .ok (.iconst 2, 1) := by decide +kernel
theorem d_M_tries_53 : decode prog_13_method_47_code 53 = .ok (.if_icmp .ge 13, 3) := by decide +kernel
theorem d_M_tries_56 : decode prog_13_method_47_code 56 = .ok (.aload_n 0, 1) := by decide +kernel
theorem d_M_tries_57 : decode prog_13_method_47_code 57 = .ok (.getfield 28, 3) := by decide +kernel
theorem d_M_tries_60 : decode prog_13_method_47_code 60 = .ok (.iload 8, 2) := by decide +kernel
theorem d_M_tries_62 : decode prog_13_method_47_code 62 = .ok (.iaload, 1) := by decide +kernel
theorem d_M_tries_63 : decode prog_13_method_47_code 63 = .ok (.goto 4, 3) := by decide +kernel
theorem d_M_tries_66 : decode prog_13_method_47_code 66 = .ok (.iconst 0, 1) := by decide +kernel
theorem d_M_tries_67 : decode prog_13_method_47_code 67 = .ok (.iadd, 1) := by decide +kernel
theorem d_M_tries_68 : decode prog_13_method_47_code 68 = .ok (.istore_n 3, 1) := by decide +kernel
theorem d_M_tries_69 : decode prog_13_method_47_code 69 = .ok (.iload 4, 2) := by decide +kernel
theorem d_M_tries_71 : decode prog_13_method_47_code 71 = .ok (.aload_n 0, 1) := by decide +kernel
theorem d_M_tries_72 : decode prog_13_method_47_code 72 = .ok (.getfield 52, 3) := by decide +kernel
theorem d_M_tries_75 : decode prog_13_method_47_code 75 = .ok (.iload 8, 2) := by decide +kernel
theorem d_M_tries_77 : decode prog_13_method_47_code 77 = .ok (.iaload, 1) := by decide +kernel
theorem d_M_tries_78 : decode prog_13_method_47_code 78 = .ok (.ifCond .ne 14, 3) := by decide +kernel
theorem d_M_tries_81 : decode prog_13_method_47_code 81 = .ok (.iload 9, 2) := by decide +kernel
theorem d_M_tries_83 : decode prog_13_method_47_code 83 = .ok (.iload 10, 2) := by decide +kernel
theorem d_M_tries_85 : decode prog_13_method_47_code 85 = .ok (.isub, 1) := by decide +kernel
theorem d_M_tries_86 : decode prog_13_method_47_code 86 = .ok (.invokestatic 208, 3) := by decide +kernel
theorem d_M_tries_89 : decode prog_13_method_47_code 89 = .ok (.goto 4, 3) := by decide +kernel
theorem d_M_tries_92 : decode prog_13_method_47_code 92 = .ok (.iconst 0, 1) := by decide +kernel
theorem d_M_tries_93 : decode prog_13_method_47_code 93 = .ok (.iadd, 1) := by decide +kernel
theorem d_M_tries_94 : decode prog_13_method_47_code 94 = .ok (.istore 4, 2) := by decide +kernel
theorem d_M_tries_96 : decode prog_13_method_47_code 96 = .ok (.iload 5, 2) := by decide +kernel
theorem d_M_tries_98 : decode prog_13_method_47_code 98 = .ok (.aload_n 0, 1) := by decide +kernel
theorem d_M_tries_99 : decode prog_13_method_47_code 99 = .ok (.getfield 52, 3) := by decide +kernel
theorem d_M_tries_102 : decode prog_13_method_47_code 102 = .ok (.iload 8, 2) := by decide +kernel
theorem d_M_tries_104 : decode prog_13_method_47_code 104 = .ok (.iaload, 1) := by decide +kernel
theorem d_M_tries_105 : decode prog_13_method_47_code 105 = .ok (.ifCond .ne 20, 3) := by decide +kernel
theorem d_M_tries_108 : decode prog_13_method_47_code 108 = .ok (.iload 9, 2) := by decide +kernel
theorem d_M_tries_110 : decode prog_13_method_47_code 110 = .ok (.iload 10, 2) := by decide +kernel
theorem d_M_tries_112 : decode prog_13_method_47_code 112 = .ok (.if_icmp .le 8, 3) := by decide +kernel
theorem d_M_tries_115 : decode prog_13_method_47_code 115 = .ok (.iload 9, 2) := by decide +kernel
theorem d_M_tries_117 : decode prog_13_method_47_code 117 = .ok (.goto 9, 3) := by decide +kernel
theorem d_M_tries_120 : decode prog_13_method_47_code 120 = .ok (.iload 10, 2) := by decide +kernel
theorem d_M_tries_122 : decode prog_13_method_47_code 122 = .ok (.goto 4, 3) := by decide +kernel
theorem d_M_tries_125 : decode prog_13_method_47_code 125 = .ok (.iconst 0, 1) := by decide +kernel
theorem d_M_tries_126 : decode prog_13_method_47_code 126 = .ok (.iadd, 1) := by decide +kernel
theorem d_M_tries_127 : decode prog_13_method_47_code 127 = .ok (.istore 5, 2) := by decide +kernel
theorem d_M_tries_129 : decode prog_13_method_47_code 129 = .ok (.iload 6, 2) := by decide +kernel
theorem d_M_tries_131 : decode prog_13_method_47_code 131 = .ok (.aload_n 0, 1) := by decide +kernel
theorem d_M_tries_132 : decode prog_13_method_47_code 132 = .ok (.getfield 52, 3) := by decide +kernel
theorem d_M_tries_135 : decode prog_13_method_47_code 135 = .ok (.iload 8, 2) := by decide +kernel
theorem d_M_tries_137 : decode prog_13_method_47_code 137 = .ok (.iaload, 1) := by decide +kernel
theorem d_M_tries_138 : decode prog_13_method_47_code 138 = .ok (.iconst 1, 1) := by decide +kernel
theorem d_M_tries_139 : decode prog_13_method_47_code 139 = .ok (.if_icmp .ne 8, 3) := by decide +kernel
theorem d_M_tries_142 : decode prog_13_method_47_code 142 = .ok (.iload 9, 2) := by decide +kernel
theorem d_M_tries_144 : decode prog_13_method_47_code 144 = .ok (.goto 4, 3) := by decide +kernel
theorem d_M_tries_147 : decode prog_13_method_47_code 147 = .ok (.iconst 0, 1) := by decide +kernel
theorem d_M_tries_148 : decode prog_13_method_47_code 148 = .ok (.iadd, 1) := by decide +kernel
theorem d_M_tries_149 : decode prog_13_method_47_code 149 = .ok (.istore 6, 2) := by decide +kernel
theorem d_M_tries_151 : decode prog_13_method_47_code 151 = .ok (.iload 7, 2) := by decide +kernel
theorem d_M_tries_153 : decode prog_13_method_47_code 153 = .ok (.aload_n 0, 1) := by decide +kernel
theorem d_M_tries_154 : decode prog_13_method_47_code 154 = .ok (.getfield 52, 3) := by decide +kernel
theorem d_M_tries_157 : decode prog_13_method_47_code 157 = .ok (.iload 8, 2) := by decide +kernel
theorem d_M_tries_159 : decode prog_13_method_47_code 159 = .ok (.iaload, 1) := by decide +kernel
theorem d_M_tries_160 : decode prog_13_method_47_code 160 = .ok (.iconst 1, 1) := by decide +kernel
theorem d_M_tries_161 : decode prog_13_method_47_code 161 = .ok (.if_icmp .ne 8, 3) := by decide +kernel
theorem d_M_tries_164 : decode prog_13_method_47_code 164 = .ok (.iload 10, 2) := by decide +kernel
theorem d_M_tries_166 : decode prog_13_method_47_code 166 = .ok (.goto 4, 3) := by decide +kernel
theorem d_M_tries_169 : decode prog_13_method_47_code 169 = .ok (.iconst 0, 1) := by decide +kernel
theorem d_M_tries_170 : decode prog_13_method_47_code 170 = .ok (.iadd, 1) := by decide +kernel
theorem d_M_tries_171 : decode prog_13_method_47_code 171 = .ok (.istore 7, 2) := by decide +kernel
theorem d_M_tries_173 : decode prog_13_method_47_code 173 = .ok (.iinc 8 1, 3) := by decide +kernel
theorem d_M_tries_176 : decode prog_13_method_47_code 176 = .ok (.goto (-159), 3) := by decide +kernel
theorem d_M_tries_179 : decode prog_13_method_47_code 179 = .ok (.iload 5, 2) := by decide +kernel
theorem d_M_tries_181 : decode prog_13_method_47_code 181 = .ok (.aload_n 0, 1) := by decide +kernel
theorem d_M_tries_182 : decode prog_13_method_47_code 182 = .ok (.getfield 46, 3) := by decide +kernel
theorem d_M_tries_185 : decode prog_13_method_47_code 185 = .ok (.iconst 0, 1) := by decide +kernel
theorem d_M_tries_186 : decode prog_13_method_47_code 186 = .ok (.iaload, 1) := by decide +kernel
theorem d_M_tries_187 : decode prog_13_method_47_code 187 = .ok (.if_icmp .gt 29, 3) := by decide +kernel
theorem d_M_tries_190 : decode prog_13_method_47_code 190 = .ok (.iload 6, 2) := by decide +kernel
theorem d_M_tries_192 : decode prog_13_method_47_code 192 = .ok (.aload_n 0, 1) := by decide +kernel
theorem d_M_tries_193 : decode prog_13_method_47_code 193 = .ok (.getfield 46, 3) := by decide +kernel
theorem d_M_tries_196 : decode prog_13_method_47_code 196 = .ok (.iconst 1, 1) := by decide +kernel
theorem d_M_tries_197 : decode prog_13_method_47_code 197 = .ok (.iaload, 1) := by decide +kernel
theorem d_M_tries_198 : decode prog_13_method_47_code 198 = .ok (.if_icmp .gt 18, 3) := by decide +kernel
theorem d_M_tries_201 : decode prog_13_method_47_code 201 = .ok (.iload 7, 2) := by decide +kernel
theorem d_M_tries_203 : decode prog_13_method_47_code 203 = .ok (.aload_n 0, 1) := by decide +kernel
theorem d_M_tries_204 : decode prog_13_method_47_code 204 = .ok (.getfield 46, 3) := by decide +kernel
theorem d_M_tries_207 : decode prog_13_method_47_code 207 = .ok (.iconst 1, 1) := by decide +kernel
theorem d_M_tries_208 : decode prog_13_method_47_code 208 = .ok (.iaload, 1) := by decide +kernel
theorem d_M_tries_209 : decode prog_13_method_47_code 209 = .ok (.if_icmp .gt 7, 3) := by decide +kernel
theorem d_M_tries_212 : decode prog_13_method_47_code 212 = .ok (.iconst 1, 1) := by decide +kernel
theorem d_M_tries_213 : decode prog_13_method_47_code 213 = .ok (.goto 4, 3) := by decide +kernel
theorem d_M_tries_216 : decode prog_13_method_47_code 216 = .ok (.iconst 0, 1) := by decide +kernel
theorem d_M_tries_217 : decode prog_13_method_47_code 217 = .ok (.istore 8, 2) := by decide +kernel
theorem d_M_tries_219 : decode prog_13_method_47_code 219 = .ok (.iload 8, 2) := by decide +kernel
theorem d_M_tries_221 : decode prog_13_method_47_code 221 = .ok (.ifCond .eq 77, 3) := by decide +kernel
theorem d_M_tries_224 : decode prog_13_method_47_code 224 = .ok (.iload_n 3, 1) := by decide +kernel
theorem d_M_tries_225 : decode prog_13_method_47_code 225 = .ok (.aload_n 0, 1) := by decide +kernel
theorem d_M_tries_226 : decode prog_13_method_47_code 226 = .ok (.getfield 211, 3) := by decide +kernel
theorem d_M_tries_229 : decode prog_13_method_47_code 229 = .ok (.if_icmp .gt 20, 3) := by decide +kernel
theorem d_M_tries_232 : decode prog_13_method_47_code 232 = .ok (.iload_n 3, 1) := by decide +kernel
theorem d_M_tries_233 : decode prog_13_method_47_code 233 = .ok (.aload_n 0, 1) := by decide +kernel
theorem d_M_tries_234 : decode prog_13_method_47_code 234 = .ok (.getfield 211, 3) := by decide +kernel
theorem d_M_tries_237 : decode prog_13_method_47_code 237 = .ok (.if_icmp .ne 61, 3) := by decide +kernel
theorem d_M_tries_240 : decode prog_13_method_47_code 240 = .ok (.iload 4, 2) := by decide +kernel
theorem d_M_tries_242 : decode prog_13_method_47_code 242 = .ok (.aload_n 0, 1) := by decide +kernel
theorem d_M_tries_243 : decode prog_13_method_47_code 243 = .ok (.getfield 214, 3) := by decide +kernel
theorem d_M_tries_246 : decode prog_13_method_47_code 246 = .ok (.if_icmp .ge 52, 3) := by decide +kernel
theorem d_M_tries_249 : decode prog_13_method_47_code 249 = .ok (.aload_n 0, 1) := by decide +kernel
theorem d_M_tries_250 : decode prog_13_method_47_code 250 = .ok (.iload_n 3, 1) := by decide +kernel
theorem d_M_tries_251 : decode prog_13_method_47_code 251 = .ok (.putfield 211, 3) := by decide +kernel
theorem d_M_tries_254 : decode prog_13_method_47_code 254 = .ok (.aload_n 0, 1) := by decide +kernel
theorem d_M_tries_255 : decode prog_13_method_47_code 255 = .ok (.iload 4, 2) := by decide +kernel
theorem d_M_tries_257 : decode prog_13_method_47_code 257 = .ok (.putfield 214, 3) := by decide +kernel
theorem d_M_tries_260 : decode prog_13_method_47_code 260 = .ok (.aload_n 0, 1) := by decide +kernel
theorem d_M_tries_261 : decode prog_13_method_47_code 261 = .ok (.iload 5, 2) := by decide +kernel
theorem d_M_tries_263 : decode prog_13_method_47_code 263 = .ok (.putfield 217, 3) := by decide +kernel
theorem d_M_tries_266 : decode prog_13_method_47_code 266 = .ok (.iconst 0, 1) := by decide +kernel
theorem d_M_tries_267 : decode prog_13_method_47_code 267 = .ok (.istore 9, 2) := by decide +kernel
theorem d_M_tries_269 : decode prog_13_method_47_code 269 = .ok (.iload 9, 2) := by decide +kernel
theorem d_M_tries_271 : decode prog_13_method_47_code 271 = .ok (.aload_n 0, 1) := by decide +kernel
theorem d_M_tries_272 : decode prog_13_method_47_code 272 = .ok (.getfield 113, 3) := by decide +kernel
theorem d_M_tries_275 : decode prog_13_method_47_code 275 = .ok (.if_icmp .ge 23, 3) := by decide +kernel
theorem d_M_tries_278 : decode prog_13_method_47_code 278 = .ok (.aload_n 0, 1) := by decide +kernel
theorem d_M_tries_279 : decode prog_13_method_47_code 279 = .ok (.getfield 55, 3) := by decide +kernel
theorem d_M_tries_282 : decode prog_13_method_47_code 282 = .ok (.iload 9, 2) := by decide +kernel
theorem d_M_tries_284 : decode prog_13_method_47_code 284 = .ok (.aload_n 0, 1) := by decide +kernel
theorem d_M_tries_285 : decode prog_13_method_47_code 285 = .ok (.getfield 52, 3) := by decide +kernel
theorem d_M_tries_288 : decode prog_13_method_47_code 288 = .ok (.iload 9, 2) := by decide +kernel
theorem d_M_tries_290 : decode prog_13_method_47_code 290 = .ok (.iaload, 1) := by decide +kernel
theorem d_M_tries_291 : decode prog_13_method_47_code 291 = .ok (.iastore, 1) := by decide +kernel
theorem d_M_tries_292 : decode prog_13_method_47_code 292 = .ok (.iinc 9 1, 3) := by decide +kernel
theorem d_M_tries_295 : decode prog_13_method_47_code 295 = .ok (.goto (-26), 3) := by decide +kernel
theorem d_M_tries_298 : decode prog_13_method_47_code 298 = .ok (.return_, 1) := by decide +kernel
theorem d_M_findBest_0 : decode prog_13_method_48_code 0 = .ok (.iconst 1, 1) := by decide +kernel
theorem d_M_findBest_1 : decode prog_13_method_48_code 1 = .ok (.istore_n 3, 1) := by decide +kernel
theorem d_M_findBest_2 : decode prog_13_method_48_code 2 = .ok (.iconst 0, 1) := by decide +kernel
theorem d_M_findBest_3 : decode prog_13_method_48_code 3 = .ok (.istore 4, 2) := by decide +kernel
theorem d_M_findBest_5 : decode prog_13_method_48_code 5 = .ok (.iload 4, 2) := by decide +kernel
theorem d_M_findBest_7 : decode prog_13_method_48_code 7 = .ok (.aload_n 0, 1) := by decide +kernel
theorem d_M_findBest_8 : decode prog_13_method_48_code 8 = .ok (.getfield 113, 3) := by decide +kernel
theorem d_M_findBest_11 : decode prog_13_method_48_code 11 = .ok (.if_icmp .ge 13, 3) := by decide +kernel
theorem d_M_findBest_14 : decode prog_13_method_48_code 14 = .ok (.iload_n 3, 1) := by decide +kernel
theorem d_M_findBest_15 : decode prog_13_method_48_code 15 = .ok (.iconst 3, 1) := by decide +kernel
theorem d_M_findBest_16 : decode prog_13_method_48_code 16 = .ok (.imul, 1) := by decide +kernel
theorem d_M_findBest_17 : decode prog_13_method_48_code 17 = .ok (.istore_n 3, 1) := by decide +kernel
theorem d_M_findBest_18 : decode prog_13_method_48_code 18 = .ok (.iinc 4 1, 3) := by decide +kernel
theorem d_M_findBest_21 : decode prog_13_method_48_code 21 = .ok (.goto (-16), 3) := by decide +kernel
theorem d_M_findBest_24 : decode prog_13_method_48_code 24 = .ok (.aload_n 0, 1) := by decide +kernel
theorem d_M_findBest_25 : decode prog_13_method_48_code 25 = .ok (.iconst (-1), 1) := by decide +kernel
theorem d_M_findBest_26 : decode prog_13_method_48_code 26 = .ok (.putfield 211, 3) := by decide +kernel
theorem d_M_findBest_29 : decode prog_13_method_48_code 29 = .ok (.iconst 0, 1) := by decide +kernel
theorem d_M_findBest_30 : decode prog_13_method_48_code 30 = .ok (.istore 4, 2) := by decide +kernel
theorem d_M_findBest_32 : decode prog_13_method_48_code 32 = .ok (.iload 4, 2) := by decide +kernel
theorem d_M_findBest_34 : decode prog_13_method_48_code 34 = .ok (.iload_n 3, 1) := by decide +kernel
theorem d_M_findBest_35 : decode prog_13_method_48_code 35 = .ok (.if_icmp .ge 95, 3) := by decide +kernel
theorem d_M_findBest_38 : decode prog_13_method_48_code 38 = .ok (.iload 4, 2) := by decide +kernel
theorem d_M_findBest_40 : decode prog_13_method_48_code 40 = .ok (.istore 5, 2) := by decide +kernel
theorem d_M_findBest_42 : decode prog_13_method_48_code 42 = .ok (.iconst 1, 1) := by decide +kernel
theorem d_M_findBest_43 : decode prog_13_method_48_code 43 = .ok (.istore 6, 2) := by decide +kernel
theorem d_M_findBest_45 : decode prog_13_method_48_code 45 = .ok (.aload_n 0, 1) := by decide +kernel
theorem d_M_findBest_46 : decode prog_13_method_48_code 46 = .ok (.getfield 113, 3) := by decide +kernel
theorem d_M_findBest_49 : decode prog_13_method_48_code 49 = .ok (.iconst 1, 1) := by decide +kernel
theorem d_M_findBest_50 : decode prog_13_method_48_code 50 = .ok (.isub, 1) := by decide +kernel
theorem d_M_findBest_51 : decode prog_13_method_48_code 51 = .ok (.istore 7, 2) := by decide +kernel
theorem d_M_findBest_53 : decode prog_13_method_48_code 53 = .ok (.iload 7, 2) := by decide +kernel
theorem d_M_findBest_55 : decode prog_13_method_48_code 55 = .ok (.ifCond .lt 58, 3) := by decide +kernel
theorem d_M_findBest_58 : decode prog_13_method_48_code 58 = .ok (.aload_n 0, 1) := by decide +kernel
theorem d_M_findBest_59 : decode prog_13_method_48_code 59 = .ok (.getfield 52, 3) := by decide +kernel
theorem d_M_findBest_62 : decode prog_13_method_48_code 62 = .ok (.iload 7, 2) := by decide +kernel
theorem d_M_findBest_64 : decode prog_13_method_48_code 64 = .ok (.iload 5, 2) := by decide +kernel
theorem d_M_findBest_66 : decode prog_13_method_48_code 66 = .ok (.iconst 3, 1) := by decide +kernel
theorem d_M_findBest_67 : decode prog_13_method_48_code 67 = .ok (.irem, 1) := by decide +kernel
theorem d_M_findBest_68 : decode prog_13_method_48_code 68 = .ok (.iastore, 1) := by decide +kernel
theorem d_M_findBest_69 : decode prog_13_method_48_code 69 = .ok (.iload 5, 2) := by decide +kernel
theorem d_M_findBest_71 : decode prog_13_method_48_code 71 = .ok (.iconst 3, 1) := by decide +kernel
theorem d_M_findBest_72 : decode prog_13_method_48_code 72 = .ok (.idiv, 1) := by decide +kernel
theorem d_M_findBest_73 : decode prog_13_method_48_code 73 = .ok (.istore 5, 2) := by decide +kernel
theorem d_M_findBest_75 : decode prog_13_method_48_code 75 = .ok (.iload 6, 2) := by decide +kernel
theorem d_M_findBest_77 : decode prog_13_method_48_code 77 = .ok (.ifCond .eq 27, 3) := by decide +kernel
theorem d_M_findBest_80 : decode prog_13_method_48_code 80 = .ok (.aload_n 0, 1) := by decide +kernel
theorem d_M_findBest_81 : decode prog_13_method_48_code 81 = .ok (.getfield 52, 3) := by decide +kernel
theorem d_M_findBest_84 : decode prog_13_method_48_code 84 = .ok (.iload 7, 2) := by decide +kernel
theorem d_M_findBest_86 : decode prog_13_method_48_code 86 = .ok (.iaload, 1) := by decide +kernel
theorem d_M_findBest_87 : decode prog_13_method_48_code 87 = .ok (.iconst 2, 1) := by decide +kernel
theorem d_M_findBest_88 : decode prog_13_method_48_code 88 = .ok (.if_icmp .eq 12, 3) := by decide +kernel
theorem d_M_findBest_91 : decode prog_13_method_48_code 91 = .ok (.aload_n 0, 1) := by decide +kernel
theorem d_M_findBest_92 : decode prog_13_method_48_code 92 = .ok (.iload 7, 2) := by decide +kernel
theorem d_M_findBest_94 : decode prog_13_method_48_code 94 = .ok (.invokevirtual 188, 3) := by decide +kernel
theorem d_M_findBest_97 : decode prog_13_method_48_code 97 = .ok (.ifCond .eq 7, 3) := by decide +kernel
theorem d_M_findBest_100 : decode prog_13_method_48_code 100 = .ok (.iconst 1, 1) := by decide +kernel
theorem d_M_findBest_101 : decode prog_13_method_48_code 101 = .ok (.goto 4, 3) := by decide +kernel
theorem d_M_findBest_104 : decode prog_13_method_48_code 104 = .ok (.iconst 0, 1) := by decide +kernel
theorem d_M_findBest_105 : decode prog_13_method_48_code 105 = .ok (.istore 6, 2) := by decide +kernel
theorem d_M_findBest_107 : decode prog_13_method_48_code 107 = .ok (.iinc 7 (-1), 3) := by decide +kernel
theorem d_M_findBest_110 : decode prog_13_method_48_code 110 = .ok (.goto (-57), 3) := by decide +kernel
theorem d_M_findBest_113 : decode prog_13_method_48_code 113 = .ok (.iload 6, 2) := by decide +kernel
theorem d_M_findBest_115 : decode prog_13_method_48_code 115 = .ok (.ifCond .eq 9, 3) := by decide +kernel
theorem d_M_findBest_118 : decode prog_13_method_48_code 118 = .ok (.aload_n 0, 1) := by decide +kernel
theorem d_M_findBest_119 : decode prog_13_method_48_code 119 = .ok (.iload_n 1, 1) := by decide +kernel
theorem d_M_findBest_120 : decode prog_13_method_48_code 120 = .ok (.iload_n 2, 1) := by decide +kernel
theorem d_M_findBest_121 : decode prog_13_method_48_code 121 = .ok (.invokevirtual 220, 3) := by decide +kernel
theorem d_M_findBest_124 : decode prog_13_method_48_code 124 = .ok (.iinc 4 1, 3) := by decide +kernel
theorem d_M_findBest_127 : decode prog_13_method_48_code 127 = .ok (.goto (-95), 3) := by decide +kernel
theorem d_M_findBest_130 : decode prog_13_method_48_code 130 = .ok (.return_, 1) := by decide +kernel
theorem d_M_areTwo_0 : decode prog_13_method_49_code 0 = .ok (.iload_n 0, 1) := by decide +kernel
theorem d_M_areTwo_1 : decode prog_13_method_49_code 1 = .ok (.invokestatic 149, 3) := by decide +kernel
theorem d_M_areTwo_4 : decode prog_13_method_49_code 4 = .ok (.ifCond .eq 19, 3) := by decide +kernel
theorem d_M_areTwo_7 : decode prog_13_method_49_code 7 = .ok (.iload_n 1, 1) := by decide +kernel
theorem d_M_areTwo_8 : decode prog_13_method_49_code 8 = .ok (.invokestatic 149, 3) := by decide +kernel
theorem d_M_areTwo_11 : decode prog_13_method_49_code 11 = .ok (.ifCond .eq 12, 3) := by decide +kernel
theorem d_M_areTwo_14 : decode prog_13_method_49_code 14 = .ok (.iload_n 0, 1) := by decide +kernel
theorem d_M_areTwo_15 : decode prog_13_method_49_code 15 = .ok (.iload_n 1, 1) := by decide +kernel
theorem d_M_areTwo_16 : decode prog_13_method_49_code 16 = .ok (.if_icmp .eq 7, 3) := by decide +kernel
theorem d_M_areTwo_19 : decode prog_13_method_49_code 19 = .ok (.iconst 1, 1) := by decide +kernel
theorem d_M_areTwo_20 : decode prog_13_method_49_code 20 = .ok (.goto 4, 3) := by decide +kernel
theorem d_M_areTwo_23 : decode prog_13_method_49_code 23 = .ok (.iconst 0, 1) := by decide +kernel
theorem d_M_areTwo_24 : decode prog_13_method_49_code 24 = .ok (.ireturn, 1) := by decide +kernel
theorem d_M_bestOf_0 : decode prog_13_method_50_code 0 = .ok (.iload_n 1, 1) := by decide +kernel
theorem d_M_bestOf_1 : decode prog_13_method_50_code 1 = .ok (.ifCond .ne 10, 3) := by decide +kernel
theorem d_M_bestOf_4 : decode prog_13_method_50_code 4 = .ok (.aload_n 0, 1) := by decide +kernel
theorem d_M_bestOf_5 : decode prog_13_method_50_code 5 = .ok (.getfield 211, 3) := by decide +kernel
theorem d_M_bestOf_8 : decode prog_13_method_50_code 8 = .ok (.goto 19, 3) := by decide +kernel
theorem d_M_bestOf_11 : decode prog_13_method_50_code 11 = .ok (.iload_n 1, 1) := by decide +kernel
theorem d_M_bestOf_12 : decode prog_13_method_50_code 12 = .ok (.iconst 1, 1) := by decide +kernel
theorem d_M_bestOf_13 : decode prog_13_method_50_code 13 = .ok (.if_icmp .ne 10, 3) := by decide +kernel
theorem d_M_bestOf_16 : decode prog_13_method_50_code 16 = .ok (.aload_n 0, 1) := by decide +kernel
theorem d_M_bestOf_17 : decode prog_13_method_50_code 17 = .ok (.getfield 214, 3) := by decide +kernel
theorem d_M_bestOf_20 : decode prog_13_method_50_code 20 = .ok (.goto 7, 3) := by decide +kernel
theorem d_M_bestOf_23 : decode prog_13_method_50_code 23 = .ok (.aload_n 0, 1) := by decide +kernel
theorem d_M_bestOf_24 : decode prog_13_method_50_code 24 = .ok (.getfield 217, 3) := by decide +kernel
theorem d_M_bestOf_27 : decode prog_13_method_50_code 27 = .ok (.ireturn, 1) := by decide +kernel
theorem d_M_best_0 : decode prog_13_method_51_code 0 = .ok (.iload_n 1, 1) := by decide +kernel
theorem d_M_best_1 : decode prog_13_method_51_code 1 = .ok (.iload_n 2, 1) := by decide +kernel
theorem d_M_best_2 : decode prog_13_method_51_code 2 = .ok (.invokestatic 223, 3) := by decide +kernel
theorem d_M_best_5 : decode prog_13_method_51_code 5 = .ok (.ifCond .eq 15, 3) := by decide +kernel
theorem d_M_best_8 : decode prog_13_method_51_code 8 = .ok (.iload_n 3, 1) := by decide +kernel
theorem d_M_best_9 : decode prog_13_method_51_code 9 = .ok (.i2l, 1) := by decide +kernel
theorem d_M_best_10 : decode prog_13_method_51_code 10 = .ok (.lconst 0, 1) := by decide +kernel
theorem d_M_best_11 : decode prog_13_method_51_code 11 = .ok (.ldc2_w 90, 3) := by decide +kernel
theorem d_M_best_14 : decode prog_13_method_51_code 14 = .ok (.invokestatic 76, 3) := by decide +kernel
theorem d_M_best_17 : decode prog_13_method_51_code 17 = .ok (.ifCond .ne 6, 3) := by decide +kernel
theorem d_M_best_20 : decode prog_13_method_51_code 20 = .ok (.bipush (-2), 2) := by decide +kernel
theorem d_M_best_22 : decode prog_13_method_51_code 22 = .ok (.ireturn, 1) := by decide +kernel
theorem d_M_best_23 : decode prog_13_method_51_code 23 = .ok (.aload_n 0, 1) := by decide +kernel
theorem d_M_best_24 : decode prog_13_method_51_code 24 = .ok (.invokevirtual 131, 3) := by decide +kernel
theorem d_M_best_27 : decode prog_13_method_51_code 27 = .ok (.pop, 1) := by decide +kernel
theorem d_M_best_28 : decode prog_13_method_51_code 28 = .ok (.aload_n 0, 1) := by decide +kernel
theorem d_M_best_29 : decode prog_13_method_51_code 29 = .ok (.iload_n 1, 1) := by decide +kernel
theorem d_M_best_30 : decode prog_13_method_51_code 30 = .ok (.iload_n 2, 1) := by decide +kernel
theorem d_M_best_31 : decode prog_13_method_51_code 31 = .ok (.invokevirtual 226, 3) := by decide +kernel
theorem d_M_best_34 : decode prog_13_method_51_code 34 = .ok (.aload_n 0, 1) := by decide +kernel
theorem d_M_best_35 : decode prog_13_method_51_code 35 = .ok (.iload_n 3, 1) := by decide +kernel
theorem d_M_best_36 : decode prog_13_method_51_code 36 = .ok (.invokevirtual 229, 3) := by decide +kernel
theorem d_M_best_39 : decode prog_13_method_51_code 39 = .ok (.ireturn, 1) := by decide +kernel
theorem d_M_how_0 : decode prog_13_method_52_code 0 = .ok (.iload_n 1, 1) := by decide +kernel
theorem d_M_how_1 : decode prog_13_method_52_code 1 = .ok (.iload_n 2, 1) := by decide +kernel
theorem d_M_how_2 : decode prog_13_method_52_code 2 = .ok (.invokestatic 223, 3) := by decide +kernel
theorem d_M_how_5 : decode prog_13_method_52_code 5 = .ok (.ifCond .eq 11, 3) := by decide +kernel
theorem d_M_how_8 : decode prog_13_method_52_code 8 = .ok (.aload_n 0, 1) := by decide +kernel
theorem d_M_how_9 : decode prog_13_method_52_code 9 = .ok (.iload_n 3, 1) := by decide +kernel
theorem d_M_how_10 : decode prog_13_method_52_code 10 = .ok (.invokevirtual 143, 3) := by decide +kernel
theorem d_M_how_13 : decode prog_13_method_52_code 13 = .ok (.ifCond .ne 6, 3) := by decide +kernel
theorem d_M_how_16 : decode prog_13_method_52_code 16 = .ok (.bipush (-2), 2) := by decide +kernel
theorem d_M_how_18 : decode prog_13_method_52_code 18 = .ok (.ireturn, 1) := by decide +kernel
theorem d_M_how_19 : decode prog_13_method_52_code 19 = .ok (.aload_n 0, 1) := by decide +kernel
theorem d_M_how_20 : decode prog_13_method_52_code 20 = .ok (.iload_n 1, 1) := by decide +kernel
theorem d_M_how_21 : decode prog_13_method_52_code 21 = .ok (.iload_n 2, 1) := by decide +kernel
theorem d_M_how_22 : decode prog_13_method_52_code 22 = .ok (.invokevirtual 226, 3) := by decide +kernel
theorem d_M_how_25 : decode prog_13_method_52_code 25 = .ok (.aload_n 0, 1) := by decide +kernel
theorem d_M_how_26 : decode prog_13_method_52_code 26 = .ok (.getfield 55, 3) := by decide +kernel
theorem d_M_how_29 : decode prog_13_method_52_code 29 = .ok (.iload_n 3, 1) := by decide +kernel
theorem d_M_how_30 : decode prog_13_method_52_code 30 = .ok (.iaload, 1) := by decide +kernel
theorem d_M_how_31 : decode prog_13_method_52_code 31 = .ok (.ireturn, 1) := by decide +kernel
theorem d_M_isSlow_0 : decode prog_13_method_53_code 0 = .ok (.iload_n 0, 1) := by decide +kernel
theorem d_M_isSlow_1 : decode prog_13_method_53_code 1 = .ok (.i2l, 1) := by decide +kernel
theorem d_M_isSlow_2 : decode prog_13_method_53_code 2 = .ok (.lconst 0, 1) := by decide +kernel
theorem d_M_isSlow_3 : decode prog_13_method_53_code 3 = .ok (.ldc2_w 84, 3) := by decide +kernel
theorem d_M_isSlow_6 : decode prog_13_method_53_code 6 = .ok (.invokestatic 76, 3) := by decide +kernel
theorem d_M_isSlow_9 : decode prog_13_method_53_code 9 = .ok (.ireturn, 1) := by decide +kernel
theorem d_M_gainOf_0 : decode prog_13_method_54_code 0 = .ok (.iconst 0, 1) := by decide +kernel
theorem d_M_gainOf_1 : decode prog_13_method_54_code 1 = .ok (.istore 5, 2) := by decide +kernel
theorem d_M_gainOf_3 : decode prog_13_method_54_code 3 = .ok (.iconst 0, 1) := by decide +kernel
theorem d_M_gainOf_4 : decode prog_13_method_54_code 4 = .ok (.istore 6, 2) := by decide +kernel
theorem d_M_gainOf_6 : decode prog_13_method_54_code 6 = .ok (.iload 6, 2) := by decide +kernel
theorem d_M_gainOf_8 : decode prog_13_method_54_code 8 = .ok (.aload_n 0, 1) := by decide +kernel
theorem d_M_gainOf_9 : decode prog_13_method_54_code 9 = .ok (.getfield 113, 3) := by decide +kernel
theorem d_M_gainOf_12 : decode prog_13_method_54_code 12 = .ok (.if_icmp .ge 65, 3) := by decide +kernel
theorem d_M_gainOf_15 : decode prog_13_method_54_code 15 = .ok (.aload_n 0, 1) := by decide +kernel
theorem d_M_gainOf_16 : decode prog_13_method_54_code 16 = .ok (.iload 6, 2) := by decide +kernel
theorem d_M_gainOf_18 : decode prog_13_method_54_code 18 = .ok (.invokevirtual 188, 3) := by decide +kernel
theorem d_M_gainOf_21 : decode prog_13_method_54_code 21 = .ok (.ifCond .eq 50, 3) := by decide +kernel
theorem d_M_gainOf_24 : decode prog_13_method_54_code 24 = .ok (.aload_n 0, 1) := by decide +kernel
theorem d_M_gainOf_25 : decode prog_13_method_54_code 25 = .ok (.iload_n 2, 1) := by decide +kernel
theorem d_M_gainOf_26 : decode prog_13_method_54_code 26 = .ok (.iload 6, 2) := by decide +kernel
theorem d_M_gainOf_28 : decode prog_13_method_54_code 28 = .ok (.invokevirtual 176, 3) := by decide +kernel
theorem d_M_gainOf_31 : decode prog_13_method_54_code 31 = .ok (.iload 4, 2) := by decide +kernel
theorem d_M_gainOf_33 : decode prog_13_method_54_code 33 = .ok (.iadd, 1) := by decide +kernel
theorem d_M_gainOf_34 : decode prog_13_method_54_code 34 = .ok (.aload_n 0, 1) := by decide +kernel
theorem d_M_gainOf_35 : decode prog_13_method_54_code 35 = .ok (.iload_n 1, 1) := by decide +kernel
theorem d_M_gainOf_36 : decode prog_13_method_54_code 36 = .ok (.iload 6, 2) := by decide +kernel
theorem d_M_gainOf_38 : decode prog_13_method_54_code 38 = .ok (.invokevirtual 176, 3) := by decide +kernel
theorem d_M_gainOf_41 : decode prog_13_method_54_code 41 = .ok (.isub, 1) := by decide +kernel
theorem d_M_gainOf_42 : decode prog_13_method_54_code 42 = .ok (.iload_n 3, 1) := by decide +kernel
theorem d_M_gainOf_43 : decode prog_13_method_54_code 43 = .ok (.isub, 1) := by decide +kernel
theorem d_M_gainOf_44 : decode prog_13_method_54_code 44 = .ok (.istore 7, 2) := by decide +kernel
theorem d_M_gainOf_46 : decode prog_13_method_54_code 46 = .ok (.iload 5, 2) := by decide +kernel
theorem d_M_gainOf_48 : decode prog_13_method_54_code 48 = .ok (.aload_n 0, 1) := by decide +kernel
theorem d_M_gainOf_49 : decode prog_13_method_54_code 49 = .ok (.getfield 40, 3) := by decide +kernel
theorem d_M_gainOf_52 : decode prog_13_method_54_code 52 = .ok (.iload_n 1, 1) := by decide +kernel
theorem d_M_gainOf_53 : decode prog_13_method_54_code 53 = .ok (.iaload, 1) := by decide +kernel
theorem d_M_gainOf_54 : decode prog_13_method_54_code 54 = .ok (.iload_n 3, 1) := by decide +kernel
theorem d_M_gainOf_55 : decode prog_13_method_54_code 55 = .ok (.imul, 1) := by decide +kernel
theorem d_M_gainOf_56 : decode prog_13_method_54_code 56 = .ok (.iload 7, 2) := by decide +kernel
theorem d_M_gainOf_58 : decode prog_13_method_54_code 58 = .ok (.ifCond .le 8, 3) := by decide +kernel
theorem d_M_gainOf_61 : decode prog_13_method_54_code 61 = .ok (.iload 7, 2) := by decide +kernel
theorem d_M_gainOf_63 : decode prog_13_method_54_code 63 = .ok (.goto 4, 3) := by decide +kernel
theorem d_M_gainOf_66 : decode prog_13_method_54_code 66 = .ok (.iconst 0, 1) := by decide +kernel
theorem d_M_gainOf_67 : decode prog_13_method_54_code 67 = .ok (.isub, 1) := by decide +kernel
theorem d_M_gainOf_68 : decode prog_13_method_54_code 68 = .ok (.iadd, 1) := by decide +kernel
theorem d_M_gainOf_69 : decode prog_13_method_54_code 69 = .ok (.istore 5, 2) := by decide +kernel
theorem d_M_gainOf_71 : decode prog_13_method_54_code 71 = .ok (.iinc 6 1, 3) := by decide +kernel
theorem d_M_gainOf_74 : decode prog_13_method_54_code 74 = .ok (.goto (-68), 3) := by decide +kernel
theorem d_M_gainOf_77 : decode prog_13_method_54_code 77 = .ok (.iload 5, 2) := by decide +kernel
theorem d_M_gainOf_79 : decode prog_13_method_54_code 79 = .ok (.ireturn, 1) := by decide +kernel
theorem d_M_gain_0 : decode prog_13_method_55_code 0 = .ok (.aload_n 0, 1) := by decide +kernel
theorem d_M_gain_1 : decode prog_13_method_55_code 1 = .ok (.invokevirtual 131, 3) := by decide +kernel
theorem d_M_gain_4 : decode prog_13_method_55_code 4 = .ok (.pop, 1) := by decide +kernel
theorem d_M_gain_5 : decode prog_13_method_55_code 5 = .ok (.iload_n 1, 1) := by decide +kernel
theorem d_M_gain_6 : decode prog_13_method_55_code 6 = .ok (.iload_n 2, 1) := by decide +kernel
theorem d_M_gain_7 : decode prog_13_method_55_code 7 = .ok (.invokestatic 223, 3) := by decide +kernel
theorem d_M_gain_10 : decode prog_13_method_55_code 10 = .ok (.ifCond .eq 30, 3) := by decide +kernel
theorem d_M_gain_13 : decode prog_13_method_55_code 13 = .ok (.iload_n 3, 1) := by decide +kernel
theorem d_M_gain_14 : decode prog_13_method_55_code 14 = .ok (.invokestatic 232, 3) := by decide +kernel
theorem d_M_gain_17 : decode prog_13_method_55_code 17 = .ok (.ifCond .eq 23, 3) := by decide +kernel
theorem d_M_gain_20 : decode prog_13_method_55_code 20 = .ok (.iload 4, 2) := by decide +kernel
theorem d_M_gain_22 : decode prog_13_method_55_code 22 = .ok (.invokestatic 232, 3) := by decide +kernel
theorem d_M_gain_25 : decode prog_13_method_55_code 25 = .ok (.ifCond .eq 15, 3) := by decide +kernel
theorem d_M_gain_28 : decode prog_13_method_55_code 28 = .ok (.aload_n 0, 1) := by decide +kernel
theorem d_M_gain_29 : decode prog_13_method_55_code 29 = .ok (.iload_n 1, 1) := by decide +kernel
theorem d_M_gain_30 : decode prog_13_method_55_code 30 = .ok (.iload_n 2, 1) := by decide +kernel
theorem d_M_gain_31 : decode prog_13_method_55_code 31 = .ok (.iload_n 3, 1) := by decide +kernel
theorem d_M_gain_32 : decode prog_13_method_55_code 32 = .ok (.iload 4, 2) := by decide +kernel
theorem d_M_gain_34 : decode prog_13_method_55_code 34 = .ok (.invokevirtual 235, 3) := by decide +kernel
theorem d_M_gain_37 : decode prog_13_method_55_code 37 = .ok (.goto 6, 3) := by decide +kernel
theorem d_M_gain_40 : decode prog_13_method_55_code 40 = .ok (.sipush (-10002), 3) := by decide +kernel
theorem d_M_gain_43 : decode prog_13_method_55_code 43 = .ok (.ireturn, 1) := by decide +kernel
theorem d_M_isRest_0 : decode prog_13_method_56_code 0 = .ok (.iconst 1, 1) := by decide +kernel
theorem d_M_isRest_1 : decode prog_13_method_56_code 1 = .ok (.istore 5, 2) := by decide +kernel
theorem d_M_isRest_3 : decode prog_13_method_56_code 3 = .ok (.iconst 0, 1) := by decide +kernel
theorem d_M_isRest_4 : decode prog_13_method_56_code 4 = .ok (.istore 6, 2) := by decide +kernel
theorem d_M_isRest_6 : decode prog_13_method_56_code 6 = .ok (.iload 6, 2) := by decide +kernel
theorem d_M_isRest_8 : decode prog_13_method_56_code 8 = .ok (.iconst 4, 1) := by decide +kernel
theorem d_M_isRest_9 : decode prog_13_method_56_code 9 = .ok (.if_icmp .ge 64, 3) := by decide +kernel
theorem d_M_isRest_12 : decode prog_13_method_56_code 12 = .ok (.iload 5, 2) := by decide +kernel
theorem d_M_isRest_14 : decode prog_13_method_56_code 14 = .ok (.ifCond .eq 50, 3) := by decide +kernel
theorem d_M_isRest_17 : decode prog_13_method_56_code 17 = .ok (.aload_n 0, 1) := by decide +kernel
theorem d_M_isRest_18 : decode prog_13_method_56_code 18 = .ok (.iload_n 1, 1) := by decide +kernel
theorem d_M_isRest_19 : decode prog_13_method_56_code 19 = .ok (.iload_n 2, 1) := by decide +kernel
theorem d_M_isRest_20 : decode prog_13_method_56_code 20 = .ok (.iload 6, 2) := by decide +kernel
theorem d_M_isRest_22 : decode prog_13_method_56_code 22 = .ok (.iload 4, 2) := by decide +kernel
theorem d_M_isRest_24 : decode prog_13_method_56_code 24 = .ok (.invokevirtual 235, 3) := by decide +kernel
theorem d_M_isRest_27 : decode prog_13_method_56_code 27 = .ok (.aload_n 0, 1) := by decide +kernel
theorem d_M_isRest_28 : decode prog_13_method_56_code 28 = .ok (.iload_n 1, 1) := by decide +kernel
theorem d_M_isRest_29 : decode prog_13_method_56_code 29 = .ok (.iload_n 2, 1) := by decide +kernel
theorem d_M_isRest_30 : decode prog_13_method_56_code 30 = .ok (.iload_n 3, 1) := by decide +kernel
theorem d_M_isRest_31 : decode prog_13_method_56_code 31 = .ok (.iload 4, 2) := by decide +kernel
theorem d_M_isRest_33 : decode prog_13_method_56_code 33 = .ok (.invokevirtual 235, 3) := by decide +kernel
theorem d_M_isRest_36 : decode prog_13_method_56_code 36 = .ok (.if_icmp .gt 28, 3) := by decide +kernel
theorem d_M_isRest_39 : decode prog_13_method_56_code 39 = .ok (.aload_n 0, 1) := by decide +kernel
theorem d_M_isRest_40 : decode prog_13_method_56_code 40 = .ok (.iload_n 2, 1) := by decide +kernel
theorem d_M_isRest_41 : decode prog_13_method_56_code 41 = .ok (.iload_n 1, 1) := by decide +kernel
theorem d_M_isRest_42 : decode prog_13_method_56_code 42 = .ok (.iload 6, 2) := by decide +kernel
theorem d_M_isRest_44 : decode prog_13_method_56_code 44 = .ok (.iload_n 3, 1) := by decide +kernel
theorem d_M_isRest_45 : decode prog_13_method_56_code 45 = .ok (.invokevirtual 235, 3) := by decide +kernel
theorem d_M_isRest_48 : decode prog_13_method_56_code 48 = .ok (.aload_n 0, 1) := by decide +kernel
theorem d_M_isRest_49 : decode prog_13_method_56_code 49 = .ok (.iload_n 2, 1) := by decide +kernel
theorem d_M_isRest_50 : decode prog_13_method_56_code 50 = .ok (.iload_n 1, 1) := by decide +kernel
theorem d_M_isRest_51 : decode prog_13_method_56_code 51 = .ok (.iload 4, 2) := by decide +kernel
theorem d_M_isRest_53 : decode prog_13_method_56_code 53 = .ok (.iload_n 3, 1) := by decide +kernel
theorem d_M_isRest_54 : decode prog_13_method_56_code 54 = .ok (.invokevirtual 235, 3) := by decide +kernel
theorem d_M_isRest_57 : decode prog_13_method_56_code 57 = .ok (.if_icmp .gt 7, 3) := by decide +kernel
theorem d_M_isRest_60 : decode prog_13_method_56_code 60 = .ok (.iconst 1, 1) := by decide +kernel
theorem d_M_isRest_61 : decode prog_13_method_56_code 61 = .ok (.goto 4, 3) := by decide +kernel
theorem d_M_isRest_64 : decode prog_13_method_56_code 64 = .ok (.iconst 0, 1) := by decide +kernel
theorem d_M_isRest_65 : decode prog_13_method_56_code 65 = .ok (.istore 5, 2) := by decide +kernel
theorem d_M_isRest_67 : decode prog_13_method_56_code 67 = .ok (.iinc 6 1, 3) := by decide +kernel
theorem d_M_isRest_70 : decode prog_13_method_56_code 70 = .ok (.goto (-64), 3) := by decide +kernel
theorem d_M_isRest_73 : decode prog_13_method_56_code 73 = .ok (.iload 5, 2) := by decide +kernel
theorem d_M_isRest_75 : decode prog_13_method_56_code 75 = .ok (.ireturn, 1) := by decide +kernel
theorem d_M_restsOf_0 : decode prog_13_method_57_code 0 = .ok (.iconst 0, 1) := by decide +kernel
theorem d_M_restsOf_1 : decode prog_13_method_57_code 1 = .ok (.istore 4, 2) := by decide +kernel
theorem d_M_restsOf_3 : decode prog_13_method_57_code 3 = .ok (.iconst 0, 1) := by decide +kernel
theorem d_M_restsOf_4 : decode prog_13_method_57_code 4 = .ok (.istore 5, 2) := by decide +kernel
theorem d_M_restsOf_6 : decode prog_13_method_57_code 6 = .ok (.iload 5, 2) := by decide +kernel
theorem d_M_restsOf_8 : decode prog_13_method_57_code 8 = .ok (.bipush 16, 2) := by decide +kernel
theorem d_M_restsOf_10 : decode prog_13_method_57_code 10 = .ok (.if_icmp .ge 38, 3) := by decide +kernel
theorem d_M_restsOf_13 : decode prog_13_method_57_code 13 = .ok (.aload_n 0, 1) := by decide +kernel
theorem d_M_restsOf_14 : decode prog_13_method_57_code 14 = .ok (.iload_n 1, 1) := by decide +kernel
theorem d_M_restsOf_15 : decode prog_13_method_57_code 15 = .ok (.iload_n 2, 1) := by decide +kernel
theorem d_M_restsOf_16 : decode prog_13_method_57_code 16 = .ok (.iload 5, 2) := by decide +kernel
theorem d_M_restsOf_18 : decode prog_13_method_57_code 18 = .ok (.iconst 4, 1) := by decide +kernel
theorem d_M_restsOf_19 : decode prog_13_method_57_code 19 = .ok (.idiv, 1) := by decide +kernel
theorem d_M_restsOf_20 : decode prog_13_method_57_code 20 = .ok (.iload 5, 2) := by decide +kernel
theorem d_M_restsOf_22 : decode prog_13_method_57_code 22 = .ok (.iconst 4, 1) := by decide +kernel
theorem d_M_restsOf_23 : decode prog_13_method_57_code 23 = .ok (.irem, 1) := by decide +kernel
theorem d_M_restsOf_24 : decode prog_13_method_57_code 24 = .ok (.invokevirtual 238, 3) := by decide +kernel
theorem d_M_restsOf_27 : decode prog_13_method_57_code 27 = .ok (.ifCond .eq 15, 3) := by decide +kernel
theorem d_M_restsOf_30 : decode prog_13_method_57_code 30 = .ok (.iload 4, 2) := by decide +kernel
theorem d_M_restsOf_32 : decode prog_13_method_57_code 32 = .ok (.iload_n 3, 1) := by decide +kernel
theorem d_M_restsOf_33 : decode prog_13_method_57_code 33 = .ok (.if_icmp .ne 6, 3) := by decide +kernel
theorem d_M_restsOf_36 : decode prog_13_method_57_code 36 = .ok (.iload 5, 2) := by decide +kernel
theorem d_M_restsOf_38 : decode prog_13_method_57_code 38 = .ok (.ireturn, 1) := by decide +kernel
theorem d_M_restsOf_39 : decode prog_13_method_57_code 39 = .ok (.iinc 4 1, 3) := by decide +kernel
theorem d_M_restsOf_42 : decode prog_13_method_57_code 42 = .ok (.iinc 5 1, 3) := by decide +kernel
theorem d_M_restsOf_45 : decode prog_13_method_57_code 45 = .ok (.goto (-39), 3) := by decide +kernel
theorem d_M_restsOf_48 : decode prog_13_method_57_code 48 = .ok (.iload_n 3, 1) := by decide +kernel
theorem d_M_restsOf_49 : decode prog_13_method_57_code 49 = .ok (.iconst (-1), 1) := by decide +kernel
theorem d_M_restsOf_50 : decode prog_13_method_57_code 50 = .ok (.if_icmp .ne 8, 3) := by decide +kernel
theorem d_M_restsOf_53 : decode prog_13_method_57_code 53 = .ok (.iload 4, 2) := by decide +kernel
theorem d_M_restsOf_55 : decode prog_13_method_57_code 55 = .ok (.goto 4, 3) := by decide +kernel
theorem d_M_restsOf_58 : decode prog_13_method_57_code 58 = .ok (.iconst (-1), 1) := by decide +kernel
theorem d_M_restsOf_59 : decode prog_13_method_57_code 59 = .ok (.ireturn, 1) := by decide +kernel
theorem d_M_rests_0 : decode prog_13_method_58_code 0 = .ok (.aload_n 0, 1) := by decide +kernel
theorem d_M_rests_1 : decode prog_13_method_58_code 1 = .ok (.invokevirtual 131, 3) := by decide +kernel
theorem d_M_rests_4 : decode prog_13_method_58_code 4 = .ok (.pop, 1) := by decide +kernel
theorem d_M_rests_5 : decode prog_13_method_58_code 5 = .ok (.iload_n 1, 1) := by decide +kernel
theorem d_M_rests_6 : decode prog_13_method_58_code 6 = .ok (.iload_n 2, 1) := by decide +kernel
theorem d_M_rests_7 : decode prog_13_method_58_code 7 = .ok (.invokestatic 223, 3) := by decide +kernel
theorem d_M_rests_10 : decode prog_13_method_58_code 10 = .ok (.ifCond .eq 18, 3) := by decide +kernel
theorem d_M_rests_13 : decode prog_13_method_58_code 13 = .ok (.iload_n 3, 1) := by decide +kernel
theorem d_M_rests_14 : decode prog_13_method_58_code 14 = .ok (.iconst (-1), 1) := by decide +kernel
theorem d_M_rests_15 : decode prog_13_method_58_code 15 = .ok (.if_icmp .lt 13, 3) := by decide +kernel
theorem d_M_rests_18 : decode prog_13_method_58_code 18 = .ok (.aload_n 0, 1) := by decide +kernel
theorem d_M_rests_19 : decode prog_13_method_58_code 19 = .ok (.iload_n 1, 1) := by decide +kernel
theorem d_M_rests_20 : decode prog_13_method_58_code 20 = .ok (.iload_n 2, 1) := by decide +kernel
theorem d_M_rests_21 : decode prog_13_method_58_code 21 = .ok (.iload_n 3, 1) := by decide +kernel
theorem d_M_rests_22 : decode prog_13_method_58_code 22 = .ok (.invokevirtual 242, 3) := by decide +kernel
theorem d_M_rests_25 : decode prog_13_method_58_code 25 = .ok (.goto 5, 3) := by decide +kernel
theorem d_M_rests_28 : decode prog_13_method_58_code 28 = .ok (.bipush (-2), 2) := by decide +kernel
theorem d_M_rests_30 : decode prog_13_method_58_code 30 = .ok (.ireturn, 1) := by decide +kernel
theorem d_M_apart_0 : decode prog_13_method_59_code 0 = .ok (.iconst 0, 1) := by decide +kernel
theorem d_M_apart_1 : decode prog_13_method_59_code 1 = .ok (.istore_n 3, 1) := by decide +kernel
theorem d_M_apart_2 : decode prog_13_method_59_code 2 = .ok (.iconst 0, 1) := by decide +kernel
theorem d_M_apart_3 : decode prog_13_method_59_code 3 = .ok (.istore 4, 2) := by decide +kernel
theorem d_M_apart_5 : decode prog_13_method_59_code 5 = .ok (.iload 4, 2) := by decide +kernel
theorem d_M_apart_7 : decode prog_13_method_59_code 7 = .ok (.aload_n 0, 1) := by decide +kernel
theorem d_M_apart_8 : decode prog_13_method_59_code 8 = .ok (.getfield 113, 3) := by decide +kernel
theorem d_M_apart_11 : decode prog_13_method_59_code 11 = .ok (.if_icmp .ge 43, 3) := by decide +kernel
theorem d_M_apart_14 : decode prog_13_method_59_code 14 = .ok (.iload_n 3, 1) := by decide +kernel
theorem d_M_apart_15 : decode prog_13_method_59_code 15 = .ok (.aload_n 0, 1) := by decide +kernel
theorem d_M_apart_16 : decode prog_13_method_59_code 16 = .ok (.iload 4, 2) := by decide +kernel
theorem d_M_apart_18 : decode prog_13_method_59_code 18 = .ok (.invokevirtual 188, 3) := by decide +kernel
theorem d_M_apart_21 : decode prog_13_method_59_code 21 = .ok (.ifCond .eq 24, 3) := by decide +kernel
theorem d_M_apart_24 : decode prog_13_method_59_code 24 = .ok (.aload_n 0, 1) := by decide +kernel
theorem d_M_apart_25 : decode prog_13_method_59_code 25 = .ok (.iload_n 1, 1) := by decide +kernel
theorem d_M_apart_26 : decode prog_13_method_59_code 26 = .ok (.iload 4, 2) := by decide +kernel
theorem d_M_apart_28 : decode prog_13_method_59_code 28 = .ok (.invokevirtual 176, 3) := by decide +kernel
theorem d_M_apart_31 : decode prog_13_method_59_code 31 = .ok (.aload_n 0, 1) := by decide +kernel
theorem d_M_apart_32 : decode prog_13_method_59_code 32 = .ok (.iload_n 2, 1) := by decide +kernel
theorem d_M_apart_33 : decode prog_13_method_59_code 33 = .ok (.iload 4, 2) := by decide +kernel
theorem d_M_apart_35 : decode prog_13_method_59_code 35 = .ok (.invokevirtual 176, 3) := by decide +kernel
theorem d_M_apart_38 : decode prog_13_method_59_code 38 = .ok (.isub, 1) := by decide +kernel
theorem d_M_apart_39 : decode prog_13_method_59_code 39 = .ok (.invokestatic 208, 3) := by decide +kernel
theorem d_M_apart_42 : decode prog_13_method_59_code 42 = .ok (.goto 4, 3) := by decide +kernel
theorem d_M_apart_45 : decode prog_13_method_59_code 45 = .ok (.iconst 0, 1) := by decide +kernel
theorem d_M_apart_46 : decode prog_13_method_59_code 46 = .ok (.iadd, 1) := by decide +kernel
theorem d_M_apart_47 : decode prog_13_method_59_code 47 = .ok (.istore_n 3, 1) := by decide +kernel
theorem d_M_apart_48 : decode prog_13_method_59_code 48 = .ok (.iinc 4 1, 3) := by decide +kernel
theorem d_M_apart_51 : decode prog_13_method_59_code 51 = .ok (.goto (-46), 3) := by decide +kernel
theorem d_M_apart_54 : decode prog_13_method_59_code 54 = .ok (.iload_n 3, 1) := by decide +kernel
theorem d_M_apart_55 : decode prog_13_method_59_code 55 = .ok (.ireturn, 1) := by decide +kernel
theorem d_M_first_0 : decode prog_13_method_60_code 0 = .ok (.iconst 0, 1) := by decide +kernel
theorem d_M_first_1 : decode prog_13_method_60_code 1 = .ok (.istore_n 1, 1) := by decide +kernel
theorem d_M_first_2 : decode prog_13_method_60_code 2 = .ok (.iload_n 0, 1) := by decide +kernel
theorem d_M_first_3 : decode prog_13_method_60_code 3 = .ok (.iload_n 1, 1) := by decide +kernel
theorem d_M_first_4 : decode prog_13_method_60_code 4 = .ok (.invokestatic 169, 3) := by decide +kernel
theorem d_M_first_7 : decode prog_13_method_60_code 7 = .ok (.ifCond .ne 9, 3) := by decide +kernel
theorem d_M_first_10 : decode prog_13_method_60_code 10 = .ok (.iinc 1 1, 3) := by decide +kernel
theorem d_M_first_13 : decode prog_13_method_60_code 13 = .ok (.goto (-11), 3) := by decide +kernel
theorem d_M_first_16 : decode prog_13_method_60_code 16 = .ok (.iload_n 1, 1) := by decide +kernel
theorem d_M_first_17 : decode prog_13_method_60_code 17 = .ok (.ireturn, 1) := by decide +kernel
theorem d_M_findPairs_0 : decode prog_13_method_61_code 0 = .ok (.iconst 0, 1) := by decide +kernel
theorem d_M_findPairs_1 : decode prog_13_method_61_code 1 = .ok (.istore_n 1, 1) := by decide +kernel
theorem d_M_findPairs_2 : decode prog_13_method_61_code 2 = .ok (.iload_n 1, 1) := by decide +kernel
theorem d_M_findPairs_3 : decode prog_13_method_61_code 3 = .ok (.bipush 64, 2) := by decide +kernel
theorem d_M_findPairs_5 : decode prog_13_method_61_code 5 = .ok (.if_icmp .ge 165, 3) := by decide +kernel
theorem d_M_findPairs_8 : decode prog_13_method_61_code 8 = .ok (.aload_n 0, 1) := by decide +kernel
theorem d_M_findPairs_9 : decode prog_13_method_61_code 9 = .ok (.getfield 58, 3) := by decide +kernel
theorem d_M_findPairs_12 : decode prog_13_method_61_code 12 = .ok (.iload_n 1, 1) := by decide +kernel
theorem d_M_findPairs_13 : decode prog_13_method_61_code 13 = .ok (.iload_n 1, 1) := by decide +kernel
theorem d_M_findPairs_14 : decode prog_13_method_61_code 14 = .ok (.ifCond .ne 7, 3) := by decide +kernel
theorem d_M_findPairs_17 : decode prog_13_method_61_code 17 = .ok (.iconst 0, 1) := by decide +kernel
theorem d_M_findPairs_18 : decode prog_13_method_61_code 18 = .ok (.goto 5, 3) := by decide +kernel
theorem d_M_findPairs_21 : decode prog_13_method_61_code 21 = .ok (.ldc 245, 2) := by decide +kernel
theorem d_M_findPairs_23 : decode prog_13_method_61_code 23 = .ok (.iastore, 1) := by decide +kernel
theorem d_M_findPairs_24 : decode prog_13_method_61_code 24 = .ok (.aload_n 0, 1) := by decide +kernel
theorem d_M_findPairs_25 : decode prog_13_method_61_code 25 = .ok (.getfield 61, 3) := by decide +kernel
theorem d_M_findPairs_28 : decode prog_13_method_61_code 28 = .ok (.iload_n 1, 1) := by decide +kernel
theorem d_M_findPairs_29 : decode prog_13_method_61_code 29 = .ok (.iconst (-1), 1) := by decide +kernel
theorem d_M_findPairs_30 : decode prog_13_method_61_code 30 = .ok (.iastore, 1) := by decide +kernel
theorem d_M_findPairs_31 : decode prog_13_method_61_code 31 = .ok (.iload_n 1, 1) := by decide +kernel
theorem d_M_findPairs_32 : decode prog_13_method_61_code 32 = .ok (.ifCond .le 132, 3) := by decide +kernel
theorem d_M_findPairs_35 : decode prog_13_method_61_code 35 = .ok (.iload_n 1, 1) := by decide +kernel
theorem d_M_findPairs_36 : decode prog_13_method_61_code 36 = .ok (.invokestatic 246, 3) := by decide +kernel
theorem d_M_findPairs_39 : decode prog_13_method_61_code 39 = .ok (.iconst 2, 1) := by decide +kernel
theorem d_M_findPairs_40 : decode prog_13_method_61_code 40 = .ok (.irem, 1) := by decide +kernel
theorem d_M_findPairs_41 : decode prog_13_method_61_code 41 = .ok (.ifCond .ne 123, 3) := by decide +kernel
theorem d_M_findPairs_44 : decode prog_13_method_61_code 44 = .ok (.iload_n 1, 1) := by decide +kernel
theorem d_M_findPairs_45 : decode prog_13_method_61_code 45 = .ok (.invokestatic 249, 3) := by decide +kernel
theorem d_M_findPairs_48 : decode prog_13_method_61_code 48 = .ok (.istore_n 2, 1) := by decide +kernel
theorem d_M_findPairs_49 : decode prog_13_method_61_code 49 = .ok (.iload_n 2, 1) := by decide +kernel
theorem d_M_findPairs_50 : decode prog_13_method_61_code 50 = .ok (.iconst 1, 1) := by decide +kernel
theorem d_M_findPairs_51 : decode prog_13_method_61_code 51 = .ok (.iadd, 1) := by decide +kernel
theorem d_M_findPairs_52 : decode prog_13_method_61_code 52 = .ok (.istore_n 3, 1) := by decide +kernel
theorem d_M_findPairs_53 : decode prog_13_method_61_code 53 = .ok (.iload_n 3, 1) := by decide +kernel
theorem d_M_findPairs_54 : decode prog_13_method_61_code 54 = .ok (.bipush 6, 2) := by decide +kernel
theorem d_M_findPairs_56 : decode prog_13_method_61_code 56 = .ok (.if_icmp .ge 108, 3) := by decide +kernel
theorem d_M_findPairs_59 : decode prog_13_method_61_code 59 = .ok (.iload_n 1, 1) := by decide +kernel
theorem d_M_findPairs_60 : decode prog_13_method_61_code 60 = .ok (.iconst 1, 1) := by decide +kernel
theorem d_M_findPairs_61 : decode prog_13_method_61_code 61 = .ok (.iload_n 2, 1) := by decide +kernel
theorem d_M_findPairs_62 : decode prog_13_method_61_code 62 = .ok (.ishl, 1) := by decide +kernel
theorem d_M_findPairs_63 : decode prog_13_method_61_code 63 = .ok (.iconst (-1), 1) := by decide +kernel
theorem d_M_findPairs_64 : decode prog_13_method_61_code 64 = .ok (.ixor, 1) := by decide +kernel
theorem d_M_findPairs_65 : decode prog_13_method_61_code 65 = .ok (.iand, 1) := by decide +kernel
theorem d_M_findPairs_66 : decode prog_13_method_61_code 66 = .ok (.iconst 1, 1) := by decide +kernel
theorem d_M_findPairs_67 : decode prog_13_method_61_code 67 = .ok (.iload_n 3, 1) := by decide +kernel
theorem d_M_findPairs_68 : decode prog_13_method_61_code 68 = .ok (.ishl, 1) := by decide +kernel
theorem d_M_findPairs_69 : decode prog_13_method_61_code 69 = .ok (.iconst (-1), 1) := by decide +kernel
theorem d_M_findPairs_70 : decode prog_13_method_61_code 70 = .ok (.ixor, 1) := by decide +kernel
theorem d_M_findPairs_71 : decode prog_13_method_61_code 71 = .ok (.iand, 1) := by decide +kernel
theorem d_M_findPairs_72 : decode prog_13_method_61_code 72 = .ok (.istore 4, 2) := by decide +kernel
theorem d_M_findPairs_74 : decode prog_13_method_61_code 74 = .ok (.iload_n 1, 1) := by decide +kernel
theorem d_M_findPairs_75 : decode prog_13_method_61_code 75 = .ok (.iload_n 3, 1) := by decide +kernel
theorem d_M_findPairs_76 : decode prog_13_method_61_code 76 = .ok (.invokestatic 169, 3) := by decide +kernel
theorem d_M_findPairs_79 : decode prog_13_method_61_code 79 = .ok (.ifCond .eq 20, 3) := by decide +kernel
theorem d_M_findPairs_82 : decode prog_13_method_61_code 82 = .ok (.aload_n 0, 1) := by decide +kernel
theorem d_M_findPairs_83 : decode prog_13_method_61_code 83 = .ok (.iload_n 2, 1) := by decide +kernel
theorem d_M_findPairs_84 : decode prog_13_method_61_code 84 = .ok (.iload_n 3, 1) := by decide +kernel
theorem d_M_findPairs_85 : decode prog_13_method_61_code 85 = .ok (.invokevirtual 252, 3) := by decide +kernel
theorem d_M_findPairs_88 : decode prog_13_method_61_code 88 = .ok (.aload_n 0, 1) := by decide +kernel
theorem d_M_findPairs_89 : decode prog_13_method_61_code 89 = .ok (.getfield 58, 3) := by decide +kernel
theorem d_M_findPairs_92 : decode prog_13_method_61_code 92 = .ok (.iload 4, 2) := by decide +kernel
theorem d_M_findPairs_94 : decode prog_13_method_61_code 94 = .ok (.iaload, 1) := by decide +kernel
theorem d_M_findPairs_95 : decode prog_13_method_61_code 95 = .ok (.iadd, 1) := by decide +kernel
theorem d_M_findPairs_96 : decode prog_13_method_61_code 96 = .ok (.goto 5, 3) := by decide +kernel
theorem d_M_findPairs_99 : decode prog_13_method_61_code 99 = .ok (.ldc 245, 2) := by decide +kernel
theorem d_M_findPairs_101 : decode prog_13_method_61_code 101 = .ok (.istore 5, 2) := by decide +kernel
theorem d_M_findPairs_103 : decode prog_13_method_61_code 103 = .ok (.aload_n 0, 1) := by decide +kernel
theorem d_M_findPairs_104 : decode prog_13_method_61_code 104 = .ok (.getfield 61, 3) := by decide +kernel
theorem d_M_findPairs_107 : decode prog_13_method_61_code 107 = .ok (.iload_n 1, 1) := by decide +kernel
theorem d_M_findPairs_108 : decode prog_13_method_61_code 108 = .ok (.iload 5, 2) := by decide +kernel
theorem d_M_findPairs_110 : decode prog_13_method_61_code 110 = .ok (.aload_n 0, 1) := by decide +kernel
theorem d_M_findPairs_111 : decode prog_13_method_61_code 111 = .ok (.getfield 58, 3) := by decide +kernel
theorem d_M_findPairs_114 : decode prog_13_method_61_code 114 = .ok (.iload_n 1, 1) := by decide +kernel
theorem d_M_findPairs_115 : decode prog_13_method_61_code 115 = .ok (.iaload, 1) := by decide +kernel
theorem d_M_findPairs_116 : decode prog_13_method_61_code 116 = .ok (.if_icmp .ge 7, 3) := by decide +kernel
theorem d_M_findPairs_119 : decode prog_13_method_61_code 119 = .ok (.iload_n 3, 1) := by decide +kernel
theorem d_M_findPairs_120 : decode prog_13_method_61_code 120 = .ok (.goto 9, 3) := by decide +kernel
theorem d_M_findPairs_123 : decode prog_13_method_61_code 123 = .ok (.aload_n 0, 1) := by decide +kernel
theorem d_M_findPairs_124 : decode prog_13_method_61_code 124 = .ok (.getfield 61, 3) := by decide +kernel
theorem d_M_findPairs_127 : decode prog_13_method_61_code 127 = .ok (.iload_n 1, 1) := by decide +kernel
theorem d_M_findPairs_128 : decode prog_13_method_61_code 128 = .ok (.iaload, 1) := by decide +kernel
theorem d_M_findPairs_129 : decode prog_13_method_61_code 129 = .ok (.iastore, 1) := by decide +kernel
theorem d_M_findPairs_130 : decode prog_13_method_61_code 130 = .ok (.aload_n 0, 1) := by decide +kernel
theorem d_M_findPairs_131 : decode prog_13_method_61_code 131 = .ok (.getfield 58, 3) := by decide +kernel
theorem d_M_findPairs_134 : decode prog_13_method_61_code 134 = .ok (.iload_n 1, 1) := by decide +kernel
theorem d_M_findPairs_135 : decode prog_13_method_61_code 135 = .ok (.iload 5, 2) := by decide +kernel
theorem d_M_findPairs_137 : decode prog_13_method_61_code 137 = .ok (.aload_n 0, 1) := by decide +kernel
theorem d_M_findPairs_138 : decode prog_13_method_61_code 138 = .ok (.getfield 58, 3) := by decide +kernel
theorem d_M_findPairs_141 : decode prog_13_method_61_code 141 = .ok (.iload_n 1, 1) := by decide +kernel
theorem d_M_findPairs_142 : decode prog_13_method_61_code 142 = .ok (.iaload, 1) := by decide +kernel
theorem d_M_findPairs_143 : decode prog_13_method_61_code 143 = .ok (.if_icmp .ge 8, 3) := by decide +kernel
theorem d_M_findPairs_146 : decode prog_13_method_61_code 146 = .ok (.iload 5, 2) := by decide +kernel
theorem d_M_findPairs_148 : decode prog_13_method_61_code 148 = .ok (.goto 9, 3) := by decide +kernel
theorem d_M_findPairs_151 : decode prog_13_method_61_code 151 = .ok (.aload_n 0, 1) := by decide +kernel
theorem d_M_findPairs_152 : decode prog_13_method_61_code 152 = .ok (.getfield 58, 3) := by decide +kernel
theorem d_M_findPairs_155 : decode prog_13_method_61_code 155 = .ok (.iload_n 1, 1) := by decide +kernel
theorem d_M_findPairs_156 : decode prog_13_method_61_code 156 = .ok (.iaload, 1) := by decide +kernel
theorem d_M_findPairs_157 : decode prog_13_method_61_code 157 = .ok (.iastore, 1) := by decide +kernel
theorem d_M_findPairs_158 : decode prog_13_method_61_code 158 = .ok (.iinc 3 1, 3) := by decide +kernel
theorem d_M_findPairs_161 : decode prog_13_method_61_code 161 = .ok (.goto (-108), 3) := by decide +kernel
theorem d_M_findPairs_164 : decode prog_13_method_61_code 164 = .ok (.iinc 1 1, 3) := by decide +kernel
theorem d_M_findPairs_167 : decode prog_13_method_61_code 167 = .ok (.goto (-165), 3) := by decide +kernel
theorem d_M_findPairs_170 : decode prog_13_method_61_code 170 = .ok (.return_, 1) := by decide +kernel
theorem d_M_pairsOf_0 : decode prog_13_method_62_code 0 = .ok (.aload_n 0, 1) := by decide +kernel
theorem d_M_pairsOf_1 : decode prog_13_method_62_code 1 = .ok (.invokevirtual 255, 3) := by decide +kernel
theorem d_M_pairsOf_4 : decode prog_13_method_62_code 4 = .ok (.iload_n 2, 1) := by decide +kernel
theorem d_M_pairsOf_5 : decode prog_13_method_62_code 5 = .ok (.iconst (-1), 1) := by decide +kernel
theorem d_M_pairsOf_6 : decode prog_13_method_62_code 6 = .ok (.if_icmp .ne 10, 3) := by decide +kernel
theorem d_M_pairsOf_9 : decode prog_13_method_62_code 9 = .ok (.aload_n 0, 1) := by decide +kernel
theorem d_M_pairsOf_10 : decode prog_13_method_62_code 10 = .ok (.getfield 58, 3) := by decide +kernel
theorem d_M_pairsOf_13 : decode prog_13_method_62_code 13 = .ok (.iload_n 1, 1) := by decide +kernel
theorem d_M_pairsOf_14 : decode prog_13_method_62_code 14 = .ok (.iaload, 1) := by decide +kernel
theorem d_M_pairsOf_15 : decode prog_13_method_62_code 15 = .ok (.ireturn, 1) := by decide +kernel
theorem d_M_pairsOf_16 : decode prog_13_method_62_code 16 = .ok (.iload_n 1, 1) := by decide +kernel
theorem d_M_pairsOf_17 : decode prog_13_method_62_code 17 = .ok (.istore_n 3, 1) := by decide +kernel
theorem d_M_pairsOf_18 : decode prog_13_method_62_code 18 = .ok (.iload_n 3, 1) := by decide +kernel
theorem d_M_pairsOf_19 : decode prog_13_method_62_code 19 = .ok (.invokestatic 249, 3) := by decide +kernel
theorem d_M_pairsOf_22 : decode prog_13_method_62_code 22 = .ok (.istore 4, 2) := by decide +kernel
theorem d_M_pairsOf_24 : decode prog_13_method_62_code 24 = .ok (.aload_n 0, 1) := by decide +kernel
theorem d_M_pairsOf_25 : decode prog_13_method_62_code 25 = .ok (.getfield 61, 3) := by decide +kernel
theorem d_M_pairsOf_28 : decode prog_13_method_62_code 28 = .ok (.iload_n 3, 1) := by decide +kernel
theorem d_M_pairsOf_29 : decode prog_13_method_62_code 29 = .ok (.iaload, 1) := by decide +kernel
theorem d_M_pairsOf_30 : decode prog_13_method_62_code 30 = .ok (.istore 5, 2) := by decide +kernel
theorem d_M_pairsOf_32 : decode prog_13_method_62_code 32 = .ok (.iload 4, 2) := by decide +kernel
theorem d_M_pairsOf_34 : decode prog_13_method_62_code 34 = .ok (.iload_n 2, 1) := by decide +kernel
theorem d_M_pairsOf_35 : decode prog_13_method_62_code 35 = .ok (.if_icmp .eq 9, 3) := by decide +kernel
theorem d_M_pairsOf_38 : decode prog_13_method_62_code 38 = .ok (.iload 5, 2) := by decide +kernel
theorem d_M_pairsOf_40 : decode prog_13_method_62_code 40 = .ok (.iload_n 2, 1) := by decide +kernel
theorem d_M_pairsOf_41 : decode prog_13_method_62_code 41 = .ok (.if_icmp .ne 17, 3) := by decide +kernel
theorem d_M_pairsOf_44 : decode prog_13_method_62_code 44 = .ok (.iload 4, 2) := by decide +kernel
theorem d_M_pairsOf_46 : decode prog_13_method_62_code 46 = .ok (.iload_n 2, 1) := by decide +kernel
theorem d_M_pairsOf_47 : decode prog_13_method_62_code 47 = .ok (.if_icmp .ne 8, 3) := by decide +kernel
theorem d_M_pairsOf_50 : decode prog_13_method_62_code 50 = .ok (.iload 5, 2) := by decide +kernel
theorem d_M_pairsOf_52 : decode prog_13_method_62_code 52 = .ok (.goto 5, 3) := by decide +kernel
theorem d_M_pairsOf_55 : decode prog_13_method_62_code 55 = .ok (.iload 4, 2) := by decide +kernel
theorem d_M_pairsOf_57 : decode prog_13_method_62_code 57 = .ok (.ireturn, 1) := by decide +kernel
theorem d_M_pairsOf_58 : decode prog_13_method_62_code 58 = .ok (.iload_n 3, 1) := by decide +kernel
theorem d_M_pairsOf_59 : decode prog_13_method_62_code 59 = .ok (.iconst 1, 1) := by decide +kernel
theorem d_M_pairsOf_60 : decode prog_13_method_62_code 60 = .ok (.iload 4, 2) := by decide +kernel
theorem d_M_pairsOf_62 : decode prog_13_method_62_code 62 = .ok (.ishl, 1) := by decide +kernel
theorem d_M_pairsOf_63 : decode prog_13_method_62_code 63 = .ok (.iconst (-1), 1) := by decide +kernel
theorem d_M_pairsOf_64 : decode prog_13_method_62_code 64 = .ok (.ixor, 1) := by decide +kernel
theorem d_M_pairsOf_65 : decode prog_13_method_62_code 65 = .ok (.iand, 1) := by decide +kernel
theorem d_M_pairsOf_66 : decode prog_13_method_62_code 66 = .ok (.iconst 1, 1) := by decide +kernel
theorem d_M_pairsOf_67 : decode prog_13_method_62_code 67 = .ok (.iload 5, 2) := by decide +kernel
theorem d_M_pairsOf_69 : decode prog_13_method_62_code 69 = .ok (.ishl, 1) := by decide +kernel
theorem d_M_pairsOf_70 : decode prog_13_method_62_code 70 = .ok (.iconst (-1), 1) := by decide +kernel
theorem d_M_pairsOf_71 : decode prog_13_method_62_code 71 = .ok (.ixor, 1) := by decide +kernel
theorem d_M_pairsOf_72 : decode prog_13_method_62_code 72 = .ok (.iand, 1) := by decide +kernel
theorem d_M_pairsOf_73 : decode prog_13_method_62_code 73 = .ok (.istore_n 3, 1) := by decide +kernel
theorem d_M_pairsOf_74 : decode prog_13_method_62_code 74 = .ok (.goto (-56), 3) := by decide +kernel
theorem d_M_pairs_0 : decode prog_13_method_63_code 0 = .ok (.aload_n 0, 1) := by decide +kernel
theorem d_M_pairs_1 : decode prog_13_method_63_code 1 = .ok (.invokevirtual 131, 3) := by decide +kernel
theorem d_M_pairs_4 : decode prog_13_method_63_code 4 = .ok (.pop, 1) := by decide +kernel
theorem d_M_pairs_5 : decode prog_13_method_63_code 5 = .ok (.iload_n 1, 1) := by decide +kernel
theorem d_M_pairs_6 : decode prog_13_method_63_code 6 = .ok (.invokestatic 198, 3) := by decide +kernel
theorem d_M_pairs_9 : decode prog_13_method_63_code 9 = .ok (.ifCond .eq 23, 3) := by decide +kernel
theorem d_M_pairs_12 : decode prog_13_method_63_code 12 = .ok (.iload_n 2, 1) := by decide +kernel
theorem d_M_pairs_13 : decode prog_13_method_63_code 13 = .ok (.iconst (-1), 1) := by decide +kernel
theorem d_M_pairs_14 : decode prog_13_method_63_code 14 = .ok (.if_icmp .eq 21, 3) := by decide +kernel
theorem d_M_pairs_17 : decode prog_13_method_63_code 17 = .ok (.iload_n 2, 1) := by decide +kernel
theorem d_M_pairs_18 : decode prog_13_method_63_code 18 = .ok (.invokestatic 149, 3) := by decide +kernel
theorem d_M_pairs_21 : decode prog_13_method_63_code 21 = .ok (.ifCond .eq 11, 3) := by decide +kernel
theorem d_M_pairs_24 : decode prog_13_method_63_code 24 = .ok (.iload_n 1, 1) := by decide +kernel
theorem d_M_pairs_25 : decode prog_13_method_63_code 25 = .ok (.iload_n 2, 1) := by decide +kernel
theorem d_M_pairs_26 : decode prog_13_method_63_code 26 = .ok (.invokestatic 169, 3) := by decide +kernel
theorem d_M_pairs_29 : decode prog_13_method_63_code 29 = .ok (.ifCond .ne 6, 3) := by decide +kernel
theorem d_M_pairs_32 : decode prog_13_method_63_code 32 = .ok (.bipush (-2), 2) := by decide +kernel
theorem d_M_pairs_34 : decode prog_13_method_63_code 34 = .ok (.ireturn, 1) := by decide +kernel
theorem d_M_pairs_35 : decode prog_13_method_63_code 35 = .ok (.iload_n 1, 1) := by decide +kernel
theorem d_M_pairs_36 : decode prog_13_method_63_code 36 = .ok (.invokestatic 246, 3) := by decide +kernel
theorem d_M_pairs_39 : decode prog_13_method_63_code 39 = .ok (.iconst 2, 1) := by decide +kernel
theorem d_M_pairs_40 : decode prog_13_method_63_code 40 = .ok (.irem, 1) := by decide +kernel
theorem d_M_pairs_41 : decode prog_13_method_63_code 41 = .ok (.iconst 1, 1) := by decide +kernel
theorem d_M_pairs_42 : decode prog_13_method_63_code 42 = .ok (.if_icmp .ne 8, 3) := by decide +kernel
theorem d_M_pairs_45 : decode prog_13_method_63_code 45 = .ok (.bipush (-3), 2) := by decide +kernel
theorem d_M_pairs_47 : decode prog_13_method_63_code 47 = .ok (.goto 9, 3) := by decide +kernel
theorem d_M_pairs_50 : decode prog_13_method_63_code 50 = .ok (.aload_n 0, 1) := by decide +kernel
theorem d_M_pairs_51 : decode prog_13_method_63_code 51 = .ok (.iload_n 1, 1) := by decide +kernel
theorem d_M_pairs_52 : decode prog_13_method_63_code 52 = .ok (.iload_n 2, 1) := by decide +kernel
theorem d_M_pairs_53 : decode prog_13_method_63_code 53 = .ok (.invokevirtual 258, 3) := by decide +kernel
theorem d_M_pairs_56 : decode prog_13_method_63_code 56 = .ok (.ireturn, 1) := by decide +kernel
theorem d_M_turn_0 : decode prog_13_method_64_code 0 = .ok (.iload_n 1, 1) := by decide +kernel
theorem d_M_turn_1 : decode prog_13_method_64_code 1 = .ok (.invokestatic 157, 3) := by decide +kernel
theorem d_M_turn_4 : decode prog_13_method_64_code 4 = .ok (.ifCond .eq 22, 3) := by decide +kernel
theorem d_M_turn_7 : decode prog_13_method_64_code 7 = .ok (.iload_n 2, 1) := by decide +kernel
theorem d_M_turn_8 : decode prog_13_method_64_code 8 = .ok (.invokestatic 198, 3) := by decide +kernel
theorem d_M_turn_11 : decode prog_13_method_64_code 11 = .ok (.ifCond .eq 15, 3) := by decide +kernel
theorem d_M_turn_14 : decode prog_13_method_64_code 14 = .ok (.iload_n 3, 1) := by decide +kernel
theorem d_M_turn_15 : decode prog_13_method_64_code 15 = .ok (.i2l, 1) := by decide +kernel
theorem d_M_turn_16 : decode prog_13_method_64_code 16 = .ok (.lconst 0, 1) := by decide +kernel
theorem d_M_turn_17 : decode prog_13_method_64_code 17 = .ok (.ldc2_w 167, 3) := by decide +kernel
theorem d_M_turn_20 : decode prog_13_method_64_code 20 = .ok (.invokestatic 76, 3) := by decide +kernel
theorem d_M_turn_23 : decode prog_13_method_64_code 23 = .ok (.ifCond .ne 6, 3) := by decide +kernel
theorem d_M_turn_26 : decode prog_13_method_64_code 26 = .ok (.bipush (-2), 2) := by decide +kernel
theorem d_M_turn_28 : decode prog_13_method_64_code 28 = .ok (.ireturn, 1) := by decide +kernel
theorem d_M_turn_29 : decode prog_13_method_64_code 29 = .ok (.aload_n 0, 1) := by decide +kernel
theorem d_M_turn_30 : decode prog_13_method_64_code 30 = .ok (.getfield 261, 3) := by decide +kernel
theorem d_M_turn_33 : decode prog_13_method_64_code 33 = .ok (.bipush 8, 2) := by decide +kernel
theorem d_M_turn_35 : decode prog_13_method_64_code 35 = .ok (.if_icmp .ne 6, 3) := by decide +kernel
theorem d_M_turn_38 : decode prog_13_method_64_code 38 = .ok (.bipush (-4), 2) := by decide +kernel
theorem d_M_turn_40 : decode prog_13_method_64_code 40 = .ok (.ireturn, 1) := by decide +kernel
theorem d_M_turn_41 : decode prog_13_method_64_code 41 = .ok (.aload_n 0, 1) := by decide +kernel
theorem d_M_turn_42 : decode prog_13_method_64_code 42 = .ok (.getfield 64, 3) := by decide +kernel
theorem d_M_turn_45 : decode prog_13_method_64_code 45 = .ok (.iconst 3, 1) := by decide +kernel
theorem d_M_turn_46 : decode prog_13_method_64_code 46 = .ok (.aload_n 0, 1) := by decide +kernel
theorem d_M_turn_47 : decode prog_13_method_64_code 47 = .ok (.getfield 261, 3) := by decide +kernel
theorem d_M_turn_50 : decode prog_13_method_64_code 50 = .ok (.imul, 1) := by decide +kernel
theorem d_M_turn_51 : decode prog_13_method_64_code 51 = .ok (.iload_n 1, 1) := by decide +kernel
theorem d_M_turn_52 : decode prog_13_method_64_code 52 = .ok (.iastore, 1) := by decide +kernel
theorem d_M_turn_53 : decode prog_13_method_64_code 53 = .ok (.aload_n 0, 1) := by decide +kernel
theorem d_M_turn_54 : decode prog_13_method_64_code 54 = .ok (.getfield 64, 3) := by decide +kernel
theorem d_M_turn_57 : decode prog_13_method_64_code 57 = .ok (.iconst 3, 1) := by decide +kernel
theorem d_M_turn_58 : decode prog_13_method_64_code 58 = .ok (.aload_n 0, 1) := by decide +kernel
theorem d_M_turn_59 : decode prog_13_method_64_code 59 = .ok (.getfield 261, 3) := by decide +kernel
theorem d_M_turn_62 : decode prog_13_method_64_code 62 = .ok (.imul, 1) := by decide +kernel
theorem d_M_turn_63 : decode prog_13_method_64_code 63 = .ok (.iconst 1, 1) := by decide +kernel
theorem d_M_turn_64 : decode prog_13_method_64_code 64 = .ok (.iadd, 1) := by decide +kernel
theorem d_M_turn_65 : decode prog_13_method_64_code 65 = .ok (.iload_n 2, 1) := by decide +kernel
theorem d_M_turn_66 : decode prog_13_method_64_code 66 = .ok (.iastore, 1) := by decide +kernel
theorem d_M_turn_67 : decode prog_13_method_64_code 67 = .ok (.aload_n 0, 1) := by decide +kernel
theorem d_M_turn_68 : decode prog_13_method_64_code 68 = .ok (.getfield 64, 3) := by decide +kernel
theorem d_M_turn_71 : decode prog_13_method_64_code 71 = .ok (.iconst 3, 1) := by decide +kernel
theorem d_M_turn_72 : decode prog_13_method_64_code 72 = .ok (.aload_n 0, 1) := by decide +kernel
theorem d_M_turn_73 : decode prog_13_method_64_code 73 = .ok (.getfield 261, 3) := by decide +kernel
theorem d_M_turn_76 : decode prog_13_method_64_code 76 = .ok (.imul, 1) := by decide +kernel
theorem d_M_turn_77 : decode prog_13_method_64_code 77 = .ok (.iconst 2, 1) := by decide +kernel
theorem d_M_turn_78 : decode prog_13_method_64_code 78 = .ok (.iadd, 1) := by decide +kernel
theorem d_M_turn_79 : decode prog_13_method_64_code 79 = .ok (.iload_n 3, 1) := by decide +kernel
theorem d_M_turn_80 : decode prog_13_method_64_code 80 = .ok (.iastore, 1) := by decide +kernel
theorem d_M_turn_81 : decode prog_13_method_64_code 81 = .ok (.aload_n 0, 1) := by decide +kernel
theorem d_M_turn_82 : decode prog_13_method_64_code 82 = .ok (.dup, 1) := by decide +kernel
theorem d_M_turn_83 : decode prog_13_method_64_code 83 = .ok (.getfield 261, 3) := by decide +kernel
theorem d_M_turn_86 : decode prog_13_method_64_code 86 = .ok (.iconst 1, 1) := by decide +kernel
theorem d_M_turn_87 : decode prog_13_method_64_code 87 = .ok (.iadd, 1) := by decide +kernel
theorem d_M_turn_88 : decode prog_13_method_64_code 88 = .ok (.putfield 261, 3) := by decide +kernel
theorem d_M_turn_91 : decode prog_13_method_64_code 91 = .ok (.aload_n 0, 1) := by decide +kernel
theorem d_M_turn_92 : decode prog_13_method_64_code 92 = .ok (.getfield 261, 3) := by decide +kernel
theorem d_M_turn_95 : decode prog_13_method_64_code 95 = .ok (.ireturn, 1) := by decide +kernel
theorem d_M_forget_0 : decode prog_13_method_65_code 0 = .ok (.aload_n 0, 1) := by decide +kernel
theorem d_M_forget_1 : decode prog_13_method_65_code 1 = .ok (.getfield 261, 3) := by decide +kernel
theorem d_M_forget_4 : decode prog_13_method_65_code 4 = .ok (.istore_n 1, 1) := by decide +kernel
theorem d_M_forget_5 : decode prog_13_method_65_code 5 = .ok (.aload_n 0, 1) := by decide +kernel
theorem d_M_forget_6 : decode prog_13_method_65_code 6 = .ok (.iconst 0, 1) := by decide +kernel
theorem d_M_forget_7 : decode prog_13_method_65_code 7 = .ok (.putfield 261, 3) := by decide +kernel
theorem d_M_forget_10 : decode prog_13_method_65_code 10 = .ok (.iload_n 1, 1) := by decide +kernel
theorem d_M_forget_11 : decode prog_13_method_65_code 11 = .ok (.ireturn, 1) := by decide +kernel
theorem d_M_pacesOf_0 : decode prog_13_method_66_code 0 = .ok (.iconst 0, 1) := by decide +kernel
theorem d_M_pacesOf_1 : decode prog_13_method_66_code 1 = .ok (.istore_n 3, 1) := by decide +kernel
theorem d_M_pacesOf_2 : decode prog_13_method_66_code 2 = .ok (.iconst 1, 1) := by decide +kernel
theorem d_M_pacesOf_3 : decode prog_13_method_66_code 3 = .ok (.istore 4, 2) := by decide +kernel
theorem d_M_pacesOf_5 : decode prog_13_method_66_code 5 = .ok (.iload 4, 2) := by decide +kernel
theorem d_M_pacesOf_7 : decode prog_13_method_66_code 7 = .ok (.bipush 10, 2) := by decide +kernel
theorem d_M_pacesOf_9 : decode prog_13_method_66_code 9 = .ok (.if_icmp .ge 168, 3) := by decide +kernel
theorem d_M_pacesOf_12 : decode prog_13_method_66_code 12 = .ok (.iconst 1, 1) := by decide +kernel
theorem d_M_pacesOf_13 : decode prog_13_method_66_code 13 = .ok (.istore 5, 2) := by decide +kernel
theorem d_M_pacesOf_15 : decode prog_13_method_66_code 15 = .ok (.iconst 0, 1) := by decide +kernel
theorem d_M_pacesOf_16 : decode prog_13_method_66_code 16 = .ok (.istore 6, 2) := by decide +kernel
theorem d_M_pacesOf_18 : decode prog_13_method_66_code 18 = .ok (.iload 6, 2) := by decide +kernel
theorem d_M_pacesOf_20 : decode prog_13_method_66_code 20 = .ok (.aload_n 0, 1) := by decide +kernel
theorem d_M_pacesOf_21 : decode prog_13_method_66_code 21 = .ok (.getfield 261, 3) := by decide +kernel
theorem d_M_pacesOf_24 : decode prog_13_method_66_code 24 = .ok (.if_icmp .ge 129, 3) := by decide +kernel
theorem d_M_pacesOf_27 : decode prog_13_method_66_code 27 = .ok (.aload_n 0, 1) := by decide +kernel
theorem d_M_pacesOf_28 : decode prog_13_method_66_code 28 = .ok (.getfield 64, 3) := by decide +kernel
theorem d_M_pacesOf_31 : decode prog_13_method_66_code 31 = .ok (.iconst 3, 1) := by decide +kernel
theorem d_M_pacesOf_32 : decode prog_13_method_66_code 32 = .ok (.iload 6, 2) := by decide +kernel
theorem d_M_pacesOf_34 : decode prog_13_method_66_code 34 = .ok (.imul, 1) := by decide +kernel
theorem d_M_pacesOf_35 : decode prog_13_method_66_code 35 = .ok (.iaload, 1) := by decide +kernel
theorem d_M_pacesOf_36 : decode prog_13_method_66_code 36 = .ok (.istore 7, 2) := by decide +kernel
theorem d_M_pacesOf_38 : decode prog_13_method_66_code 38 = .ok (.aload_n 0, 1) := by decide +kernel
theorem d_M_pacesOf_39 : decode prog_13_method_66_code 39 = .ok (.getfield 64, 3) := by decide +kernel
theorem d_M_pacesOf_42 : decode prog_13_method_66_code 42 = .ok (.iconst 3, 1) := by decide +kernel
theorem d_M_pacesOf_43 : decode prog_13_method_66_code 43 = .ok (.iload 6, 2) := by decide +kernel
theorem d_M_pacesOf_45 : decode prog_13_method_66_code 45 = .ok (.imul, 1) := by decide +kernel
theorem d_M_pacesOf_46 : decode prog_13_method_66_code 46 = .ok (.iconst 1, 1) := by decide +kernel
theorem d_M_pacesOf_47 : decode prog_13_method_66_code 47 = .ok (.iadd, 1) := by decide +kernel
theorem d_M_pacesOf_48 : decode prog_13_method_66_code 48 = .ok (.iaload, 1) := by decide +kernel
theorem d_M_pacesOf_49 : decode prog_13_method_66_code 49 = .ok (.istore 8, 2) := by decide +kernel
theorem d_M_pacesOf_51 : decode prog_13_method_66_code 51 = .ok (.iload 7, 2) := by decide +kernel
theorem d_M_pacesOf_53 : decode prog_13_method_66_code 53 = .ok (.aload_n 0, 1) := by decide +kernel
theorem d_M_pacesOf_54 : decode prog_13_method_66_code 54 = .ok (.getfield 113, 3) := by decide +kernel
theorem d_M_pacesOf_57 : decode prog_13_method_66_code 57 = .ok (.if_icmp .ge 90, 3) := by decide +kernel
theorem d_M_pacesOf_60 : decode prog_13_method_66_code 60 = .ok (.aload_n 0, 1) := by decide +kernel
theorem d_M_pacesOf_61 : decode prog_13_method_66_code 61 = .ok (.getfield 25, 3) := by decide +kernel
theorem d_M_pacesOf_64 : decode prog_13_method_66_code 64 = .ok (.iload 7, 2) := by decide +kernel
theorem d_M_pacesOf_66 : decode prog_13_method_66_code 66 = .ok (.iaload, 1) := by decide +kernel
theorem d_M_pacesOf_67 : decode prog_13_method_66_code 67 = .ok (.iload_n 2, 1) := by decide +kernel
theorem d_M_pacesOf_68 : decode prog_13_method_66_code 68 = .ok (.if_icmp .ne 79, 3) := by decide +kernel
theorem d_M_pacesOf_71 : decode prog_13_method_66_code 71 = .ok (.iload 8, 2) := by decide +kernel
theorem d_M_pacesOf_73 : decode prog_13_method_66_code 73 = .ok (.iload_n 1, 1) := by decide +kernel
theorem d_M_pacesOf_74 : decode prog_13_method_66_code 74 = .ok (.invokestatic 169, 3) := by decide +kernel
theorem d_M_pacesOf_77 : decode prog_13_method_66_code 77 = .ok (.ifCond .eq 70, 3) := by decide +kernel
theorem d_M_pacesOf_80 : decode prog_13_method_66_code 80 = .ok (.aload_n 0, 1) := by decide +kernel
theorem d_M_pacesOf_81 : decode prog_13_method_66_code 81 = .ok (.iload_n 1, 1) := by decide +kernel
theorem d_M_pacesOf_82 : decode prog_13_method_66_code 82 = .ok (.iload 7, 2) := by decide +kernel
theorem d_M_pacesOf_84 : decode prog_13_method_66_code 84 = .ok (.iload 4, 2) := by decide +kernel
theorem d_M_pacesOf_86 : decode prog_13_method_66_code 86 = .ok (.invokevirtual 173, 3) := by decide +kernel
theorem d_M_pacesOf_89 : decode prog_13_method_66_code 89 = .ok (.istore 9, 2) := by decide +kernel
theorem d_M_pacesOf_91 : decode prog_13_method_66_code 91 = .ok (.aload_n 0, 1) := by decide +kernel
theorem d_M_pacesOf_92 : decode prog_13_method_66_code 92 = .ok (.iload 8, 2) := by decide +kernel
theorem d_M_pacesOf_94 : decode prog_13_method_66_code 94 = .ok (.iconst 1, 1) := by decide +kernel
theorem d_M_pacesOf_95 : decode prog_13_method_66_code 95 = .ok (.iload_n 1, 1) := by decide +kernel
theorem d_M_pacesOf_96 : decode prog_13_method_66_code 96 = .ok (.ishl, 1) := by decide +kernel
theorem d_M_pacesOf_97 : decode prog_13_method_66_code 97 = .ok (.iconst (-1), 1) := by decide +kernel
theorem d_M_pacesOf_98 : decode prog_13_method_66_code 98 = .ok (.ixor, 1) := by decide +kernel
theorem d_M_pacesOf_99 : decode prog_13_method_66_code 99 = .ok (.iand, 1) := by decide +kernel
theorem d_M_pacesOf_100 : decode prog_13_method_66_code 100 = .ok (.iload 7, 2) := by decide +kernel
theorem d_M_pacesOf_102 : decode prog_13_method_66_code 102 = .ok (.invokevirtual 191, 3) := by decide +kernel
theorem d_M_pacesOf_105 : decode prog_13_method_66_code 105 = .ok (.istore 10, 2) := by decide +kernel
theorem d_M_pacesOf_107 : decode prog_13_method_66_code 107 = .ok (.iload 5, 2) := by decide +kernel
theorem d_M_pacesOf_109 : decode prog_13_method_66_code 109 = .ok (.ifCond .eq 35, 3) := by decide +kernel
theorem d_M_pacesOf_112 : decode prog_13_method_66_code 112 = .ok (.iload 9, 2) := by decide +kernel
theorem d_M_pacesOf_114 : decode prog_13_method_66_code 114 = .ok (.iload 10, 2) := by decide +kernel
theorem d_M_pacesOf_116 : decode prog_13_method_66_code 116 = .ok (.if_icmp .le 8, 3) := by decide +kernel
theorem d_M_pacesOf_119 : decode prog_13_method_66_code 119 = .ok (.iload 9, 2) := by decide +kernel
theorem d_M_pacesOf_121 : decode prog_13_method_66_code 121 = .ok (.goto 5, 3) := by decide +kernel
theorem d_M_pacesOf_124 : decode prog_13_method_66_code 124 = .ok (.iload 10, 2) := by decide +kernel
theorem d_M_pacesOf_126 : decode prog_13_method_66_code 126 = .ok (.aload_n 0, 1) := by decide +kernel
theorem d_M_pacesOf_127 : decode prog_13_method_66_code 127 = .ok (.getfield 64, 3) := by decide +kernel
theorem d_M_pacesOf_130 : decode prog_13_method_66_code 130 = .ok (.iconst 3, 1) := by decide +kernel
theorem d_M_pacesOf_131 : decode prog_13_method_66_code 131 = .ok (.iload 6, 2) := by decide +kernel
theorem d_M_pacesOf_133 : decode prog_13_method_66_code 133 = .ok (.imul, 1) := by decide +kernel
theorem d_M_pacesOf_134 : decode prog_13_method_66_code 134 = .ok (.iconst 2, 1) := by decide +kernel
theorem d_M_pacesOf_135 : decode prog_13_method_66_code 135 = .ok (.iadd, 1) := by decide +kernel
theorem d_M_pacesOf_136 : decode prog_13_method_66_code 136 = .ok (.iaload, 1) := by decide +kernel
theorem d_M_pacesOf_137 : decode prog_13_method_66_code 137 = .ok (.if_icmp .ne 7, 3) := by decide +kernel
theorem d_M_pacesOf_140 : decode prog_13_method_66_code 140 = .ok (.iconst 1, 1) := by decide +kernel
theorem d_M_pacesOf_141 : decode prog_13_method_66_code 141 = .ok (.goto 4, 3) := by decide +kernel
theorem d_M_pacesOf_144 : decode prog_13_method_66_code 144 = .ok (.iconst 0, 1) := by decide +kernel
theorem d_M_pacesOf_145 : decode prog_13_method_66_code 145 = .ok (.istore 5, 2) := by decide +kernel
theorem d_M_pacesOf_147 : decode prog_13_method_66_code 147 = .ok (.iinc 6 1, 3) := by decide +kernel
theorem d_M_pacesOf_150 : decode prog_13_method_66_code 150 = .ok (.goto (-132), 3) := by decide +kernel
theorem d_M_pacesOf_153 : decode prog_13_method_66_code 153 = .ok (.iload_n 3, 1) := by decide +kernel
theorem d_M_pacesOf_154 : decode prog_13_method_66_code 154 = .ok (.iload 5, 2) := by decide +kernel
theorem d_M_pacesOf_156 : decode prog_13_method_66_code 156 = .ok (.ifCond .eq 12, 3) := by decide +kernel
theorem d_M_pacesOf_159 : decode prog_13_method_66_code 159 = .ok (.iconst 1, 1) := by decide +kernel
theorem d_M_pacesOf_160 : decode prog_13_method_66_code 160 = .ok (.iload 4, 2) := by decide +kernel
theorem d_M_pacesOf_162 : decode prog_13_method_66_code 162 = .ok (.iconst 1, 1) := by decide +kernel
theorem d_M_pacesOf_163 : decode prog_13_method_66_code 163 = .ok (.isub, 1) := by decide +kernel
theorem d_M_pacesOf_164 : decode prog_13_method_66_code 164 = .ok (.ishl, 1) := by decide +kernel
theorem d_M_pacesOf_165 : decode prog_13_method_66_code 165 = .ok (.goto 4, 3) := by decide +kernel
theorem d_M_pacesOf_168 : decode prog_13_method_66_code 168 = .ok (.iconst 0, 1) := by decide +kernel
theorem d_M_pacesOf_169 : decode prog_13_method_66_code 169 = .ok (.ior, 1) := by decide +kernel
theorem d_M_pacesOf_170 : decode prog_13_method_66_code 170 = .ok (.istore_n 3, 1) := by decide +kernel
theorem d_M_pacesOf_171 : decode prog_13_method_66_code 171 = .ok (.iinc 4 1, 3) := by decide +kernel
theorem d_M_pacesOf_174 : decode prog_13_method_66_code 174 = .ok (.goto (-169), 3) := by decide +kernel
theorem d_M_pacesOf_177 : decode prog_13_method_66_code 177 = .ok (.iload_n 3, 1) := by decide +kernel
theorem d_M_pacesOf_178 : decode prog_13_method_66_code 178 = .ok (.ireturn, 1) := by decide +kernel
theorem d_M_paces_0 : decode prog_13_method_67_code 0 = .ok (.aload_n 0, 1) := by decide +kernel
theorem d_M_paces_1 : decode prog_13_method_67_code 1 = .ok (.invokevirtual 131, 3) := by decide +kernel
theorem d_M_paces_4 : decode prog_13_method_67_code 4 = .ok (.pop, 1) := by decide +kernel
theorem d_M_paces_5 : decode prog_13_method_67_code 5 = .ok (.iload_n 1, 1) := by decide +kernel
theorem d_M_paces_6 : decode prog_13_method_67_code 6 = .ok (.invokestatic 149, 3) := by decide +kernel
theorem d_M_paces_9 : decode prog_13_method_67_code 9 = .ok (.ifCond .eq 24, 3) := by decide +kernel
theorem d_M_paces_12 : decode prog_13_method_67_code 12 = .ok (.iload_n 2, 1) := by decide +kernel
theorem d_M_paces_13 : decode prog_13_method_67_code 13 = .ok (.i2l, 1) := by decide +kernel
theorem d_M_paces_14 : decode prog_13_method_67_code 14 = .ok (.lconst 0, 1) := by decide +kernel
theorem d_M_paces_15 : decode prog_13_method_67_code 15 = .ok (.ldc2_w 90, 3) := by decide +kernel
theorem d_M_paces_18 : decode prog_13_method_67_code 18 = .ok (.invokestatic 76, 3) := by decide +kernel
theorem d_M_paces_21 : decode prog_13_method_67_code 21 = .ok (.ifCond .eq 12, 3) := by decide +kernel
theorem d_M_paces_24 : decode prog_13_method_67_code 24 = .ok (.aload_n 0, 1) := by decide +kernel
theorem d_M_paces_25 : decode prog_13_method_67_code 25 = .ok (.iload_n 1, 1) := by decide +kernel
theorem d_M_paces_26 : decode prog_13_method_67_code 26 = .ok (.iload_n 2, 1) := by decide +kernel
theorem d_M_paces_27 : decode prog_13_method_67_code 27 = .ok (.invokevirtual 264, 3) := by decide +kernel
theorem d_M_paces_30 : decode prog_13_method_67_code 30 = .ok (.goto 5, 3) := by decide +kernel
theorem d_M_paces_33 : decode prog_13_method_67_code 33 = .ok (.bipush (-2), 2) := by decide +kernel
theorem d_M_paces_35 : decode prog_13_method_67_code 35 = .ok (.ireturn, 1) := by decide +kernel
theorem d_M_unlikeNow_0 : decode prog_13_method_68_code 0 = .ok (.iconst 0, 1) := by decide +kernel
theorem d_M_unlikeNow_1 : decode prog_13_method_68_code 1 = .ok (.istore_n 1, 1) := by decide +kernel
theorem d_M_unlikeNow_2 : decode prog_13_method_68_code 2 = .ok (.iconst 0, 1) := by decide +kernel
theorem d_M_unlikeNow_3 : decode prog_13_method_68_code 3 = .ok (.istore_n 2, 1) := by decide +kernel
theorem d_M_unlikeNow_4 : decode prog_13_method_68_code 4 = .ok (.iload_n 2, 1) := by decide +kernel
theorem d_M_unlikeNow_5 : decode prog_13_method_68_code 5 = .ok (.aload_n 0, 1) := by decide +kernel
theorem d_M_unlikeNow_6 : decode prog_13_method_68_code 6 = .ok (.getfield 261, 3) := by decide +kernel
theorem d_M_unlikeNow_9 : decode prog_13_method_68_code 9 = .ok (.if_icmp .ge 77, 3) := by decide +kernel
theorem d_M_unlikeNow_12 : decode prog_13_method_68_code 12 = .ok (.aload_n 0, 1) := by decide +kernel
theorem d_M_unlikeNow_13 : decode prog_13_method_68_code 13 = .ok (.getfield 64, 3) := by decide +kernel
theorem d_M_unlikeNow_16 : decode prog_13_method_68_code 16 = .ok (.iconst 3, 1) := by decide +kernel
theorem d_M_unlikeNow_17 : decode prog_13_method_68_code 17 = .ok (.iload_n 2, 1) := by decide +kernel
theorem d_M_unlikeNow_18 : decode prog_13_method_68_code 18 = .ok (.imul, 1) := by decide +kernel
theorem d_M_unlikeNow_19 : decode prog_13_method_68_code 19 = .ok (.iaload, 1) := by decide +kernel
theorem d_M_unlikeNow_20 : decode prog_13_method_68_code 20 = .ok (.aload_n 0, 1) := by decide +kernel
theorem d_M_unlikeNow_21 : decode prog_13_method_68_code 21 = .ok (.getfield 113, 3) := by decide +kernel
theorem d_M_unlikeNow_24 : decode prog_13_method_68_code 24 = .ok (.if_icmp .ge 42, 3) := by decide +kernel
theorem d_M_unlikeNow_27 : decode prog_13_method_68_code 27 = .ok (.aload_n 0, 1) := by decide +kernel
theorem d_M_unlikeNow_28 : decode prog_13_method_68_code 28 = .ok (.aload_n 0, 1) := by decide +kernel
theorem d_M_unlikeNow_29 : decode prog_13_method_68_code 29 = .ok (.getfield 64, 3) := by decide +kernel
theorem d_M_unlikeNow_32 : decode prog_13_method_68_code 32 = .ok (.iconst 3, 1) := by decide +kernel
theorem d_M_unlikeNow_33 : decode prog_13_method_68_code 33 = .ok (.iload_n 2, 1) := by decide +kernel
theorem d_M_unlikeNow_34 : decode prog_13_method_68_code 34 = .ok (.imul, 1) := by decide +kernel
theorem d_M_unlikeNow_35 : decode prog_13_method_68_code 35 = .ok (.iconst 1, 1) := by decide +kernel
theorem d_M_unlikeNow_36 : decode prog_13_method_68_code 36 = .ok (.iadd, 1) := by decide +kernel
theorem d_M_unlikeNow_37 : decode prog_13_method_68_code 37 = .ok (.iaload, 1) := by decide +kernel
theorem d_M_unlikeNow_38 : decode prog_13_method_68_code 38 = .ok (.aload_n 0, 1) := by decide +kernel
theorem d_M_unlikeNow_39 : decode prog_13_method_68_code 39 = .ok (.getfield 64, 3) := by decide +kernel
theorem d_M_unlikeNow_42 : decode prog_13_method_68_code 42 = .ok (.iconst 3, 1) := by decide +kernel
theorem d_M_unlikeNow_43 : decode prog_13_method_68_code 43 = .ok (.iload_n 2, 1) := by decide +kernel
theorem d_M_unlikeNow_44 : decode prog_13_method_68_code 44 = .ok (.imul, 1) := by decide +kernel
theorem d_M_unlikeNow_45 : decode prog_13_method_68_code 45 = .ok (.iaload, 1) := by decide +kernel
theorem d_M_unlikeNow_46 : decode prog_13_method_68_code 46 = .ok (.invokevirtual 191, 3) := by decide +kernel
theorem d_M_unlikeNow_49 : decode prog_13_method_68_code 49 = .ok (.aload_n 0, 1) := by decide +kernel
theorem d_M_unlikeNow_50 : decode prog_13_method_68_code 50 = .ok (.getfield 64, 3) := by decide +kernel
theorem d_M_unlikeNow_53 : decode prog_13_method_68_code 53 = .ok (.iconst 3, 1) := by decide +kernel
theorem d_M_unlikeNow_54 : decode prog_13_method_68_code 54 = .ok (.iload_n 2, 1) := by decide +kernel
theorem d_M_unlikeNow_55 : decode prog_13_method_68_code 55 = .ok (.imul, 1) := by decide +kernel
theorem d_M_unlikeNow_56 : decode prog_13_method_68_code 56 = .ok (.iconst 2, 1) := by decide +kernel
theorem d_M_unlikeNow_57 : decode prog_13_method_68_code 57 = .ok (.iadd, 1) := by decide +kernel
theorem d_M_unlikeNow_58 : decode prog_13_method_68_code 58 = .ok (.iaload, 1) := by decide +kernel
theorem d_M_unlikeNow_59 : decode prog_13_method_68_code 59 = .ok (.if_icmp .ne 7, 3) := by decide +kernel
theorem d_M_unlikeNow_62 : decode prog_13_method_68_code 62 = .ok (.iconst 1, 1) := by decide +kernel
theorem d_M_unlikeNow_63 : decode prog_13_method_68_code 63 = .ok (.goto 4, 3) := by decide +kernel
theorem d_M_unlikeNow_66 : decode prog_13_method_68_code 66 = .ok (.iconst 0, 1) := by decide +kernel
theorem d_M_unlikeNow_67 : decode prog_13_method_68_code 67 = .ok (.istore_n 3, 1) := by decide +kernel
theorem d_M_unlikeNow_68 : decode prog_13_method_68_code 68 = .ok (.iload_n 1, 1) := by decide +kernel
theorem d_M_unlikeNow_69 : decode prog_13_method_68_code 69 = .ok (.iload_n 3, 1) := by decide +kernel
theorem d_M_unlikeNow_70 : decode prog_13_method_68_code 70 = .ok (.ifCond .eq 7, 3) := by decide +kernel
theorem d_M_unlikeNow_73 : decode prog_13_method_68_code 73 = .ok (.iconst 0, 1) := by decide +kernel
theorem d_M_unlikeNow_74 : decode prog_13_method_68_code 74 = .ok (.goto 4, 3) := by decide +kernel
theorem d_M_unlikeNow_77 : decode prog_13_method_68_code 77 = .ok (.iconst 1, 1) := by decide +kernel
theorem d_M_unlikeNow_78 : decode prog_13_method_68_code 78 = .ok (.iadd, 1) := by decide +kernel
theorem d_M_unlikeNow_79 : decode prog_13_method_68_code 79 = .ok (.istore_n 1, 1) := by decide +kernel
theorem d_M_unlikeNow_80 : decode prog_13_method_68_code 80 = .ok (.iinc 2 1, 3) := by decide +kernel
theorem d_M_unlikeNow_83 : decode prog_13_method_68_code 83 = .ok (.goto (-79), 3) := by decide +kernel
theorem d_M_unlikeNow_86 : decode prog_13_method_68_code 86 = .ok (.iload_n 1, 1) := by decide +kernel
theorem d_M_unlikeNow_87 : decode prog_13_method_68_code 87 = .ok (.ireturn, 1) := by decide +kernel
theorem d_M_unlike_0 : decode prog_13_method_69_code 0 = .ok (.aload_n 0, 1) := by decide +kernel
theorem d_M_unlike_1 : decode prog_13_method_69_code 1 = .ok (.invokevirtual 131, 3) := by decide +kernel
theorem d_M_unlike_4 : decode prog_13_method_69_code 4 = .ok (.pop, 1) := by decide +kernel
theorem d_M_unlike_5 : decode prog_13_method_69_code 5 = .ok (.aload_n 0, 1) := by decide +kernel
theorem d_M_unlike_6 : decode prog_13_method_69_code 6 = .ok (.invokevirtual 267, 3) := by decide +kernel
theorem d_M_unlike_9 : decode prog_13_method_69_code 9 = .ok (.ireturn, 1) := by decide +kernel
theorem d_M_quarters_0 : decode prog_13_method_70_code 0 = .ok (.lconst 1, 1) := by decide +kernel
theorem d_M_quarters_1 : decode prog_13_method_70_code 1 = .ok (.lstore_n 3, 1) := by decide +kernel
theorem d_M_quarters_2 : decode prog_13_method_70_code 2 = .ok (.iconst 0, 1) := by decide +kernel
theorem d_M_quarters_3 : decode prog_13_method_70_code 3 = .ok (.istore 5, 2) := by decide +kernel
theorem d_M_quarters_5 : decode prog_13_method_70_code 5 = .ok (.iload 5, 2) := by decide +kernel
theorem d_M_quarters_7 : decode prog_13_method_70_code 7 = .ok (.bipush 6, 2) := by decide +kernel
theorem d_M_quarters_9 : decode prog_13_method_70_code 9 = .ok (.if_icmp .ge 55, 3) := by decide +kernel
theorem d_M_quarters_12 : decode prog_13_method_70_code 12 = .ok (.lload_n 3, 1) := by decide +kernel
theorem d_M_quarters_13 : decode prog_13_method_70_code 13 = .ok (.iload_n 1, 1) := by decide +kernel
theorem d_M_quarters_14 : decode prog_13_method_70_code 14 = .ok (.iload 5, 2) := by decide +kernel
theorem d_M_quarters_16 : decode prog_13_method_70_code 16 = .ok (.invokestatic 169, 3) := by decide +kernel
theorem d_M_quarters_19 : decode prog_13_method_70_code 19 = .ok (.ifCond .ne 7, 3) := by decide +kernel
theorem d_M_quarters_22 : decode prog_13_method_70_code 22 = .ok (.lconst 1, 1) := by decide +kernel
theorem d_M_quarters_23 : decode prog_13_method_70_code 23 = .ok (.goto 33, 3) := by decide +kernel
theorem d_M_quarters_26 : decode prog_13_method_70_code 26 = .ok (.iload_n 2, 1) := by decide +kernel
theorem d_M_quarters_27 : decode prog_13_method_70_code 27 = .ok (.iload 5, 2) := by decide +kernel
theorem d_M_quarters_29 : decode prog_13_method_70_code 29 = .ok (.invokestatic 169, 3) := by decide +kernel
theorem d_M_quarters_32 : decode prog_13_method_70_code 32 = .ok (.ifCond .eq 14, 3) := by decide +kernel
theorem d_M_quarters_35 : decode prog_13_method_70_code 35 = .ok (.aload_n 0, 1) := by decide +kernel
theorem d_M_quarters_36 : decode prog_13_method_70_code 36 = .ok (.getfield 43, 3) := by decide +kernel
theorem d_M_quarters_39 : decode prog_13_method_70_code 39 = .ok (.iload 5, 2) := by decide +kernel
theorem d_M_quarters_41 : decode prog_13_method_70_code 41 = .ok (.iaload, 1) := by decide +kernel
theorem d_M_quarters_42 : decode prog_13_method_70_code 42 = .ok (.i2l, 1) := by decide +kernel
theorem d_M_quarters_43 : decode prog_13_method_70_code 43 = .ok (.goto 13, 3) := by decide +kernel
theorem d_M_quarters_46 : decode prog_13_method_70_code 46 = .ok (.iconst 4, 1) := by decide +kernel
theorem d_M_quarters_47 : decode prog_13_method_70_code 47 = .ok (.aload_n 0, 1) := by decide +kernel
theorem d_M_quarters_48 : decode prog_13_method_70_code 48 = .ok (.getfield 43, 3) := by decide +kernel
theorem d_M_quarters_51 : decode prog_13_method_70_code 51 = .ok (.iload 5, 2) := by decide +kernel
theorem d_M_quarters_53 : decode prog_13_method_70_code 53 = .ok (.iaload, 1) := by decide +kernel
theorem d_M_quarters_54 : decode prog_13_method_70_code 54 = .ok (.isub, 1) := by decide +kernel
theorem d_M_quarters_55 : decode prog_13_method_70_code 55 = .ok (.i2l, 1) := by decide +kernel
theorem d_M_quarters_56 : decode prog_13_method_70_code 56 = .ok (.lmul, 1) := by decide +kernel
theorem d_M_quarters_57 : decode prog_13_method_70_code 57 = .ok (.lstore_n 3, 1) := by decide +kernel
theorem d_M_quarters_58 : decode prog_13_method_70_code 58 = .ok (.iinc 5 1, 3) := by decide +kernel
theorem d_M_quarters_61 : decode prog_13_method_70_code 61 = .ok (.goto (-56), 3) := by decide +kernel
theorem d_M_quarters_64 : decode prog_13_method_70_code 64 = .ok (.lload_n 3, 1) := by decide +kernel
theorem d_M_quarters_65 : decode prog_13_method_70_code 65 = .ok (.lreturn, 1) := by decide +kernel
theorem d_M_togetherSo_0 : decode prog_13_method_71_code 0 = .ok (.iconst 0, 1) := by decide +kernel
theorem d_M_togetherSo_1 : decode prog_13_method_71_code 1 = .ok (.istore 4, 2) := by decide +kernel
theorem d_M_togetherSo_3 : decode prog_13_method_71_code 3 = .ok (.iconst 0, 1) := by decide +kernel
theorem d_M_togetherSo_4 : decode prog_13_method_71_code 4 = .ok (.istore 5, 2) := by decide +kernel
theorem d_M_togetherSo_6 : decode prog_13_method_71_code 6 = .ok (.iload 5, 2) := by decide +kernel
theorem d_M_togetherSo_8 : decode prog_13_method_71_code 8 = .ok (.bipush 6, 2) := by decide +kernel
theorem d_M_togetherSo_10 : decode prog_13_method_71_code 10 = .ok (.if_icmp .ge 68, 3) := by decide +kernel
theorem d_M_togetherSo_13 : decode prog_13_method_71_code 13 = .ok (.iload_n 1, 1) := by decide +kernel
theorem d_M_togetherSo_14 : decode prog_13_method_71_code 14 = .ok (.iload 5, 2) := by decide +kernel
theorem d_M_togetherSo_16 : decode prog_13_method_71_code 16 = .ok (.invokestatic 169, 3) := by decide +kernel
theorem d_M_togetherSo_19 : decode prog_13_method_71_code 19 = .ok (.ifCond .ne 7, 3) := by decide +kernel
theorem d_M_togetherSo_22 : decode prog_13_method_71_code 22 = .ok (.iconst 0, 1) := by decide +kernel
theorem d_M_togetherSo_23 : decode prog_13_method_71_code 23 = .ok (.goto 31, 3) := by decide +kernel
theorem d_M_togetherSo_26 : decode prog_13_method_71_code 26 = .ok (.iload_n 2, 1) := by decide +kernel
theorem d_M_togetherSo_27 : decode prog_13_method_71_code 27 = .ok (.iload 5, 2) := by decide +kernel
theorem d_M_togetherSo_29 : decode prog_13_method_71_code 29 = .ok (.invokestatic 169, 3) := by decide +kernel
theorem d_M_togetherSo_32 : decode prog_13_method_71_code 32 = .ok (.ifCond .eq 15, 3) := by decide +kernel
theorem d_M_togetherSo_35 : decode prog_13_method_71_code 35 = .ok (.iconst 2, 1) := by decide +kernel
theorem d_M_togetherSo_36 : decode prog_13_method_71_code 36 = .ok (.aload_n 0, 1) := by decide +kernel
theorem d_M_togetherSo_37 : decode prog_13_method_71_code 37 = .ok (.iload 5, 2) := by decide +kernel
theorem d_M_togetherSo_39 : decode prog_13_method_71_code 39 = .ok (.iload_n 3, 1) := by decide +kernel
theorem d_M_togetherSo_40 : decode prog_13_method_71_code 40 = .ok (.invokevirtual 176, 3) := by decide +kernel
theorem d_M_togetherSo_43 : decode prog_13_method_71_code 43 = .ok (.imul, 1) := by decide +kernel
theorem d_M_togetherSo_44 : decode prog_13_method_71_code 44 = .ok (.goto 10, 3) := by decide +kernel
theorem d_M_togetherSo_47 : decode prog_13_method_71_code 47 = .ok (.aload_n 0, 1) := by decide +kernel
theorem d_M_togetherSo_48 : decode prog_13_method_71_code 48 = .ok (.iload 5, 2) := by decide +kernel
theorem d_M_togetherSo_50 : decode prog_13_method_71_code 50 = .ok (.iload_n 3, 1) := by decide +kernel
theorem d_M_togetherSo_51 : decode prog_13_method_71_code 51 = .ok (.invokevirtual 176, 3) := by decide +kernel
theorem d_M_togetherSo_54 : decode prog_13_method_71_code 54 = .ok (.istore 6, 2) := by decide +kernel
theorem d_M_togetherSo_56 : decode prog_13_method_71_code 56 = .ok (.iload 6, 2) := by decide +kernel
theorem d_M_togetherSo_58 : decode prog_13_method_71_code 58 = .ok (.iload 4, 2) := by decide +kernel
theorem d_M_togetherSo_60 : decode prog_13_method_71_code 60 = .ok (.if_icmp .le 8, 3) := by decide +kernel
theorem d_M_togetherSo_63 : decode prog_13_method_71_code 63 = .ok (.iload 6, 2) := by decide +kernel
theorem d_M_togetherSo_65 : decode prog_13_method_71_code 65 = .ok (.goto 5, 3) := by decide +kernel
theorem d_M_togetherSo_68 : decode prog_13_method_71_code 68 = .ok (.iload 4, 2) := by decide +kernel
theorem d_M_togetherSo_70 : decode prog_13_method_71_code 70 = .ok (.istore 4, 2) := by decide +kernel
theorem d_M_togetherSo_72 : decode prog_13_method_71_code 72 = .ok (.iinc 5 1, 3) := by decide +kernel
theorem d_M_togetherSo_75 : decode prog_13_method_71_code 75 = .ok (.goto (-69), 3) := by decide +kernel
theorem d_M_togetherSo_78 : decode prog_13_method_71_code 78 = .ok (.iload 4, 2) := by decide +kernel
theorem d_M_togetherSo_80 : decode prog_13_method_71_code 80 = .ok (.ireturn, 1) := by decide +kernel
theorem d_M_findMinutes_0 : decode prog_13_method_72_code 0 = .ok (.iconst 0, 1) := by decide +kernel
theorem d_M_findMinutes_1 : decode prog_13_method_72_code 1 = .ok (.istore_n 2, 1) := by decide +kernel
theorem d_M_findMinutes_2 : decode prog_13_method_72_code 2 = .ok (.iload_n 2, 1) := by decide +kernel
theorem d_M_findMinutes_3 : decode prog_13_method_72_code 3 = .ok (.sipush 3200, 3) := by decide +kernel
theorem d_M_findMinutes_6 : decode prog_13_method_72_code 6 = .ok (.if_icmp .ge 24, 3) := by decide +kernel
theorem d_M_findMinutes_9 : decode prog_13_method_72_code 9 = .ok (.aload_n 0, 1) := by decide +kernel
theorem d_M_findMinutes_10 : decode prog_13_method_72_code 10 = .ok (.getfield 67, 3) := by decide +kernel
theorem d_M_findMinutes_13 : decode prog_13_method_72_code 13 = .ok (.iload_n 2, 1) := by decide +kernel
theorem d_M_findMinutes_14 : decode prog_13_method_72_code 14 = .ok (.iload_n 2, 1) := by decide +kernel
theorem d_M_findMinutes_15 : decode prog_13_method_72_code 15 = .ok (.ifCond .ne 7, 3) := by decide +kernel
theorem d_M_findMinutes_18 : decode prog_13_method_72_code 18 = .ok (.lconst 1, 1) := by decide +kernel
theorem d_M_findMinutes_19 : decode prog_13_method_72_code 19 = .ok (.goto 4, 3) := by decide +kernel
theorem d_M_findMinutes_22 : decode prog_13_method_72_code 22 = .ok (.lconst 0, 1) := by decide +kernel
theorem d_M_findMinutes_23 : decode prog_13_method_72_code 23 = .ok (.lastore, 1) := by decide +kernel
theorem d_M_findMinutes_24 : decode prog_13_method_72_code 24 = .ok (.iinc 2 1, 3) := by decide +kernel
theorem d_M_findMinutes_27 : decode prog_13_method_72_code 27 = .ok (.goto (-25), 3) := by decide +kernel
theorem d_M_findMinutes_30 : decode prog_13_method_72_code 30 = .ok (.aload_n 0, 1) := by decide +kernel
theorem d_M_findMinutes_31 : decode prog_13_method_72_code 31 = .ok (.lconst 1, 1) := by decide +kernel
theorem d_M_findMinutes_32 : decode prog_13_method_72_code 32 = .ok (.putfield 270, 3) := by decide +kernel
theorem d_M_findMinutes_35 : decode prog_13_method_72_code 35 = .ok (.iconst 0, 1) := by decide +kernel
theorem d_M_findMinutes_36 : decode prog_13_method_72_code 36 = .ok (.istore_n 2, 1) := by decide +kernel
theorem d_M_findMinutes_37 : decode prog_13_method_72_code 37 = .ok (.iload_n 2, 1) := by decide +kernel
theorem d_M_findMinutes_38 : decode prog_13_method_72_code 38 = .ok (.aload_n 0, 1) := by decide +kernel
theorem d_M_findMinutes_39 : decode prog_13_method_72_code 39 = .ok (.getfield 113, 3) := by decide +kernel
theorem d_M_findMinutes_42 : decode prog_13_method_72_code 42 = .ok (.if_icmp .ge 174, 3) := by decide +kernel
theorem d_M_findMinutes_45 : decode prog_13_method_72_code 45 = .ok (.aload_n 0, 1) := by decide +kernel
theorem d_M_findMinutes_46 : decode prog_13_method_72_code 46 = .ok (.iload_n 2, 1) := by decide +kernel
theorem d_M_findMinutes_47 : decode prog_13_method_72_code 47 = .ok (.invokevirtual 188, 3) := by decide +kernel
theorem d_M_findMinutes_50 : decode prog_13_method_72_code 50 = .ok (.ifCond .eq 160, 3) := by decide +kernel
theorem d_M_findMinutes_53 : decode prog_13_method_72_code 53 = .ok (.iconst 0, 1) := by decide +kernel
theorem d_M_findMinutes_54 : decode prog_13_method_72_code 54 = .ok (.istore_n 3, 1) := by decide +kernel
theorem d_M_findMinutes_55 : decode prog_13_method_72_code 55 = .ok (.iload_n 3, 1) := by decide +kernel
theorem d_M_findMinutes_56 : decode prog_13_method_72_code 56 = .ok (.sipush 3200, 3) := by decide +kernel
theorem d_M_findMinutes_59 : decode prog_13_method_72_code 59 = .ok (.if_icmp .ge 16, 3) := by decide +kernel
theorem d_M_findMinutes_62 : decode prog_13_method_72_code 62 = .ok (.aload_n 0, 1) := by decide +kernel
theorem d_M_findMinutes_63 : decode prog_13_method_72_code 63 = .ok (.getfield 71, 3) := by decide +kernel
theorem d_M_findMinutes_66 : decode prog_13_method_72_code 66 = .ok (.iload_n 3, 1) := by decide +kernel
theorem d_M_findMinutes_67 : decode prog_13_method_72_code 67 = .ok (.lconst 0, 1) := by decide +kernel
theorem d_M_findMinutes_68 : decode prog_13_method_72_code 68 = .ok (.lastore, 1) := by decide +kernel
theorem d_M_findMinutes_69 : decode prog_13_method_72_code 69 = .ok (.iinc 3 1, 3) := by decide +kernel
theorem d_M_findMinutes_72 : decode prog_13_method_72_code 72 = .ok (.goto (-17), 3) := by decide +kernel
theorem d_M_findMinutes_75 : decode prog_13_method_72_code 75 = .ok (.iconst 0, 1) := by decide +kernel
theorem d_M_findMinutes_76 : decode prog_13_method_72_code 76 = .ok (.istore_n 3, 1) := by decide +kernel
theorem d_M_findMinutes_77 : decode prog_13_method_72_code 77 = .ok (.iload_n 3, 1) := by decide +kernel
theorem d_M_findMinutes_78 : decode prog_13_method_72_code 78 = .ok (.bipush 64, 2) := by decide +kernel
theorem d_M_findMinutes_80 : decode prog_13_method_72_code 80 = .ok (.if_icmp .ge 88, 3) := by decide +kernel
theorem d_M_findMinutes_83 : decode prog_13_method_72_code 83 = .ok (.iload_n 3, 1) := by decide +kernel
theorem d_M_findMinutes_84 : decode prog_13_method_72_code 84 = .ok (.iload_n 1, 1) := by decide +kernel
theorem d_M_findMinutes_85 : decode prog_13_method_72_code 85 = .ok (.iconst (-1), 1) := by decide +kernel
theorem d_M_findMinutes_86 : decode prog_13_method_72_code 86 = .ok (.ixor, 1) := by decide +kernel
theorem d_M_findMinutes_87 : decode prog_13_method_72_code 87 = .ok (.iand, 1) := by decide +kernel
theorem d_M_findMinutes_88 : decode prog_13_method_72_code 88 = .ok (.ifCond .ne 12, 3) := by decide +kernel
theorem d_M_findMinutes_91 : decode prog_13_method_72_code 91 = .ok (.aload_n 0, 1) := by decide +kernel
theorem d_M_findMinutes_92 : decode prog_13_method_72_code 92 = .ok (.iload_n 1, 1) := by decide +kernel
theorem d_M_findMinutes_93 : decode prog_13_method_72_code 93 = .ok (.iload_n 3, 1) := by decide +kernel
theorem d_M_findMinutes_94 : decode prog_13_method_72_code 94 = .ok (.invokevirtual 274, 3) := by decide +kernel
theorem d_M_findMinutes_97 : decode prog_13_method_72_code 97 = .ok (.goto 4, 3) := by decide +kernel
theorem d_M_findMinutes_100 : decode prog_13_method_72_code 100 = .ok (.lconst 0, 1) := by decide +kernel
theorem d_M_findMinutes_101 : decode prog_13_method_72_code 101 = .ok (.lstore 4, 2) := by decide +kernel
theorem d_M_findMinutes_103 : decode prog_13_method_72_code 103 = .ok (.aload_n 0, 1) := by decide +kernel
theorem d_M_findMinutes_104 : decode prog_13_method_72_code 104 = .ok (.iload_n 1, 1) := by decide +kernel
theorem d_M_findMinutes_105 : decode prog_13_method_72_code 105 = .ok (.iload_n 3, 1) := by decide +kernel
theorem d_M_findMinutes_106 : decode prog_13_method_72_code 106 = .ok (.iload_n 2, 1) := by decide +kernel
theorem d_M_findMinutes_107 : decode prog_13_method_72_code 107 = .ok (.invokevirtual 278, 3) := by decide +kernel
theorem d_M_findMinutes_110 : decode prog_13_method_72_code 110 = .ok (.istore 6, 2) := by decide +kernel
theorem d_M_findMinutes_112 : decode prog_13_method_72_code 112 = .ok (.iconst 0, 1) := by decide +kernel
theorem d_M_findMinutes_113 : decode prog_13_method_72_code 113 = .ok (.istore 7, 2) := by decide +kernel
theorem d_M_findMinutes_115 : decode prog_13_method_72_code 115 = .ok (.iload 7, 2) := by decide +kernel
theorem d_M_findMinutes_117 : decode prog_13_method_72_code 117 = .ok (.iload 6, 2) := by decide +kernel
theorem d_M_findMinutes_119 : decode prog_13_method_72_code 119 = .ok (.iadd, 1) := by decide +kernel
theorem d_M_findMinutes_120 : decode prog_13_method_72_code 120 = .ok (.sipush 3200, 3) := by decide +kernel
theorem d_M_findMinutes_123 : decode prog_13_method_72_code 123 = .ok (.if_icmp .ge 39, 3) := by decide +kernel
theorem d_M_findMinutes_126 : decode prog_13_method_72_code 126 = .ok (.lload 4, 2) := by decide +kernel
theorem d_M_findMinutes_128 : decode prog_13_method_72_code 128 = .ok (.lconst 0, 1) := by decide +kernel
theorem d_M_findMinutes_129 : decode prog_13_method_72_code 129 = .ok (.lcmp, 1) := by decide +kernel
theorem d_M_findMinutes_130 : decode prog_13_method_72_code 130 = .ok (.ifCond .le 32, 3) := by decide +kernel
theorem d_M_findMinutes_133 : decode prog_13_method_72_code 133 = .ok (.aload_n 0, 1) := by decide +kernel
theorem d_M_findMinutes_134 : decode prog_13_method_72_code 134 = .ok (.getfield 71, 3) := by decide +kernel
theorem d_M_findMinutes_137 : decode prog_13_method_72_code 137 = .ok (.iload 7, 2) := by decide +kernel
theorem d_M_findMinutes_139 : decode prog_13_method_72_code 139 = .ok (.iload 6, 2) := by decide +kernel
theorem d_M_findMinutes_141 : decode prog_13_method_72_code 141 = .ok (.iadd, 1) := by decide +kernel
theorem d_M_findMinutes_142 : decode prog_13_method_72_code 142 = .ok (.dup2, 1) := by decide +kernel
theorem d_M_findMinutes_143 : decode prog_13_method_72_code 143 = .ok (.laload, 1) := by decide +kernel
theorem d_M_findMinutes_144 : decode prog_13_method_72_code 144 = .ok (.aload_n 0, 1) := by decide +kernel
theorem d_M_findMinutes_145 : decode prog_13_method_72_code 145 = .ok (.getfield 67, 3) := by decide +kernel
theorem d_M_findMinutes_148 : decode prog_13_method_72_code 148 = .ok (.iload 7, 2) := by decide +kernel
theorem d_M_findMinutes_150 : decode prog_13_method_72_code 150 = .ok (.laload, 1) := by decide +kernel
theorem d_M_findMinutes_151 : decode prog_13_method_72_code 151 = .ok (.lload 4, 2) := by decide +kernel
theorem d_M_findMinutes_153 : decode prog_13_method_72_code 153 = .ok (.lmul, 1) := by decide +kernel
theorem d_M_findMinutes_154 : decode prog_13_method_72_code 154 = .ok (.ladd, 1) := by decide +kernel
theorem d_M_findMinutes_155 : decode prog_13_method_72_code 155 = .ok (.lastore, 1) := by decide +kernel
theorem d_M_findMinutes_156 : decode prog_13_method_72_code 156 = .ok (.iinc 7 1, 3) := by decide +kernel
theorem d_M_findMinutes_159 : decode prog_13_method_72_code 159 = .ok (.goto (-44), 3) := by decide +kernel
theorem d_M_findMinutes_162 : decode prog_13_method_72_code 162 = .ok (.iinc 3 1, 3) := by decide +kernel
theorem d_M_findMinutes_165 : decode prog_13_method_72_code 165 = .ok (.goto (-88), 3) := by decide +kernel
theorem d_M_findMinutes_168 : decode prog_13_method_72_code 168 = .ok (.iconst 0, 1) := by decide +kernel
theorem d_M_findMinutes_169 : decode prog_13_method_72_code 169 = .ok (.istore_n 3, 1) := by decide +kernel
theorem d_M_findMinutes_170 : decode prog_13_method_72_code 170 = .ok (.iload_n 3, 1) := by decide +kernel
theorem d_M_findMinutes_171 : decode prog_13_method_72_code 171 = .ok (.sipush 3200, 3) := by decide +kernel
theorem d_M_findMinutes_174 : decode prog_13_method_72_code 174 = .ok (.if_icmp .ge 21, 3) := by decide +kernel
theorem d_M_findMinutes_177 : decode prog_13_method_72_code 177 = .ok (.aload_n 0, 1) := by decide +kernel
theorem d_M_findMinutes_178 : decode prog_13_method_72_code 178 = .ok (.getfield 67, 3) := by decide +kernel
theorem d_M_findMinutes_181 : decode prog_13_method_72_code 181 = .ok (.iload_n 3, 1) := by decide +kernel
theorem d_M_findMinutes_182 : decode prog_13_method_72_code 182 = .ok (.aload_n 0, 1) := by decide +kernel
theorem d_M_findMinutes_183 : decode prog_13_method_72_code 183 = .ok (.getfield 71, 3) := by decide +kernel
theorem d_M_findMinutes_186 : decode prog_13_method_72_code 186 = .ok (.iload_n 3, 1) := by decide +kernel
theorem d_M_findMinutes_187 : decode prog_13_method_72_code 187 = .ok (.laload, 1) := by decide +kernel
theorem d_M_findMinutes_188 : decode prog_13_method_72_code 188 = .ok (.lastore, 1) := by decide +kernel
theorem d_M_findMinutes_189 : decode prog_13_method_72_code 189 = .ok (.iinc 3 1, 3) := by decide +kernel
theorem d_M_findMinutes_192 : decode prog_13_method_72_code 192 = .ok (.goto (-22), 3) := by decide +kernel
theorem d_M_findMinutes_195 : decode prog_13_method_72_code 195 = .ok (.aload_n 0, 1) := by decide +kernel
theorem d_M_findMinutes_196 : decode prog_13_method_72_code 196 = .ok (.dup, 1) := by decide +kernel
theorem d_M_findMinutes_197 : decode prog_13_method_72_code 197 = .ok (.getfield 270, 3) := by decide +kernel
theorem d_M_findMinutes_200 : decode prog_13_method_72_code 200 = .ok (.iconst 2, 1) := by decide +kernel
theorem d_M_findMinutes_201 : decode prog_13_method_72_code 201 = .ok (.iload_n 1, 1) := by decide +kernel
theorem d_M_findMinutes_202 : decode prog_13_method_72_code 202 = .ok (.invokestatic 246, 3) := by decide +kernel
theorem d_M_findMinutes_205 : decode prog_13_method_72_code 205 = .ok (.imul, 1) := by decide +kernel
theorem d_M_findMinutes_206 : decode prog_13_method_72_code 206 = .ok (.lshl, 1) := by decide +kernel
theorem d_M_findMinutes_207 : decode prog_13_method_72_code 207 = .ok (.putfield 270, 3) := by decide +kernel
theorem d_M_findMinutes_210 : decode prog_13_method_72_code 210 = .ok (.iinc 2 1, 3) := by decide +kernel
theorem d_M_findMinutes_213 : decode prog_13_method_72_code 213 = .ok (.goto (-176), 3) := by decide +kernel
theorem d_M_findMinutes_216 : decode prog_13_method_72_code 216 = .ok (.return_, 1) := by decide +kernel
theorem d_M_part_0 : decode prog_13_method_73_code 0 = .ok (.lload_n 0, 1) := by decide +kernel
theorem d_M_part_1 : decode prog_13_method_73_code 1 = .ok (.lstore 5, 2) := by decide +kernel
theorem d_M_part_3 : decode prog_13_method_73_code 3 = .ok (.lload_n 2, 1) := by decide +kernel
theorem d_M_part_4 : decode prog_13_method_73_code 4 = .ok (.lstore 7, 2) := by decide +kernel
theorem d_M_part_6 : decode prog_13_method_73_code 6 = .ok (.lload 7, 2) := by decide +kernel
theorem d_M_part_8 : decode prog_13_method_73_code 8 = .ok (.lconst 0, 1) := by decide +kernel
theorem d_M_part_9 : decode prog_13_method_73_code 9 = .ok (.lcmp, 1) := by decide +kernel
theorem d_M_part_10 : decode prog_13_method_73_code 10 = .ok (.ifCond .eq 21, 3) := by decide +kernel
theorem d_M_part_13 : decode prog_13_method_73_code 13 = .ok (.lload 5, 2) := by decide +kernel
theorem d_M_part_15 : decode prog_13_method_73_code 15 = .ok (.lload 7, 2) := by decide +kernel
theorem d_M_part_17 : decode prog_13_method_73_code 17 = .ok (.lrem, 1) := by decide +kernel
theorem d_M_part_18 : decode prog_13_method_73_code 18 = .ok (.lstore 9, 2) := by decide +kernel
theorem d_M_part_20 : decode prog_13_method_73_code 20 = .ok (.lload 7, 2) := by decide +kernel
theorem d_M_part_22 : decode prog_13_method_73_code 22 = .ok (.lstore 5, 2) := by decide +kernel
theorem d_M_part_24 : decode prog_13_method_73_code 24 = .ok (.lload 9, 2) := by decide +kernel
theorem d_M_part_26 : decode prog_13_method_73_code 26 = .ok (.lstore 7, 2) := by decide +kernel
theorem d_M_part_28 : decode prog_13_method_73_code 28 = .ok (.goto (-22), 3) := by decide +kernel
theorem d_M_part_31 : decode prog_13_method_73_code 31 = .ok (.iload 4, 2) := by decide +kernel
theorem d_M_part_33 : decode prog_13_method_73_code 33 = .ok (.ifCond .ne 7, 3) := by decide +kernel
theorem d_M_part_36 : decode prog_13_method_73_code 36 = .ok (.lload_n 0, 1) := by decide +kernel
theorem d_M_part_37 : decode prog_13_method_73_code 37 = .ok (.goto 4, 3) := by decide +kernel
theorem d_M_part_40 : decode prog_13_method_73_code 40 = .ok (.lload_n 2, 1) := by decide +kernel
theorem d_M_part_41 : decode prog_13_method_73_code 41 = .ok (.lload 5, 2) := by decide +kernel
theorem d_M_part_43 : decode prog_13_method_73_code 43 = .ok (.ldiv, 1) := by decide +kernel
theorem d_M_part_44 : decode prog_13_method_73_code 44 = .ok (.lreturn, 1) := by decide +kernel
theorem d_M_doneOf_0 : decode prog_13_method_74_code 0 = .ok (.aload_n 0, 1) := by decide +kernel
theorem d_M_doneOf_1 : decode prog_13_method_74_code 1 = .ok (.iload_n 1, 1) := by decide +kernel
theorem d_M_doneOf_2 : decode prog_13_method_74_code 2 = .ok (.invokevirtual 281, 3) := by decide +kernel
theorem d_M_doneOf_5 : decode prog_13_method_74_code 5 = .ok (.lconst 0, 1) := by decide +kernel
theorem d_M_doneOf_6 : decode prog_13_method_74_code 6 = .ok (.lstore 4, 2) := by decide +kernel
theorem d_M_doneOf_8 : decode prog_13_method_74_code 8 = .ok (.iconst 0, 1) := by decide +kernel
theorem d_M_doneOf_9 : decode prog_13_method_74_code 9 = .ok (.istore 6, 2) := by decide +kernel
theorem d_M_doneOf_11 : decode prog_13_method_74_code 11 = .ok (.iload 6, 2) := by decide +kernel
theorem d_M_doneOf_13 : decode prog_13_method_74_code 13 = .ok (.sipush 3200, 3) := by decide +kernel
theorem d_M_doneOf_16 : decode prog_13_method_74_code 16 = .ok (.if_icmp .ge 27, 3) := by decide +kernel
theorem d_M_doneOf_19 : decode prog_13_method_74_code 19 = .ok (.iload 6, 2) := by decide +kernel
theorem d_M_doneOf_21 : decode prog_13_method_74_code 21 = .ok (.iload_n 2, 1) := by decide +kernel
theorem d_M_doneOf_22 : decode prog_13_method_74_code 22 = .ok (.if_icmp .gt 21, 3) := by decide +kernel
theorem d_M_doneOf_25 : decode prog_13_method_74_code 25 = .ok (.lload 4, 2) := by decide +kernel
theorem d_M_doneOf_27 : decode prog_13_method_74_code 27 = .ok (.aload_n 0, 1) := by decide +kernel
theorem d_M_doneOf_28 : decode prog_13_method_74_code 28 = .ok (.getfield 67, 3) := by decide +kernel
theorem d_M_doneOf_31 : decode prog_13_method_74_code 31 = .ok (.iload 6, 2) := by decide +kernel
theorem d_M_doneOf_33 : decode prog_13_method_74_code 33 = .ok (.laload, 1) := by decide +kernel
theorem d_M_doneOf_34 : decode prog_13_method_74_code 34 = .ok (.ladd, 1) := by decide +kernel
theorem d_M_doneOf_35 : decode prog_13_method_74_code 35 = .ok (.lstore 4, 2) := by decide +kernel
theorem d_M_doneOf_37 : decode prog_13_method_74_code 37 = .ok (.iinc 6 1, 3) := by decide +kernel
theorem d_M_doneOf_40 : decode prog_13_method_74_code 40 = .ok (.goto (-29), 3) := by decide +kernel
theorem d_M_doneOf_43 : decode prog_13_method_74_code 43 = .ok (.lload 4, 2) := by decide +kernel
theorem d_M_doneOf_45 : decode prog_13_method_74_code 45 = .ok (.aload_n 0, 1) := by decide +kernel
theorem d_M_doneOf_46 : decode prog_13_method_74_code 46 = .ok (.getfield 270, 3) := by decide +kernel
theorem d_M_doneOf_49 : decode prog_13_method_74_code 49 = .ok (.iload_n 3, 1) := by decide +kernel
theorem d_M_doneOf_50 : decode prog_13_method_74_code 50 = .ok (.invokestatic 285, 3) := by decide +kernel
theorem d_M_doneOf_53 : decode prog_13_method_74_code 53 = .ok (.lreturn, 1) := by decide +kernel
theorem d_M_done_0 : decode prog_13_method_75_code 0 = .ok (.aload_n 0, 1) := by decide +kernel
theorem d_M_done_1 : decode prog_13_method_75_code 1 = .ok (.invokevirtual 131, 3) := by decide +kernel
theorem d_M_done_4 : decode prog_13_method_75_code 4 = .ok (.pop, 1) := by decide +kernel
theorem d_M_done_5 : decode prog_13_method_75_code 5 = .ok (.iload_n 1, 1) := by decide +kernel
theorem d_M_done_6 : decode prog_13_method_75_code 6 = .ok (.invokestatic 198, 3) := by decide +kernel
theorem d_M_done_9 : decode prog_13_method_75_code 9 = .ok (.ifCond .eq 22, 3) := by decide +kernel
theorem d_M_done_12 : decode prog_13_method_75_code 12 = .ok (.iload_n 2, 1) := by decide +kernel
theorem d_M_done_13 : decode prog_13_method_75_code 13 = .ok (.i2l, 1) := by decide +kernel
theorem d_M_done_14 : decode prog_13_method_75_code 14 = .ok (.lconst 0, 1) := by decide +kernel
theorem d_M_done_15 : decode prog_13_method_75_code 15 = .ok (.ldc2_w 289, 3) := by decide +kernel
theorem d_M_done_18 : decode prog_13_method_75_code 18 = .ok (.invokestatic 76, 3) := by decide +kernel
theorem d_M_done_21 : decode prog_13_method_75_code 21 = .ok (.ifCond .eq 10, 3) := by decide +kernel
theorem d_M_done_24 : decode prog_13_method_75_code 24 = .ok (.iload_n 3, 1) := by decide +kernel
theorem d_M_done_25 : decode prog_13_method_75_code 25 = .ok (.invokestatic 160, 3) := by decide +kernel
theorem d_M_done_28 : decode prog_13_method_75_code 28 = .ok (.ifCond .ne 9, 3) := by decide +kernel
theorem d_M_done_31 : decode prog_13_method_75_code 31 = .ok (.bipush (-2), 2) := by decide +kernel
theorem d_M_done_33 : decode prog_13_method_75_code 33 = .ok (.invokestatic 291, 3) := by decide +kernel
theorem d_M_done_36 : decode prog_13_method_75_code 36 = .ok (.lreturn, 1) := by decide +kernel
theorem d_M_done_37 : decode prog_13_method_75_code 37 = .ok (.iload_n 1, 1) := by decide +kernel
theorem d_M_done_38 : decode prog_13_method_75_code 38 = .ok (.invokestatic 246, 3) := by decide +kernel
theorem d_M_done_41 : decode prog_13_method_75_code 41 = .ok (.iconst 3, 1) := by decide +kernel
theorem d_M_done_42 : decode prog_13_method_75_code 42 = .ok (.if_icmp .le 11, 3) := by decide +kernel
theorem d_M_done_45 : decode prog_13_method_75_code 45 = .ok (.bipush (-4), 2) := by decide +kernel
theorem d_M_done_47 : decode prog_13_method_75_code 47 = .ok (.invokestatic 291, 3) := by decide +kernel
theorem d_M_done_50 : decode prog_13_method_75_code 50 = .ok (.goto 10, 3) := by decide +kernel
theorem d_M_done_53 : decode prog_13_method_75_code 53 = .ok (.aload_n 0, 1) := by decide +kernel
theorem d_M_done_54 : decode prog_13_method_75_code 54 = .ok (.iload_n 1, 1) := by decide +kernel
theorem d_M_done_55 : decode prog_13_method_75_code 55 = .ok (.iload_n 2, 1) := by decide +kernel
theorem d_M_done_56 : decode prog_13_method_75_code 56 = .ok (.iload_n 3, 1) := by decide +kernel
theorem d_M_done_57 : decode prog_13_method_75_code 57 = .ok (.invokevirtual 295, 3) := by decide +kernel
theorem d_M_done_60 : decode prog_13_method_75_code 60 = .ok (.lreturn, 1) := by decide +kernel
theorem d_M_meanOf_0 : decode prog_13_method_76_code 0 = .ok (.lconst 0, 1) := by decide +kernel
theorem d_M_meanOf_1 : decode prog_13_method_76_code 1 = .ok (.lstore_n 3, 1) := by decide +kernel
theorem d_M_meanOf_2 : decode prog_13_method_76_code 2 = .ok (.iconst 0, 1) := by decide +kernel
theorem d_M_meanOf_3 : decode prog_13_method_76_code 3 = .ok (.istore 5, 2) := by decide +kernel
theorem d_M_meanOf_5 : decode prog_13_method_76_code 5 = .ok (.iload 5, 2) := by decide +kernel
theorem d_M_meanOf_7 : decode prog_13_method_76_code 7 = .ok (.aload_n 0, 1) := by decide +kernel
theorem d_M_meanOf_8 : decode prog_13_method_76_code 8 = .ok (.getfield 113, 3) := by decide +kernel
theorem d_M_meanOf_11 : decode prog_13_method_76_code 11 = .ok (.if_icmp .ge 68, 3) := by decide +kernel
theorem d_M_meanOf_14 : decode prog_13_method_76_code 14 = .ok (.iconst 0, 1) := by decide +kernel
theorem d_M_meanOf_15 : decode prog_13_method_76_code 15 = .ok (.istore 6, 2) := by decide +kernel
theorem d_M_meanOf_17 : decode prog_13_method_76_code 17 = .ok (.iload 6, 2) := by decide +kernel
theorem d_M_meanOf_19 : decode prog_13_method_76_code 19 = .ok (.bipush 64, 2) := by decide +kernel
theorem d_M_meanOf_21 : decode prog_13_method_76_code 21 = .ok (.if_icmp .ge 52, 3) := by decide +kernel
theorem d_M_meanOf_24 : decode prog_13_method_76_code 24 = .ok (.aload_n 0, 1) := by decide +kernel
theorem d_M_meanOf_25 : decode prog_13_method_76_code 25 = .ok (.iload 5, 2) := by decide +kernel
theorem d_M_meanOf_27 : decode prog_13_method_76_code 27 = .ok (.invokevirtual 188, 3) := by decide +kernel
theorem d_M_meanOf_30 : decode prog_13_method_76_code 30 = .ok (.ifCond .eq 43, 3) := by decide +kernel
theorem d_M_meanOf_33 : decode prog_13_method_76_code 33 = .ok (.lload_n 3, 1) := by decide +kernel
theorem d_M_meanOf_34 : decode prog_13_method_76_code 34 = .ok (.iload 6, 2) := by decide +kernel
theorem d_M_meanOf_36 : decode prog_13_method_76_code 36 = .ok (.iload_n 1, 1) := by decide +kernel
theorem d_M_meanOf_37 : decode prog_13_method_76_code 37 = .ok (.iconst (-1), 1) := by decide +kernel
theorem d_M_meanOf_38 : decode prog_13_method_76_code 38 = .ok (.ixor, 1) := by decide +kernel
theorem d_M_meanOf_39 : decode prog_13_method_76_code 39 = .ok (.iand, 1) := by decide +kernel
theorem d_M_meanOf_40 : decode prog_13_method_76_code 40 = .ok (.ifCond .ne 24, 3) := by decide +kernel
theorem d_M_meanOf_43 : decode prog_13_method_76_code 43 = .ok (.aload_n 0, 1) := by decide +kernel
theorem d_M_meanOf_44 : decode prog_13_method_76_code 44 = .ok (.iload_n 1, 1) := by decide +kernel
theorem d_M_meanOf_45 : decode prog_13_method_76_code 45 = .ok (.iload 6, 2) := by decide +kernel
theorem d_M_meanOf_47 : decode prog_13_method_76_code 47 = .ok (.invokevirtual 274, 3) := by decide +kernel
theorem d_M_meanOf_50 : decode prog_13_method_76_code 50 = .ok (.aload_n 0, 1) := by decide +kernel
theorem d_M_meanOf_51 : decode prog_13_method_76_code 51 = .ok (.iload_n 1, 1) := by decide +kernel
theorem d_M_meanOf_52 : decode prog_13_method_76_code 52 = .ok (.iload 6, 2) := by decide +kernel
theorem d_M_meanOf_54 : decode prog_13_method_76_code 54 = .ok (.iload 5, 2) := by decide +kernel
theorem d_M_meanOf_56 : decode prog_13_method_76_code 56 = .ok (.invokevirtual 278, 3) := by decide +kernel
theorem d_M_meanOf_59 : decode prog_13_method_76_code 59 = .ok (.i2l, 1) := by decide +kernel
theorem d_M_meanOf_60 : decode prog_13_method_76_code 60 = .ok (.lmul, 1) := by decide +kernel
theorem d_M_meanOf_61 : decode prog_13_method_76_code 61 = .ok (.goto 4, 3) := by decide +kernel
theorem d_M_meanOf_64 : decode prog_13_method_76_code 64 = .ok (.lconst 0, 1) := by decide +kernel
theorem d_M_meanOf_65 : decode prog_13_method_76_code 65 = .ok (.ladd, 1) := by decide +kernel
theorem d_M_meanOf_66 : decode prog_13_method_76_code 66 = .ok (.lstore_n 3, 1) := by decide +kernel
theorem d_M_meanOf_67 : decode prog_13_method_76_code 67 = .ok (.iinc 6 1, 3) := by decide +kernel
theorem d_M_meanOf_70 : decode prog_13_method_76_code 70 = .ok (.goto (-53), 3) := by decide +kernel
theorem d_M_meanOf_73 : decode prog_13_method_76_code 73 = .ok (.iinc 5 1, 3) := by decide +kernel
theorem d_M_meanOf_76 : decode prog_13_method_76_code 76 = .ok (.goto (-71), 3) := by decide +kernel
theorem d_M_meanOf_79 : decode prog_13_method_76_code 79 = .ok (.lload_n 3, 1) := by decide +kernel
theorem d_M_meanOf_80 : decode prog_13_method_76_code 80 = .ok (.lconst 1, 1) := by decide +kernel
theorem d_M_meanOf_81 : decode prog_13_method_76_code 81 = .ok (.iconst 2, 1) := by decide +kernel
theorem d_M_meanOf_82 : decode prog_13_method_76_code 82 = .ok (.iload_n 1, 1) := by decide +kernel
theorem d_M_meanOf_83 : decode prog_13_method_76_code 83 = .ok (.invokestatic 246, 3) := by decide +kernel
theorem d_M_meanOf_86 : decode prog_13_method_76_code 86 = .ok (.imul, 1) := by decide +kernel
theorem d_M_meanOf_87 : decode prog_13_method_76_code 87 = .ok (.lshl, 1) := by decide +kernel
theorem d_M_meanOf_88 : decode prog_13_method_76_code 88 = .ok (.iload_n 2, 1) := by decide +kernel
theorem d_M_meanOf_89 : decode prog_13_method_76_code 89 = .ok (.invokestatic 285, 3) := by decide +kernel
theorem d_M_meanOf_92 : decode prog_13_method_76_code 92 = .ok (.lreturn, 1) := by decide +kernel
theorem d_M_mean_0 : decode prog_13_method_77_code 0 = .ok (.aload_n 0, 1) := by decide +kernel
theorem d_M_mean_1 : decode prog_13_method_77_code 1 = .ok (.invokevirtual 131, 3) := by decide +kernel
theorem d_M_mean_4 : decode prog_13_method_77_code 4 = .ok (.pop, 1) := by decide +kernel
theorem d_M_mean_5 : decode prog_13_method_77_code 5 = .ok (.iload_n 1, 1) := by decide +kernel
theorem d_M_mean_6 : decode prog_13_method_77_code 6 = .ok (.invokestatic 198, 3) := by decide +kernel
theorem d_M_mean_9 : decode prog_13_method_77_code 9 = .ok (.ifCond .eq 10, 3) := by decide +kernel
theorem d_M_mean_12 : decode prog_13_method_77_code 12 = .ok (.iload_n 2, 1) := by decide +kernel
theorem d_M_mean_13 : decode prog_13_method_77_code 13 = .ok (.invokestatic 160, 3) := by decide +kernel
theorem d_M_mean_16 : decode prog_13_method_77_code 16 = .ok (.ifCond .ne 9, 3) := by decide +kernel
theorem d_M_mean_19 : decode prog_13_method_77_code 19 = .ok (.bipush (-2), 2) := by decide +kernel
theorem d_M_mean_21 : decode prog_13_method_77_code 21 = .ok (.invokestatic 291, 3) := by decide +kernel
theorem d_M_mean_24 : decode prog_13_method_77_code 24 = .ok (.lreturn, 1) := by decide +kernel
theorem d_M_mean_25 : decode prog_13_method_77_code 25 = .ok (.iload_n 1, 1) := by decide +kernel
theorem d_M_mean_26 : decode prog_13_method_77_code 26 = .ok (.invokestatic 246, 3) := by decide +kernel
theorem d_M_mean_29 : decode prog_13_method_77_code 29 = .ok (.iconst 3, 1) := by decide +kernel
theorem d_M_mean_30 : decode prog_13_method_77_code 30 = .ok (.if_icmp .le 11, 3) := by decide +kernel
theorem d_M_mean_33 : decode prog_13_method_77_code 33 = .ok (.bipush (-4), 2) := by decide +kernel
theorem d_M_mean_35 : decode prog_13_method_77_code 35 = .ok (.invokestatic 291, 3) := by decide +kernel
theorem d_M_mean_38 : decode prog_13_method_77_code 38 = .ok (.goto 9, 3) := by decide +kernel
theorem d_M_mean_41 : decode prog_13_method_77_code 41 = .ok (.aload_n 0, 1) := by decide +kernel
theorem d_M_mean_42 : decode prog_13_method_77_code 42 = .ok (.iload_n 1, 1) := by decide +kernel
theorem d_M_mean_43 : decode prog_13_method_77_code 43 = .ok (.iload_n 2, 1) := by decide +kernel
theorem d_M_mean_44 : decode prog_13_method_77_code 44 = .ok (.invokevirtual 299, 3) := by decide +kernel
theorem d_M_mean_47 : decode prog_13_method_77_code 47 = .ok (.lreturn, 1) := by decide +kernel
theorem d_M_write_0 : decode prog_13_method_78_code 0 = .ok (.iload_n 1, 1) := by decide +kernel
theorem d_M_write_1 : decode prog_13_method_78_code 1 = .ok (.invokestatic 149, 3) := by decide +kernel
theorem d_M_write_4 : decode prog_13_method_78_code 4 = .ok (.ifCond .eq 10, 3) := by decide +kernel
theorem d_M_write_7 : decode prog_13_method_78_code 7 = .ok (.iload_n 2, 1) := by decide +kernel
theorem d_M_write_8 : decode prog_13_method_78_code 8 = .ok (.invokestatic 86, 3) := by decide +kernel
theorem d_M_write_11 : decode prog_13_method_78_code 11 = .ok (.ifCond .ne 6, 3) := by decide +kernel
theorem d_M_write_14 : decode prog_13_method_78_code 14 = .ok (.bipush (-2), 2) := by decide +kernel
theorem d_M_write_16 : decode prog_13_method_78_code 16 = .ok (.ireturn, 1) := by decide +kernel
theorem d_M_write_17 : decode prog_13_method_78_code 17 = .ok (.aload_n 0, 1) := by decide +kernel
theorem d_M_write_18 : decode prog_13_method_78_code 18 = .ok (.getfield 7, 3) := by decide +kernel
theorem d_M_write_21 : decode prog_13_method_78_code 21 = .ok (.iload_n 2, 1) := by decide +kernel
theorem d_M_write_22 : decode prog_13_method_78_code 22 = .ok (.iaload, 1) := by decide +kernel
theorem d_M_write_23 : decode prog_13_method_78_code 23 = .ok (.ifCond .ge 9, 3) := by decide +kernel
theorem d_M_write_26 : decode prog_13_method_78_code 26 = .ok (.aload_n 0, 1) := by decide +kernel
theorem d_M_write_27 : decode prog_13_method_78_code 27 = .ok (.iconst 1, 1) := by decide +kernel
theorem d_M_write_28 : decode prog_13_method_78_code 28 = .ok (.invokevirtual 92, 3) := by decide +kernel
theorem d_M_write_31 : decode prog_13_method_78_code 31 = .ok (.ireturn, 1) := by decide +kernel
theorem d_M_write_32 : decode prog_13_method_78_code 32 = .ok (.aload_n 0, 1) := by decide +kernel
theorem d_M_write_33 : decode prog_13_method_78_code 33 = .ok (.invokevirtual 131, 3) := by decide +kernel
theorem d_M_write_36 : decode prog_13_method_78_code 36 = .ok (.pop, 1) := by decide +kernel
theorem d_M_write_37 : decode prog_13_method_78_code 37 = .ok (.aload_n 0, 1) := by decide +kernel
theorem d_M_write_38 : decode prog_13_method_78_code 38 = .ok (.getfield 13, 3) := by decide +kernel
theorem d_M_write_41 : decode prog_13_method_78_code 41 = .ok (.iload_n 2, 1) := by decide +kernel
theorem d_M_write_42 : decode prog_13_method_78_code 42 = .ok (.iaload, 1) := by decide +kernel
theorem d_M_write_43 : decode prog_13_method_78_code 43 = .ok (.aload_n 0, 1) := by decide +kernel
theorem d_M_write_44 : decode prog_13_method_78_code 44 = .ok (.getfield 113, 3) := by decide +kernel
theorem d_M_write_47 : decode prog_13_method_78_code 47 = .ok (.if_icmp .ge 12, 3) := by decide +kernel
theorem d_M_write_50 : decode prog_13_method_78_code 50 = .ok (.aload_n 0, 1) := by decide +kernel
theorem d_M_write_51 : decode prog_13_method_78_code 51 = .ok (.getfield 13, 3) := by decide +kernel
theorem d_M_write_54 : decode prog_13_method_78_code 54 = .ok (.iload_n 2, 1) := by decide +kernel
theorem d_M_write_55 : decode prog_13_method_78_code 55 = .ok (.iaload, 1) := by decide +kernel
theorem d_M_write_56 : decode prog_13_method_78_code 56 = .ok (.goto 7, 3) := by decide +kernel
theorem d_M_write_59 : decode prog_13_method_78_code 59 = .ok (.aload_n 0, 1) := by decide +kernel
theorem d_M_write_60 : decode prog_13_method_78_code 60 = .ok (.getfield 113, 3) := by decide +kernel
theorem d_M_write_63 : decode prog_13_method_78_code 63 = .ok (.istore_n 3, 1) := by decide +kernel
theorem d_M_write_64 : decode prog_13_method_78_code 64 = .ok (.iconst 0, 1) := by decide +kernel
theorem d_M_write_65 : decode prog_13_method_78_code 65 = .ok (.istore 4, 2) := by decide +kernel
theorem d_M_write_67 : decode prog_13_method_78_code 67 = .ok (.iload 4, 2) := by decide +kernel
theorem d_M_write_69 : decode prog_13_method_78_code 69 = .ok (.iload_n 3, 1) := by decide +kernel
theorem d_M_write_70 : decode prog_13_method_78_code 70 = .ok (.if_icmp .ge 37, 3) := by decide +kernel
theorem d_M_write_73 : decode prog_13_method_78_code 73 = .ok (.aload_n 0, 1) := by decide +kernel
theorem d_M_write_74 : decode prog_13_method_78_code 74 = .ok (.getfield 16, 3) := by decide +kernel
theorem d_M_write_77 : decode prog_13_method_78_code 77 = .ok (.bipush 60, 2) := by decide +kernel
theorem d_M_write_79 : decode prog_13_method_78_code 79 = .ok (.iload_n 2, 1) := by decide +kernel
theorem d_M_write_80 : decode prog_13_method_78_code 80 = .ok (.imul, 1) := by decide +kernel
theorem d_M_write_81 : decode prog_13_method_78_code 81 = .ok (.iload 4, 2) := by decide +kernel
theorem d_M_write_83 : decode prog_13_method_78_code 83 = .ok (.iadd, 1) := by decide +kernel
theorem d_M_write_84 : decode prog_13_method_78_code 84 = .ok (.aload_n 0, 1) := by decide +kernel
theorem d_M_write_85 : decode prog_13_method_78_code 85 = .ok (.getfield 7, 3) := by decide +kernel
theorem d_M_write_88 : decode prog_13_method_78_code 88 = .ok (.iload_n 2, 1) := by decide +kernel
theorem d_M_write_89 : decode prog_13_method_78_code 89 = .ok (.iaload, 1) := by decide +kernel
theorem d_M_write_90 : decode prog_13_method_78_code 90 = .ok (.aload_n 0, 1) := by decide +kernel
theorem d_M_write_91 : decode prog_13_method_78_code 91 = .ok (.iload_n 1, 1) := by decide +kernel
theorem d_M_write_92 : decode prog_13_method_78_code 92 = .ok (.iload 4, 2) := by decide +kernel
theorem d_M_write_94 : decode prog_13_method_78_code 94 = .ok (.invokevirtual 176, 3) := by decide +kernel
theorem d_M_write_97 : decode prog_13_method_78_code 97 = .ok (.invokestatic 100, 3) := by decide +kernel
theorem d_M_write_100 : decode prog_13_method_78_code 100 = .ok (.iastore, 1) := by decide +kernel
theorem d_M_write_101 : decode prog_13_method_78_code 101 = .ok (.iinc 4 1, 3) := by decide +kernel
theorem d_M_write_104 : decode prog_13_method_78_code 104 = .ok (.goto (-37), 3) := by decide +kernel
theorem d_M_write_107 : decode prog_13_method_78_code 107 = .ok (.iload_n 3, 1) := by decide +kernel
theorem d_M_write_108 : decode prog_13_method_78_code 108 = .ok (.ireturn, 1) := by decide +kernel
theorem d_M_count_0 : decode prog_13_method_79_code 0 = .ok (.iconst 0, 1) := by decide +kernel
theorem d_M_count_1 : decode prog_13_method_79_code 1 = .ok (.istore_n 2, 1) := by decide +kernel
theorem d_M_count_2 : decode prog_13_method_79_code 2 = .ok (.aload_n 0, 1) := by decide +kernel
theorem d_M_count_3 : decode prog_13_method_79_code 3 = .ok (.invokevirtual 131, 3) := by decide +kernel
theorem d_M_count_6 : decode prog_13_method_79_code 6 = .ok (.pop, 1) := by decide +kernel
theorem d_M_count_7 : decode prog_13_method_79_code 7 = .ok (.iload_n 1, 1) := by decide +kernel
theorem d_M_count_8 : decode prog_13_method_79_code 8 = .ok (.tableswitch 163 0 8 #[52, 57, 62, 89, 106, 143, 148, 148, 158], 52) := by decide +kernel
theorem d_M_count_60 : decode prog_13_method_79_code 60 = .ok (.aload_n 0, 1) := by decide +kernel
theorem d_M_count_61 : decode prog_13_method_79_code 61 = .ok (.getfield 113, 3) := by decide +kernel
theorem d_M_count_64 : decode prog_13_method_79_code 64 = .ok (.ireturn, 1) := by decide +kernel
theorem d_M_count_65 : decode prog_13_method_79_code 65 = .ok (.aload_n 0, 1) := by decide +kernel
theorem d_M_count_66 : decode prog_13_method_79_code 66 = .ok (.getfield 107, 3) := by decide +kernel
theorem d_M_count_69 : decode prog_13_method_79_code 69 = .ok (.ireturn, 1) := by decide +kernel
theorem d_M_count_70 : decode prog_13_method_79_code 70 = .ok (.iconst 0, 1) := by decide +kernel
theorem d_M_count_71 : decode prog_13_method_79_code 71 = .ok (.istore_n 3, 1) := by decide +kernel
theorem d_M_count_72 : decode prog_13_method_79_code 72 = .ok (.iload_n 3, 1) := by decide +kernel
theorem d_M_count_73 : decode prog_13_method_79_code 73 = .ok (.aload_n 0, 1) := by decide +kernel
theorem d_M_count_74 : decode prog_13_method_79_code 74 = .ok (.getfield 113, 3) := by decide +kernel
theorem d_M_count_77 : decode prog_13_method_79_code 77 = .ok (.if_icmp .ge 18, 3) := by decide +kernel
theorem d_M_count_80 : decode prog_13_method_79_code 80 = .ok (.iload_n 2, 1) := by decide +kernel
theorem d_M_count_81 : decode prog_13_method_79_code 81 = .ok (.aload_n 0, 1) := by decide +kernel
theorem d_M_count_82 : decode prog_13_method_79_code 82 = .ok (.getfield 28, 3) := by decide +kernel
theorem d_M_count_85 : decode prog_13_method_79_code 85 = .ok (.iload_n 3, 1) := by decide +kernel
theorem d_M_count_86 : decode prog_13_method_79_code 86 = .ok (.iaload, 1) := by decide +kernel
theorem d_M_count_87 : decode prog_13_method_79_code 87 = .ok (.iadd, 1) := by decide +kernel
theorem d_M_count_88 : decode prog_13_method_79_code 88 = .ok (.istore_n 2, 1) := by decide +kernel
theorem d_M_count_89 : decode prog_13_method_79_code 89 = .ok (.iinc 3 1, 3) := by decide +kernel
theorem d_M_count_92 : decode prog_13_method_79_code 92 = .ok (.goto (-20), 3) := by decide +kernel
theorem d_M_count_95 : decode prog_13_method_79_code 95 = .ok (.iload_n 2, 1) := by decide +kernel
theorem d_M_count_96 : decode prog_13_method_79_code 96 = .ok (.ireturn, 1) := by decide +kernel
theorem d_M_count_97 : decode prog_13_method_79_code 97 = .ok (.aload_n 0, 1) := by decide +kernel
theorem d_M_count_98 : decode prog_13_method_79_code 98 = .ok (.getfield 140, 3) := by decide +kernel
theorem d_M_count_101 : decode prog_13_method_79_code 101 = .ok (.iconst 1, 1) := by decide +kernel
theorem d_M_count_102 : decode prog_13_method_79_code 102 = .ok (.aload_n 0, 1) := by decide +kernel
theorem d_M_count_103 : decode prog_13_method_79_code 103 = .ok (.getfield 113, 3) := by decide +kernel
theorem d_M_count_106 : decode prog_13_method_79_code 106 = .ok (.ishl, 1) := by decide +kernel
theorem d_M_count_107 : decode prog_13_method_79_code 107 = .ok (.iconst 1, 1) := by decide +kernel
theorem d_M_count_108 : decode prog_13_method_79_code 108 = .ok (.isub, 1) := by decide +kernel
theorem d_M_count_109 : decode prog_13_method_79_code 109 = .ok (.iand, 1) := by decide +kernel
theorem d_M_count_110 : decode prog_13_method_79_code 110 = .ok (.invokestatic 246, 3) := by decide +kernel
theorem d_M_count_113 : decode prog_13_method_79_code 113 = .ok (.ireturn, 1) := by decide +kernel
theorem d_M_count_114 : decode prog_13_method_79_code 114 = .ok (.iconst 0, 1) := by decide +kernel
theorem d_M_count_115 : decode prog_13_method_79_code 115 = .ok (.istore_n 3, 1) := by decide +kernel
theorem d_M_count_116 : decode prog_13_method_79_code 116 = .ok (.iload_n 3, 1) := by decide +kernel
theorem d_M_count_117 : decode prog_13_method_79_code 117 = .ok (.bipush 6, 2) := by decide +kernel
theorem d_M_count_119 : decode prog_13_method_79_code 119 = .ok (.if_icmp .ge 30, 3) := by decide +kernel
theorem d_M_count_122 : decode prog_13_method_79_code 122 = .ok (.iload_n 2, 1) := by decide +kernel
theorem d_M_count_123 : decode prog_13_method_79_code 123 = .ok (.aload_n 0, 1) := by decide +kernel
theorem d_M_count_124 : decode prog_13_method_79_code 124 = .ok (.getfield 34, 3) := by decide +kernel
theorem d_M_count_127 : decode prog_13_method_79_code 127 = .ok (.iload_n 3, 1) := by decide +kernel
theorem d_M_count_128 : decode prog_13_method_79_code 128 = .ok (.iaload, 1) := by decide +kernel
theorem d_M_count_129 : decode prog_13_method_79_code 129 = .ok (.iconst 1, 1) := by decide +kernel
theorem d_M_count_130 : decode prog_13_method_79_code 130 = .ok (.aload_n 0, 1) := by decide +kernel
theorem d_M_count_131 : decode prog_13_method_79_code 131 = .ok (.getfield 113, 3) := by decide +kernel
theorem d_M_count_134 : decode prog_13_method_79_code 134 = .ok (.ishl, 1) := by decide +kernel
theorem d_M_count_135 : decode prog_13_method_79_code 135 = .ok (.iconst 1, 1) := by decide +kernel
theorem d_M_count_136 : decode prog_13_method_79_code 136 = .ok (.isub, 1) := by decide +kernel
theorem d_M_count_137 : decode prog_13_method_79_code 137 = .ok (.iand, 1) := by decide +kernel
theorem d_M_count_138 : decode prog_13_method_79_code 138 = .ok (.invokestatic 246, 3) := by decide +kernel
theorem d_M_count_141 : decode prog_13_method_79_code 141 = .ok (.iadd, 1) := by decide +kernel
theorem d_M_count_142 : decode prog_13_method_79_code 142 = .ok (.istore_n 2, 1) := by decide +kernel
theorem d_M_count_143 : decode prog_13_method_79_code 143 = .ok (.iinc 3 1, 3) := by decide +kernel
theorem d_M_count_146 : decode prog_13_method_79_code 146 = .ok (.goto (-30), 3) := by decide +kernel
theorem d_M_count_149 : decode prog_13_method_79_code 149 = .ok (.iload_n 2, 1) := by decide +kernel
theorem d_M_count_150 : decode prog_13_method_79_code 150 = .ok (.ireturn, 1) := by decide +kernel
theorem d_M_count_151 : decode prog_13_method_79_code 151 = .ok (.aload_n 0, 1) := by decide +kernel
theorem d_M_count_152 : decode prog_13_method_79_code 152 = .ok (.getfield 261, 3) := by decide +kernel
theorem d_M_count_155 : decode prog_13_method_79_code 155 = .ok (.ireturn, 1) := by decide +kernel
theorem d_M_count_156 : decode prog_13_method_79_code 156 = .ok (.aload_n 0, 1) := by decide +kernel
theorem d_M_count_157 : decode prog_13_method_79_code 157 = .ok (.getfield 46, 3) := by decide +kernel
theorem d_M_count_160 : decode prog_13_method_79_code 160 = .ok (.iload_n 1, 1) := by decide +kernel
theorem d_M_count_161 : decode prog_13_method_79_code 161 = .ok (.bipush 6, 2) := by decide +kernel
theorem d_M_count_163 : decode prog_13_method_79_code 163 = .ok (.isub, 1) := by decide +kernel
theorem d_M_count_164 : decode prog_13_method_79_code 164 = .ok (.iaload, 1) := by decide +kernel
theorem d_M_count_165 : decode prog_13_method_79_code 165 = .ok (.ireturn, 1) := by decide +kernel
theorem d_M_count_166 : decode prog_13_method_79_code 166 = .ok (.aload_n 0, 1) := by decide +kernel
theorem d_M_count_167 : decode prog_13_method_79_code 167 = .ok (.getfield 80, 3) := by decide +kernel
theorem d_M_count_170 : decode prog_13_method_79_code 170 = .ok (.ireturn, 1) := by decide +kernel
theorem d_M_count_171 : decode prog_13_method_79_code 171 = .ok (.bipush (-2), 2) := by decide +kernel
theorem d_M_count_173 : decode prog_13_method_79_code 173 = .ok (.ireturn, 1) := by decide +kernel
theorem d_M_digest_0 : decode prog_13_method_80_code 0 = .ok (.ldc2_w 302, 3) := by decide +kernel
theorem d_M_digest_3 : decode prog_13_method_80_code 3 = .ok (.lstore_n 1, 1) := by decide +kernel
theorem d_M_digest_4 : decode prog_13_method_80_code 4 = .ok (.iconst 0, 1) := by decide +kernel
theorem d_M_digest_5 : decode prog_13_method_80_code 5 = .ok (.istore_n 3, 1) := by decide +kernel
theorem d_M_digest_6 : decode prog_13_method_80_code 6 = .ok (.iload_n 3, 1) := by decide +kernel
theorem d_M_digest_7 : decode prog_13_method_80_code 7 = .ok (.bipush 8, 2) := by decide +kernel
theorem d_M_digest_9 : decode prog_13_method_80_code 9 = .ok (.if_icmp .ge 22, 3) := by decide +kernel
theorem d_M_digest_12 : decode prog_13_method_80_code 12 = .ok (.ldc2_w 304, 3) := by decide +kernel
theorem d_M_digest_15 : decode prog_13_method_80_code 15 = .ok (.lload_n 1, 1) := by decide +kernel
theorem d_M_digest_16 : decode prog_13_method_80_code 16 = .ok (.lmul, 1) := by decide +kernel
theorem d_M_digest_17 : decode prog_13_method_80_code 17 = .ok (.aload_n 0, 1) := by decide +kernel
theorem d_M_digest_18 : decode prog_13_method_80_code 18 = .ok (.iload_n 3, 1) := by decide +kernel
theorem d_M_digest_19 : decode prog_13_method_80_code 19 = .ok (.invokevirtual 306, 3) := by decide +kernel
theorem d_M_digest_22 : decode prog_13_method_80_code 22 = .ok (.i2l, 1) := by decide +kernel
theorem d_M_digest_23 : decode prog_13_method_80_code 23 = .ok (.ladd, 1) := by decide +kernel
theorem d_M_digest_24 : decode prog_13_method_80_code 24 = .ok (.lstore_n 1, 1) := by decide +kernel
theorem d_M_digest_25 : decode prog_13_method_80_code 25 = .ok (.iinc 3 1, 3) := by decide +kernel
theorem d_M_digest_28 : decode prog_13_method_80_code 28 = .ok (.goto (-22), 3) := by decide +kernel
theorem d_M_digest_31 : decode prog_13_method_80_code 31 = .ok (.ldc2_w 304, 3) := by decide +kernel
theorem d_M_digest_34 : decode prog_13_method_80_code 34 = .ok (.lload_n 1, 1) := by decide +kernel
theorem d_M_digest_35 : decode prog_13_method_80_code 35 = .ok (.lmul, 1) := by decide +kernel
theorem d_M_digest_36 : decode prog_13_method_80_code 36 = .ok (.aload_n 0, 1) := by decide +kernel
theorem d_M_digest_37 : decode prog_13_method_80_code 37 = .ok (.invokevirtual 131, 3) := by decide +kernel
theorem d_M_digest_40 : decode prog_13_method_80_code 40 = .ok (.i2l, 1) := by decide +kernel
theorem d_M_digest_41 : decode prog_13_method_80_code 41 = .ok (.ladd, 1) := by decide +kernel
theorem d_M_digest_42 : decode prog_13_method_80_code 42 = .ok (.lstore_n 1, 1) := by decide +kernel
theorem d_M_digest_43 : decode prog_13_method_80_code 43 = .ok (.aload_n 0, 1) := by decide +kernel
theorem d_M_digest_44 : decode prog_13_method_80_code 44 = .ok (.iconst 0, 1) := by decide +kernel
theorem d_M_digest_45 : decode prog_13_method_80_code 45 = .ok (.iconst 1, 1) := by decide +kernel
theorem d_M_digest_46 : decode prog_13_method_80_code 46 = .ok (.invokevirtual 226, 3) := by decide +kernel
theorem d_M_digest_49 : decode prog_13_method_80_code 49 = .ok (.iconst 0, 1) := by decide +kernel
theorem d_M_digest_50 : decode prog_13_method_80_code 50 = .ok (.istore_n 3, 1) := by decide +kernel
theorem d_M_digest_51 : decode prog_13_method_80_code 51 = .ok (.iload_n 3, 1) := by decide +kernel
theorem d_M_digest_52 : decode prog_13_method_80_code 52 = .ok (.aload_n 0, 1) := by decide +kernel
theorem d_M_digest_53 : decode prog_13_method_80_code 53 = .ok (.getfield 113, 3) := by decide +kernel
theorem d_M_digest_56 : decode prog_13_method_80_code 56 = .ok (.if_icmp .ge 147, 3) := by decide +kernel
theorem d_M_digest_59 : decode prog_13_method_80_code 59 = .ok (.iconst 0, 1) := by decide +kernel
theorem d_M_digest_60 : decode prog_13_method_80_code 60 = .ok (.istore 4, 2) := by decide +kernel
theorem d_M_digest_62 : decode prog_13_method_80_code 62 = .ok (.iload 4, 2) := by decide +kernel
theorem d_M_digest_64 : decode prog_13_method_80_code 64 = .ok (.iconst 3, 1) := by decide +kernel
theorem d_M_digest_65 : decode prog_13_method_80_code 65 = .ok (.if_icmp .ge 24, 3) := by decide +kernel
theorem d_M_digest_68 : decode prog_13_method_80_code 68 = .ok (.ldc2_w 304, 3) := by decide +kernel
theorem d_M_digest_71 : decode prog_13_method_80_code 71 = .ok (.lload_n 1, 1) := by decide +kernel
theorem d_M_digest_72 : decode prog_13_method_80_code 72 = .ok (.lmul, 1) := by decide +kernel
theorem d_M_digest_73 : decode prog_13_method_80_code 73 = .ok (.aload_n 0, 1) := by decide +kernel
theorem d_M_digest_74 : decode prog_13_method_80_code 74 = .ok (.iload_n 3, 1) := by decide +kernel
theorem d_M_digest_75 : decode prog_13_method_80_code 75 = .ok (.iload 4, 2) := by decide +kernel
theorem d_M_digest_77 : decode prog_13_method_80_code 77 = .ok (.invokevirtual 146, 3) := by decide +kernel
theorem d_M_digest_80 : decode prog_13_method_80_code 80 = .ok (.i2l, 1) := by decide +kernel
theorem d_M_digest_81 : decode prog_13_method_80_code 81 = .ok (.ladd, 1) := by decide +kernel
theorem d_M_digest_82 : decode prog_13_method_80_code 82 = .ok (.lstore_n 1, 1) := by decide +kernel
theorem d_M_digest_83 : decode prog_13_method_80_code 83 = .ok (.iinc 4 1, 3) := by decide +kernel
theorem d_M_digest_86 : decode prog_13_method_80_code 86 = .ok (.goto (-24), 3) := by decide +kernel
theorem d_M_digest_89 : decode prog_13_method_80_code 89 = .ok (.iconst 0, 1) := by decide +kernel
theorem d_M_digest_90 : decode prog_13_method_80_code 90 = .ok (.istore 4, 2) := by decide +kernel
theorem d_M_digest_92 : decode prog_13_method_80_code 92 = .ok (.iload 4, 2) := by decide +kernel
theorem d_M_digest_94 : decode prog_13_method_80_code 94 = .ok (.bipush 6, 2) := by decide +kernel
theorem d_M_digest_96 : decode prog_13_method_80_code 96 = .ok (.if_icmp .ge 24, 3) := by decide +kernel
theorem d_M_digest_99 : decode prog_13_method_80_code 99 = .ok (.ldc2_w 304, 3) := by decide +kernel
theorem d_M_digest_102 : decode prog_13_method_80_code 102 = .ok (.lload_n 1, 1) := by decide +kernel
theorem d_M_digest_103 : decode prog_13_method_80_code 103 = .ok (.lmul, 1) := by decide +kernel
theorem d_M_digest_104 : decode prog_13_method_80_code 104 = .ok (.aload_n 0, 1) := by decide +kernel
theorem d_M_digest_105 : decode prog_13_method_80_code 105 = .ok (.iload 4, 2) := by decide +kernel
theorem d_M_digest_107 : decode prog_13_method_80_code 107 = .ok (.iload_n 3, 1) := by decide +kernel
theorem d_M_digest_108 : decode prog_13_method_80_code 108 = .ok (.invokevirtual 176, 3) := by decide +kernel
theorem d_M_digest_111 : decode prog_13_method_80_code 111 = .ok (.i2l, 1) := by decide +kernel
theorem d_M_digest_112 : decode prog_13_method_80_code 112 = .ok (.ladd, 1) := by decide +kernel
theorem d_M_digest_113 : decode prog_13_method_80_code 113 = .ok (.lstore_n 1, 1) := by decide +kernel
theorem d_M_digest_114 : decode prog_13_method_80_code 114 = .ok (.iinc 4 1, 3) := by decide +kernel
theorem d_M_digest_117 : decode prog_13_method_80_code 117 = .ok (.goto (-25), 3) := by decide +kernel
theorem d_M_digest_120 : decode prog_13_method_80_code 120 = .ok (.iconst 0, 1) := by decide +kernel
theorem d_M_digest_121 : decode prog_13_method_80_code 121 = .ok (.istore 4, 2) := by decide +kernel
theorem d_M_digest_123 : decode prog_13_method_80_code 123 = .ok (.iload 4, 2) := by decide +kernel
theorem d_M_digest_125 : decode prog_13_method_80_code 125 = .ok (.iconst 3, 1) := by decide +kernel
theorem d_M_digest_126 : decode prog_13_method_80_code 126 = .ok (.if_icmp .ge 25, 3) := by decide +kernel
theorem d_M_digest_129 : decode prog_13_method_80_code 129 = .ok (.ldc2_w 304, 3) := by decide +kernel
theorem d_M_digest_132 : decode prog_13_method_80_code 132 = .ok (.lload_n 1, 1) := by decide +kernel
theorem d_M_digest_133 : decode prog_13_method_80_code 133 = .ok (.lmul, 1) := by decide +kernel
theorem d_M_digest_134 : decode prog_13_method_80_code 134 = .ok (.aload_n 0, 1) := by decide +kernel
theorem d_M_digest_135 : decode prog_13_method_80_code 135 = .ok (.iconst 3, 1) := by decide +kernel
theorem d_M_digest_136 : decode prog_13_method_80_code 136 = .ok (.iload_n 3, 1) := by decide +kernel
theorem d_M_digest_137 : decode prog_13_method_80_code 137 = .ok (.iload 4, 2) := by decide +kernel
theorem d_M_digest_139 : decode prog_13_method_80_code 139 = .ok (.invokevirtual 201, 3) := by decide +kernel
theorem d_M_digest_142 : decode prog_13_method_80_code 142 = .ok (.i2l, 1) := by decide +kernel
theorem d_M_digest_143 : decode prog_13_method_80_code 143 = .ok (.ladd, 1) := by decide +kernel
theorem d_M_digest_144 : decode prog_13_method_80_code 144 = .ok (.lstore_n 1, 1) := by decide +kernel
theorem d_M_digest_145 : decode prog_13_method_80_code 145 = .ok (.iinc 4 1, 3) := by decide +kernel
theorem d_M_digest_148 : decode prog_13_method_80_code 148 = .ok (.goto (-25), 3) := by decide +kernel
theorem d_M_digest_151 : decode prog_13_method_80_code 151 = .ok (.ldc2_w 304, 3) := by decide +kernel
theorem d_M_digest_154 : decode prog_13_method_80_code 154 = .ok (.lload_n 1, 1) := by decide +kernel
theorem d_M_digest_155 : decode prog_13_method_80_code 155 = .ok (.lmul, 1) := by decide +kernel
theorem d_M_digest_156 : decode prog_13_method_80_code 156 = .ok (.aload_n 0, 1) := by decide +kernel
theorem d_M_digest_157 : decode prog_13_method_80_code 157 = .ok (.iconst 3, 1) := by decide +kernel
theorem d_M_digest_158 : decode prog_13_method_80_code 158 = .ok (.iload_n 3, 1) := by decide +kernel
theorem d_M_digest_159 : decode prog_13_method_80_code 159 = .ok (.iconst 1, 1) := by decide +kernel
theorem d_M_digest_160 : decode prog_13_method_80_code 160 = .ok (.iconst 0, 1) := by decide +kernel
theorem d_M_digest_161 : decode prog_13_method_80_code 161 = .ok (.invokevirtual 204, 3) := by decide +kernel
theorem d_M_digest_164 : decode prog_13_method_80_code 164 = .ok (.i2l, 1) := by decide +kernel
theorem d_M_digest_165 : decode prog_13_method_80_code 165 = .ok (.ladd, 1) := by decide +kernel
theorem d_M_digest_166 : decode prog_13_method_80_code 166 = .ok (.lstore_n 1, 1) := by decide +kernel
theorem d_M_digest_167 : decode prog_13_method_80_code 167 = .ok (.ldc2_w 304, 3) := by decide +kernel
theorem d_M_digest_170 : decode prog_13_method_80_code 170 = .ok (.lload_n 1, 1) := by decide +kernel
theorem d_M_digest_171 : decode prog_13_method_80_code 171 = .ok (.lmul, 1) := by decide +kernel
theorem d_M_digest_172 : decode prog_13_method_80_code 172 = .ok (.aload_n 0, 1) := by decide +kernel
theorem d_M_digest_173 : decode prog_13_method_80_code 173 = .ok (.iconst 3, 1) := by decide +kernel
theorem d_M_digest_174 : decode prog_13_method_80_code 174 = .ok (.iload_n 3, 1) := by decide +kernel
theorem d_M_digest_175 : decode prog_13_method_80_code 175 = .ok (.iconst 1, 1) := by decide +kernel
theorem d_M_digest_176 : decode prog_13_method_80_code 176 = .ok (.iconst 1, 1) := by decide +kernel
theorem d_M_digest_177 : decode prog_13_method_80_code 177 = .ok (.invokevirtual 204, 3) := by decide +kernel
theorem d_M_digest_180 : decode prog_13_method_80_code 180 = .ok (.i2l, 1) := by decide +kernel
theorem d_M_digest_181 : decode prog_13_method_80_code 181 = .ok (.ladd, 1) := by decide +kernel
theorem d_M_digest_182 : decode prog_13_method_80_code 182 = .ok (.lstore_n 1, 1) := by decide +kernel
theorem d_M_digest_183 : decode prog_13_method_80_code 183 = .ok (.ldc2_w 304, 3) := by decide +kernel
theorem d_M_digest_186 : decode prog_13_method_80_code 186 = .ok (.lload_n 1, 1) := by decide +kernel
theorem d_M_digest_187 : decode prog_13_method_80_code 187 = .ok (.lmul, 1) := by decide +kernel
theorem d_M_digest_188 : decode prog_13_method_80_code 188 = .ok (.aload_n 0, 1) := by decide +kernel
theorem d_M_digest_189 : decode prog_13_method_80_code 189 = .ok (.getfield 55, 3) := by decide +kernel
theorem d_M_digest_192 : decode prog_13_method_80_code 192 = .ok (.iload_n 3, 1) := by decide +kernel
theorem d_M_digest_193 : decode prog_13_method_80_code 193 = .ok (.iaload, 1) := by decide +kernel
theorem d_M_digest_194 : decode prog_13_method_80_code 194 = .ok (.i2l, 1) := by decide +kernel
theorem d_M_digest_195 : decode prog_13_method_80_code 195 = .ok (.ladd, 1) := by decide +kernel
theorem d_M_digest_196 : decode prog_13_method_80_code 196 = .ok (.lstore_n 1, 1) := by decide +kernel
theorem d_M_digest_197 : decode prog_13_method_80_code 197 = .ok (.iinc 3 1, 3) := by decide +kernel
theorem d_M_digest_200 : decode prog_13_method_80_code 200 = .ok (.goto (-149), 3) := by decide +kernel
theorem d_M_digest_203 : decode prog_13_method_80_code 203 = .ok (.iconst 0, 1) := by decide +kernel
theorem d_M_digest_204 : decode prog_13_method_80_code 204 = .ok (.istore_n 3, 1) := by decide +kernel
theorem d_M_digest_205 : decode prog_13_method_80_code 205 = .ok (.iload_n 3, 1) := by decide +kernel
theorem d_M_digest_206 : decode prog_13_method_80_code 206 = .ok (.iconst 3, 1) := by decide +kernel
theorem d_M_digest_207 : decode prog_13_method_80_code 207 = .ok (.if_icmp .ge 22, 3) := by decide +kernel
theorem d_M_digest_210 : decode prog_13_method_80_code 210 = .ok (.ldc2_w 304, 3) := by decide +kernel
theorem d_M_digest_213 : decode prog_13_method_80_code 213 = .ok (.lload_n 1, 1) := by decide +kernel
theorem d_M_digest_214 : decode prog_13_method_80_code 214 = .ok (.lmul, 1) := by decide +kernel
theorem d_M_digest_215 : decode prog_13_method_80_code 215 = .ok (.aload_n 0, 1) := by decide +kernel
theorem d_M_digest_216 : decode prog_13_method_80_code 216 = .ok (.iload_n 3, 1) := by decide +kernel
theorem d_M_digest_217 : decode prog_13_method_80_code 217 = .ok (.invokevirtual 229, 3) := by decide +kernel
theorem d_M_digest_220 : decode prog_13_method_80_code 220 = .ok (.i2l, 1) := by decide +kernel
theorem d_M_digest_221 : decode prog_13_method_80_code 221 = .ok (.ladd, 1) := by decide +kernel
theorem d_M_digest_222 : decode prog_13_method_80_code 222 = .ok (.lstore_n 1, 1) := by decide +kernel
theorem d_M_digest_223 : decode prog_13_method_80_code 223 = .ok (.iinc 3 1, 3) := by decide +kernel
theorem d_M_digest_226 : decode prog_13_method_80_code 226 = .ok (.goto (-21), 3) := by decide +kernel
theorem d_M_digest_229 : decode prog_13_method_80_code 229 = .ok (.aload_n 0, 1) := by decide +kernel
theorem d_M_digest_230 : decode prog_13_method_80_code 230 = .ok (.iconst 4, 1) := by decide +kernel
theorem d_M_digest_231 : decode prog_13_method_80_code 231 = .ok (.iconst 5, 1) := by decide +kernel
theorem d_M_digest_232 : decode prog_13_method_80_code 232 = .ok (.invokevirtual 226, 3) := by decide +kernel
theorem d_M_digest_235 : decode prog_13_method_80_code 235 = .ok (.iconst 0, 1) := by decide +kernel
theorem d_M_digest_236 : decode prog_13_method_80_code 236 = .ok (.istore_n 3, 1) := by decide +kernel
theorem d_M_digest_237 : decode prog_13_method_80_code 237 = .ok (.iload_n 3, 1) := by decide +kernel
theorem d_M_digest_238 : decode prog_13_method_80_code 238 = .ok (.iconst 3, 1) := by decide +kernel
theorem d_M_digest_239 : decode prog_13_method_80_code 239 = .ok (.if_icmp .ge 22, 3) := by decide +kernel
theorem d_M_digest_242 : decode prog_13_method_80_code 242 = .ok (.ldc2_w 304, 3) := by decide +kernel
theorem d_M_digest_245 : decode prog_13_method_80_code 245 = .ok (.lload_n 1, 1) := by decide +kernel
theorem d_M_digest_246 : decode prog_13_method_80_code 246 = .ok (.lmul, 1) := by decide +kernel
theorem d_M_digest_247 : decode prog_13_method_80_code 247 = .ok (.aload_n 0, 1) := by decide +kernel
theorem d_M_digest_248 : decode prog_13_method_80_code 248 = .ok (.iload_n 3, 1) := by decide +kernel
theorem d_M_digest_249 : decode prog_13_method_80_code 249 = .ok (.invokevirtual 229, 3) := by decide +kernel
theorem d_M_digest_252 : decode prog_13_method_80_code 252 = .ok (.i2l, 1) := by decide +kernel
theorem d_M_digest_253 : decode prog_13_method_80_code 253 = .ok (.ladd, 1) := by decide +kernel
theorem d_M_digest_254 : decode prog_13_method_80_code 254 = .ok (.lstore_n 1, 1) := by decide +kernel
theorem d_M_digest_255 : decode prog_13_method_80_code 255 = .ok (.iinc 3 1, 3) := by decide +kernel
theorem d_M_digest_258 : decode prog_13_method_80_code 258 = .ok (.goto (-21), 3) := by decide +kernel
theorem d_M_digest_261 : decode prog_13_method_80_code 261 = .ok (.ldc2_w 304, 3) := by decide +kernel
theorem d_M_digest_264 : decode prog_13_method_80_code 264 = .ok (.lload_n 1, 1) := by decide +kernel
theorem d_M_digest_265 : decode prog_13_method_80_code 265 = .ok (.lmul, 1) := by decide +kernel
theorem d_M_digest_266 : decode prog_13_method_80_code 266 = .ok (.aload_n 0, 1) := by decide +kernel
theorem d_M_digest_267 : decode prog_13_method_80_code 267 = .ok (.iconst 0, 1) := by decide +kernel
theorem d_M_digest_268 : decode prog_13_method_80_code 268 = .ok (.iconst 1, 1) := by decide +kernel
theorem d_M_digest_269 : decode prog_13_method_80_code 269 = .ok (.iconst (-1), 1) := by decide +kernel
theorem d_M_digest_270 : decode prog_13_method_80_code 270 = .ok (.invokevirtual 242, 3) := by decide +kernel
theorem d_M_digest_273 : decode prog_13_method_80_code 273 = .ok (.i2l, 1) := by decide +kernel
theorem d_M_digest_274 : decode prog_13_method_80_code 274 = .ok (.ladd, 1) := by decide +kernel
theorem d_M_digest_275 : decode prog_13_method_80_code 275 = .ok (.lstore_n 1, 1) := by decide +kernel
theorem d_M_digest_276 : decode prog_13_method_80_code 276 = .ok (.ldc2_w 304, 3) := by decide +kernel
theorem d_M_digest_279 : decode prog_13_method_80_code 279 = .ok (.lload_n 1, 1) := by decide +kernel
theorem d_M_digest_280 : decode prog_13_method_80_code 280 = .ok (.lmul, 1) := by decide +kernel
theorem d_M_digest_281 : decode prog_13_method_80_code 281 = .ok (.aload_n 0, 1) := by decide +kernel
theorem d_M_digest_282 : decode prog_13_method_80_code 282 = .ok (.iconst 0, 1) := by decide +kernel
theorem d_M_digest_283 : decode prog_13_method_80_code 283 = .ok (.iconst 1, 1) := by decide +kernel
theorem d_M_digest_284 : decode prog_13_method_80_code 284 = .ok (.iconst 0, 1) := by decide +kernel
theorem d_M_digest_285 : decode prog_13_method_80_code 285 = .ok (.invokevirtual 242, 3) := by decide +kernel
theorem d_M_digest_288 : decode prog_13_method_80_code 288 = .ok (.i2l, 1) := by decide +kernel
theorem d_M_digest_289 : decode prog_13_method_80_code 289 = .ok (.ladd, 1) := by decide +kernel
theorem d_M_digest_290 : decode prog_13_method_80_code 290 = .ok (.lstore_n 1, 1) := by decide +kernel
theorem d_M_digest_291 : decode prog_13_method_80_code 291 = .ok (.ldc2_w 304, 3) := by decide +kernel
theorem d_M_digest_294 : decode prog_13_method_80_code 294 = .ok (.lload_n 1, 1) := by decide +kernel
theorem d_M_digest_295 : decode prog_13_method_80_code 295 = .ok (.lmul, 1) := by decide +kernel
theorem d_M_digest_296 : decode prog_13_method_80_code 296 = .ok (.aload_n 0, 1) := by decide +kernel
theorem d_M_digest_297 : decode prog_13_method_80_code 297 = .ok (.iconst 0, 1) := by decide +kernel
theorem d_M_digest_298 : decode prog_13_method_80_code 298 = .ok (.iconst 1, 1) := by decide +kernel
theorem d_M_digest_299 : decode prog_13_method_80_code 299 = .ok (.iconst 2, 1) := by decide +kernel
theorem d_M_digest_300 : decode prog_13_method_80_code 300 = .ok (.iconst 1, 1) := by decide +kernel
theorem d_M_digest_301 : decode prog_13_method_80_code 301 = .ok (.invokevirtual 235, 3) := by decide +kernel
theorem d_M_digest_304 : decode prog_13_method_80_code 304 = .ok (.i2l, 1) := by decide +kernel
theorem d_M_digest_305 : decode prog_13_method_80_code 305 = .ok (.ladd, 1) := by decide +kernel
theorem d_M_digest_306 : decode prog_13_method_80_code 306 = .ok (.lstore_n 1, 1) := by decide +kernel
theorem d_M_digest_307 : decode prog_13_method_80_code 307 = .ok (.ldc2_w 304, 3) := by decide +kernel
theorem d_M_digest_310 : decode prog_13_method_80_code 310 = .ok (.lload_n 1, 1) := by decide +kernel
theorem d_M_digest_311 : decode prog_13_method_80_code 311 = .ok (.lmul, 1) := by decide +kernel
theorem d_M_digest_312 : decode prog_13_method_80_code 312 = .ok (.aload_n 0, 1) := by decide +kernel
theorem d_M_digest_313 : decode prog_13_method_80_code 313 = .ok (.iconst 1, 1) := by decide +kernel
theorem d_M_digest_314 : decode prog_13_method_80_code 314 = .ok (.iconst 0, 1) := by decide +kernel
theorem d_M_digest_315 : decode prog_13_method_80_code 315 = .ok (.iconst 1, 1) := by decide +kernel
theorem d_M_digest_316 : decode prog_13_method_80_code 316 = .ok (.iconst 2, 1) := by decide +kernel
theorem d_M_digest_317 : decode prog_13_method_80_code 317 = .ok (.invokevirtual 235, 3) := by decide +kernel
theorem d_M_digest_320 : decode prog_13_method_80_code 320 = .ok (.i2l, 1) := by decide +kernel
theorem d_M_digest_321 : decode prog_13_method_80_code 321 = .ok (.ladd, 1) := by decide +kernel
theorem d_M_digest_322 : decode prog_13_method_80_code 322 = .ok (.lstore_n 1, 1) := by decide +kernel
theorem d_M_digest_323 : decode prog_13_method_80_code 323 = .ok (.ldc2_w 304, 3) := by decide +kernel
theorem d_M_digest_326 : decode prog_13_method_80_code 326 = .ok (.lload_n 1, 1) := by decide +kernel
theorem d_M_digest_327 : decode prog_13_method_80_code 327 = .ok (.lmul, 1) := by decide +kernel
theorem d_M_digest_328 : decode prog_13_method_80_code 328 = .ok (.aload_n 0, 1) := by decide +kernel
theorem d_M_digest_329 : decode prog_13_method_80_code 329 = .ok (.bipush 63, 2) := by decide +kernel
theorem d_M_digest_331 : decode prog_13_method_80_code 331 = .ok (.iconst (-1), 1) := by decide +kernel
theorem d_M_digest_332 : decode prog_13_method_80_code 332 = .ok (.invokevirtual 258, 3) := by decide +kernel
theorem d_M_digest_335 : decode prog_13_method_80_code 335 = .ok (.i2l, 1) := by decide +kernel
theorem d_M_digest_336 : decode prog_13_method_80_code 336 = .ok (.ladd, 1) := by decide +kernel
theorem d_M_digest_337 : decode prog_13_method_80_code 337 = .ok (.lstore_n 1, 1) := by decide +kernel
theorem d_M_digest_338 : decode prog_13_method_80_code 338 = .ok (.iconst 0, 1) := by decide +kernel
theorem d_M_digest_339 : decode prog_13_method_80_code 339 = .ok (.istore_n 3, 1) := by decide +kernel
theorem d_M_digest_340 : decode prog_13_method_80_code 340 = .ok (.iload_n 3, 1) := by decide +kernel
theorem d_M_digest_341 : decode prog_13_method_80_code 341 = .ok (.bipush 6, 2) := by decide +kernel
theorem d_M_digest_343 : decode prog_13_method_80_code 343 = .ok (.if_icmp .ge 54, 3) := by decide +kernel
theorem d_M_digest_346 : decode prog_13_method_80_code 346 = .ok (.ldc2_w 304, 3) := by decide +kernel
theorem d_M_digest_349 : decode prog_13_method_80_code 349 = .ok (.lload_n 1, 1) := by decide +kernel
theorem d_M_digest_350 : decode prog_13_method_80_code 350 = .ok (.lmul, 1) := by decide +kernel
theorem d_M_digest_351 : decode prog_13_method_80_code 351 = .ok (.aload_n 0, 1) := by decide +kernel
theorem d_M_digest_352 : decode prog_13_method_80_code 352 = .ok (.bipush 63, 2) := by decide +kernel
theorem d_M_digest_354 : decode prog_13_method_80_code 354 = .ok (.iload_n 3, 1) := by decide +kernel
theorem d_M_digest_355 : decode prog_13_method_80_code 355 = .ok (.invokevirtual 258, 3) := by decide +kernel
theorem d_M_digest_358 : decode prog_13_method_80_code 358 = .ok (.i2l, 1) := by decide +kernel
theorem d_M_digest_359 : decode prog_13_method_80_code 359 = .ok (.ladd, 1) := by decide +kernel
theorem d_M_digest_360 : decode prog_13_method_80_code 360 = .ok (.lstore_n 1, 1) := by decide +kernel
theorem d_M_digest_361 : decode prog_13_method_80_code 361 = .ok (.iconst 0, 1) := by decide +kernel
theorem d_M_digest_362 : decode prog_13_method_80_code 362 = .ok (.istore 4, 2) := by decide +kernel
theorem d_M_digest_364 : decode prog_13_method_80_code 364 = .ok (.iload 4, 2) := by decide +kernel
theorem d_M_digest_366 : decode prog_13_method_80_code 366 = .ok (.iconst 3, 1) := by decide +kernel
theorem d_M_digest_367 : decode prog_13_method_80_code 367 = .ok (.if_icmp .ge 24, 3) := by decide +kernel
theorem d_M_digest_370 : decode prog_13_method_80_code 370 = .ok (.ldc2_w 304, 3) := by decide +kernel
theorem d_M_digest_373 : decode prog_13_method_80_code 373 = .ok (.lload_n 1, 1) := by decide +kernel
theorem d_M_digest_374 : decode prog_13_method_80_code 374 = .ok (.lmul, 1) := by decide +kernel
theorem d_M_digest_375 : decode prog_13_method_80_code 375 = .ok (.aload_n 0, 1) := by decide +kernel
theorem d_M_digest_376 : decode prog_13_method_80_code 376 = .ok (.iload_n 3, 1) := by decide +kernel
theorem d_M_digest_377 : decode prog_13_method_80_code 377 = .ok (.iload 4, 2) := by decide +kernel
theorem d_M_digest_379 : decode prog_13_method_80_code 379 = .ok (.invokevirtual 264, 3) := by decide +kernel
theorem d_M_digest_382 : decode prog_13_method_80_code 382 = .ok (.i2l, 1) := by decide +kernel
theorem d_M_digest_383 : decode prog_13_method_80_code 383 = .ok (.ladd, 1) := by decide +kernel
theorem d_M_digest_384 : decode prog_13_method_80_code 384 = .ok (.lstore_n 1, 1) := by decide +kernel
theorem d_M_digest_385 : decode prog_13_method_80_code 385 = .ok (.iinc 4 1, 3) := by decide +kernel
theorem d_M_digest_388 : decode prog_13_method_80_code 388 = .ok (.goto (-24), 3) := by decide +kernel
theorem d_M_digest_391 : decode prog_13_method_80_code 391 = .ok (.iinc 3 1, 3) := by decide +kernel
theorem d_M_digest_394 : decode prog_13_method_80_code 394 = .ok (.goto (-54), 3) := by decide +kernel
theorem d_M_digest_397 : decode prog_13_method_80_code 397 = .ok (.ldc2_w 304, 3) := by decide +kernel
theorem d_M_digest_400 : decode prog_13_method_80_code 400 = .ok (.lload_n 1, 1) := by decide +kernel
theorem d_M_digest_401 : decode prog_13_method_80_code 401 = .ok (.lmul, 1) := by decide +kernel
theorem d_M_digest_402 : decode prog_13_method_80_code 402 = .ok (.aload_n 0, 1) := by decide +kernel
theorem d_M_digest_403 : decode prog_13_method_80_code 403 = .ok (.invokevirtual 267, 3) := by decide +kernel
theorem d_M_digest_406 : decode prog_13_method_80_code 406 = .ok (.i2l, 1) := by decide +kernel
theorem d_M_digest_407 : decode prog_13_method_80_code 407 = .ok (.ladd, 1) := by decide +kernel
theorem d_M_digest_408 : decode prog_13_method_80_code 408 = .ok (.lstore_n 1, 1) := by decide +kernel
theorem d_M_digest_409 : decode prog_13_method_80_code 409 = .ok (.iconst 0, 1) := by decide +kernel
theorem d_M_digest_410 : decode prog_13_method_80_code 410 = .ok (.istore_n 3, 1) := by decide +kernel
theorem d_M_digest_411 : decode prog_13_method_80_code 411 = .ok (.iload_n 3, 1) := by decide +kernel
theorem d_M_digest_412 : decode prog_13_method_80_code 412 = .ok (.iconst 2, 1) := by decide +kernel
theorem d_M_digest_413 : decode prog_13_method_80_code 413 = .ok (.if_icmp .ge 25, 3) := by decide +kernel
theorem d_M_digest_416 : decode prog_13_method_80_code 416 = .ok (.ldc2_w 304, 3) := by decide +kernel
theorem d_M_digest_419 : decode prog_13_method_80_code 419 = .ok (.lload_n 1, 1) := by decide +kernel
theorem d_M_digest_420 : decode prog_13_method_80_code 420 = .ok (.lmul, 1) := by decide +kernel
theorem d_M_digest_421 : decode prog_13_method_80_code 421 = .ok (.aload_n 0, 1) := by decide +kernel
theorem d_M_digest_422 : decode prog_13_method_80_code 422 = .ok (.bipush 7, 2) := by decide +kernel
theorem d_M_digest_424 : decode prog_13_method_80_code 424 = .ok (.bipush 60, 2) := by decide +kernel
theorem d_M_digest_426 : decode prog_13_method_80_code 426 = .ok (.iload_n 3, 1) := by decide +kernel
theorem d_M_digest_427 : decode prog_13_method_80_code 427 = .ok (.invokevirtual 295, 3) := by decide +kernel
theorem d_M_digest_430 : decode prog_13_method_80_code 430 = .ok (.ladd, 1) := by decide +kernel
theorem d_M_digest_431 : decode prog_13_method_80_code 431 = .ok (.lstore_n 1, 1) := by decide +kernel
theorem d_M_digest_432 : decode prog_13_method_80_code 432 = .ok (.iinc 3 1, 3) := by decide +kernel
theorem d_M_digest_435 : decode prog_13_method_80_code 435 = .ok (.goto (-24), 3) := by decide +kernel
theorem d_M_digest_438 : decode prog_13_method_80_code 438 = .ok (.iconst 0, 1) := by decide +kernel
theorem d_M_digest_439 : decode prog_13_method_80_code 439 = .ok (.istore_n 3, 1) := by decide +kernel
theorem d_M_digest_440 : decode prog_13_method_80_code 440 = .ok (.iload_n 3, 1) := by decide +kernel
theorem d_M_digest_441 : decode prog_13_method_80_code 441 = .ok (.iconst 2, 1) := by decide +kernel
theorem d_M_digest_442 : decode prog_13_method_80_code 442 = .ok (.if_icmp .ge 23, 3) := by decide +kernel
theorem d_M_digest_445 : decode prog_13_method_80_code 445 = .ok (.ldc2_w 304, 3) := by decide +kernel
theorem d_M_digest_448 : decode prog_13_method_80_code 448 = .ok (.lload_n 1, 1) := by decide +kernel
theorem d_M_digest_449 : decode prog_13_method_80_code 449 = .ok (.lmul, 1) := by decide +kernel
theorem d_M_digest_450 : decode prog_13_method_80_code 450 = .ok (.aload_n 0, 1) := by decide +kernel
theorem d_M_digest_451 : decode prog_13_method_80_code 451 = .ok (.bipush 7, 2) := by decide +kernel
theorem d_M_digest_453 : decode prog_13_method_80_code 453 = .ok (.iload_n 3, 1) := by decide +kernel
theorem d_M_digest_454 : decode prog_13_method_80_code 454 = .ok (.invokevirtual 299, 3) := by decide +kernel
theorem d_M_digest_457 : decode prog_13_method_80_code 457 = .ok (.ladd, 1) := by decide +kernel
theorem d_M_digest_458 : decode prog_13_method_80_code 458 = .ok (.lstore_n 1, 1) := by decide +kernel
theorem d_M_digest_459 : decode prog_13_method_80_code 459 = .ok (.iinc 3 1, 3) := by decide +kernel
theorem d_M_digest_462 : decode prog_13_method_80_code 462 = .ok (.goto (-22), 3) := by decide +kernel
theorem d_M_digest_465 : decode prog_13_method_80_code 465 = .ok (.lload_n 1, 1) := by decide +kernel
theorem d_M_digest_466 : decode prog_13_method_80_code 466 = .ok (.lreturn, 1) := by decide +kernel
end
