section
-- ===== PART A: goes FIRST, ahead of the names: the tables' words, and 'selects' of the private methods out of them =====
/-- a private method of a class that the tables say can be made, by its rows of tables_1 -/
def lw_okq (q : MethodName × Nat) : Prop := (q.1.cls ≠ "java/lang/invoke/MethodHandle" ∧ q.1.cls ≠ "java/lang/invoke/VarHandle") ∧ Cond.instantiable q.1.cls q.2 ∈ tables_1 ∧ Cond.privateMethod q.1 ∈ tables_1 ∧ Cond.instanceMethod q.1 ∈ tables_1
theorem lw_p0 : lw_okq (⟨"OneBook$Book", "parse", "()V"⟩, 6) := ⟨⟨by decide +kernel, by decide +kernel⟩, List.mem_of_getElem? (i := 25) (by decide +kernel), List.mem_of_getElem? (i := 316) (by decide +kernel), List.mem_of_getElem? (i := 317) (by decide +kernel)⟩
theorem lw_p1 : lw_okq (⟨"OneBook$Book", "findFault", "()I"⟩, 6) := ⟨⟨by decide +kernel, by decide +kernel⟩, List.mem_of_getElem? (i := 25) (by decide +kernel), List.mem_of_getElem? (i := 320) (by decide +kernel), List.mem_of_getElem? (i := 321) (by decide +kernel)⟩
theorem lw_p2 : lw_okq (⟨"OneBook$Book", "goesOn", "(I)Z"⟩, 6) := ⟨⟨by decide +kernel, by decide +kernel⟩, List.mem_of_getElem? (i := 25) (by decide +kernel), List.mem_of_getElem? (i := 324) (by decide +kernel), List.mem_of_getElem? (i := 325) (by decide +kernel)⟩
theorem lw_p3 : lw_okq (⟨"OneBook$Book", "kindAt", "(I)I"⟩, 6) := ⟨⟨by decide +kernel, by decide +kernel⟩, List.mem_of_getElem? (i := 25) (by decide +kernel), List.mem_of_getElem? (i := 328) (by decide +kernel), List.mem_of_getElem? (i := 329) (by decide +kernel)⟩
theorem lw_p4 : lw_okq (⟨"OneBook$Book", "figureAt", "(I)I"⟩, 6) := ⟨⟨by decide +kernel, by decide +kernel⟩, List.mem_of_getElem? (i := 25) (by decide +kernel), List.mem_of_getElem? (i := 332) (by decide +kernel), List.mem_of_getElem? (i := 333) (by decide +kernel)⟩
theorem lw_p5 : lw_okq (⟨"OneBook", "isChapter", "(I)Z"⟩, 12) := ⟨⟨by decide +kernel, by decide +kernel⟩, List.mem_of_getElem? (i := 17) (by decide +kernel), List.mem_of_getElem? (i := 360) (by decide +kernel), List.mem_of_getElem? (i := 361) (by decide +kernel)⟩
theorem lw_p6 : lw_okq (⟨"OneBook", "found", "(I)I"⟩, 12) := ⟨⟨by decide +kernel, by decide +kernel⟩, List.mem_of_getElem? (i := 17) (by decide +kernel), List.mem_of_getElem? (i := 412) (by decide +kernel), List.mem_of_getElem? (i := 413) (by decide +kernel)⟩
theorem lw_p7 : lw_okq (⟨"OneBook$Evening", "readOrStop", "(III)V"⟩, 5) := ⟨⟨by decide +kernel, by decide +kernel⟩, List.mem_of_getElem? (i := 85) (by decide +kernel), List.mem_of_getElem? (i := 497) (by decide +kernel), List.mem_of_getElem? (i := 498) (by decide +kernel)⟩
theorem lw_p8 : lw_okq (⟨"OneBook$Plan", "choose", "(IIIIII)V"⟩, 11) := ⟨⟨by decide +kernel, by decide +kernel⟩, List.mem_of_getElem? (i := 107) (by decide +kernel), List.mem_of_getElem? (i := 562) (by decide +kernel), List.mem_of_getElem? (i := 563) (by decide +kernel)⟩
theorem lw_p9 : lw_okq (⟨"OneBook$Plan", "isNoBetter", "(III)Z"⟩, 11) := ⟨⟨by decide +kernel, by decide +kernel⟩, List.mem_of_getElem? (i := 107) (by decide +kernel), List.mem_of_getElem? (i := 566) (by decide +kernel), List.mem_of_getElem? (i := 567) (by decide +kernel)⟩
theorem lw_p10 : lw_okq (⟨"OneBook$Plan", "keep", "(III)V"⟩, 11) := ⟨⟨by decide +kernel, by decide +kernel⟩, List.mem_of_getElem? (i := 107) (by decide +kernel), List.mem_of_getElem? (i := 570) (by decide +kernel), List.mem_of_getElem? (i := 571) (by decide +kernel)⟩
theorem lw_p11 : lw_okq (⟨"OneBook$Seeming", "isRest", "(II)Z"⟩, 5) := ⟨⟨by decide +kernel, by decide +kernel⟩, List.mem_of_getElem? (i := 147) (by decide +kernel), List.mem_of_getElem? (i := 627) (by decide +kernel), List.mem_of_getElem? (i := 628) (by decide +kernel)⟩
theorem lw_p12 : lw_okq (⟨"OneBook$Seating", "leastPartner", "(II)I"⟩, 5) := ⟨⟨by decide +kernel, by decide +kernel⟩, List.mem_of_getElem? (i := 169) (by decide +kernel), List.mem_of_getElem? (i := 664) (by decide +kernel), List.mem_of_getElem? (i := 665) (by decide +kernel)⟩
theorem lw_p13 : lw_okq (⟨"OneBook$Seating", "waitWith", "(III)I"⟩, 5) := ⟨⟨by decide +kernel, by decide +kernel⟩, List.mem_of_getElem? (i := 169) (by decide +kernel), List.mem_of_getElem? (i := 668) (by decide +kernel), List.mem_of_getElem? (i := 669) (by decide +kernel)⟩
theorem lw_p14 : lw_okq (⟨"OneBook$Turns", "fitsAll", "(III)Z"⟩, 5) := ⟨⟨by decide +kernel, by decide +kernel⟩, List.mem_of_getElem? (i := 191) (by decide +kernel), List.mem_of_getElem? (i := 711) (by decide +kernel), List.mem_of_getElem? (i := 712) (by decide +kernel)⟩
theorem lw_p15 : lw_okq (⟨"OneBook$Turns", "tellsOf", "(III)Z"⟩, 5) := ⟨⟨by decide +kernel, by decide +kernel⟩, List.mem_of_getElem? (i := 191) (by decide +kernel), List.mem_of_getElem? (i := 715) (by decide +kernel), List.mem_of_getElem? (i := 716) (by decide +kernel)⟩
def lw_privs_1 : List (MethodName × Nat) := [(⟨"OneBook$Book", "parse", "()V"⟩, 6), (⟨"OneBook$Book", "findFault", "()I"⟩, 6), (⟨"OneBook$Book", "goesOn", "(I)Z"⟩, 6), (⟨"OneBook$Book", "kindAt", "(I)I"⟩, 6), (⟨"OneBook$Book", "figureAt", "(I)I"⟩, 6), (⟨"OneBook", "isChapter", "(I)Z"⟩, 12), (⟨"OneBook", "found", "(I)I"⟩, 12), (⟨"OneBook$Evening", "readOrStop", "(III)V"⟩, 5), (⟨"OneBook$Plan", "choose", "(IIIIII)V"⟩, 11), (⟨"OneBook$Plan", "isNoBetter", "(III)Z"⟩, 11), (⟨"OneBook$Plan", "keep", "(III)V"⟩, 11), (⟨"OneBook$Seeming", "isRest", "(II)Z"⟩, 5), (⟨"OneBook$Seating", "leastPartner", "(II)I"⟩, 5), (⟨"OneBook$Seating", "waitWith", "(III)I"⟩, 5), (⟨"OneBook$Turns", "fitsAll", "(III)Z"⟩, 5), (⟨"OneBook$Turns", "tellsOf", "(III)Z"⟩, 5)]
theorem lw_r1 : ∀ q ∈ lw_privs_1, lw_okq q := List.forall_mem_cons.mpr ⟨lw_p0, List.forall_mem_cons.mpr ⟨lw_p1, List.forall_mem_cons.mpr ⟨lw_p2, List.forall_mem_cons.mpr ⟨lw_p3, List.forall_mem_cons.mpr ⟨lw_p4, List.forall_mem_cons.mpr ⟨lw_p5, List.forall_mem_cons.mpr ⟨lw_p6, List.forall_mem_cons.mpr ⟨lw_p7, List.forall_mem_cons.mpr ⟨lw_p8, List.forall_mem_cons.mpr ⟨lw_p9, List.forall_mem_cons.mpr ⟨lw_p10, List.forall_mem_cons.mpr ⟨lw_p11, List.forall_mem_cons.mpr ⟨lw_p12, List.forall_mem_cons.mpr ⟨lw_p13, List.forall_mem_cons.mpr ⟨lw_p14, List.forall_mem_cons.mpr ⟨lw_p15, fun _ h => absurd h List.not_mem_nil⟩⟩⟩⟩⟩⟩⟩⟩⟩⟩⟩⟩⟩⟩⟩⟩
theorem lw_p16 : lw_okq (⟨"OneBook$Turns", "isThere", "(I)Z"⟩, 5) := ⟨⟨by decide +kernel, by decide +kernel⟩, List.mem_of_getElem? (i := 191) (by decide +kernel), List.mem_of_getElem? (i := 719) (by decide +kernel), List.mem_of_getElem? (i := 720) (by decide +kernel)⟩
theorem lw_p17 : lw_okq (⟨"OneBook$Moods", "findOutcomes", "(II)V"⟩, 9) := ⟨⟨by decide +kernel, by decide +kernel⟩, List.mem_of_getElem? (i := 213) (by decide +kernel), List.mem_of_getElem? (i := 755) (by decide +kernel), List.mem_of_getElem? (i := 756) (by decide +kernel)⟩
theorem lw_p18 : lw_okq (⟨"OneBook$Moods", "addOutcome", "(II)V"⟩, 9) := ⟨⟨by decide +kernel, by decide +kernel⟩, List.mem_of_getElem? (i := 213) (by decide +kernel), List.mem_of_getElem? (i := 767) (by decide +kernel), List.mem_of_getElem? (i := 768) (by decide +kernel)⟩
theorem lw_p19 : lw_okq (⟨"OneBook$Moods", "readOn", "(I)V"⟩, 9) := ⟨⟨by decide +kernel, by decide +kernel⟩, List.mem_of_getElem? (i := 213) (by decide +kernel), List.mem_of_getElem? (i := 771) (by decide +kernel), List.mem_of_getElem? (i := 772) (by decide +kernel)⟩
theorem lw_p20 : lw_okq (⟨"OneBook$Moods", "reduce", "(JJ)V"⟩, 9) := ⟨⟨by decide +kernel, by decide +kernel⟩, List.mem_of_getElem? (i := 213) (by decide +kernel), List.mem_of_getElem? (i := 779) (by decide +kernel), List.mem_of_getElem? (i := 780) (by decide +kernel)⟩
theorem lw_p21 : lw_okq (⟨"OneBook$Sheet", "narrow", "(I)I"⟩, 4) := ⟨⟨by decide +kernel, by decide +kernel⟩, List.mem_of_getElem? (i := 249) (by decide +kernel), List.mem_of_getElem? (i := 840) (by decide +kernel), List.mem_of_getElem? (i := 841) (by decide +kernel)⟩
theorem lw_p22 : lw_okq (⟨"OneBook", "mixChapter", "(JI)J"⟩, 12) := ⟨⟨by decide +kernel, by decide +kernel⟩, List.mem_of_getElem? (i := 17) (by decide +kernel), List.mem_of_getElem? (i := 889) (by decide +kernel), List.mem_of_getElem? (i := 890) (by decide +kernel)⟩
theorem lw_p23 : lw_okq (⟨"OneBook", "mixPlan", "(J)J"⟩, 12) := ⟨⟨by decide +kernel, by decide +kernel⟩, List.mem_of_getElem? (i := 17) (by decide +kernel), List.mem_of_getElem? (i := 894) (by decide +kernel), List.mem_of_getElem? (i := 895) (by decide +kernel)⟩
theorem lw_p24 : lw_okq (⟨"OneBook", "mixSeeming", "(J)J"⟩, 12) := ⟨⟨by decide +kernel, by decide +kernel⟩, List.mem_of_getElem? (i := 17) (by decide +kernel), List.mem_of_getElem? (i := 898) (by decide +kernel), List.mem_of_getElem? (i := 899) (by decide +kernel)⟩
theorem lw_p25 : lw_okq (⟨"OneBook", "mixSeats", "(J)J"⟩, 12) := ⟨⟨by decide +kernel, by decide +kernel⟩, List.mem_of_getElem? (i := 17) (by decide +kernel), List.mem_of_getElem? (i := 902) (by decide +kernel), List.mem_of_getElem? (i := 903) (by decide +kernel)⟩
theorem lw_p26 : lw_okq (⟨"OneBook", "mixMoods", "(J)J"⟩, 12) := ⟨⟨by decide +kernel, by decide +kernel⟩, List.mem_of_getElem? (i := 17) (by decide +kernel), List.mem_of_getElem? (i := 907) (by decide +kernel), List.mem_of_getElem? (i := 908) (by decide +kernel)⟩
theorem lw_p27 : lw_okq (⟨"OneBookModel", "met", "(I)I"⟩, 34) := ⟨⟨by decide +kernel, by decide +kernel⟩, List.mem_of_getElem? (i := 911) (by decide +kernel), List.mem_of_getElem? (i := 1032) (by decide +kernel), List.mem_of_getElem? (i := 1033) (by decide +kernel)⟩
theorem lw_p28 : lw_okq (⟨"OneBookModel", "lacks", "(III)I"⟩, 34) := ⟨⟨by decide +kernel, by decide +kernel⟩, List.mem_of_getElem? (i := 911) (by decide +kernel), List.mem_of_getElem? (i := 1044) (by decide +kernel), List.mem_of_getElem? (i := 1045) (by decide +kernel)⟩
theorem lw_p29 : lw_okq (⟨"OneBookModel", "reads", "()I"⟩, 34) := ⟨⟨by decide +kernel, by decide +kernel⟩, List.mem_of_getElem? (i := 911) (by decide +kernel), List.mem_of_getElem? (i := 1073) (by decide +kernel), List.mem_of_getElem? (i := 1074) (by decide +kernel)⟩
theorem lw_p30 : lw_okq (⟨"OneBookModel", "readsPart", "()Z"⟩, 34) := ⟨⟨by decide +kernel, by decide +kernel⟩, List.mem_of_getElem? (i := 911) (by decide +kernel), List.mem_of_getElem? (i := 1077) (by decide +kernel), List.mem_of_getElem? (i := 1078) (by decide +kernel)⟩
theorem lw_p31 : lw_okq (⟨"OneBookModel", "here", "()I"⟩, 34) := ⟨⟨by decide +kernel, by decide +kernel⟩, List.mem_of_getElem? (i := 911) (by decide +kernel), List.mem_of_getElem? (i := 1081) (by decide +kernel), List.mem_of_getElem? (i := 1082) (by decide +kernel)⟩
def lw_privs_2 : List (MethodName × Nat) := [(⟨"OneBook$Turns", "isThere", "(I)Z"⟩, 5), (⟨"OneBook$Moods", "findOutcomes", "(II)V"⟩, 9), (⟨"OneBook$Moods", "addOutcome", "(II)V"⟩, 9), (⟨"OneBook$Moods", "readOn", "(I)V"⟩, 9), (⟨"OneBook$Moods", "reduce", "(JJ)V"⟩, 9), (⟨"OneBook$Sheet", "narrow", "(I)I"⟩, 4), (⟨"OneBook", "mixChapter", "(JI)J"⟩, 12), (⟨"OneBook", "mixPlan", "(J)J"⟩, 12), (⟨"OneBook", "mixSeeming", "(J)J"⟩, 12), (⟨"OneBook", "mixSeats", "(J)J"⟩, 12), (⟨"OneBook", "mixMoods", "(J)J"⟩, 12), (⟨"OneBookModel", "met", "(I)I"⟩, 34), (⟨"OneBookModel", "lacks", "(III)I"⟩, 34), (⟨"OneBookModel", "reads", "()I"⟩, 34), (⟨"OneBookModel", "readsPart", "()Z"⟩, 34), (⟨"OneBookModel", "here", "()I"⟩, 34)]
theorem lw_r2 : ∀ q ∈ lw_privs_2, lw_okq q := List.forall_mem_cons.mpr ⟨lw_p16, List.forall_mem_cons.mpr ⟨lw_p17, List.forall_mem_cons.mpr ⟨lw_p18, List.forall_mem_cons.mpr ⟨lw_p19, List.forall_mem_cons.mpr ⟨lw_p20, List.forall_mem_cons.mpr ⟨lw_p21, List.forall_mem_cons.mpr ⟨lw_p22, List.forall_mem_cons.mpr ⟨lw_p23, List.forall_mem_cons.mpr ⟨lw_p24, List.forall_mem_cons.mpr ⟨lw_p25, List.forall_mem_cons.mpr ⟨lw_p26, List.forall_mem_cons.mpr ⟨lw_p27, List.forall_mem_cons.mpr ⟨lw_p28, List.forall_mem_cons.mpr ⟨lw_p29, List.forall_mem_cons.mpr ⟨lw_p30, List.forall_mem_cons.mpr ⟨lw_p31, fun _ h => absurd h List.not_mem_nil⟩⟩⟩⟩⟩⟩⟩⟩⟩⟩⟩⟩⟩⟩⟩⟩
theorem lw_p32 : lw_okq (⟨"OneBookModel", "none", "()I"⟩, 34) := ⟨⟨by decide +kernel, by decide +kernel⟩, List.mem_of_getElem? (i := 911) (by decide +kernel), List.mem_of_getElem? (i := 1087) (by decide +kernel), List.mem_of_getElem? (i := 1088) (by decide +kernel)⟩
theorem lw_p33 : lw_okq (⟨"OneBookModel", "isChapter", "(I)Z"⟩, 34) := ⟨⟨by decide +kernel, by decide +kernel⟩, List.mem_of_getElem? (i := 911) (by decide +kernel), List.mem_of_getElem? (i := 1095) (by decide +kernel), List.mem_of_getElem? (i := 1096) (by decide +kernel)⟩
theorem lw_p34 : lw_okq (⟨"OneBookModel", "chapterOf", "(II)I"⟩, 34) := ⟨⟨by decide +kernel, by decide +kernel⟩, List.mem_of_getElem? (i := 911) (by decide +kernel), List.mem_of_getElem? (i := 1099) (by decide +kernel), List.mem_of_getElem? (i := 1100) (by decide +kernel)⟩
theorem lw_p35 : lw_okq (⟨"OneBookModel", "timeOf", "(II)I"⟩, 34) := ⟨⟨by decide +kernel, by decide +kernel⟩, List.mem_of_getElem? (i := 911) (by decide +kernel), List.mem_of_getElem? (i := 1147) (by decide +kernel), List.mem_of_getElem? (i := 1148) (by decide +kernel)⟩
theorem lw_p36 : lw_okq (⟨"OneBookModel", "timeBy", "(III)I"⟩, 34) := ⟨⟨by decide +kernel, by decide +kernel⟩, List.mem_of_getElem? (i := 911) (by decide +kernel), List.mem_of_getElem? (i := 1151) (by decide +kernel), List.mem_of_getElem? (i := 1152) (by decide +kernel)⟩
theorem lw_p37 : lw_okq (⟨"OneBookModel", "eveningOf", "(III)I"⟩, 34) := ⟨⟨by decide +kernel, by decide +kernel⟩, List.mem_of_getElem? (i := 911) (by decide +kernel), List.mem_of_getElem? (i := 1166) (by decide +kernel), List.mem_of_getElem? (i := 1167) (by decide +kernel)⟩
theorem lw_p38 : lw_okq (⟨"OneBookModel", "findEvening", "(II)V"⟩, 34) := ⟨⟨by decide +kernel, by decide +kernel⟩, List.mem_of_getElem? (i := 911) (by decide +kernel), List.mem_of_getElem? (i := 1170) (by decide +kernel), List.mem_of_getElem? (i := 1171) (by decide +kernel)⟩
theorem lw_p39 : lw_okq (⟨"OneBookModel", "isRead", "(I)Z"⟩, 34) := ⟨⟨by decide +kernel, by decide +kernel⟩, List.mem_of_getElem? (i := 911) (by decide +kernel), List.mem_of_getElem? (i := 1174) (by decide +kernel), List.mem_of_getElem? (i := 1175) (by decide +kernel)⟩
theorem lw_p40 : lw_okq (⟨"OneBookModel", "together", "(II)I"⟩, 34) := ⟨⟨by decide +kernel, by decide +kernel⟩, List.mem_of_getElem? (i := 911) (by decide +kernel), List.mem_of_getElem? (i := 1178) (by decide +kernel), List.mem_of_getElem? (i := 1179) (by decide +kernel)⟩
theorem lw_p41 : lw_okq (⟨"OneBookModel", "waitedOf", "(IIII)I"⟩, 34) := ⟨⟨by decide +kernel, by decide +kernel⟩, List.mem_of_getElem? (i := 911) (by decide +kernel), List.mem_of_getElem? (i := 1186) (by decide +kernel), List.mem_of_getElem? (i := 1187) (by decide +kernel)⟩
theorem lw_p42 : lw_okq (⟨"OneBookModel", "findBest", "(II)V"⟩, 34) := ⟨⟨by decide +kernel, by decide +kernel⟩, List.mem_of_getElem? (i := 911) (by decide +kernel), List.mem_of_getElem? (i := 1197) (by decide +kernel), List.mem_of_getElem? (i := 1198) (by decide +kernel)⟩
theorem lw_p43 : lw_okq (⟨"OneBookModel", "tries", "(II)V"⟩, 34) := ⟨⟨by decide +kernel, by decide +kernel⟩, List.mem_of_getElem? (i := 911) (by decide +kernel), List.mem_of_getElem? (i := 1201) (by decide +kernel), List.mem_of_getElem? (i := 1202) (by decide +kernel)⟩
theorem lw_p44 : lw_okq (⟨"OneBookModel", "bestOf", "(I)I"⟩, 34) := ⟨⟨by decide +kernel, by decide +kernel⟩, List.mem_of_getElem? (i := 911) (by decide +kernel), List.mem_of_getElem? (i := 1208) (by decide +kernel), List.mem_of_getElem? (i := 1209) (by decide +kernel)⟩
theorem lw_p45 : lw_okq (⟨"OneBookModel", "gainOf", "(IIII)I"⟩, 34) := ⟨⟨by decide +kernel, by decide +kernel⟩, List.mem_of_getElem? (i := 911) (by decide +kernel), List.mem_of_getElem? (i := 1223) (by decide +kernel), List.mem_of_getElem? (i := 1224) (by decide +kernel)⟩
theorem lw_p46 : lw_okq (⟨"OneBookModel", "restsOf", "(III)I"⟩, 34) := ⟨⟨by decide +kernel, by decide +kernel⟩, List.mem_of_getElem? (i := 911) (by decide +kernel), List.mem_of_getElem? (i := 1231) (by decide +kernel), List.mem_of_getElem? (i := 1232) (by decide +kernel)⟩
theorem lw_p47 : lw_okq (⟨"OneBookModel", "isRest", "(IIII)Z"⟩, 34) := ⟨⟨by decide +kernel, by decide +kernel⟩, List.mem_of_getElem? (i := 911) (by decide +kernel), List.mem_of_getElem? (i := 1235) (by decide +kernel), List.mem_of_getElem? (i := 1236) (by decide +kernel)⟩
def lw_privs_3 : List (MethodName × Nat) := [(⟨"OneBookModel", "none", "()I"⟩, 34), (⟨"OneBookModel", "isChapter", "(I)Z"⟩, 34), (⟨"OneBookModel", "chapterOf", "(II)I"⟩, 34), (⟨"OneBookModel", "timeOf", "(II)I"⟩, 34), (⟨"OneBookModel", "timeBy", "(III)I"⟩, 34), (⟨"OneBookModel", "eveningOf", "(III)I"⟩, 34), (⟨"OneBookModel", "findEvening", "(II)V"⟩, 34), (⟨"OneBookModel", "isRead", "(I)Z"⟩, 34), (⟨"OneBookModel", "together", "(II)I"⟩, 34), (⟨"OneBookModel", "waitedOf", "(IIII)I"⟩, 34), (⟨"OneBookModel", "findBest", "(II)V"⟩, 34), (⟨"OneBookModel", "tries", "(II)V"⟩, 34), (⟨"OneBookModel", "bestOf", "(I)I"⟩, 34), (⟨"OneBookModel", "gainOf", "(IIII)I"⟩, 34), (⟨"OneBookModel", "restsOf", "(III)I"⟩, 34), (⟨"OneBookModel", "isRest", "(IIII)Z"⟩, 34)]
theorem lw_r3 : ∀ q ∈ lw_privs_3, lw_okq q := List.forall_mem_cons.mpr ⟨lw_p32, List.forall_mem_cons.mpr ⟨lw_p33, List.forall_mem_cons.mpr ⟨lw_p34, List.forall_mem_cons.mpr ⟨lw_p35, List.forall_mem_cons.mpr ⟨lw_p36, List.forall_mem_cons.mpr ⟨lw_p37, List.forall_mem_cons.mpr ⟨lw_p38, List.forall_mem_cons.mpr ⟨lw_p39, List.forall_mem_cons.mpr ⟨lw_p40, List.forall_mem_cons.mpr ⟨lw_p41, List.forall_mem_cons.mpr ⟨lw_p42, List.forall_mem_cons.mpr ⟨lw_p43, List.forall_mem_cons.mpr ⟨lw_p44, List.forall_mem_cons.mpr ⟨lw_p45, List.forall_mem_cons.mpr ⟨lw_p46, List.forall_mem_cons.mpr ⟨lw_p47, fun _ h => absurd h List.not_mem_nil⟩⟩⟩⟩⟩⟩⟩⟩⟩⟩⟩⟩⟩⟩⟩⟩
theorem lw_p48 : lw_okq (⟨"OneBookModel", "pairsOf", "(II)I"⟩, 34) := ⟨⟨by decide +kernel, by decide +kernel⟩, List.mem_of_getElem? (i := 911) (by decide +kernel), List.mem_of_getElem? (i := 1246) (by decide +kernel), List.mem_of_getElem? (i := 1247) (by decide +kernel)⟩
theorem lw_p49 : lw_okq (⟨"OneBookModel", "findPairs", "()V"⟩, 34) := ⟨⟨by decide +kernel, by decide +kernel⟩, List.mem_of_getElem? (i := 911) (by decide +kernel), List.mem_of_getElem? (i := 1250) (by decide +kernel), List.mem_of_getElem? (i := 1251) (by decide +kernel)⟩
theorem lw_p50 : lw_okq (⟨"OneBookModel", "apart", "(II)I"⟩, 34) := ⟨⟨by decide +kernel, by decide +kernel⟩, List.mem_of_getElem? (i := 911) (by decide +kernel), List.mem_of_getElem? (i := 1258) (by decide +kernel), List.mem_of_getElem? (i := 1259) (by decide +kernel)⟩
theorem lw_p51 : lw_okq (⟨"OneBookModel", "pacesOf", "(II)I"⟩, 34) := ⟨⟨by decide +kernel, by decide +kernel⟩, List.mem_of_getElem? (i := 911) (by decide +kernel), List.mem_of_getElem? (i := 1274) (by decide +kernel), List.mem_of_getElem? (i := 1275) (by decide +kernel)⟩
theorem lw_p52 : lw_okq (⟨"OneBookModel", "unlikeNow", "()I"⟩, 34) := ⟨⟨by decide +kernel, by decide +kernel⟩, List.mem_of_getElem? (i := 911) (by decide +kernel), List.mem_of_getElem? (i := 1282) (by decide +kernel), List.mem_of_getElem? (i := 1283) (by decide +kernel)⟩
theorem lw_p53 : lw_okq (⟨"OneBookModel", "doneOf", "(III)J"⟩, 34) := ⟨⟨by decide +kernel, by decide +kernel⟩, List.mem_of_getElem? (i := 911) (by decide +kernel), List.mem_of_getElem? (i := 1295) (by decide +kernel), List.mem_of_getElem? (i := 1296) (by decide +kernel)⟩
theorem lw_p54 : lw_okq (⟨"OneBookModel", "findMinutes", "(I)V"⟩, 34) := ⟨⟨by decide +kernel, by decide +kernel⟩, List.mem_of_getElem? (i := 911) (by decide +kernel), List.mem_of_getElem? (i := 1299) (by decide +kernel), List.mem_of_getElem? (i := 1300) (by decide +kernel)⟩
theorem lw_p55 : lw_okq (⟨"OneBookModel", "quarters", "(II)J"⟩, 34) := ⟨⟨by decide +kernel, by decide +kernel⟩, List.mem_of_getElem? (i := 911) (by decide +kernel), List.mem_of_getElem? (i := 1303) (by decide +kernel), List.mem_of_getElem? (i := 1304) (by decide +kernel)⟩
theorem lw_p56 : lw_okq (⟨"OneBookModel", "togetherSo", "(III)I"⟩, 34) := ⟨⟨by decide +kernel, by decide +kernel⟩, List.mem_of_getElem? (i := 911) (by decide +kernel), List.mem_of_getElem? (i := 1307) (by decide +kernel), List.mem_of_getElem? (i := 1308) (by decide +kernel)⟩
theorem lw_p57 : lw_okq (⟨"OneBookModel", "meanOf", "(II)J"⟩, 34) := ⟨⟨by decide +kernel, by decide +kernel⟩, List.mem_of_getElem? (i := 911) (by decide +kernel), List.mem_of_getElem? (i := 1318) (by decide +kernel), List.mem_of_getElem? (i := 1319) (by decide +kernel)⟩
def lw_privs_4 : List (MethodName × Nat) := [(⟨"OneBookModel", "pairsOf", "(II)I"⟩, 34), (⟨"OneBookModel", "findPairs", "()V"⟩, 34), (⟨"OneBookModel", "apart", "(II)I"⟩, 34), (⟨"OneBookModel", "pacesOf", "(II)I"⟩, 34), (⟨"OneBookModel", "unlikeNow", "()I"⟩, 34), (⟨"OneBookModel", "doneOf", "(III)J"⟩, 34), (⟨"OneBookModel", "findMinutes", "(I)V"⟩, 34), (⟨"OneBookModel", "quarters", "(II)J"⟩, 34), (⟨"OneBookModel", "togetherSo", "(III)I"⟩, 34), (⟨"OneBookModel", "meanOf", "(II)J"⟩, 34)]
theorem lw_r4 : ∀ q ∈ lw_privs_4, lw_okq q := List.forall_mem_cons.mpr ⟨lw_p48, List.forall_mem_cons.mpr ⟨lw_p49, List.forall_mem_cons.mpr ⟨lw_p50, List.forall_mem_cons.mpr ⟨lw_p51, List.forall_mem_cons.mpr ⟨lw_p52, List.forall_mem_cons.mpr ⟨lw_p53, List.forall_mem_cons.mpr ⟨lw_p54, List.forall_mem_cons.mpr ⟨lw_p55, List.forall_mem_cons.mpr ⟨lw_p56, List.forall_mem_cons.mpr ⟨lw_p57, fun _ h => absurd h List.not_mem_nil⟩⟩⟩⟩⟩⟩⟩⟩⟩⟩
def lw_privs : List (MethodName × Nat) := lw_privs_1 ++ (lw_privs_2 ++ (lw_privs_3 ++ (lw_privs_4)))
def lw_tbl : List Cond := k2_sels lw_privs ++ tables_1
theorem lw_privs_ok : ∀ q ∈ lw_privs, lw_okq q := by
  show ∀ q ∈ lw_privs_1 ++ (lw_privs_2 ++ (lw_privs_3 ++ (lw_privs_4))), lw_okq q
  exact List.forall_mem_append.mpr ⟨lw_r1, List.forall_mem_append.mpr ⟨lw_r2, List.forall_mem_append.mpr ⟨lw_r3, lw_r4⟩⟩⟩
end
section
-- values, stores, the layout of the two objects' cells (by program: wip/gen/gen_lay.py)
abbrev AV : Type := Int32 ⊕ Int64 ⊕ (Nat × Nat)
abbrev vI (x : Int32) : AV := .inl x
abbrev vJ (x : Int64) : AV := .inr (.inl x)
abbrev vR (k i : Nat) : AV := .inr (.inr (k, i))
abbrev AD : Type := Nat → Nat → Nat
def cv (ad : AD) : AV → Value
  | .inl x => .int x
  | .inr (.inl y) => .long y
  | .inr (.inr (k, i)) => .ref (ad k i)
abbrev ST : Type := (Nat → Nat → Nat → Int32) × (Nat → Nat → Nat → Int64)
def setI (σ : ST) (k i f : Nat) (v : Int32) : ST := (fun a b c => if a = k ∧ b = i ∧ c = f then v else σ.1 a b c, σ.2)
def setJ (σ : ST) (k i f : Nat) (v : Int64) : ST := (σ.1, fun a b c => if a = k ∧ b = i ∧ c = f then v else σ.2 a b c)
/-- a field: its type (0 int, 1 long, 2 a reference, 3 boolean), the kind it points to, whether its index is the object's own -/
abbrev FL : Type := Nat × Nat × Nat
abbrev KD : Type := (Nat × List FL) ⊕ (Nat × Nat × Nat)
abbrev fi : FL := (0, 0, 0)
abbrev fj : FL := (1, 0, 0)
abbrev fz : FL := (3, 0, 0)
abbrev fr (k : Nat) : FL := (2, k, 0)
abbrev fo (k : Nat) : FL := (2, k, 1)
def kd (k : Nat) : KD := match k with
  | 0 => .inl (0, [fr 1, fr 2, fr 4, fr 5, fr 6, fr 7, fr 8, fr 9, fr 40, fi, fi, fi])
  | 1 => .inl (1, [fr 12, fr 13, fr 14, fi, fi, fi])
  | 2 => .inl (2, [fr 1, fr 15, fr 16])
  | 3 => .inl (3, [fo 17, fo 18, fo 19])
  | 4 => .inl (4, [fr 2, fr 20, fi, fi, fi])
  | 5 => .inl (5, [fr 2, fr 21, fr 22, fr 23, fr 24, fr 25, fi, fi, fi, fi, fi])
  | 6 => .inl (6, [fr 2, fr 26, fr 27, fr 28, fi])
  | 7 => .inl (7, [fr 2, fr 29, fr 30, fr 31, fi])
  | 8 => .inl (8, [fr 2, fr 32, fr 33, fr 34, fi])
  | 9 => .inl (9, [fr 2, fr 35, fr 36, fr 37, fr 38, fr 39, fi, fj, fj])
  | 10 => .inl (10, [fo 41, fz, fi, fi])
  | 11 => .inl (11, [fr 42, fr 43, fr 44, fr 45, fi, fr 46, fi, fi, fi, fr 47, fr 48, fi, fr 49, fr 50, fr 51, fr 52, fr 53, fr 54, fi, fi, fi, fr 55, fr 56, fr 57, fi, fi, fi, fr 58, fr 59, fi, fr 60, fr 61, fr 62, fj])
  | 12 => .inr (0, 60, 0)
  | 13 => .inr (0, 8, 0)
  | 14 => .inr (0, 8, 0)
  | 15 => .inr (3, 6, 3)
  | 16 => .inr (1, 8, 0)
  | 17 => .inr (0, 3, 0)
  | 18 => .inr (1, 8, 0)
  | 19 => .inr (0, 3, 0)
  | 20 => .inr (0, 6, 0)
  | 21 => .inr (0, 8, 0)
  | 22 => .inr (0, 8, 0)
  | 23 => .inr (0, 8, 0)
  | 24 => .inr (0, 8, 0)
  | 25 => .inr (0, 9, 0)
  | 26 => .inr (0, 16, 0)
  | 27 => .inr (0, 16, 0)
  | 28 => .inr (0, 16, 0)
  | 29 => .inr (0, 36, 0)
  | 30 => .inr (0, 64, 0)
  | 31 => .inr (0, 6, 0)
  | 32 => .inr (0, 8, 0)
  | 33 => .inr (0, 8, 0)
  | 34 => .inr (0, 8, 0)
  | 35 => .inr (2, 3169, 0)
  | 36 => .inr (0, 3, 0)
  | 37 => .inr (0, 3, 0)
  | 38 => .inr (0, 8, 0)
  | 39 => .inr (0, 8, 0)
  | 40 => .inr (4, 4, 10)
  | 41 => .inr (0, 60, 0)
  | 42 => .inr (0, 4, 0)
  | 43 => .inr (0, 4, 0)
  | 44 => .inr (0, 240, 0)
  | 45 => .inr (0, 60, 0)
  | 46 => .inr (0, 60, 0)
  | 47 => .inr (0, 8, 0)
  | 48 => .inr (0, 8, 0)
  | 49 => .inr (0, 18, 0)
  | 50 => .inr (0, 6, 0)
  | 51 => .inr (0, 6, 0)
  | 52 => .inr (0, 6, 0)
  | 53 => .inr (0, 6, 0)
  | 54 => .inr (0, 2, 0)
  | 55 => .inr (0, 6, 0)
  | 56 => .inr (0, 8, 0)
  | 57 => .inr (0, 8, 0)
  | 58 => .inr (0, 64, 0)
  | 59 => .inr (0, 64, 0)
  | 60 => .inr (0, 24, 0)
  | 61 => .inr (2, 3200, 0)
  | 62 => .inr (2, 3200, 0)
  | _ => .inr (0, 0, 0)
def cnt (k : Nat) : Nat := match k with
  | 3 => 6
  | 10 => 4
  | 17 => 6
  | 18 => 6
  | 19 => 6
  | 41 => 4
  | _ => 1
def kT0 : u_T := fun k => match k with
  | 0 => ("OneBook", "book", "LOneBook$Book;", true)
  | 1 => ("OneBook", "company", "LOneBook$Company;", true)
  | 2 => ("OneBook", "sitting", "LOneBook$Evening;", true)
  | 3 => ("OneBook", "plan", "LOneBook$Plan;", true)
  | 4 => ("OneBook", "seeming", "LOneBook$Seeming;", true)
  | 5 => ("OneBook", "seating", "LOneBook$Seating;", true)
  | 6 => ("OneBook", "turns", "LOneBook$Turns;", true)
  | 7 => ("OneBook", "moods", "LOneBook$Moods;", true)
  | 8 => ("OneBook", "sheets", "[LOneBook$Sheet;", true)
  | 9 => ("OneBook", "candle", "I", false)
  | 10 => ("OneBook", "day", "I", false)
  | _ => ("OneBook", "finding", "I", false)
def ky0 : Nat → FieldType := fun k => match k with
  | 0 => .object "OneBook$Book"
  | 1 => .object "OneBook$Company"
  | 2 => .object "OneBook$Evening"
  | 3 => .object "OneBook$Plan"
  | 4 => .object "OneBook$Seeming"
  | 5 => .object "OneBook$Seating"
  | 6 => .object "OneBook$Turns"
  | 7 => .object "OneBook$Moods"
  | 8 => .array (.object "OneBook$Sheet")
  | 9 => .int
  | 10 => .int
  | _ => .int
def kT1 : u_T := fun k => match k with
  | 0 => ("OneBook$Book", "bytes", "[I", true)
  | 1 => ("OneBook$Book", "kinds", "[I", true)
  | 2 => ("OneBook$Book", "lines", "[I", true)
  | 3 => ("OneBook$Book", "size", "I", false)
  | 4 => ("OneBook$Book", "chapters", "I", false)
  | _ => ("OneBook$Book", "fault", "I", false)
def ky1 : Nat → FieldType := fun k => match k with
  | 0 => .array .int
  | 1 => .array .int
  | 2 => .array .int
  | 3 => .int
  | 4 => .int
  | _ => .int
def kT2 : u_T := fun k => match k with
  | 0 => ("OneBook$Company", "book", "LOneBook$Book;", true)
  | 1 => ("OneBook$Company", "people", "[LOneBook$Reader;", true)
  | _ => ("OneBook$Company", "skipped", "[Z", true)
def ky2 : Nat → FieldType := fun k => match k with
  | 0 => .object "OneBook$Book"
  | 1 => .array (.object "OneBook$Reader")
  | _ => .array .boolean
def kT3 : u_T := fun k => match k with
  | 0 => ("OneBook$Reader", "speeds", "[I", true)
  | 1 => ("OneBook$Reader", "liked", "[Z", true)
  | _ => ("OneBook$Reader", "traits", "[I", true)
def ky3 : Nat → FieldType := fun k => match k with
  | 0 => .array .int
  | 1 => .array .boolean
  | _ => .array .int
def kT4 : u_T := fun k => match k with
  | 0 => ("OneBook$Evening", "company", "LOneBook$Company;", true)
  | 1 => ("OneBook$Evening", "waits", "[I", true)
  | 2 => ("OneBook$Evening", "chapters", "I", false)
  | 3 => ("OneBook$Evening", "minute", "I", false)
  | _ => ("OneBook$Evening", "next", "I", false)
def ky4 : Nat → FieldType := fun k => match k with
  | 0 => .object "OneBook$Company"
  | 1 => .array .int
  | 2 => .int
  | 3 => .int
  | _ => .int
def kT5 : u_T := fun k => match k with
  | 0 => ("OneBook$Plan", "company", "LOneBook$Company;", true)
  | 1 => ("OneBook$Plan", "timesA", "[I", true)
  | 2 => ("OneBook$Plan", "timesB", "[I", true)
  | 3 => ("OneBook$Plan", "row", "[I", true)
  | 4 => ("OneBook$Plan", "bestRow", "[I", true)
  | 5 => ("OneBook$Plan", "linesFrom", "[I", true)
  | 6 => ("OneBook$Plan", "candle", "I", false)
  | 7 => ("OneBook$Plan", "day", "I", false)
  | 8 => ("OneBook$Plan", "bestLines", "I", false)
  | 9 => ("OneBook$Plan", "bestWaits", "I", false)
  | _ => ("OneBook$Plan", "bestMinutes", "I", false)
def ky5 : Nat → FieldType := fun k => match k with
  | 0 => .object "OneBook$Company"
  | 1 => .array .int
  | 2 => .array .int
  | 3 => .array .int
  | 4 => .array .int
  | 5 => .array .int
  | 6 => .int
  | 7 => .int
  | 8 => .int
  | 9 => .int
  | _ => .int
def kT6 : u_T := fun k => match k with
  | 0 => ("OneBook$Seeming", "company", "LOneBook$Company;", true)
  | 1 => ("OneBook$Seeming", "gainsA", "[I", true)
  | 2 => ("OneBook$Seeming", "gainsB", "[I", true)
  | 3 => ("OneBook$Seeming", "restCases", "[I", true)
  | _ => ("OneBook$Seeming", "restCount", "I", false)
def ky6 : Nat → FieldType := fun k => match k with
  | 0 => .object "OneBook$Company"
  | 1 => .array .int
  | 2 => .array .int
  | 3 => .array .int
  | _ => .int
def kT7 : u_T := fun k => match k with
  | 0 => ("OneBook$Seating", "company", "LOneBook$Company;", true)
  | 1 => ("OneBook$Seating", "waits", "[I", true)
  | 2 => ("OneBook$Seating", "leastWaits", "[I", true)
  | 3 => ("OneBook$Seating", "partners", "[I", true)
  | _ => ("OneBook$Seating", "minutes", "I", false)
def ky7 : Nat → FieldType := fun k => match k with
  | 0 => .object "OneBook$Company"
  | 1 => .array .int
  | 2 => .array .int
  | 3 => .array .int
  | _ => .int
def kT8 : u_T := fun k => match k with
  | 0 => ("OneBook$Turns", "company", "LOneBook$Company;", true)
  | 1 => ("OneBook$Turns", "chapters", "[I", true)
  | 2 => ("OneBook$Turns", "sets", "[I", true)
  | 3 => ("OneBook$Turns", "minutes", "[I", true)
  | _ => ("OneBook$Turns", "size", "I", false)
def ky8 : Nat → FieldType := fun k => match k with
  | 0 => .object "OneBook$Company"
  | 1 => .array .int
  | 2 => .array .int
  | 3 => .array .int
  | _ => .int
def kT9 : u_T := fun k => match k with
  | 0 => ("OneBook$Moods", "company", "LOneBook$Company;", true)
  | 1 => ("OneBook$Moods", "ways", "[J", true)
  | 2 => ("OneBook$Moods", "times", "[I", true)
  | 3 => ("OneBook$Moods", "quarters", "[I", true)
  | 4 => ("OneBook$Moods", "lengths", "[I", true)
  | 5 => ("OneBook$Moods", "shares", "[I", true)
  | 6 => ("OneBook$Moods", "outcomes", "I", false)
  | 7 => ("OneBook$Moods", "above", "J", false)
  | _ => ("OneBook$Moods", "below", "J", false)
def ky9 : Nat → FieldType := fun k => match k with
  | 0 => .object "OneBook$Company"
  | 1 => .array .long
  | 2 => .array .int
  | 3 => .array .int
  | 4 => .array .int
  | 5 => .array .int
  | 6 => .int
  | 7 => .long
  | _ => .long
def kT10 : u_T := fun k => match k with
  | 0 => ("OneBook$Sheet", "items", "[I", true)
  | 1 => ("OneBook$Sheet", "lost", "Z", false)
  | 2 => ("OneBook$Sheet", "form", "I", false)
  | _ => ("OneBook$Sheet", "size", "I", false)
def ky10 : Nat → FieldType := fun k => match k with
  | 0 => .array .int
  | 1 => .boolean
  | 2 => .int
  | _ => .int
def kT11 : u_T := fun k => match k with
  | 0 => ("OneBookModel", "forms", "[I", true)
  | 1 => ("OneBookModel", "sizes", "[I", true)
  | 2 => ("OneBookModel", "items", "[I", true)
  | 3 => ("OneBookModel", "moved", "[I", true)
  | 4 => ("OneBookModel", "latest", "I", false)
  | 5 => ("OneBookModel", "text", "[I", true)
  | 6 => ("OneBookModel", "typed", "I", false)
  | 7 => ("OneBookModel", "at", "I", false)
  | 8 => ("OneBookModel", "chapters", "I", false)
  | 9 => ("OneBookModel", "kinds", "[I", true)
  | 10 => ("OneBookModel", "lines", "[I", true)
  | 11 => ("OneBookModel", "skipped", "I", false)
  | 12 => ("OneBookModel", "paceOf", "[I", true)
  | 13 => ("OneBookModel", "likes", "[I", true)
  | 14 => ("OneBookModel", "works", "[I", true)
  | 15 => ("OneBookModel", "joys", "[I", true)
  | 16 => ("OneBookModel", "moods", "[I", true)
  | 17 => ("OneBookModel", "settings", "[I", true)
  | 18 => ("OneBookModel", "readMany", "I", false)
  | 19 => ("OneBookModel", "minutes", "I", false)
  | 20 => ("OneBookModel", "nextOne", "I", false)
  | 21 => ("OneBookModel", "waits", "[I", true)
  | 22 => ("OneBookModel", "ways", "[I", true)
  | 23 => ("OneBookModel", "bestWays", "[I", true)
  | 24 => ("OneBookModel", "bestLines", "I", false)
  | 25 => ("OneBookModel", "bestWaits", "I", false)
  | 26 => ("OneBookModel", "bestMinutes", "I", false)
  | 27 => ("OneBookModel", "pairLeast", "[I", true)
  | 28 => ("OneBookModel", "pairWith", "[I", true)
  | 29 => ("OneBookModel", "turns", "I", false)
  | 30 => ("OneBookModel", "told", "[I", true)
  | 31 => ("OneBookModel", "byMinute", "[J", true)
  | 32 => ("OneBookModel", "nextByMinute", "[J", true)
  | _ => ("OneBookModel", "whole", "J", false)
def ky11 : Nat → FieldType := fun k => match k with
  | 0 => .array .int
  | 1 => .array .int
  | 2 => .array .int
  | 3 => .array .int
  | 4 => .int
  | 5 => .array .int
  | 6 => .int
  | 7 => .int
  | 8 => .int
  | 9 => .array .int
  | 10 => .array .int
  | 11 => .int
  | 12 => .array .int
  | 13 => .array .int
  | 14 => .array .int
  | 15 => .array .int
  | 16 => .array .int
  | 17 => .array .int
  | 18 => .int
  | 19 => .int
  | 20 => .int
  | 21 => .array .int
  | 22 => .array .int
  | 23 => .array .int
  | 24 => .int
  | 25 => .int
  | 26 => .int
  | 27 => .array .int
  | 28 => .array .int
  | 29 => .int
  | 30 => .array .int
  | 31 => .array .long
  | 32 => .array .long
  | _ => .long
abbrev cls : List vw_C := [("OneBook", kT0, 12), ("OneBook$Book", kT1, 6), ("OneBook$Company", kT2, 3), ("OneBook$Reader", kT3, 3), ("OneBook$Evening", kT4, 5), ("OneBook$Plan", kT5, 11), ("OneBook$Seeming", kT6, 5), ("OneBook$Seating", kT7, 5), ("OneBook$Turns", kT8, 5), ("OneBook$Moods", kT9, 9), ("OneBook$Sheet", kT10, 4), ("OneBookModel", kT11, 34)]
def fv (ad : AD) (σ : ST) (k i f : Nat) (t : FL) : Value := match t.1 with
  | 0 => .int (σ.1 k i f)
  | 1 => .long (σ.2 k i f)
  | 2 => .ref (ad t.2.1 (if t.2.2 = 0 then 0 else i))
  | _ => .int (σ.1 k i f)
def arc (ad : AD) (σ : ST) (k i t k' : Nat) : (Nat → Int32) ⊕ (Nat → Int64) ⊕ (Nat → UInt32) ⊕ (Nat → UInt64) ⊕ (Nat → Option Nat) := match t with
  | 0 => .inl (σ.1 k i)
  | 1 => .inl (σ.1 k i)
  | 2 => .inr (.inl (σ.2 k i))
  | _ => .inr (.inr (.inr (.inr (fun j => some (ad k' j)))))
def cel (ad : AD) (aC : Nat → ClassId) (σ : ST) (k i : Nat) : va_E := match kd k with
  | .inl (c, fs) => .inr (c, fs.mapIdx (fun f t => fv ad σ k i f t))
  | .inr (t, n, k') => .inl (aC t, n, arc ad σ k i t k')
def cellList : List (Nat × Nat) := (List.range 63).flatMap (fun k => (List.range (cnt k)).map (fun i => (k, i)))
def wld (ad : AD) (aC : Nat → ClassId) (σ : ST) : va_W := cellList.map (fun q => (ad q.1 q.2, cel ad aC σ q.1 q.2))
def tys (aC : Nat → ClassId) : List (ClassId × FieldType) := [(aC 0, .int), (aC 1, .boolean), (aC 2, .long), (aC 3, .object "OneBook$Reader"), (aC 4, .object "OneBook$Sheet")]
theorem mem_cells {k i : Nat} (hk : k < 63) (hi : i < cnt k) : (k, i) ∈ cellList :=
  List.mem_flatMap.mpr ⟨k, List.mem_range.mpr hk, List.mem_map.mpr ⟨i, List.mem_range.mpr hi, rfl⟩⟩
theorem cells_nodup : cellList.Nodup := by decide +kernel
theorem wld_pos {k i : Nat} (hk : k < 63) (hi : i < cnt k) : ∃ q0 : Nat, cellList[q0]? = some (k, i) := List.getElem?_of_mem (mem_cells hk hi)
theorem wld_get {ad : AD} {aC : Nat → ClassId} {σ : ST} {q0 k i : Nat} (h : cellList[q0]? = some (k, i)) : (wld ad aC σ)[q0]? = some (ad k i, cel ad aC σ k i) := by
  unfold wld
  rw [List.getElem?_map, h]
  rfl
theorem cel_other {ad : AD} {aC : Nat → ClassId} {σ σ' : ST} {a b : Nat} (h1 : σ'.1 a b = σ.1 a b) (h2 : σ'.2 a b = σ.2 a b) : cel ad aC σ' a b = cel ad aC σ a b := by
  unfold cel
  split
  · have e : (fun f t => fv ad σ' a b f t) = (fun f t => fv ad σ a b f t) := by
      funext f t
      unfold fv
      rw [h1, h2]
    rw [e]
  · congr 3
    unfold arc
    rw [h1, h2]
theorem nodup_pos {α : Type} : ∀ {l : List α} {i j : Nat} {a : α}, l.Nodup → l[i]? = some a → l[j]? = some a → i = j
  | [], i, j, a, _, h, _ => by simp at h
  | b :: l, i, j, a, hn, h1, h2 => by
    obtain ⟨n1, n2⟩ := List.nodup_cons.mp hn
    cases i with
    | zero =>
      cases j with
      | zero => rfl
      | succ j =>
        rw [List.getElem?_cons_zero] at h1
        rw [List.getElem?_cons_succ] at h2
        cases h1
        exact absurd (List.mem_of_getElem? h2) n1
    | succ i =>
      rw [List.getElem?_cons_succ] at h1
      cases j with
      | zero =>
        rw [List.getElem?_cons_zero] at h2
        cases h2
        exact absurd (List.mem_of_getElem? h1) n1
      | succ j =>
        rw [List.getElem?_cons_succ] at h2
        rw [nodup_pos n2 h1 h2]
theorem wld_set {ad : AD} {aC : Nat → ClassId} {σ σ' : ST} {q0 k i : Nat} {E : va_E} (h : cellList[q0]? = some (k, i)) (hσ : ∀ a b : Nat, ¬ (a = k ∧ b = i) → σ'.1 a b = σ.1 a b ∧ σ'.2 a b = σ.2 a b) (e : cel ad aC σ' k i = E) : (wld ad aC σ).set q0 (ad k i, E) = wld ad aC σ' := by
  have hl : q0 < cellList.length := (List.getElem?_eq_some_iff.mp h).1
  apply List.ext_getElem?
  intro j
  by_cases hj : j = q0
  · subst hj
    rw [List.getElem?_set_self (by simpa [wld] using hl), wld_get h, e]
  · rw [List.getElem?_set_ne (Ne.symm hj)]
    unfold wld
    rw [List.getElem?_map, List.getElem?_map]
    cases hc : cellList[j]? with
    | none => rfl
    | some q =>
      have hq : ¬ (q.1 = k ∧ q.2 = i) := by
        rintro ⟨e1, e2⟩
        have hq' : q = (k, i) := Prod.ext e1 e2
        rw [hq'] at hc
        exact hj (nodup_pos cells_nodup hc h)
      obtain ⟨z1, z2⟩ := hσ q.1 q.2 hq
      show some (ad q.1 q.2, cel ad aC σ q.1 q.2) = some (ad q.1 q.2, cel ad aC σ' q.1 q.2)
      rw [cel_other z1 z2]
end
section
-- the judgement Ev: a frame of a method over the cells of the two objects; and what it gives
abbrev MD : Type := MethodName × ByteArray × Nat × Option FieldType
def lw_gd : List Cond := lw_tbl.filter goodWord
def nests : List Cond := [.methodLinkNest "OneBook$Company" 51 ⟨"OneBook", "holds", "(II)Z"⟩ "OneBook", .methodLinkNest "OneBook$Evening" 46 ⟨"OneBook", "holds", "(II)Z"⟩ "OneBook", .methodLinkNest "OneBook$Seating" 46 ⟨"OneBook", "holds", "(II)Z"⟩ "OneBook", .methodLinkNest "OneBook$Turns" 62 ⟨"OneBook", "holds", "(II)Z"⟩ "OneBook", .methodLinkNest "OneBook$Moods" 81 ⟨"OneBook", "holds", "(II)Z"⟩ "OneBook"]
def Wo (D : va_G) (ad : AD) (aC : Nat → ClassId) (σ : ST) (A : Nat → Prop) (H0 H : Heap) (locs : List Loc) : Prop :=
  va_P D cls (wld ad aC σ) H ∧ va_D A (wld ad aC σ) ∧ va_S A H0 H locs
def Lc (ad : AD) (ls : Array Slot) (n : Nat) (L : List (Option AV)) : Prop := ls.size = n ∧ lv_wf ls ∧ ∀ (i : Nat) (v : AV), L[i]? = some (some v) → ls[i]? = some (.val (cv ad v))
/-- which answer a method of a return type may give, and by which instruction -/
def rok (ret : Option FieldType) (r : Option AV) (op : Instr) : Prop := match ret, r with
  | none, none => op = .return_
  | some .int, some (.inl _) => op = .ireturn
  | some .boolean, some (.inl x) => op = .ireturn ∧ (x = 0 ∨ x = 1)
  | some .long, some (.inr (.inl _)) => op = .lreturn
  | some (.object _), some (.inr (.inr _)) => op = .areturn
  | _, _ => False
abbrev SX : Type := Option (Nat × (Nat → Int32))
/-- the script: kind 63 -/
def Xok (X : SX) (ad : AD) (A : Nat → Prop) (s : State) : Prop := match X with
  | none => True
  | some q => va_X (ad 63 0) q.1 q.2 s s.heap ∧ ad 63 0 < s.heap.size ∧ ¬ A (ad 63 0)
def Cx (X : SX) (d : Nat) (M : MD) (post : Option AV → ST → Prop) (D : va_G) (ad : AD) (aC : Nat → ClassId) (p : Program) (l : Launch) (e : Env) (R : Room) (s : State) (m : MethodId) (args : Array Value) (below : List Frame) (meth : Method) (c : Code) (cells slots : Nat) (A : Nat → Prop) (Q : State → Prop) : Prop :=
  p.tables.exec = Jvm.exec ∧ c.code = M.2.1 ∧ c.maxLocals = M.2.2.1 ∧ s.vm.findClass M.1.cls = some m.cls ∧ (∀ w ∈ lw_gd, w.before args s = true) ∧ (∀ w ∈ nests, va_Nw w s) ∧ va_K D cls (tys aC) s ∧ (d ≤ R.frames ∧ 64 * d ≤ R.locals ∧ cells ≤ R.cells ∧ slots ≤ R.slots) ∧ (∀ q, s.heap.size ≤ q → A q) ∧ Xok X ad A s ∧
  ∀ (r : Option AV) (σ : ST) (H : Heap) (locs : List Loc) (ls : Array Slot) (pc : Nat) (op : Instr), post r σ → rok M.2.2.2 r op → Wo D ad aC σ A s.heap H locs → decode M.2.1 pc = .ok (op, 1) → W p l e R s m args below meth c H locs cells slots Q (F0 m pc ls (r.toList.map (cv ad)))
def Ev (X : SX) (d : Nat) (M : MD) (pc : Nat) (L : List (Option AV)) (st : List AV) (σ : ST) (post : Option AV → ST → Prop) : Prop :=
  ∀ (D : va_G) (ad : AD) (aC : Nat → ClassId) (p : Program) (l : Launch) (e : Env) (R : Room) (s : State) (m : MethodId) (args : Array Value) (below : List Frame) (meth : Method) (c : Code) (cells slots : Nat) (A : Nat → Prop) (Q : State → Prop), Cx X d M post D ad aC p l e R s m args below meth c cells slots A Q →
    ∀ (H : Heap) (locs : List Loc) (ls : Array Slot), Wo D ad aC σ A s.heap H locs → Lc ad ls M.2.2.1 L → W p l e R s m args below meth c H locs cells slots Q (F0 m pc ls (st.map (cv ad)))
/-- Ev with its context named: what a rule is proved from -/
theorem Ev.at {X : SX} {d : Nat} {M : MD} {pc : Nat} {L : List (Option AV)} {st : List AV} {σ : ST} {post : Option AV → ST → Prop} (h : Ev X d M pc L st σ post) {D : va_G} {ad : AD} {aC : Nat → ClassId} {p : Program} {l : Launch} {e : Env} {R : Room} {s : State} {m : MethodId} {args : Array Value} {below : List Frame} {meth : Method} {c : Code} {cells slots : Nat} {A : Nat → Prop} {Q : State → Prop} (C : Cx X d M post D ad aC p l e R s m args below meth c cells slots A Q)
    {H : Heap} {locs : List Loc} {ls : Array Slot} (w : Wo D ad aC σ A s.heap H locs) (hl : Lc ad ls M.2.2.1 L) : W p l e R s m args below meth c H locs cells slots Q (F0 m pc ls (st.map (cv ad))) := h D ad aC p l e R s m args below meth c cells slots A Q C H locs ls w hl
theorem Ev.mono {X : SX} {d : Nat} {M : MD} {pc : Nat} {L : List (Option AV)} {st : List AV} {σ : ST} {post post' : Option AV → ST → Prop} (h : Ev X d M pc L st σ post) (hp : ∀ r σ', post r σ' → post' r σ') : Ev X d M pc L st σ post' := by
  intro D ad aC p l e R s m args below meth c cells slots A Q C H locs ls w hl
  obtain ⟨c1, c2, c3, c4, c5, c6, c7, c8, c9, c10, c11⟩ := C
  exact h.at ⟨c1, c2, c3, c4, c5, c6, c7, c8, c9, c10, fun r σ' H locs ls pc op h1 => c11 r σ' H locs ls pc op (hp r σ' h1)⟩ w hl
theorem Ev.up {X : SX} {d d' : Nat} {M : MD} {pc : Nat} {L : List (Option AV)} {st : List AV} {σ : ST} {post : Option AV → ST → Prop} (h : Ev X d M pc L st σ post) (hd : d ≤ d') : Ev X d' M pc L st σ post := by
  intro D ad aC p l e R s m args below meth c cells slots A Q C H locs ls w hl
  obtain ⟨c1, c2, c3, c4, c5, c6, c7, ⟨r1, r2, r3, r4⟩, c9, c10, c11⟩ := C
  exact h.at ⟨c1, c2, c3, c4, c5, c6, c7, ⟨by omega, by omega, r3, r4⟩, c9, c10, c11⟩ w hl
-- locals
def prs (ad : AD) (L : List (Option AV)) : List (Nat × Value) := (List.range L.length).filterMap (fun i => match L[i]? with | some (some v) => some (i, cv ad v) | _ => none)
theorem mem_prs {ad : AD} {L : List (Option AV)} {i : Nat} {w : Value} : (i, w) ∈ prs ad L ↔ ∃ v, L[i]? = some (some v) ∧ w = cv ad v := by
  unfold prs
  rw [List.mem_filterMap]
  constructor
  · rintro ⟨j, -, h⟩
    split at h
    next v hv =>
      cases h
      exact ⟨v, hv, rfl⟩
    next => cases h
  · rintro ⟨v, hv, rfl⟩
    refine ⟨i, List.mem_range.mpr (List.getElem?_eq_some_iff.mp hv).1, ?_⟩
    rw [hv]
theorem Lc.has {ad : AD} {ls : Array Slot} {n : Nat} {L : List (Option AV)} (h : Lc ad ls n L) : lv_has ls n (prs ad L) := by
  refine ⟨h.1, h.2.1, ?_⟩
  rintro ⟨i, w⟩ hq
  obtain ⟨v, hv, rfl⟩ := mem_prs.mp hq
  exact h.2.2 i v hv
def isJ : Option (Option AV) → Bool
  | some (some (.inr (.inl _))) => true
  | _ => false
/-- what a store leaves of the slot ahead of it -/
def kil (L : List (Option AV)) (i : Nat) : List (Option AV) := match i with
  | 0 => L
  | j + 1 => match isJ L[j]? with
    | true => L.set j none
    | false => L
def sto1 (L : List (Option AV)) (i : Nat) (v : AV) : List (Option AV) := (kil L i).set i (some v)
def sto2 (L : List (Option AV)) (i : Nat) (v : AV) : List (Option AV) := ((kil L i).set i (some v)).set (i + 1) none
theorem cv_cat2 {ad : AD} {v : AV} : (cv ad v).category = 2 ↔ isJ (some (some v)) = true := by
  rcases v with x | x | ⟨k, i⟩ <;> simp [cv, isJ, Value.category]
theorem kil_at {L : List (Option AV)} {i j : Nat} {v : AV} (h : (kil L i)[j]? = some (some v)) : L[j]? = some (some v) ∧ ¬ (j + 1 = i ∧ isJ (some (some v)) = true) := by
  unfold kil at h
  cases i with
  | zero => exact ⟨h, fun q => by omega⟩
  | succ i =>
    dsimp only at h
    split at h
    next hq =>
      by_cases hj : j = i
      · subst hj
        have hlt : j < L.length := by
          have := (List.getElem?_eq_some_iff.mp h).1
          simpa using this
        rw [List.getElem?_set_self hlt] at h
        cases h
      · rw [List.getElem?_set_ne (Ne.symm hj)] at h
        exact ⟨h, fun q => hj (by omega)⟩
    next hq =>
      refine ⟨h, fun q => ?_⟩
      have e : j = i := by omega
      subst e
      rw [h, q.2] at hq
      cases hq
theorem set_at {L : List (Option AV)} {i j : Nat} {v w : AV} (h : (L.set i (some v))[j]? = some (some w)) : (j = i ∧ w = v) ∨ (j ≠ i ∧ L[j]? = some (some w)) := by
  by_cases hj : j = i
  · subst hj
    have hlt : j < L.length := by
      have := (List.getElem?_eq_some_iff.mp h).1
      simpa using this
    rw [List.getElem?_set_self hlt] at h
    cases h
    exact Or.inl ⟨rfl, rfl⟩
  · rw [List.getElem?_set_ne (Ne.symm hj)] at h
    exact Or.inr ⟨hj, h⟩
theorem setn_at {L : List (Option AV)} {i j : Nat} {w : AV} (h : (L.set i none)[j]? = some (some w)) : j ≠ i ∧ L[j]? = some (some w) := by
  by_cases hj : j = i
  · subst hj
    have hlt : j < L.length := by
      have := (List.getElem?_eq_some_iff.mp h).1
      simpa using this
    rw [List.getElem?_set_self hlt] at h
    cases h
  · rw [List.getElem?_set_ne (Ne.symm hj)] at h
    exact ⟨hj, h⟩
theorem Lc.of1 {ad : AD} {ls : Array Slot} {n i : Nat} {L : List (Option AV)} {v : AV} (h : lv_has ls n ((i, cv ad v) :: (prs ad L).filter (fun q => !(q.1 == i) && !(q.1 + 1 == i && q.2.category == 2)))) : Lc ad ls n (sto1 L i v) := by
  refine ⟨h.1, h.2.1, fun j w hw => ?_⟩
  rcases set_at hw with ⟨rfl, rfl⟩ | ⟨hj, hk⟩
  · exact h.2.2 _ List.mem_cons_self
  · obtain ⟨h1, h2⟩ := kil_at hk
    refine h.2.2 (j, cv ad w) (List.mem_cons_of_mem _ (List.mem_filter.mpr ⟨mem_prs.mpr ⟨w, h1, rfl⟩, ?_⟩))
    have n1 : (j == i) = false := beq_eq_false_iff_ne.mpr hj
    have n2 : (j + 1 == i && (cv ad w).category == 2) = false := by
      rw [Bool.and_eq_false_iff]
      by_cases a : j + 1 = i
      · right
        rw [beq_eq_false_iff_ne]
        exact fun q => h2 ⟨a, cv_cat2.mp q⟩
      · left
        exact beq_eq_false_iff_ne.mpr a
    simp only [n1, n2]
    rfl
theorem Lc.of2 {ad : AD} {ls : Array Slot} {n i : Nat} {L : List (Option AV)} {v : AV} (h : lv_has ls n ((i, cv ad v) :: (prs ad L).filter (fun q => !(q.1 == i) && (!(q.1 == i + 1) && !(q.1 + 1 == i && q.2.category == 2))))) : Lc ad ls n (sto2 L i v) := by
  refine ⟨h.1, h.2.1, fun j w hw => ?_⟩
  obtain ⟨g1, hw⟩ := setn_at hw
  rcases set_at hw with ⟨rfl, rfl⟩ | ⟨hj, hk⟩
  · exact h.2.2 _ List.mem_cons_self
  · obtain ⟨h1, h2⟩ := kil_at hk
    refine h.2.2 (j, cv ad w) (List.mem_cons_of_mem _ (List.mem_filter.mpr ⟨mem_prs.mpr ⟨w, h1, rfl⟩, ?_⟩))
    have n1 : (j == i) = false := beq_eq_false_iff_ne.mpr hj
    have n3 : (j == i + 1) = false := beq_eq_false_iff_ne.mpr g1
    have n2 : (j + 1 == i && (cv ad w).category == 2) = false := by
      rw [Bool.and_eq_false_iff]
      by_cases a : j + 1 = i
      · right
        rw [beq_eq_false_iff_ne]
        exact fun q => h2 ⟨a, cv_cat2.mp q⟩
      · left
        exact beq_eq_false_iff_ne.mpr a
    simp only [n1, n2, n3]
    rfl
def entL : List AV → List (Option AV)
  | [] => []
  | v :: vs => match isJ (some (some v)) with
    | true => some v :: none :: entL vs
    | false => some v :: entL vs
def entP (n : Nat) (as : List AV) : List (Option AV) := entL as ++ List.replicate (n - (entL as).length) none
theorem entL_cons (v : AV) (vs : List AV) : entL (v :: vs) = if isJ (some (some v)) = true then some v :: none :: entL vs else some v :: entL vs := by
  show (match isJ (some (some v)) with | true => some v :: none :: entL vs | false => some v :: entL vs) = _
  cases isJ (some (some v)) <;> rfl
theorem entL_len {ad : AD} : ∀ as : List AV, (lg_sl (as.map (cv ad))).length = (entL as).length
  | [] => rfl
  | v :: vs => by
    have ih := entL_len (ad := ad) vs
    have e : lg_sl ((v :: vs).map (cv ad)) = (if (cv ad v).category = 2 then [.val (cv ad v), .second] else [.val (cv ad v)]) ++ lg_sl (vs.map (cv ad)) := rfl
    rw [e, List.length_append, ih, entL_cons]
    by_cases h : isJ (some (some v)) = true
    · rw [if_pos h, if_pos (cv_cat2.mpr h)]
      simp
      omega
    · rw [if_neg h, if_neg (fun q => h (cv_cat2.mp q))]
      simp
      omega
theorem entL_at {ad : AD} : ∀ (as : List AV) (o j : Nat) (v : AV), (entL as)[j]? = some (some v) → (o + j, cv ad v) ∈ lv_args o (as.map (cv ad))
  | [], o, j, v, h => by simp [entL] at h
  | a :: as, o, j, v, h => by
    show _ ∈ (o, cv ad a) :: lv_args (if (cv ad a).category = 2 then o + 2 else o + 1) (as.map (cv ad))
    rw [entL_cons] at h
    by_cases hq : isJ (some (some a)) = true
    · rw [if_pos hq] at h
      rw [if_pos (cv_cat2.mpr hq)]
      match j, h with
      | 0, h =>
        cases h
        exact List.mem_cons_self
      | 1, h => cases h
      | j + 2, h =>
        have h' : (entL as)[j]? = some (some v) := h
        have := entL_at (ad := ad) as (o + 2) j v h'
        rw [show o + (j + 2) = o + 2 + j by omega]
        exact List.mem_cons_of_mem _ this
    · rw [if_neg hq] at h
      rw [if_neg (fun q => hq (cv_cat2.mp q))]
      match j, h with
      | 0, h =>
        cases h
        exact List.mem_cons_self
      | j + 1, h =>
        have h' : (entL as)[j]? = some (some v) := h
        have := entL_at (ad := ad) as (o + 1) j v h'
        rw [show o + (j + 1) = o + 1 + j by omega]
        exact List.mem_cons_of_mem _ this
theorem Lc.entry (ad : AD) (as : List AV) {n : Nat} (h : (entL as).length ≤ n) : Lc ad ((lg_sl (as.map (cv ad)) ++ List.replicate (n - (lg_sl (as.map (cv ad))).length) Slot.unset).toArray) n (entP n as) := by
  have hl := lv_entry (as.map (cv ad)) (n := n) (by rw [entL_len]; exact h)
  refine ⟨hl.1, hl.2.1, fun i v hv => ?_⟩
  have hv' : (entL as)[i]? = some (some v) := by
    unfold entP at hv
    by_cases hi : i < (entL as).length
    · rwa [List.getElem?_append_left hi] at hv
    · rw [List.getElem?_append_right (by omega)] at hv
      have := List.mem_of_getElem? hv
      rw [List.mem_replicate] at this
      exact absurd this.2 (by intro q; cases q)
  have := entL_at (ad := ad) as 0 i v hv'
  rw [Nat.zero_add] at this
  exact hl.2.2 _ this
end
section
-- the rules of Ev, an instruction each (by program: wip/gen/gen_rules.py)
def bi (p : Prop) [Decidable p] : Int32 := if p then 1 else 0
theorem bi_01 (p : Prop) [Decidable p] : bi p = 0 ∨ bi p = 1 := by
  unfold bi
  split
  · exact Or.inr rfl
  · exact Or.inl rfl
theorem bi_0 {p : Prop} [Decidable p] : bi p = 0 ↔ ¬ p := by
  unfold bi
  split
  next h => exact ⟨fun q => absurd q (by decide), fun q => absurd h q⟩
  next h => exact ⟨fun _ => h, fun _ => rfl⟩
theorem bi_t {p : Prop} [Decidable p] (h : p) : bi p = 1 := if_pos h
theorem bi_f {p : Prop} [Decidable p] (h : ¬ p) : bi p = 0 := if_neg h
def imax (x y : Int32) : Int32 := if x < y then y else x
def imin (x y : Int32) : Int32 := if y < x then y else x
def iabs (x : Int32) : Int32 := if 0 ≤ x then x else 0 - x
def irm (x y : Int32) : Int32 := x - x / y * y
def lrm (x y : Int64) : Int64 := x - x / y * y
def isl (x y : Int32) : Int32 := x <<< (y &&& 31)
def isr (x y : Int32) : Int32 := x >>> (y &&& 31)
def ius (x y : Int32) : Int32 := (x.toUInt32 >>> (y.toUInt32 &&& Int32.toUInt32 31)).toInt32
def lsl (x : Int64) (y : Int32) : Int64 := x <<< (y.toInt64 &&& 63)
section EVR
variable {X : SX} {d : Nat} {M : MD} {pc : Nat} {L L' : List (Option AV)} {st : List AV} {σ : ST} {post : Option AV → ST → Prop}
theorem ev_iconst {n : Int} {v : Int32} (hd : decode M.2.1 pc = .ok (.iconst n, 1)) (hv : Int32.ofInt n = v) (k : Ev X d M (pc + 1) L (vI v :: st) σ post) : Ev X d M pc L (st) σ post := by
  intro D ad aC p l e R s m args below meth c cells slots A Q C H locs ls w hl
  exact lv_iconst C.1 C.2.1 hd hv (k.at C w hl)
theorem ev_bipush {n : Int} {v : Int32} (hd : decode M.2.1 pc = .ok (.bipush n, 2)) (hv : (Int8.ofInt n).toInt32 = v) (k : Ev X d M (pc + 2) L (vI v :: st) σ post) : Ev X d M pc L (st) σ post := by
  intro D ad aC p l e R s m args below meth c cells slots A Q C H locs ls w hl
  exact lv_bipush C.1 C.2.1 hd hv (k.at C w hl)
theorem ev_sipush {n : Int} {v : Int32} (hd : decode M.2.1 pc = .ok (.sipush n, 3)) (hv : (Int16.ofInt n).toInt32 = v) (k : Ev X d M (pc + 3) L (vI v :: st) σ post) : Ev X d M pc L (st) σ post := by
  intro D ad aC p l e R s m args below meth c cells slots A Q C H locs ls w hl
  exact lv_sipush C.1 C.2.1 hd hv (k.at C w hl)
theorem ev_lconst {n : Fin 2} {v : Int64} (hd : decode M.2.1 pc = .ok (.lconst n, 1)) (hv : Int64.ofNat (n : Nat) = v) (k : Ev X d M (pc + 1) L (vJ v :: st) σ post) : Ev X d M pc L (st) σ post := by
  intro D ad aC p l e R s m args below meth c cells slots A Q C H locs ls w hl
  exact lv_lconst C.1 C.2.1 hd hv (k.at C w hl)
theorem ev_ldc {idx : Nat} {v : Int32} (hd : decode M.2.1 pc = .ok (.ldc idx, 2)) (hc : Cond.constant M.1.cls idx v ∈ lw_gd) (k : Ev X d M (pc + 2) L (vI v :: st) σ post) : Ev X d M pc L st σ post := by
  intro D ad aC p l e R s m args below meth c cells slots A Q C H locs ls w hl
  exact lv_ldc C.1 C.2.1 C.2.2.2.1 (C.2.2.2.2.1 _ hc) hd (k.at C w hl)
theorem ev_ldcw {idx : Nat} {v : Int32} (hd : decode M.2.1 pc = .ok (.ldc_w idx, 3)) (hc : Cond.constant M.1.cls idx v ∈ lw_gd) (k : Ev X d M (pc + 3) L (vI v :: st) σ post) : Ev X d M pc L st σ post := by
  intro D ad aC p l e R s m args below meth c cells slots A Q C H locs ls w hl
  exact lv_ldcw C.1 C.2.1 C.2.2.2.1 (C.2.2.2.2.1 _ hc) hd (k.at C w hl)
theorem ev_ldc2 {idx : Nat} {v : Int64} (hd : decode M.2.1 pc = .ok (.ldc2_w idx, 3)) (hc : Cond.constantLong M.1.cls idx v ∈ lw_gd) (k : Ev X d M (pc + 3) L (vJ v :: st) σ post) : Ev X d M pc L st σ post := by
  intro D ad aC p l e R s m args below meth c cells slots A Q C H locs ls w hl
  exact lv_ldc2 C.1 C.2.1 C.2.2.2.1 (C.2.2.2.2.1 _ hc) hd (k.at C w hl)
theorem ev_iload_n {j : Fin 4} {i : Nat} {x : Int32} (hd : decode M.2.1 pc = .ok (.iload_n j, 1)) (hi : (j : Nat) = i) (hx : L[i]? = some (some (vI x))) (k : Ev X d M (pc + 1) L (vI x :: st) σ post) : Ev X d M pc L st σ post := by
  intro D ad aC p l e R s m args below meth c cells slots A Q C H locs ls w hl
  exact lv_iload_n C.1 C.2.1 hd hi (hl.2.2 _ _ hx) (k.at C w hl)
theorem ev_iload {i : Nat} {x : Int32} (hd : decode M.2.1 pc = .ok (.iload i, 2)) (hx : L[i]? = some (some (vI x))) (k : Ev X d M (pc + 2) L (vI x :: st) σ post) : Ev X d M pc L st σ post := by
  intro D ad aC p l e R s m args below meth c cells slots A Q C H locs ls w hl
  exact lv_iload C.1 C.2.1 hd (hl.2.2 _ _ hx) (k.at C w hl)
theorem ev_lload_n {j : Fin 4} {i : Nat} {x : Int64} (hd : decode M.2.1 pc = .ok (.lload_n j, 1)) (hi : (j : Nat) = i) (hx : L[i]? = some (some (vJ x))) (k : Ev X d M (pc + 1) L (vJ x :: st) σ post) : Ev X d M pc L st σ post := by
  intro D ad aC p l e R s m args below meth c cells slots A Q C H locs ls w hl
  exact lv_lload_n C.1 C.2.1 hd hi (hl.2.2 _ _ hx) (k.at C w hl)
theorem ev_lload {i : Nat} {x : Int64} (hd : decode M.2.1 pc = .ok (.lload i, 2)) (hx : L[i]? = some (some (vJ x))) (k : Ev X d M (pc + 2) L (vJ x :: st) σ post) : Ev X d M pc L st σ post := by
  intro D ad aC p l e R s m args below meth c cells slots A Q C H locs ls w hl
  exact lv_lload C.1 C.2.1 hd (hl.2.2 _ _ hx) (k.at C w hl)
theorem ev_aload_n {j : Fin 4} {i a b : Nat} (hd : decode M.2.1 pc = .ok (.aload_n j, 1)) (hi : (j : Nat) = i) (hx : L[i]? = some (some (vR a b))) (k : Ev X d M (pc + 1) L (vR a b :: st) σ post) : Ev X d M pc L st σ post := by
  intro D ad aC p l e R s m args below meth c cells slots A Q C H locs ls w hl
  exact lv_aload_n C.1 C.2.1 hd hi (hl.2.2 _ _ hx) (k.at C w hl)
theorem ev_aload {i a b : Nat} (hd : decode M.2.1 pc = .ok (.aload i, 2)) (hx : L[i]? = some (some (vR a b))) (k : Ev X d M (pc + 2) L (vR a b :: st) σ post) : Ev X d M pc L st σ post := by
  intro D ad aC p l e R s m args below meth c cells slots A Q C H locs ls w hl
  exact lv_aload C.1 C.2.1 hd (hl.2.2 _ _ hx) (k.at C w hl)
theorem ev_istore_n {j : Fin 4} {i : Nat} {x : Int32} (hd : decode M.2.1 pc = .ok (.istore_n j, 1)) (hi : (j : Nat) = i) (hn : i < M.2.2.1) (hL : sto1 L i (vI x) = L') (k : Ev X d M (pc + 1) L' st σ post) : Ev X d M pc L (vI x :: st) σ post := by
  intro D ad aC p l e R s m args below meth c cells slots A Q C H locs ls w hl
  exact lv_istore_n C.1 C.2.1 hd hi hl.has hn rfl (fun ls' h' => k.at C w (hL ▸ Lc.of1 (v := vI x) h'))
theorem ev_istore {i : Nat} {x : Int32} (hd : decode M.2.1 pc = .ok (.istore i, 2)) (hn : i < M.2.2.1) (hL : sto1 L i (vI x) = L') (k : Ev X d M (pc + 2) L' st σ post) : Ev X d M pc L (vI x :: st) σ post := by
  intro D ad aC p l e R s m args below meth c cells slots A Q C H locs ls w hl
  exact lv_istore C.1 C.2.1 hd hl.has hn rfl (fun ls' h' => k.at C w (hL ▸ Lc.of1 (v := vI x) h'))
theorem ev_lstore_n {j : Fin 4} {i : Nat} {x : Int64} (hd : decode M.2.1 pc = .ok (.lstore_n j, 1)) (hi : (j : Nat) = i) (hn : i + 1 < M.2.2.1) (hL : sto2 L i (vJ x) = L') (k : Ev X d M (pc + 1) L' st σ post) : Ev X d M pc L (vJ x :: st) σ post := by
  intro D ad aC p l e R s m args below meth c cells slots A Q C H locs ls w hl
  exact lv_lstore_n C.1 C.2.1 hd hi hl.has hn rfl (fun ls' h' => k.at C w (hL ▸ Lc.of2 (v := vJ x) h'))
theorem ev_lstore {i : Nat} {x : Int64} (hd : decode M.2.1 pc = .ok (.lstore i, 2)) (hn : i + 1 < M.2.2.1) (hL : sto2 L i (vJ x) = L') (k : Ev X d M (pc + 2) L' st σ post) : Ev X d M pc L (vJ x :: st) σ post := by
  intro D ad aC p l e R s m args below meth c cells slots A Q C H locs ls w hl
  exact lv_lstore C.1 C.2.1 hd hl.has hn rfl (fun ls' h' => k.at C w (hL ▸ Lc.of2 (v := vJ x) h'))
theorem ev_astore_n {j : Fin 4} {i : Nat} {a b : Nat} (hd : decode M.2.1 pc = .ok (.astore_n j, 1)) (hi : (j : Nat) = i) (hn : i < M.2.2.1) (hL : sto1 L i (vR a b) = L') (k : Ev X d M (pc + 1) L' st σ post) : Ev X d M pc L (vR a b :: st) σ post := by
  intro D ad aC p l e R s m args below meth c cells slots A Q C H locs ls w hl
  exact lv_astore_n C.1 C.2.1 hd hi hl.has hn rfl (fun ls' h' => k.at C w (hL ▸ Lc.of1 (v := vR a b) h'))
theorem ev_astore {i : Nat} {a b : Nat} (hd : decode M.2.1 pc = .ok (.astore i, 2)) (hn : i < M.2.2.1) (hL : sto1 L i (vR a b) = L') (k : Ev X d M (pc + 2) L' st σ post) : Ev X d M pc L (vR a b :: st) σ post := by
  intro D ad aC p l e R s m args below meth c cells slots A Q C H locs ls w hl
  exact lv_astore C.1 C.2.1 hd hl.has hn rfl (fun ls' h' => k.at C w (hL ▸ Lc.of1 (v := vR a b) h'))
theorem ev_iinc {i : Nat} {n : Int} {x v : Int32} (hd : decode M.2.1 pc = .ok (.iinc i n, 3)) (hx : L[i]? = some (some (vI x))) (hv : x + Int32.ofInt n = v) (hn : i < M.2.2.1) (hL : sto1 L i (vI v) = L') (k : Ev X d M (pc + 3) L' st σ post) : Ev X d M pc L st σ post := by
  intro D ad aC p l e R s m args below meth c cells slots A Q C H locs ls w hl
  obtain ⟨q, hq⟩ := List.getElem?_of_mem (mem_prs.mpr ⟨vI x, hx, rfl⟩ : (i, cv ad (vI x)) ∈ prs ad L)
  exact lv_iinc C.1 C.2.1 hd hl.has hq hv hn rfl (fun ls' h' => k.at C w (hL ▸ Lc.of1 (v := vI v) h'))
theorem ev_iadd {x y : Int32} (hd : decode M.2.1 pc = .ok (.iadd, 1)) (k : Ev X d M (pc + 1) L (vI (x + y) :: st) σ post) : Ev X d M pc L (vI y :: vI x :: st) σ post := by
  intro D ad aC p l e R s m args below meth c cells slots A Q C H locs ls w hl
  exact lv_iadd C.1 C.2.1 hd (k.at C w hl)
theorem ev_isub {x y : Int32} (hd : decode M.2.1 pc = .ok (.isub, 1)) (k : Ev X d M (pc + 1) L (vI (x - y) :: st) σ post) : Ev X d M pc L (vI y :: vI x :: st) σ post := by
  intro D ad aC p l e R s m args below meth c cells slots A Q C H locs ls w hl
  exact lv_isub C.1 C.2.1 hd (k.at C w hl)
theorem ev_imul {x y : Int32} (hd : decode M.2.1 pc = .ok (.imul, 1)) (k : Ev X d M (pc + 1) L (vI (x * y) :: st) σ post) : Ev X d M pc L (vI y :: vI x :: st) σ post := by
  intro D ad aC p l e R s m args below meth c cells slots A Q C H locs ls w hl
  exact lv_imul C.1 C.2.1 hd (k.at C w hl)
theorem ev_iand {x y : Int32} (hd : decode M.2.1 pc = .ok (.iand, 1)) (k : Ev X d M (pc + 1) L (vI (x &&& y) :: st) σ post) : Ev X d M pc L (vI y :: vI x :: st) σ post := by
  intro D ad aC p l e R s m args below meth c cells slots A Q C H locs ls w hl
  exact lv_iand C.1 C.2.1 hd (k.at C w hl)
theorem ev_ior {x y : Int32} (hd : decode M.2.1 pc = .ok (.ior, 1)) (k : Ev X d M (pc + 1) L (vI (x ||| y) :: st) σ post) : Ev X d M pc L (vI y :: vI x :: st) σ post := by
  intro D ad aC p l e R s m args below meth c cells slots A Q C H locs ls w hl
  exact lv_ior C.1 C.2.1 hd (k.at C w hl)
theorem ev_ixor {x y : Int32} (hd : decode M.2.1 pc = .ok (.ixor, 1)) (k : Ev X d M (pc + 1) L (vI (x ^^^ y) :: st) σ post) : Ev X d M pc L (vI y :: vI x :: st) σ post := by
  intro D ad aC p l e R s m args below meth c cells slots A Q C H locs ls w hl
  exact lv_ixor C.1 C.2.1 hd (k.at C w hl)
theorem ev_ishl {x y : Int32} (hd : decode M.2.1 pc = .ok (.ishl, 1)) (k : Ev X d M (pc + 1) L (vI (isl x y) :: st) σ post) : Ev X d M pc L (vI y :: vI x :: st) σ post := by
  intro D ad aC p l e R s m args below meth c cells slots A Q C H locs ls w hl
  exact lv_ishl C.1 C.2.1 hd (k.at C w hl)
theorem ev_ishr {x y : Int32} (hd : decode M.2.1 pc = .ok (.ishr, 1)) (k : Ev X d M (pc + 1) L (vI (isr x y) :: st) σ post) : Ev X d M pc L (vI y :: vI x :: st) σ post := by
  intro D ad aC p l e R s m args below meth c cells slots A Q C H locs ls w hl
  exact lv_ishr C.1 C.2.1 hd (k.at C w hl)
theorem ev_iushr {x y : Int32} (hd : decode M.2.1 pc = .ok (.iushr, 1)) (k : Ev X d M (pc + 1) L (vI (ius x y) :: st) σ post) : Ev X d M pc L (vI y :: vI x :: st) σ post := by
  intro D ad aC p l e R s m args below meth c cells slots A Q C H locs ls w hl
  exact lv_iushr C.1 C.2.1 hd rfl (k.at C w hl)
theorem ev_idiv {x y : Int32} (hd : decode M.2.1 pc = .ok (.idiv, 1)) (hy : ¬ y = 0) (k : Ev X d M (pc + 1) L (vI (x / y) :: st) σ post) : Ev X d M pc L (vI y :: vI x :: st) σ post := by
  intro D ad aC p l e R s m args below meth c cells slots A Q C H locs ls w hl
  exact lv_idiv C.1 C.2.1 hd hy (k.at C w hl)
theorem ev_irem {x y : Int32} (hd : decode M.2.1 pc = .ok (.irem, 1)) (hy : ¬ y = 0) (k : Ev X d M (pc + 1) L (vI (irm x y) :: st) σ post) : Ev X d M pc L (vI y :: vI x :: st) σ post := by
  intro D ad aC p l e R s m args below meth c cells slots A Q C H locs ls w hl
  exact lv_irem C.1 C.2.1 hd hy (k.at C w hl)
theorem ev_ladd {x y : Int64} (hd : decode M.2.1 pc = .ok (.ladd, 1)) (k : Ev X d M (pc + 1) L (vJ (x + y) :: st) σ post) : Ev X d M pc L (vJ y :: vJ x :: st) σ post := by
  intro D ad aC p l e R s m args below meth c cells slots A Q C H locs ls w hl
  exact lv_ladd C.1 C.2.1 hd (k.at C w hl)
theorem ev_lsub {x y : Int64} (hd : decode M.2.1 pc = .ok (.lsub, 1)) (k : Ev X d M (pc + 1) L (vJ (x - y) :: st) σ post) : Ev X d M pc L (vJ y :: vJ x :: st) σ post := by
  intro D ad aC p l e R s m args below meth c cells slots A Q C H locs ls w hl
  exact lv_lsub C.1 C.2.1 hd (k.at C w hl)
theorem ev_lmul {x y : Int64} (hd : decode M.2.1 pc = .ok (.lmul, 1)) (k : Ev X d M (pc + 1) L (vJ (x * y) :: st) σ post) : Ev X d M pc L (vJ y :: vJ x :: st) σ post := by
  intro D ad aC p l e R s m args below meth c cells slots A Q C H locs ls w hl
  exact lv_lmul C.1 C.2.1 hd (k.at C w hl)
theorem ev_ldiv {x y : Int64} (hd : decode M.2.1 pc = .ok (.ldiv, 1)) (hy : ¬ y = 0) (k : Ev X d M (pc + 1) L (vJ (x / y) :: st) σ post) : Ev X d M pc L (vJ y :: vJ x :: st) σ post := by
  intro D ad aC p l e R s m args below meth c cells slots A Q C H locs ls w hl
  exact lv_ldiv C.1 C.2.1 hd hy (k.at C w hl)
theorem ev_lrem {x y : Int64} (hd : decode M.2.1 pc = .ok (.lrem, 1)) (hy : ¬ y = 0) (k : Ev X d M (pc + 1) L (vJ (lrm x y) :: st) σ post) : Ev X d M pc L (vJ y :: vJ x :: st) σ post := by
  intro D ad aC p l e R s m args below meth c cells slots A Q C H locs ls w hl
  exact lv_lrem C.1 C.2.1 hd hy (k.at C w hl)
theorem ev_lshl {x : Int64} {y : Int32} (hd : decode M.2.1 pc = .ok (.lshl, 1)) (k : Ev X d M (pc + 1) L (vJ (lsl x y) :: st) σ post) : Ev X d M pc L (vI y :: vJ x :: st) σ post := by
  intro D ad aC p l e R s m args below meth c cells slots A Q C H locs ls w hl
  exact lv_lshl C.1 C.2.1 hd rfl (k.at C w hl)
theorem ev_ineg {x : Int32} (hd : decode M.2.1 pc = .ok (.ineg, 1)) (k : Ev X d M (pc + 1) L (vI (-x) :: st) σ post) : Ev X d M pc L (vI x :: st) σ post := by
  intro D ad aC p l e R s m args below meth c cells slots A Q C H locs ls w hl
  exact lv_ineg C.1 C.2.1 hd (k.at C w hl)
theorem ev_i2l {x : Int32} (hd : decode M.2.1 pc = .ok (.i2l, 1)) (k : Ev X d M (pc + 1) L (vJ x.toInt64 :: st) σ post) : Ev X d M pc L (vI x :: st) σ post := by
  intro D ad aC p l e R s m args below meth c cells slots A Q C H locs ls w hl
  exact lv_i2l C.1 C.2.1 hd rfl (k.at C w hl)
theorem ev_i2b {x : Int32} (hd : decode M.2.1 pc = .ok (.i2b, 1)) (k : Ev X d M (pc + 1) L (vI x.toInt8.toInt32 :: st) σ post) : Ev X d M pc L (vI x :: st) σ post := by
  intro D ad aC p l e R s m args below meth c cells slots A Q C H locs ls w hl
  exact lv_i2b C.1 C.2.1 hd rfl (k.at C w hl)
theorem ev_i2s {x : Int32} (hd : decode M.2.1 pc = .ok (.i2s, 1)) (k : Ev X d M (pc + 1) L (vI x.toInt16.toInt32 :: st) σ post) : Ev X d M pc L (vI x :: st) σ post := by
  intro D ad aC p l e R s m args below meth c cells slots A Q C H locs ls w hl
  exact lv_i2s C.1 C.2.1 hd rfl (k.at C w hl)
theorem ev_lcmp {x y : Int64} (hd : decode M.2.1 pc = .ok (.lcmp, 1)) (k : Ev X d M (pc + 1) L (vI (lg_cmp x y) :: st) σ post) : Ev X d M pc L (vJ y :: vJ x :: st) σ post := by
  intro D ad aC p l e R s m args below meth c cells slots A Q C H locs ls w hl
  exact W.lcmp C.1 C.2.1 hd (k.at C w hl)
theorem cat1 {ad : AD} {v : AV} (h : isJ (some (some v)) = false) : (cv ad v).category = 1 := by
  rcases lv_cat (cv ad v) with q | q
  · exact q
  · rw [cv_cat2.mp q] at h; cases h
theorem ev_dup {v : AV} (hd : decode M.2.1 pc = .ok (.dup, 1)) (hc : isJ (some (some v)) = false) (k : Ev X d M (pc + 1) L (v :: v :: st) σ post) : Ev X d M pc L (v :: st) σ post := by
  intro D ad aC p l e R s m args below meth c cells slots A Q C H locs ls w hl
  exact lv_dup C.1 C.2.1 hd (cat1 hc) (k.at C w hl)
theorem ev_pop {v : AV} (hd : decode M.2.1 pc = .ok (.pop, 1)) (hc : isJ (some (some v)) = false) (k : Ev X d M (pc + 1) L (st) σ post) : Ev X d M pc L (v :: st) σ post := by
  intro D ad aC p l e R s m args below meth c cells slots A Q C H locs ls w hl
  exact lv_pop C.1 C.2.1 hd (cat1 hc) (k.at C w hl)
theorem ev_dup2 {u v : AV} (hd : decode M.2.1 pc = .ok (.dup2, 1)) (hc : isJ (some (some u)) = false) (hc2 : isJ (some (some v)) = false) (k : Ev X d M (pc + 1) L (u :: v :: u :: v :: st) σ post) : Ev X d M pc L (u :: v :: st) σ post := by
  intro D ad aC p l e R s m args below meth c cells slots A Q C H locs ls w hl
  exact lv_dup2_11 C.1 C.2.1 hd (cat1 hc) (cat1 hc2) (k.at C w hl)
theorem ev_if_eq {x : Int32} {off : Int} {tgt : Nat} (hd : decode M.2.1 pc = .ok (.ifCond .eq off, 3)) (ht : (pc : Int) + off = (tgt : Int)) (kt : x = 0 → Ev X d M tgt L st σ post) (kf : ¬ x = 0 → Ev X d M (pc + 3) L st σ post) : Ev X d M pc L (vI x :: st) σ post := by
  intro D ad aC p l e R s m args below meth c cells slots A Q C H locs ls w hl
  exact lv_if_eq C.1 C.2.1 hd ht (fun h => (kt h).at C w hl) (fun h => (kf h).at C w hl)
theorem ev_if_ne {x : Int32} {off : Int} {tgt : Nat} (hd : decode M.2.1 pc = .ok (.ifCond .ne off, 3)) (ht : (pc : Int) + off = (tgt : Int)) (kt : ¬ x = 0 → Ev X d M tgt L st σ post) (kf : x = 0 → Ev X d M (pc + 3) L st σ post) : Ev X d M pc L (vI x :: st) σ post := by
  intro D ad aC p l e R s m args below meth c cells slots A Q C H locs ls w hl
  exact lv_if_ne C.1 C.2.1 hd ht (fun h => (kt h).at C w hl) (fun h => (kf h).at C w hl)
theorem ev_if_lt {x : Int32} {off : Int} {tgt : Nat} (hd : decode M.2.1 pc = .ok (.ifCond .lt off, 3)) (ht : (pc : Int) + off = (tgt : Int)) (kt : x < 0 → Ev X d M tgt L st σ post) (kf : ¬ x < 0 → Ev X d M (pc + 3) L st σ post) : Ev X d M pc L (vI x :: st) σ post := by
  intro D ad aC p l e R s m args below meth c cells slots A Q C H locs ls w hl
  exact lv_if_lt C.1 C.2.1 hd ht (fun h => (kt h).at C w hl) (fun h => (kf h).at C w hl)
theorem ev_if_ge {x : Int32} {off : Int} {tgt : Nat} (hd : decode M.2.1 pc = .ok (.ifCond .ge off, 3)) (ht : (pc : Int) + off = (tgt : Int)) (kt : 0 ≤ x → Ev X d M tgt L st σ post) (kf : ¬ 0 ≤ x → Ev X d M (pc + 3) L st σ post) : Ev X d M pc L (vI x :: st) σ post := by
  intro D ad aC p l e R s m args below meth c cells slots A Q C H locs ls w hl
  exact lv_if_ge C.1 C.2.1 hd ht (fun h => (kt h).at C w hl) (fun h => (kf h).at C w hl)
theorem ev_if_gt {x : Int32} {off : Int} {tgt : Nat} (hd : decode M.2.1 pc = .ok (.ifCond .gt off, 3)) (ht : (pc : Int) + off = (tgt : Int)) (kt : 0 < x → Ev X d M tgt L st σ post) (kf : ¬ 0 < x → Ev X d M (pc + 3) L st σ post) : Ev X d M pc L (vI x :: st) σ post := by
  intro D ad aC p l e R s m args below meth c cells slots A Q C H locs ls w hl
  exact lv_if_gt C.1 C.2.1 hd ht (fun h => (kt h).at C w hl) (fun h => (kf h).at C w hl)
theorem ev_if_le {x : Int32} {off : Int} {tgt : Nat} (hd : decode M.2.1 pc = .ok (.ifCond .le off, 3)) (ht : (pc : Int) + off = (tgt : Int)) (kt : x ≤ 0 → Ev X d M tgt L st σ post) (kf : ¬ x ≤ 0 → Ev X d M (pc + 3) L st σ post) : Ev X d M pc L (vI x :: st) σ post := by
  intro D ad aC p l e R s m args below meth c cells slots A Q C H locs ls w hl
  exact lv_if_le C.1 C.2.1 hd ht (fun h => (kt h).at C w hl) (fun h => (kf h).at C w hl)
theorem ev_icmp_eq {x y : Int32} {off : Int} {tgt : Nat} (hd : decode M.2.1 pc = .ok (.if_icmp .eq off, 3)) (ht : (pc : Int) + off = (tgt : Int)) (kt : x = y → Ev X d M tgt L st σ post) (kf : ¬ x = y → Ev X d M (pc + 3) L st σ post) : Ev X d M pc L (vI y :: vI x :: st) σ post := by
  intro D ad aC p l e R s m args below meth c cells slots A Q C H locs ls w hl
  exact lv_icmp_eq C.1 C.2.1 hd ht (fun h => (kt h).at C w hl) (fun h => (kf h).at C w hl)
theorem ev_icmp_ne {x y : Int32} {off : Int} {tgt : Nat} (hd : decode M.2.1 pc = .ok (.if_icmp .ne off, 3)) (ht : (pc : Int) + off = (tgt : Int)) (kt : ¬ x = y → Ev X d M tgt L st σ post) (kf : x = y → Ev X d M (pc + 3) L st σ post) : Ev X d M pc L (vI y :: vI x :: st) σ post := by
  intro D ad aC p l e R s m args below meth c cells slots A Q C H locs ls w hl
  exact lv_icmp_ne C.1 C.2.1 hd ht (fun h => (kt h).at C w hl) (fun h => (kf h).at C w hl)
theorem ev_icmp_lt {x y : Int32} {off : Int} {tgt : Nat} (hd : decode M.2.1 pc = .ok (.if_icmp .lt off, 3)) (ht : (pc : Int) + off = (tgt : Int)) (kt : x < y → Ev X d M tgt L st σ post) (kf : ¬ x < y → Ev X d M (pc + 3) L st σ post) : Ev X d M pc L (vI y :: vI x :: st) σ post := by
  intro D ad aC p l e R s m args below meth c cells slots A Q C H locs ls w hl
  exact lv_icmp_lt C.1 C.2.1 hd ht (fun h => (kt h).at C w hl) (fun h => (kf h).at C w hl)
theorem ev_icmp_ge {x y : Int32} {off : Int} {tgt : Nat} (hd : decode M.2.1 pc = .ok (.if_icmp .ge off, 3)) (ht : (pc : Int) + off = (tgt : Int)) (kt : y ≤ x → Ev X d M tgt L st σ post) (kf : ¬ y ≤ x → Ev X d M (pc + 3) L st σ post) : Ev X d M pc L (vI y :: vI x :: st) σ post := by
  intro D ad aC p l e R s m args below meth c cells slots A Q C H locs ls w hl
  exact lv_icmp_ge C.1 C.2.1 hd ht (fun h => (kt h).at C w hl) (fun h => (kf h).at C w hl)
theorem ev_icmp_gt {x y : Int32} {off : Int} {tgt : Nat} (hd : decode M.2.1 pc = .ok (.if_icmp .gt off, 3)) (ht : (pc : Int) + off = (tgt : Int)) (kt : y < x → Ev X d M tgt L st σ post) (kf : ¬ y < x → Ev X d M (pc + 3) L st σ post) : Ev X d M pc L (vI y :: vI x :: st) σ post := by
  intro D ad aC p l e R s m args below meth c cells slots A Q C H locs ls w hl
  exact lv_icmp_gt C.1 C.2.1 hd ht (fun h => (kt h).at C w hl) (fun h => (kf h).at C w hl)
theorem ev_icmp_le {x y : Int32} {off : Int} {tgt : Nat} (hd : decode M.2.1 pc = .ok (.if_icmp .le off, 3)) (ht : (pc : Int) + off = (tgt : Int)) (kt : x ≤ y → Ev X d M tgt L st σ post) (kf : ¬ x ≤ y → Ev X d M (pc + 3) L st σ post) : Ev X d M pc L (vI y :: vI x :: st) σ post := by
  intro D ad aC p l e R s m args below meth c cells slots A Q C H locs ls w hl
  exact lv_icmp_le C.1 C.2.1 hd ht (fun h => (kt h).at C w hl) (fun h => (kf h).at C w hl)
theorem ev_goto {off : Int} {tgt : Nat} (hd : decode M.2.1 pc = .ok (.goto off, 3)) (ht : (pc : Int) + off = (tgt : Int)) (k : Ev X d M tgt L st σ post) : Ev X d M pc L st σ post := by
  intro D ad aC p l e R s m args below meth c cells slots A Q C H locs ls w hl
  exact lv_goto C.1 C.2.1 hd ht (k.at C w hl)
theorem ev_tableIn {dflt lo hi : Int} {offs : Array Int} {len : Nat} {x : Int32} {off : Int} {tgt : Nat} (hd : decode M.2.1 pc = .ok (.tableswitch dflt lo hi offs, len)) (h1 : ¬ x.toInt < lo) (h2 : ¬ hi < x.toInt) (ho : offs[(x.toInt - lo).toNat]? = some off) (ht : (pc : Int) + off = (tgt : Int)) (k : Ev X d M tgt L st σ post) : Ev X d M pc L (vI x :: st) σ post := by
  intro D ad aC p l e R s m args below meth c cells slots A Q C H locs ls w hl
  exact lv_tableIn C.1 C.2.1 hd h1 h2 ho ht (k.at C w hl)
theorem ev_tableOut {dflt lo hi : Int} {offs : Array Int} {len : Nat} {x : Int32} {tgt : Nat} (hd : decode M.2.1 pc = .ok (.tableswitch dflt lo hi offs, len)) (h : x.toInt < lo ∨ hi < x.toInt) (ht : (pc : Int) + dflt = (tgt : Int)) (k : Ev X d M tgt L st σ post) : Ev X d M pc L (vI x :: st) σ post := by
  intro D ad aC p l e R s m args below meth c cells slots A Q C H locs ls w hl
  exact lv_tableOut C.1 C.2.1 hd h ht (k.at C w hl)
theorem ev_lookup {dflt : Int} {ps : Array (Int × Int)} {len : Nat} {x : Int32} {off : Int} {tgt : Nat} (hd : decode M.2.1 pc = .ok (.lookupswitch dflt ps, len)) (hp : (ps.toList.zip (ps.toList.drop 1)).all (fun (a, next) => a.1 < next.1) = true) (ho : Op.lookupswitch.offset ps.toList dflt x.toInt = off) (ht : (pc : Int) + off = (tgt : Int)) (k : Ev X d M tgt L st σ post) : Ev X d M pc L (vI x :: st) σ post := by
  intro D ad aC p l e R s m args below meth c cells slots A Q C H locs ls w hl
  exact lv_lookup C.1 C.2.1 hd hp ho ht (k.at C w hl)
theorem ev_ret {r : Option AV} {op : Instr} (hd : decode M.2.1 pc = .ok (op, 1)) (hs : st = r.toList) (hr : rok M.2.2.2 r op) (h : post r σ) : Ev X d M pc L st σ post := by
  intro D ad aC p l e R s m args below meth c cells slots A Q C H locs ls w hl
  subst hs
  exact C.2.2.2.2.2.2.2.2.2.2 r σ H locs ls pc op h hr w hd
theorem ev_ifb_eq {P : Prop} [Decidable P] {off : Int} {tgt : Nat} (hd : decode M.2.1 pc = .ok (.ifCond .eq off, 3)) (ht : (pc : Int) + off = (tgt : Int)) (kt : ¬ P → Ev X d M tgt L st σ post) (kf : P → Ev X d M (pc + 3) L st σ post) : Ev X d M pc L (vI (bi P) :: st) σ post := ev_if_eq hd ht (fun h => kt (bi_0.mp h)) (fun h => kf (Decidable.of_not_not (fun q => h (bi_0.mpr q))))
theorem ev_ifb_ne {P : Prop} [Decidable P] {off : Int} {tgt : Nat} (hd : decode M.2.1 pc = .ok (.ifCond .ne off, 3)) (ht : (pc : Int) + off = (tgt : Int)) (kt : P → Ev X d M tgt L st σ post) (kf : ¬ P → Ev X d M (pc + 3) L st σ post) : Ev X d M pc L (vI (bi P) :: st) σ post := ev_if_ne hd ht (fun h => kt (Decidable.of_not_not (fun q => h (bi_0.mpr q)))) (fun h => kf (bi_0.mp h))
theorem lc_lt {x y : Int64} : lg_cmp x y < 0 ↔ x < y := lg_cmp_lt x y
theorem lc_ge {x y : Int64} : 0 ≤ lg_cmp x y ↔ y ≤ x := lg_cmp_ge x y
theorem lc_gt {x y : Int64} : 0 < lg_cmp x y ↔ y < x := lg_cmp_gt x y
theorem lc_le {x y : Int64} : lg_cmp x y ≤ 0 ↔ x ≤ y := lg_cmp_le x y
theorem lc_eq {x y : Int64} : lg_cmp x y = 0 ↔ x = y := by
  unfold lg_cmp
  split
  next h => exact ⟨fun q => absurd q (by decide), fun q => by subst q; exact absurd h Int64.lt_irrefl⟩
  next h =>
    split
    next h2 => exact ⟨fun _ => h2, fun _ => rfl⟩
    next h2 => exact ⟨fun q => absurd q (by decide), fun q => absurd q h2⟩
theorem ev_ifc_lt {x y : Int64} {off : Int} {tgt : Nat} (hd : decode M.2.1 pc = .ok (.ifCond .lt off, 3)) (ht : (pc : Int) + off = (tgt : Int)) (kt : x < y → Ev X d M tgt L st σ post) (kf : ¬ (x < y) → Ev X d M (pc + 3) L st σ post) : Ev X d M pc L (vI (lg_cmp x y) :: st) σ post := ev_if_lt hd ht (fun h => kt (lc_lt.mp h)) (fun h => kf (fun q => h (lc_lt.mpr q)))
theorem ev_ifc_ge {x y : Int64} {off : Int} {tgt : Nat} (hd : decode M.2.1 pc = .ok (.ifCond .ge off, 3)) (ht : (pc : Int) + off = (tgt : Int)) (kt : y ≤ x → Ev X d M tgt L st σ post) (kf : ¬ (y ≤ x) → Ev X d M (pc + 3) L st σ post) : Ev X d M pc L (vI (lg_cmp x y) :: st) σ post := ev_if_ge hd ht (fun h => kt (lc_ge.mp h)) (fun h => kf (fun q => h (lc_ge.mpr q)))
theorem ev_ifc_eq {x y : Int64} {off : Int} {tgt : Nat} (hd : decode M.2.1 pc = .ok (.ifCond .eq off, 3)) (ht : (pc : Int) + off = (tgt : Int)) (kt : x = y → Ev X d M tgt L st σ post) (kf : ¬ (x = y) → Ev X d M (pc + 3) L st σ post) : Ev X d M pc L (vI (lg_cmp x y) :: st) σ post := ev_if_eq hd ht (fun h => kt (lc_eq.mp h)) (fun h => kf (fun q => h (lc_eq.mpr q)))
theorem ev_ifc_gt {x y : Int64} {off : Int} {tgt : Nat} (hd : decode M.2.1 pc = .ok (.ifCond .gt off, 3)) (ht : (pc : Int) + off = (tgt : Int)) (kt : y < x → Ev X d M tgt L st σ post) (kf : ¬ (y < x) → Ev X d M (pc + 3) L st σ post) : Ev X d M pc L (vI (lg_cmp x y) :: st) σ post := ev_if_gt hd ht (fun h => kt (lc_gt.mp h)) (fun h => kf (fun q => h (lc_gt.mpr q)))
theorem ev_ifc_le {x y : Int64} {off : Int} {tgt : Nat} (hd : decode M.2.1 pc = .ok (.ifCond .le off, 3)) (ht : (pc : Int) + off = (tgt : Int)) (kt : x ≤ y → Ev X d M tgt L st σ post) (kf : ¬ (x ≤ y) → Ev X d M (pc + 3) L st σ post) : Ev X d M pc L (vI (lg_cmp x y) :: st) σ post := ev_if_le hd ht (fun h => kt (lc_le.mp h)) (fun h => kf (fun q => h (lc_le.mpr q)))
theorem ev_ifc_ne {x y : Int64} {off : Int} {tgt : Nat} (hd : decode M.2.1 pc = .ok (.ifCond .ne off, 3)) (ht : (pc : Int) + off = (tgt : Int)) (kt : ¬ x = y → Ev X d M tgt L st σ post) (kf : x = y → Ev X d M (pc + 3) L st σ post) : Ev X d M pc L (vI (lg_cmp x y) :: st) σ post := ev_if_ne hd ht (fun h => kt (fun q => h (lc_eq.mpr q))) (fun h => kf (lc_eq.mp h))
end EVR
end
section
-- the rules of Ev over the cells
theorem gd_self {w : Cond} (h : w ∈ lw_gd) : w ∈ lw_tbl ∧ goodWord w = true := List.mem_filter.mp h
theorem gd_of {w : Cond} (h : w ∈ lw_tbl) (hg : goodWord w = true) : w ∈ lw_gd := List.mem_filter.mpr ⟨h, hg⟩
theorem gd_t {w : Cond} (h : w ∈ tables_1) (hg : goodWord w = true) : w ∈ lw_gd := gd_of (List.mem_append_right _ h) hg
theorem good_gd : GoodIn lw_gd lw_gd := fun _ h => ⟨h, good_of_word (gd_self h).2⟩
def clsP (q : vw_C) (ty : Nat → FieldType) : Prop := (∀ w ∈ u_ws q.1 q.2.1 q.2.2, w ∈ tables_1) ∧ (∀ f, f < q.2.2 → parseFieldDescriptor (q.2.1 f).2.2.1 = some (ty f)) ∧ (∀ a, a < q.2.2 → ∀ b, b < q.2.2 → a ≠ b → (q.2.1 a).2.1 ≠ (q.2.1 b).2.1) ∧ (∀ f, f < q.2.2 → (q.2.1 f).1 = q.1)
theorem clsP_0 : clsP ("OneBook", kT0, 12) ky0 := ⟨by decide +kernel, by decide +kernel, by decide +kernel, by decide +kernel⟩
theorem clsP_1 : clsP ("OneBook$Book", kT1, 6) ky1 := ⟨by decide +kernel, by decide +kernel, by decide +kernel, by decide +kernel⟩
theorem clsP_2 : clsP ("OneBook$Company", kT2, 3) ky2 := ⟨by decide +kernel, by decide +kernel, by decide +kernel, by decide +kernel⟩
theorem clsP_3 : clsP ("OneBook$Reader", kT3, 3) ky3 := ⟨by decide +kernel, by decide +kernel, by decide +kernel, by decide +kernel⟩
theorem clsP_4 : clsP ("OneBook$Evening", kT4, 5) ky4 := ⟨by decide +kernel, by decide +kernel, by decide +kernel, by decide +kernel⟩
theorem clsP_5 : clsP ("OneBook$Plan", kT5, 11) ky5 := ⟨by decide +kernel, by decide +kernel, by decide +kernel, by decide +kernel⟩
theorem clsP_6 : clsP ("OneBook$Seeming", kT6, 5) ky6 := ⟨by decide +kernel, by decide +kernel, by decide +kernel, by decide +kernel⟩
theorem clsP_7 : clsP ("OneBook$Seating", kT7, 5) ky7 := ⟨by decide +kernel, by decide +kernel, by decide +kernel, by decide +kernel⟩
theorem clsP_8 : clsP ("OneBook$Turns", kT8, 5) ky8 := ⟨by decide +kernel, by decide +kernel, by decide +kernel, by decide +kernel⟩
theorem clsP_9 : clsP ("OneBook$Moods", kT9, 9) ky9 := ⟨by decide +kernel, by decide +kernel, by decide +kernel, by decide +kernel⟩
theorem clsP_10 : clsP ("OneBook$Sheet", kT10, 4) ky10 := ⟨by decide +kernel, by decide +kernel, by decide +kernel, by decide +kernel⟩
theorem clsP_11 : clsP ("OneBookModel", kT11, 34) ky11 := ⟨by decide +kernel, by decide +kernel, by decide +kernel, by decide +kernel⟩
theorem cls_ok : ∀ (k : Nat) (q : vw_C), cls[k]? = some q → ∃ ty, clsP q ty
  | 0, _, h => by cases h; exact ⟨_, clsP_0⟩
  | 1, _, h => by cases h; exact ⟨_, clsP_1⟩
  | 2, _, h => by cases h; exact ⟨_, clsP_2⟩
  | 3, _, h => by cases h; exact ⟨_, clsP_3⟩
  | 4, _, h => by cases h; exact ⟨_, clsP_4⟩
  | 5, _, h => by cases h; exact ⟨_, clsP_5⟩
  | 6, _, h => by cases h; exact ⟨_, clsP_6⟩
  | 7, _, h => by cases h; exact ⟨_, clsP_7⟩
  | 8, _, h => by cases h; exact ⟨_, clsP_8⟩
  | 9, _, h => by cases h; exact ⟨_, clsP_9⟩
  | 10, _, h => by cases h; exact ⟨_, clsP_10⟩
  | 11, _, h => by cases h; exact ⟨_, clsP_11⟩
  | k + 12, _, h => by cases h
theorem u_good {C : String} {T : u_T} {N : Nat} {w : Cond} (h : w ∈ u_ws C T N) : goodWord w = true := by
  obtain ⟨k, -, rfl⟩ := List.mem_map.mp h
  unfold u_lay
  split <;> rfl
def fldT (k f : Nat) : Option FL := match kd k with
  | .inl q => q.2[f]?
  | .inr _ => none
def arT (k : Nat) : Option (Nat × Nat × Nat) := match kd k with
  | .inl _ => none
  | .inr q => some q
theorem kd_inl {k : Nat} {q : Nat × List FL} (h : kd k = .inl q) : q.1 = k ∧ k < 12 := by
  unfold kd at h
  split at h <;> first | (cases h; exact ⟨rfl, by decide⟩) | cases h
theorem fldT_kd {k f : Nat} {t : FL} (h : fldT k f = some t) : ∃ fs : List FL, kd k = .inl (k, fs) ∧ fs[f]? = some t ∧ k < 63 := by
  unfold fldT at h
  split at h
  next q hq =>
    obtain ⟨e1, e2⟩ := kd_inl hq
    exact ⟨q.2, by rw [hq, ← e1], h, by omega⟩
  next => cases h
theorem arT_kd {k t n k' : Nat} (h : arT k = some (t, n, k')) : kd k = .inr (t, n, k') := by
  unfold arT at h
  split at h
  next => cases h
  next q hq => cases h; exact hq
theorem cel_obj {ad : AD} {aC : Nat → ClassId} {σ : ST} {k i : Nat} {fs : List FL} (h : kd k = .inl (k, fs)) : cel ad aC σ k i = .inr (k, fs.mapIdx (fun f t => fv ad σ k i f t)) := by
  unfold cel
  rw [h]
theorem cel_arr {ad : AD} {aC : Nat → ClassId} {σ : ST} {k i t n k' : Nat} (h : kd k = .inr (t, n, k')) : cel ad aC σ k i = .inl (aC t, n, arc ad σ k i t k') := by
  unfold cel
  rw [h]
theorem cel_fld {ad : AD} {σ : ST} {k i f : Nat} {fs : List FL} {t : FL} (h : fs[f]? = some t) : (fs.mapIdx (fun f t => fv ad σ k i f t))[f]? = some (fv ad σ k i f t) := by
  rw [List.getElem?_mapIdx, h]
  rfl
theorem setI_at (σ : ST) (k i f : Nat) (v : Int32) : (setI σ k i f v).1 k i f = v := by simp [setI]
theorem setI_ne (σ : ST) (k i f : Nat) (v : Int32) {a b g : Nat} (h : ¬ (a = k ∧ b = i ∧ g = f)) : (setI σ k i f v).1 a b g = σ.1 a b g := by simp only [setI]; rw [if_neg h]
theorem setJ_at (σ : ST) (k i f : Nat) (v : Int64) : (setJ σ k i f v).2 k i f = v := by simp [setJ]
theorem setJ_ne (σ : ST) (k i f : Nat) (v : Int64) {a b g : Nat} (h : ¬ (a = k ∧ b = i ∧ g = f)) : (setJ σ k i f v).2 a b g = σ.2 a b g := by simp only [setJ]; rw [if_neg h]
theorem setI_off (σ : ST) (k i f : Nat) (v : Int32) (a b : Nat) (h : ¬ (a = k ∧ b = i)) : (setI σ k i f v).1 a b = σ.1 a b ∧ (setI σ k i f v).2 a b = σ.2 a b :=
  ⟨funext fun g => setI_ne σ k i f v (fun q => h ⟨q.1, q.2.1⟩), rfl⟩
theorem setJ_off (σ : ST) (k i f : Nat) (v : Int64) (a b : Nat) (h : ¬ (a = k ∧ b = i)) : (setJ σ k i f v).1 a b = σ.1 a b ∧ (setJ σ k i f v).2 a b = σ.2 a b :=
  ⟨rfl, funext fun g => setJ_ne σ k i f v (fun q => h ⟨q.1, q.2.1⟩)⟩
/-- an object's cell behind a store to its field -/
theorem cel_setF {ad : AD} {aC : Nat → ClassId} {σ σ' : ST} {k i f : Nat} {fs : List FL} {t : FL} {v : Value} (h : kd k = .inl (k, fs)) (hf : fs[f]? = some t) (hv : fv ad σ' k i f t = v) (ho : ∀ g, g ≠ f → σ'.1 k i g = σ.1 k i g ∧ σ'.2 k i g = σ.2 k i g) :
    cel ad aC σ' k i = .inr (k, (fs.mapIdx (fun f t => fv ad σ k i f t)).set f v) := by
  rw [cel_obj h]
  congr 2
  apply List.ext_getElem?
  intro j
  by_cases hj : j = f
  · subst hj
    rw [List.getElem?_set_self (by rw [List.length_mapIdx]; exact (List.getElem?_eq_some_iff.mp hf).1), cel_fld hf, hv]
  · rw [List.getElem?_set_ne (Ne.symm hj), List.getElem?_mapIdx, List.getElem?_mapIdx]
    congr 1
    funext t'
    unfold fv
    rw [(ho j hj).1, (ho j hj).2]
/-- a field's link -/
def GF (own : String) (idx k f : Nat) : Prop := ∃ q : vw_C, cls[k]? = some q ∧ f < q.2.2 ∧ Cond.fieldLink own idx q.1 (q.2.1 f).2.1 (q.2.1 f).2.2.1 ∈ lw_gd
def GP (own : String) (idx k f : Nat) (dsc : String) : Prop := ∃ q : vw_C, cls[k]? = some q ∧ f < q.2.2 ∧ Cond.fieldLink own idx q.1 (q.2.1 f).2.1 (q.2.1 f).2.2.1 ∈ lw_gd ∧ (q.2.1 f).2.2.2 = false ∧ (q.2.1 f).2.2.1 = dsc
section EVH
variable {X : SX} {d : Nat} {M : MD} {pc : Nat} {L L' : List (Option AV)} {st : List AV} {σ : ST} {post : Option AV → ST → Prop}
theorem ev_getV {idx k f i : Nat} {t : FL} {v : AV} (g : GF M.1.cls idx k f) (ht : fldT k f = some t) (hi : i < cnt k) (hd : decode M.2.1 pc = .ok (.getfield idx, 3)) (hv : ∀ ad, fv ad σ k i f t = cv ad v) (kk : Ev X d M (pc + 3) L (v :: st) σ post) : Ev X d M pc L (vR k i :: st) σ post := by
  intro D ad aC p l e R s m args below meth c cells slots A Q C H locs ls w hl
  obtain ⟨q, hq, hf, hlk⟩ := g
  obtain ⟨ty, c1, c2, c3, c4⟩ := cls_ok k q hq
  obtain ⟨fs, hkd, hfs, hk⟩ := fldT_kd ht
  obtain ⟨q0, hq0⟩ := wld_pos hk hi
  have he := wld_get (ad := ad) (aC := aC) (σ := σ) hq0
  rw [cel_obj hkd] at he
  exact va_get (C := q.1) (T := q.2.1) (N := q.2.2) (ref := q.1) (D := D) C.1 C.2.1 C.2.2.2.2.1 (fun w hw => gd_t (c1 w hw) (u_good hw)) C.2.2.2.1 C.2.2.2.2.2.2.1 w.1 q0 he hq f hf (C.2.2.2.2.1 _ hlk) (fun x hx => by rw [← c4 f hf]; exact hx) (v := cv ad v) (by rw [cel_fld hfs, hv ad]) hd (kk.at C w hl)
theorem ev_getI {idx k f i : Nat} (g : GF M.1.cls idx k f) (ht : fldT k f = some fi) (hi : i < cnt k) (hd : decode M.2.1 pc = .ok (.getfield idx, 3)) (kk : Ev X d M (pc + 3) L (vI (σ.1 k i f) :: st) σ post) : Ev X d M pc L (vR k i :: st) σ post := ev_getV g ht hi hd (v := vI (σ.1 k i f)) (fun _ => rfl) kk
theorem ev_getZ {idx k f i : Nat} (g : GF M.1.cls idx k f) (ht : fldT k f = some fz) (hi : i < cnt k) (hd : decode M.2.1 pc = .ok (.getfield idx, 3)) (kk : Ev X d M (pc + 3) L (vI (σ.1 k i f) :: st) σ post) : Ev X d M pc L (vR k i :: st) σ post := ev_getV g ht hi hd (v := vI (σ.1 k i f)) (fun _ => rfl) kk
theorem ev_getJ {idx k f i : Nat} (g : GF M.1.cls idx k f) (ht : fldT k f = some fj) (hi : i < cnt k) (hd : decode M.2.1 pc = .ok (.getfield idx, 3)) (kk : Ev X d M (pc + 3) L (vJ (σ.2 k i f) :: st) σ post) : Ev X d M pc L (vR k i :: st) σ post := ev_getV g ht hi hd (v := vJ (σ.2 k i f)) (fun _ => rfl) kk
theorem ev_getR {idx k f i k' : Nat} (g : GF M.1.cls idx k f) (ht : fldT k f = some (fr k')) (hi : i < cnt k) (hd : decode M.2.1 pc = .ok (.getfield idx, 3)) (kk : Ev X d M (pc + 3) L (vR k' 0 :: st) σ post) : Ev X d M pc L (vR k i :: st) σ post := ev_getV g ht hi hd (v := vR k' 0) (fun _ => rfl) kk
theorem ev_getO {idx k f i k' : Nat} (g : GF M.1.cls idx k f) (ht : fldT k f = some (fo k')) (hi : i < cnt k) (hd : decode M.2.1 pc = .ok (.getfield idx, 3)) (kk : Ev X d M (pc + 3) L (vR k' i :: st) σ post) : Ev X d M pc L (vR k i :: st) σ post := ev_getV g ht hi hd (v := vR k' i) (fun _ => rfl) kk
theorem ev_putV {idx k f i : Nat} {t : FL} {v : AV} {σ' : ST} {dsc : String} {ty : FieldType} (g : GP M.1.cls idx k f dsc) (hdsc : parseFieldDescriptor dsc = some ty) (ht : fldT k f = some t) (hi : i < cnt k) (hd : decode M.2.1 pc = .ok (.putfield idx, 3)) (hv : ∀ ad, fv ad σ' k i f t = cv ad v) (hn : ∀ ad, narrow ty (cv ad v) = cv ad v ∧ fits ty (cv ad v) = true)
    (ho : ∀ a b : Nat, ¬ (a = k ∧ b = i) → σ'.1 a b = σ.1 a b ∧ σ'.2 a b = σ.2 a b) (ho2 : ∀ h, h ≠ f → σ'.1 k i h = σ.1 k i h ∧ σ'.2 k i h = σ.2 k i h) (kk : Ev X d M (pc + 3) L st σ' post) : Ev X d M pc L (v :: vR k i :: st) σ post := by
  intro D ad aC p l e R s m args below meth c cells slots A Q C H locs ls w hl
  obtain ⟨q, hq, hf, hlk, hfin, hds⟩ := g
  obtain ⟨ty0, c1, c2, c3, c4⟩ := cls_ok k q hq
  obtain ⟨fs, hkd, hfs, hk⟩ := fldT_kd ht
  obtain ⟨q0, hq0⟩ := wld_pos hk hi
  have he := wld_get (ad := ad) (aC := aC) (σ := σ) hq0
  rw [cel_obj hkd] at he
  refine va_put (C := q.1) (T := q.2.1) (N := q.2.2) (ref := q.1) (D := D) C.1 C.2.1 C.2.2.2.2.1 (fun w hw => gd_t (c1 w hw) (u_good hw)) ty0 c2 c3 C.2.2.2.1 C.2.2.2.2.2.2.1 w.1 w.2.1 w.2.2 q0 he hq f hf (C.2.2.2.2.1 _ hlk) (fun x hx => by rw [← c4 f hf]; exact hx) hfin (ty := ty) (v := cv ad v) (by rw [hds]; exact hdsc) (hn ad).1 (hn ad).2 (by rw [List.length_mapIdx]; exact (List.getElem?_eq_some_iff.mp hfs).1) hd (fun H1 locs1 hP hD hS => ?_)
  have E : (wld ad aC σ).set q0 (ad k i, .inr (k, (fs.mapIdx (fun f t => fv ad σ k i f t)).set f (cv ad v))) = wld ad aC σ' := wld_set hq0 ho (cel_setF hkd hfs (hv ad) ho2)
  rw [E] at hP hD
  exact kk.at C ⟨hP, hD, hS⟩ hl
theorem ev_putI {idx k f i : Nat} {x : Int32} (g : GP M.1.cls idx k f "I") (ht : fldT k f = some fi) (hi : i < cnt k) (hd : decode M.2.1 pc = .ok (.putfield idx, 3)) (kk : Ev X d M (pc + 3) L st (setI σ k i f x) post) : Ev X d M pc L (vI x :: vR k i :: st) σ post :=
  ev_putV g (ty := .int) (by decide +kernel) ht hi hd (v := vI x) (fun _ => by show Value.int _ = Value.int _; rw [setI_at]) (fun _ => ⟨rfl, rfl⟩) (setI_off σ k i f x) (fun h hh => ⟨setI_ne σ k i f x (fun q => hh q.2.2), rfl⟩) kk
theorem nar_fz {x : Int32} (hx : x = 0 ∨ x = 1) : narrow .boolean (.int x) = .int x ∧ fits .boolean (.int x) = true := by rcases hx with rfl | rfl <;> exact ⟨by decide +kernel, by decide +kernel⟩
theorem ev_putZ {idx k f i : Nat} {x : Int32} (g : GP M.1.cls idx k f "Z") (ht : fldT k f = some fz) (hi : i < cnt k) (hd : decode M.2.1 pc = .ok (.putfield idx, 3)) (hx : x = 0 ∨ x = 1) (kk : Ev X d M (pc + 3) L st (setI σ k i f x) post) : Ev X d M pc L (vI x :: vR k i :: st) σ post :=
  ev_putV g (ty := .boolean) (by decide +kernel) ht hi hd (v := vI x) (fun _ => by show Value.int _ = Value.int _; rw [setI_at]) (fun _ => nar_fz hx) (setI_off σ k i f x) (fun h hh => ⟨setI_ne σ k i f x (fun q => hh q.2.2), rfl⟩) kk
theorem ev_putJ {idx k f i : Nat} {x : Int64} (g : GP M.1.cls idx k f "J") (ht : fldT k f = some fj) (hi : i < cnt k) (hd : decode M.2.1 pc = .ok (.putfield idx, 3)) (kk : Ev X d M (pc + 3) L st (setJ σ k i f x) post) : Ev X d M pc L (vJ x :: vR k i :: st) σ post :=
  ev_putV g (ty := .long) (by decide +kernel) ht hi hd (v := vJ x) (fun _ => by show Value.long _ = Value.long _; rw [setJ_at]) (fun _ => ⟨rfl, rfl⟩) (setJ_off σ k i f x) (fun h hh => ⟨rfl, setJ_ne σ k i f x (fun q => hh q.2.2)⟩) kk
-- arrays
theorem ev_iald {k i n k' : Nat} {x : Int32} (ha : arT k = some (0, n, k')) (hk : k < 63) (hi : i < cnt k) (hin : vp_in x n) (hd : decode M.2.1 pc = .ok (.iaload, 1)) (kk : Ev X d M (pc + 1) L (vI (σ.1 k i x.toNatClampNeg) :: st) σ post) : Ev X d M pc L (vI x :: vR k i :: st) σ post := by
  intro D ad aC p l e R s m args below meth c cells slots A Q C H locs ls w hl
  obtain ⟨q0, hq0⟩ := wld_pos hk hi
  have he := wld_get (ad := ad) (aC := aC) (σ := σ) hq0
  rw [cel_arr (arT_kd ha)] at he
  exact va_iald C.1 C.2.1 C.2.2.2.2.2.2.1 w.1 q0 0 he rfl hin hd (kk.at C w hl)
theorem ev_zald {k i n k' : Nat} {x : Int32} (ha : arT k = some (1, n, k')) (hk : k < 63) (hi : i < cnt k) (hin : vp_in x n) (hd : decode M.2.1 pc = .ok (.baload, 1)) (kk : Ev X d M (pc + 1) L (vI (σ.1 k i x.toNatClampNeg) :: st) σ post) : Ev X d M pc L (vI x :: vR k i :: st) σ post := by
  intro D ad aC p l e R s m args below meth c cells slots A Q C H locs ls w hl
  obtain ⟨q0, hq0⟩ := wld_pos hk hi
  have he := wld_get (ad := ad) (aC := aC) (σ := σ) hq0
  rw [cel_arr (arT_kd ha)] at he
  exact va_zald C.1 C.2.1 C.2.2.2.2.2.2.1 w.1 q0 1 he rfl hin hd (kk.at C w hl)
theorem ev_lald {k i n k' : Nat} {x : Int32} (ha : arT k = some (2, n, k')) (hk : k < 63) (hi : i < cnt k) (hin : vp_in x n) (hd : decode M.2.1 pc = .ok (.laload, 1)) (kk : Ev X d M (pc + 1) L (vJ (σ.2 k i x.toNatClampNeg) :: st) σ post) : Ev X d M pc L (vI x :: vR k i :: st) σ post := by
  intro D ad aC p l e R s m args below meth c cells slots A Q C H locs ls w hl
  obtain ⟨q0, hq0⟩ := wld_pos hk hi
  have he := wld_get (ad := ad) (aC := aC) (σ := σ) hq0
  rw [cel_arr (arT_kd ha)] at he
  exact va_lald C.1 C.2.1 C.2.2.2.2.2.2.1 w.1 q0 2 he rfl hin hd (kk.at C w hl)
theorem ev_aald3 {k i n k' : Nat} {x : Int32} (ha : arT k = some (3, n, k')) (hk : k < 63) (hi : i < cnt k) (hin : vp_in x n) (hd : decode M.2.1 pc = .ok (.aaload, 1)) (kk : Ev X d M (pc + 1) L (vR k' x.toNatClampNeg :: st) σ post) : Ev X d M pc L (vI x :: vR k i :: st) σ post := by
  intro D ad aC p l e R s m args below meth c cells slots A Q C H locs ls w hl
  obtain ⟨q0, hq0⟩ := wld_pos hk hi
  have he := wld_get (ad := ad) (aC := aC) (σ := σ) hq0
  rw [cel_arr (arT_kd ha)] at he
  exact va_aldq C.1 C.2.1 C.2.2.2.2.2.2.1 w.1 q0 3 he rfl hin hd (kk.at C w hl)
theorem ev_aald4 {k i n k' : Nat} {x : Int32} (ha : arT k = some (4, n, k')) (hk : k < 63) (hi : i < cnt k) (hin : vp_in x n) (hd : decode M.2.1 pc = .ok (.aaload, 1)) (kk : Ev X d M (pc + 1) L (vR k' x.toNatClampNeg :: st) σ post) : Ev X d M pc L (vI x :: vR k i :: st) σ post := by
  intro D ad aC p l e R s m args below meth c cells slots A Q C H locs ls w hl
  obtain ⟨q0, hq0⟩ := wld_pos hk hi
  have he := wld_get (ad := ad) (aC := aC) (σ := σ) hq0
  rw [cel_arr (arT_kd ha)] at he
  exact va_aldq C.1 C.2.1 C.2.2.2.2.2.2.1 w.1 q0 4 he rfl hin hd (kk.at C w hl)
def setA (σ : ST) (k i : Nat) (g : Nat → Int32) : ST := (fun a b => if a = k ∧ b = i then g else σ.1 a b, σ.2)
theorem setA_at (σ : ST) (k i : Nat) (g : Nat → Int32) : (setA σ k i g).1 k i = g := by simp [setA]
theorem setA_off (σ : ST) (k i : Nat) (g : Nat → Int32) (a b : Nat) (h : ¬ (a = k ∧ b = i)) : (setA σ k i g).1 a b = σ.1 a b ∧ (setA σ k i g).2 a b = σ.2 a b := ⟨by simp only [setA]; rw [if_neg h], rfl⟩
theorem setI_A (σ : ST) (k i f : Nat) (v : Int32) : setI σ k i f v = setA σ k i (upd (σ.1 k i) f v) := by
  unfold setI setA
  congr 1
  funext a b c
  by_cases h : a = k ∧ b = i
  · obtain ⟨rfl, rfl⟩ := h
    simp [upd]
  · rw [if_neg (fun q => h ⟨q.1, q.2.1⟩), if_neg h]
theorem cel_setA {ad : AD} {aC : Nat → ClassId} {σ : ST} {k i t n k' : Nat} {g : Nat → Int32} (h : kd k = .inr (t, n, k')) (ht : t = 0 ∨ t = 1) : cel ad aC (setA σ k i g) k i = .inl (aC t, n, .inl g) := by
  rw [cel_arr h]
  rcases ht with rfl | rfl
  · show Sum.inl (aC 0, n, Sum.inl ((setA σ k i g).1 k i)) = _
    rw [setA_at]
  · show Sum.inl (aC 1, n, Sum.inl ((setA σ k i g).1 k i)) = _
    rw [setA_at]
theorem ev_iast {k i n k' : Nat} {x v : Int32} (ha : arT k = some (0, n, k')) (hk : k < 63) (hi : i < cnt k) (hin : vp_in x n) (hd : decode M.2.1 pc = .ok (.iastore, 1)) (kk : Ev X d M (pc + 1) L st (setI σ k i x.toNatClampNeg v) post) : Ev X d M pc L (vI v :: vI x :: vR k i :: st) σ post := by
  intro D ad aC p l e R s m args below meth c cells slots A Q C H locs ls w hl
  obtain ⟨q0, hq0⟩ := wld_pos hk hi
  have he := wld_get (ad := ad) (aC := aC) (σ := σ) hq0
  rw [cel_arr (arT_kd ha)] at he
  refine va_iast C.1 C.2.1 C.2.2.2.2.2.2.1 w.1 w.2.1 w.2.2 q0 0 he rfl hin hd (fun H1 locs1 hP hD hS => ?_)
  have E : (wld ad aC σ).set q0 (ad k i, .inl (aC 0, n, .inl (upd (σ.1 k i) x.toNatClampNeg v))) = wld ad aC (setI σ k i x.toNatClampNeg v) := by
    rw [setI_A]
    exact wld_set hq0 (setA_off σ k i _) (cel_setA (arT_kd ha) (Or.inl rfl))
  rw [E] at hP hD
  exact kk.at C ⟨hP, hD, hS⟩ hl
theorem nar_z {x : Int32} (hx : x = 0 ∨ x = 1) : vp_nar .boolean x = x := by rcases hx with rfl | rfl <;> decide +kernel
theorem ev_zast {k i n k' : Nat} {x v : Int32} (ha : arT k = some (1, n, k')) (hk : k < 63) (hi : i < cnt k) (hin : vp_in x n) (hv : v = 0 ∨ v = 1) (hd : decode M.2.1 pc = .ok (.bastore, 1)) (kk : Ev X d M (pc + 1) L st (setI σ k i x.toNatClampNeg v) post) : Ev X d M pc L (vI v :: vI x :: vR k i :: st) σ post := by
  intro D ad aC p l e R s m args below meth c cells slots A Q C H locs ls w hl
  obtain ⟨q0, hq0⟩ := wld_pos hk hi
  have he := wld_get (ad := ad) (aC := aC) (σ := σ) hq0
  rw [cel_arr (arT_kd ha)] at he
  refine va_zast C.1 C.2.1 C.2.2.2.2.2.2.1 w.1 w.2.1 w.2.2 q0 1 he rfl hin hd (fun H1 locs1 hP hD hS => ?_)
  rw [nar_z hv] at hP hD
  have E : (wld ad aC σ).set q0 (ad k i, .inl (aC 1, n, .inl (upd (σ.1 k i) x.toNatClampNeg v))) = wld ad aC (setI σ k i x.toNatClampNeg v) := by
    rw [setI_A]
    exact wld_set hq0 (setA_off σ k i _) (cel_setA (arT_kd ha) (Or.inr rfl))
  rw [E] at hP hD
  exact kk.at C ⟨hP, hD, hS⟩ hl
theorem ev_last {k i n k' : Nat} {x : Int32} {v : Int64} (ha : arT k = some (2, n, k')) (hk : k < 63) (hi : i < cnt k) (hin : vp_in x n) (hd : decode M.2.1 pc = .ok (.lastore, 1)) (kk : Ev X d M (pc + 1) L st (setJ σ k i x.toNatClampNeg v) post) : Ev X d M pc L (vJ v :: vI x :: vR k i :: st) σ post := by
  intro D ad aC p l e R s m args below meth c cells slots A Q C H locs ls w hl
  obtain ⟨q0, hq0⟩ := wld_pos hk hi
  have he := wld_get (ad := ad) (aC := aC) (σ := σ) hq0
  rw [cel_arr (arT_kd ha)] at he
  refine va_last C.1 C.2.1 C.2.2.2.2.2.2.1 w.1 w.2.1 w.2.2 q0 2 he rfl hin hd (fun H1 locs1 hP hD hS => ?_)
  have E : (wld ad aC σ).set q0 (ad k i, .inl (aC 2, n, .inr (.inl (vp_updL (σ.2 k i) x.toNatClampNeg v)))) = wld ad aC (setJ σ k i x.toNatClampNeg v) := by
    refine wld_set hq0 (setJ_off σ k i _ v) ?_
    rw [cel_arr (arT_kd ha)]
    show Sum.inl (aC 2, n, Sum.inr (Sum.inl ((setJ σ k i x.toNatClampNeg v).2 k i))) = _
    congr 5
    funext j
    simp [setJ, vp_updL]
  rw [E] at hP hD
  exact kk.at C ⟨hP, hD, hS⟩ hl
def cats (st : List AV) : Nat := (st.map (fun v => match isJ (some (some v)) with | true => 2 | false => 1)).sum
theorem cats_eq (ad : AD) : ∀ st : List AV, ((st.map (cv ad)).map fun v => v.category).sum = cats st
  | [] => rfl
  | v :: st => by
    have ih := cats_eq ad st
    have e : (cv ad v).category = (match isJ (some (some v)) with | true => 2 | false => 1) := by rcases v with x | x | ⟨k, i⟩ <;> rfl
    show (cv ad v).category + ((st.map (cv ad)).map fun v => v.category).sum = (match isJ (some (some v)) with | true => 2 | false => 1) + cats st
    rw [ih, e]
theorem fitInt (x : Int32) : fits .int (.int x) = true := rfl
theorem ev_copy {idx k0 i0 k1 i1 n0 n1 k0' k1' : Nat} {sp dp n : Int32} (hlk : Cond.methodLink M.1.cls idx arraycopyName ∈ lw_gd) (ha0 : arT k0 = some (0, n0, k0')) (hk0 : k0 < 63) (hi0 : i0 < cnt k0) (ha1 : arT k1 = some (0, n1, k1')) (hk1 : k1 < 63) (hi1 : i1 < cnt k1) (h1 : ¬ sp < 0) (h2 : ¬ dp < 0) (h3 : ¬ n < 0) (h4 : sp.toNatClampNeg + n.toNatClampNeg ≤ n0) (h5 : dp.toNatClampNeg + n.toNatClampNeg ≤ n1) (hr : cats st ≤ 8)
    (hd : decode M.2.1 pc = .ok (.invokestatic idx, 3)) (kk : Ev X (d + 1) M (pc + 3) L st (setA σ k1 i1 (va_cpy (σ.1 k0 i0) (σ.1 k1 i1) sp.toNatClampNeg dp.toNatClampNeg n.toNatClampNeg)) post) : Ev X (d + 1) M pc L (vI n :: vI dp :: vR k1 i1 :: vI sp :: vR k0 i0 :: st) σ post := by
  intro D ad aC p l e R s m args below meth c cells slots A Q C H locs ls w hl
  obtain ⟨q0, hq0⟩ := wld_pos hk0 hi0
  have he0 := wld_get (ad := ad) (aC := aC) (σ := σ) hq0
  rw [cel_arr (arT_kd ha0)] at he0
  obtain ⟨q1, hq1⟩ := wld_pos hk1 hi1
  have he1 := wld_get (ad := ad) (aC := aC) (σ := σ) hq1
  rw [cel_arr (arT_kd ha1)] at he1
  have hts := C.2.2.2.2.1
  refine va_copyi C.1 C.2.1 (C.2.2.1.trans hl.1.symm) C.2.2.2.1 (hts _ hlk) (hts _ (by decide +kernel)) (hts _ (by decide +kernel)) (hts _ (by decide +kernel)) C.2.2.2.2.2.2.1 w.1 w.2.1 w.2.2 q0 q1 0 0 he0 he1 rfl rfl rfl h1 h2 h3 h4 h5 (fun _ _ => rfl) ?_ ?_ hd (fun H1 locs1 hP hD hS => ?_)
  · have := C.2.2.2.2.2.2.2.1.1
    omega
  · have h9 := C.2.2.2.2.2.2.2.1.2.1
    rw [cats_eq]
    have h8 : nativeFrameWords "java/lang/System" "arraycopy" 5 + 11 ≤ 40 := by decide +kernel
    omega
  · have E : (wld ad aC σ).set q1 (ad k1 i1, .inl (aC 0, n1, .inl (va_cpy (σ.1 k0 i0) (σ.1 k1 i1) sp.toNatClampNeg dp.toNatClampNeg n.toNatClampNeg))) = wld ad aC (setA σ k1 i1 (va_cpy (σ.1 k0 i0) (σ.1 k1 i1) sp.toNatClampNeg dp.toNatClampNeg n.toNatClampNeg)) :=
      wld_set hq1 (setA_off σ k1 i1 _) (cel_setA (arT_kd ha1) (Or.inl rfl))
    have hP' := hP
    have hD' := hD
    change va_P D cls ((wld ad aC σ).set q1 (ad k1 i1, .inl (aC 0, n1, .inl (va_cpy (σ.1 k0 i0) (σ.1 k1 i1) sp.toNatClampNeg dp.toNatClampNeg n.toNatClampNeg)))) H1 at hP'
    change va_D A ((wld ad aC σ).set q1 (ad k1 i1, .inl (aC 0, n1, .inl (va_cpy (σ.1 k0 i0) (σ.1 k1 i1) sp.toNatClampNeg dp.toNatClampNeg n.toNatClampNeg)))) at hD'
    rw [E] at hP' hD'
    exact kk.at C ⟨hP', hD', hS⟩ hl
-- Math
theorem ev_mmax {idx : Nat} {x y : Int32} (hlk : Cond.methodLink M.1.cls idx Lib.Math.max.name ∈ lw_gd) (hr : cats st ≤ 8) (hd : decode M.2.1 pc = .ok (.invokestatic idx, 3)) (kk : Ev X (d + 1) M (pc + 3) L (vI (imax x y) :: st) σ post) : Ev X (d + 1) M pc L (vI y :: vI x :: st) σ post := by
  intro D ad aC p l e R s m args below meth c cells slots A Q C H locs ls w hl
  have hts := C.2.2.2.2.1
  obtain ⟨f1, f2, f3, f4⟩ := C.2.2.2.2.2.2.2.1
  exact va_mmax C.1 C.2.1 (C.2.2.1.trans hl.1.symm) C.2.2.2.1 (hts _ hlk) (hts _ (by decide +kernel)) (hts _ (by decide +kernel)) (hts _ (by decide +kernel)) (by omega) (by rw [cats_eq]; omega) f3 f4 hd (kk.at C w hl)
theorem ev_mmin {idx : Nat} {x y : Int32} (hlk : Cond.methodLink M.1.cls idx Lib.Math.min.name ∈ lw_gd) (hr : cats st ≤ 8) (hd : decode M.2.1 pc = .ok (.invokestatic idx, 3)) (kk : Ev X (d + 1) M (pc + 3) L (vI (imin x y) :: st) σ post) : Ev X (d + 1) M pc L (vI y :: vI x :: st) σ post := by
  intro D ad aC p l e R s m args below meth c cells slots A Q C H locs ls w hl
  have hts := C.2.2.2.2.1
  obtain ⟨f1, f2, f3, f4⟩ := C.2.2.2.2.2.2.2.1
  exact va_mmin C.1 C.2.1 (C.2.2.1.trans hl.1.symm) C.2.2.2.1 (hts _ hlk) (hts _ (by decide +kernel)) (hts _ (by decide +kernel)) (hts _ (by decide +kernel)) (by omega) (by rw [cats_eq]; omega) f3 f4 hd (kk.at C w hl)
theorem ev_mabs {idx : Nat} {x : Int32} (hlk : Cond.methodLink M.1.cls idx Lib.Math.abs.name ∈ lw_gd) (hr : cats st ≤ 8) (hd : decode M.2.1 pc = .ok (.invokestatic idx, 3)) (kk : Ev X (d + 1) M (pc + 3) L (vI (iabs x) :: st) σ post) : Ev X (d + 1) M pc L (vI x :: st) σ post := by
  intro D ad aC p l e R s m args below meth c cells slots A Q C H locs ls w hl
  have hts := C.2.2.2.2.1
  obtain ⟨f1, f2, f3, f4⟩ := C.2.2.2.2.2.2.2.1
  exact va_mabs C.1 C.2.1 (C.2.2.1.trans hl.1.symm) C.2.2.2.1 (hts _ hlk) (hts _ (by decide +kernel)) (hts _ (by decide +kernel)) (hts _ (by decide +kernel)) (by omega) (by rw [cats_eq]; omega) f3 f4 hd (kk.at C w hl)
-- the script
theorem ev_sld {n : Nat} {xs : Nat → Int32} {x : Int32} (hin : vp_in x n) (hd : decode M.2.1 pc = .ok (.iaload, 1)) (kk : Ev (some (n, xs)) d M (pc + 1) L (vI (xs x.toNatClampNeg) :: st) σ post) : Ev (some (n, xs)) d M pc L (vI x :: vR 63 0 :: st) σ post := by
  intro D ad aC p l e R s m args below meth c cells slots A Q C H locs ls w hl
  obtain ⟨x1, x2, x3⟩ := C.2.2.2.2.2.2.2.2.2.1
  exact va_sld C.1 C.2.1 x1 x2 x3 w.2.2 hin hd (kk.at C w hl)
theorem ev_slen {n : Nat} {xs : Nat → Int32} (hd : decode M.2.1 pc = .ok (.arraylength, 1)) (kk : Ev (some (n, xs)) d M (pc + 1) L (vI (Int32.ofNat n) :: st) σ post) : Ev (some (n, xs)) d M pc L (vR 63 0 :: st) σ post := by
  intro D ad aC p l e R s m args below meth c cells slots A Q C H locs ls w hl
  obtain ⟨x1, x2, x3⟩ := C.2.2.2.2.2.2.2.2.2.1
  exact va_slen C.1 C.2.1 x1 x2 x3 w.2.2 hd (kk.at C w hl)
end EVH
end
section
-- a method's contract out of Ev of its body; the rules of the calls
abbrev rmd (n : Nat) : Room := { frames := n, cells := 0, slots := 0, locals := 64 * n }
abbrev wsM (M : MD) : List Cond := Cond.code M.1 M.2.1 M.2.2.1 M.2.2.2 :: lw_gd
def PcM (D : va_G) (ad : AD) (aC : Nat → ClassId) (as : List AV) (σ : ST) (sz : Nat) : Array Value → State → Prop :=
  va_Pc (as.map (cv ad)) (fun U => U.heap.size = sz ∧ va_P D cls (wld ad aC σ) U.heap ∧ va_K D cls (tys aC) U ∧ va_D (fun _ => True) (wld ad aC σ) ∧ ∀ w ∈ nests, va_Nw w U)
def Qg (D : va_G) (ad : AD) (aC : Nat → ClassId) (post : Option AV → ST → Prop) (A : Nat → Prop) : Array Value → State → Outcome → State → Prop := fun _ st oc t =>
  (∃ (r : Option AV) (σ' : ST), oc = .returned (r.map (cv ad)) ∧ post r σ' ∧ va_P D cls (wld ad aC σ') t.heap ∧ va_D A (wld ad aC σ')) ∧ va_F A st t
/-- what the tables have of a method -/
def MG (M : MD) (n : Nat) : Prop := Cond.code M.1 M.2.1 M.2.2.1 M.2.2.2 ∈ lw_gd ∧ Cond.initialized M.1.cls ∈ lw_gd ∧ plainName M.1.cls = true ∧ (M.1.cls ≠ "java/lang/invoke/MethodHandle" ∧ M.1.cls ≠ "java/lang/invoke/VarHandle" ∧ (parseMethodDescriptor M.1.desc).map (fun d => d.parameters.length) = some n) ∧ M.2.2.1 ≤ 40
def MGv (M : MD) (n : Nat) : Prop := MG M n ∧ Cond.instanceMethod M.1 ∈ lw_gd ∧ Cond.selects M.1.cls M.1 M.1 ∈ lw_gd
def MGs (M : MD) (n : Nat) : Prop := MG M n ∧ Cond.static M.1 ∈ lw_gd
theorem nests_all : ∀ w ∈ nests, ∃ a i x h, w = Cond.methodLinkNest a i x h := by
  intro w hw
  simp only [nests, List.mem_cons, List.not_mem_nil, or_false] at hw
  rcases hw with rfl | rfl | rfl | rfl | rfl <;> exact ⟨_, _, _, _, rfl⟩
set_option maxHeartbeats 1000000 in
theorem met_of_ev {M : MD} {n dd : Nat} {as : List AV} {σ : ST} {post : Option AV → ST → Prop} (hM : MG M n) (hn : (entL as).length ≤ M.2.2.1) (h : Ev none dd M 0 (entP M.2.2.1 as) [] σ post) (l : Launch) (D : va_G) (ad : AD) (aC : Nat → ClassId) (sz : Nat) :
    Met l M.1 (wsM M) (rmd dd) (PcM D ad aC as σ sz) (Qg D ad aC post (va_A (wld ad aC σ) sz)) 0 0 (va_A (wld ad aC σ) sz) := by
  refine Met.ofW (cc := M.2.1) (maxL := M.2.2.1) (ret := M.2.2.2) hM.2.2.1 rfl ?_
  intro p e s m args below meth c s₁ B hml hv
  obtain ⟨rfl, hsz, hP, hK, hD0, hN⟩ := hv
  have hx := B.exec
  have hb := B.bytes
  have hr := B.returns
  have hts := atoms_spec (ws := wsM M) B.pre
  have hown : s.vm.findClass M.1.cls = some m.cls := findClass_of_methodNamed B.named
  have hlocks := B.notSynchronized
  subst hsz
  have hD := hD0.self (sz := s.heap.size)
  rw [lg_entry_eq]
  refine h.at (A := va_A (wld ad aC σ) s.heap.size) (aC := aC) (D := D) ⟨hx, hb, hml, hown, fun w hw => hts w (List.mem_cons_of_mem _ hw), hN, hK, ⟨Nat.le_refl _, Nat.le_refl _, Nat.le_refl _, Nat.le_refl _⟩, fun q hq => Or.inr hq, trivial, ?_⟩ ⟨hP, hD, va_S.rf⟩ (Lc.entry ad as hn)
  intro r σ' H locs ls pc op hp hok hw hdg
  have key : ∀ t : State, t.heap = H → Qg D ad aC post (va_A (wld ad aC σ) s.heap.size) ((as.map (cv ad)).toArray) s (.returned (r.map (cv ad))) t := fun t ht =>
    ⟨⟨r, σ', rfl, hp, by rw [ht]; exact hw.1, hw.2.1⟩, hw.2.2.F ht⟩
  obtain ⟨y, bytes, maxL, ret⟩ := M
  dsimp only at *
  unfold rok at hok
  split at hok
  · subst hok
    exact W.vret hx hb hr (fun t ht _ => key t ht) hw.2.2.2.2 hdg
  · subst hok
    exact W.iret hx hb hr (fun t ht _ => key t ht) hw.2.2.2.2 hdg
  · obtain ⟨rfl, hz⟩ := hok
    exact W.zret hx hb hr (nar_fz hz).1 (fun t ht _ => key t ht) hw.2.2.2.2 hdg
  · subst hok
    exact W.lret hx hb hr (fun t ht _ => key t ht) hw.2.2.2.2 hdg
  · subst hok
    exact W.aret hx hb hr (Or.inl ⟨_, rfl⟩) (Or.inr ⟨_, rfl⟩) (fun t ht _ => key t ht) hw.2.2.2.2 hdg
  · exact hok.elim
section VG
variable {p : Program} {l : Launch} {e : Env} {R : Room} {s : State} {m : MethodId} {args : Array Value} {below : List Frame} {meth : Method} {c : Code} {H : Heap} {locs : List Loc} {cells slots : Nat} {Q : State → Prop}
variable {pc : Nat} {ls : Array Slot} {rest st0 : List Value} {a : Array Value} {A0 A1 : Nat → Prop} {H0 : Heap} {free : Addr → Prop}
theorem vg_call {D : va_G} {ad : AD} {aC : Nat → ClassId} {post : Option AV → ST → Prop} (hr : va_Run p l e R s m args below meth c H locs cells slots 0 0 (F0 m pc ls st0) rest (Qg D ad aC post A1 a) free) (hS : va_S A0 H0 H locs) (hA : ∀ q, A1 q → A0 q) (hf : ∀ q, free q → A0 q)
    (kk : ∀ (r : Option AV) (σ' : ST) (H1 : Heap) (locs1 : List Loc), post r σ' → Wo D ad aC σ' A0 H0 H1 locs1 → W p l e R s m args below meth c H1 locs1 cells slots Q (F0 m (pc + 3) ls ((r.map (cv ad)).toList ++ rest))) : W p l e R s m args below meth c H locs cells slots Q (F0 m pc ls st0) := by
  intro T hT X
  obtain ⟨v, st₀, t, T', L, h0, X', hL, e1, e2, ⟨⟨r, σ', hv, hp, hP, hD⟩, hz, hk⟩, st⟩ := hr T hT X
  cases hv
  rw [h0] at hz hk
  obtain ⟨t2, a1, b1⟩ := kk r σ' T'.heap (locs ++ L) hp ⟨by rw [e1]; exact hP, hD.weaken (fun _ _ _ q => hA _ q), 
    ⟨Nat.le_trans hS.1 (by rw [e1]; exact hz), fun q h1 h2 => by rw [e1, hk q (Nat.lt_of_lt_of_le h1 hS.1) (fun z => h2 (hA q z))]; exact hS.2.1 q h1 h2, fun q hq => by
      rcases List.mem_append.mp hq with h | h
      · exact hS.2.2 q h
      · exact hf _ (hL q h)⟩⟩ T' rfl X'
  exact ⟨t2, st t2 a1, b1⟩
end VG
theorem wld_free {ad : AD} {aC : Nat → ClassId} {σ : ST} {A : Nat → Prop} {H0 H : Heap} {locs : List Loc} (hD : va_D A (wld ad aC σ)) (hS : va_S A H0 H locs) (hA : ∀ q, H0.size ≤ q → A q) : ∀ q, va_A (wld ad aC σ) H.size q → A q := by
  intro q h
  rcases h with ⟨k, e, h⟩ | h
  · exact hD.2 k (q, e) h
  · exact hA q (Nat.le_trans hS.1 h)
theorem pcm_blind {D : va_G} {ad : AD} {aC : Nat → ClassId} {as : List AV} {σ : ST} {sz : Nat} : FrameBlind (PcM D ad aC as σ sz) := by
  intro a U g mk q
  obtain ⟨q0, q1, qP, qK, qD, qN⟩ := q
  exact ⟨q0, q1, qP, va_K.moved (u := U) (U := U.calling g mk a) (Vm.Alike.refl U.vm) qK, qD, fun w hw => by
    obtain ⟨z1, z2, z3, z4, rfl⟩ := nests_all w hw
    exact va_Nw.same (u := U) rfl rfl (qN _ hw)⟩
theorem pcm_at {D : va_G} {ad : AD} {aC : Nat → ClassId} {as : List AV} {σ : ST} {s : State} {H : Heap} {A : Nat → Prop} (hP : va_P D cls (wld ad aC σ) H) (hK : va_K D cls (tys aC) s) (hD : va_D A (wld ad aC σ)) (hN : ∀ w ∈ nests, va_Nw w s) (U : State) (hU : U.heap = H) (hW : s.WarmedH U.vm) : PcM D ad aC as σ H.size ((as.map (cv ad)).toArray) U :=
  ⟨rfl, by rw [hU], by rw [hU]; exact hP, va_K.moved hW.alike hK, hD.weaken (fun _ _ _ _ => trivial), fun w hw => by
    obtain ⟨z1, z2, z3, z4, rfl⟩ := nests_all w hw
    exact va_Nw.warmM hW (hN _ hw)⟩
theorem good_M {M : MD} {n : Nat} (hM : MG M n) : GoodIn lw_gd (wsM M) := by
  intro w hw
  rcases List.mem_cons.mp hw with rfl | h
  · exact good_gd _ hM.1
  · exact good_gd _ h
section EVC
variable {X : SX} {d : Nat} {M M' : MD} {pc : Nat} {L L0 : List (Option AV)} {st stk : List AV} {σ : ST} {post : Option AV → ST → Prop}
set_option maxHeartbeats 1000000 in
theorem ev_callV {idx k i n : Nat} {as : List AV} {q : vw_C} (g : MGv M' n) (hlk : Cond.methodLink M.1.cls idx M'.1 ∈ lw_gd) (hq : cls[k]? = some q) (hqc : q.1 = M'.1.cls) (hk : k < 12) (hi : i < cnt k) (hd : decode M.2.1 pc = .ok (.invokevirtual idx, 3)) (hst : stk = as.reverse ++ vR k i :: st) (hn : as.length = n) (hr : cats st ≤ 8) (hL : entP M'.2.2.1 (vR k i :: as) = L0) (hl0 : (entL (vR k i :: as)).length ≤ M'.2.2.1)
    (h : Ev none d M' 0 L0 [] σ (fun r σ' => Ev X (d + 1) M (pc + 3) L (r.toList ++ st) σ' post)) : Ev X (d + 1) M pc L stk σ post := by
  intro D ad aC p l e R s m args below meth c cells slots A Q C H locs ls w hl
  subst hL
  subst hst
  obtain ⟨f1, f2, f3, f4⟩ := C.2.2.2.2.2.2.2.1
  obtain ⟨gM, gi, gs⟩ := g
  have hmet := met_of_ev gM hl0 h l D ad aC H.size
  have hF := wld_free w.2.1 w.2.2 C.2.2.2.2.2.2.2.2.1
  have hkd : ∃ fs, kd k = .inl (k, fs) := by
    match k, hk with
    | 0, _ => exact ⟨_, rfl⟩
    | 1, _ => exact ⟨_, rfl⟩
    | 2, _ => exact ⟨_, rfl⟩
    | 3, _ => exact ⟨_, rfl⟩
    | 4, _ => exact ⟨_, rfl⟩
    | 5, _ => exact ⟨_, rfl⟩
    | 6, _ => exact ⟨_, rfl⟩
    | 7, _ => exact ⟨_, rfl⟩
    | 8, _ => exact ⟨_, rfl⟩
    | 9, _ => exact ⟨_, rfl⟩
    | 10, _ => exact ⟨_, rfl⟩
    | 11, _ => exact ⟨_, rfl⟩
    | k + 12, h => omega
  obtain ⟨fs, hkd⟩ := hkd
  obtain ⟨q0, hq0⟩ := wld_pos (show k < 63 by omega) hi
  have he := wld_get (ad := ad) (aC := aC) (σ := σ) hq0
  rw [cel_obj hkd] at he
  have hrecv := va_recv C.2.2.2.2.2.2.1 w.1 hq he
  rw [hqc] at hrecv
  have hT : GoodIn lw_gd (wsV M.1.cls idx M'.1.cls M'.1 (wsM M')) := by
    intro z hz
    unfold wsV at hz
    rcases List.mem_append.mp hz with hz | hz
    · simp only [List.mem_cons, List.not_mem_nil, or_false] at hz
      rcases hz with rfl | rfl | rfl | rfl
      · exact good_gd _ hlk
      · exact good_gd _ gi
      · exact good_gd _ gs
      · exact good_gd _ gM.2.1
    · exact good_M gM z hz
  have hrl := gM.2.2.2.2
  refine vg_call (va_runV (As := as.map (cv ad)) (rest := st.map (cv ad)) (nL := M.2.2.1) (Ts := lw_gd) (own := M.1.cls) ⟨C.1, C.2.1, C.2.2.1, C.2.2.2.1, C.2.2.2.2.1⟩ hmet (cwV (C := M'.1.cls) n C.2.2.2.2.1 hT rfl rfl rfl ⟨rfl, gM.2.2.2.1⟩ ⟨f1, ?_⟩) ⟨pcm_blind, hrecv, fun U hU hW => ?_⟩ rfl (by rw [List.length_map]; exact hn) hl.1 ?_ (lv_room (by rw [cats_eq]; exact hr)) hd ⟨f3, f4⟩) w.2.2 hF hF (fun r σ' H1 locs1 hp hw => ?_)
  · show 8 + (M'.2.2.1 + 11) + 64 * d ≤ R.locals
    omega
  · exact pcm_at (as := vR k i :: as) w.1 C.2.2.2.2.2.2.1 w.2.1 C.2.2.2.2.2.1 U hU hW
  · show ((as.reverse ++ vR k i :: st).map (cv ad)) = _
    rw [List.map_append, List.map_cons, List.map_reverse]
    rfl
  · have := hp.at C hw hl
    rw [List.map_append] at this
    cases r <;> exact this
set_option maxHeartbeats 1000000 in
theorem ev_callS {idx n : Nat} {as : List AV} (g : MGs M' n) (hlk : Cond.methodLink M.1.cls idx M'.1 ∈ lw_gd) (hd : decode M.2.1 pc = .ok (.invokestatic idx, 3)) (hst : stk = as.reverse ++ st) (hn : as.length = n) (hr : cats st ≤ 8) (hL : entP M'.2.2.1 as = L0) (hl0 : (entL as).length ≤ M'.2.2.1)
    (h : Ev none d M' 0 L0 [] σ (fun r σ' => Ev X (d + 1) M (pc + 3) L (r.toList ++ st) σ' post)) : Ev X (d + 1) M pc L stk σ post := by
  intro D ad aC p l e R s m args below meth c cells slots A Q C H locs ls w hl
  subst hL
  subst hst
  obtain ⟨f1, f2, f3, f4⟩ := C.2.2.2.2.2.2.2.1
  obtain ⟨gM, gi⟩ := g
  have hmet := met_of_ev gM hl0 h l D ad aC H.size
  have hF := wld_free w.2.1 w.2.2 C.2.2.2.2.2.2.2.2.1
  have hT : GoodIn lw_gd (va_wsS M.1.cls idx M'.1 (wsM M')) := by
    intro z hz
    unfold va_wsS at hz
    rcases List.mem_append.mp hz with hz | hz
    · simp only [List.mem_cons, List.not_mem_nil, or_false] at hz
      rcases hz with rfl | rfl | rfl
      · exact good_gd _ hlk
      · exact good_gd _ gi
      · exact good_gd _ gM.2.1
    · exact good_M gM z hz
  have hrl := gM.2.2.2.2
  refine vg_call (va_runS (As := as.map (cv ad)) (rest := st.map (cv ad)) (nL := M.2.2.1) (Ts := lw_gd) (own := M.1.cls) ⟨C.1, C.2.1, C.2.2.1, C.2.2.2.1, C.2.2.2.2.1⟩ hmet (va_cwS n C.2.2.2.2.1 hT rfl rfl rfl gM.2.2.2.1 ⟨f1, ?_⟩) ⟨pcm_blind, fun U hU hW => ?_⟩ rfl (by rw [List.length_map]; exact hn) hl.1 ?_ (lv_room (by rw [cats_eq]; exact hr)) hd ⟨f3, f4⟩) w.2.2 hF hF (fun r σ' H1 locs1 hp hw => ?_)
  · show 8 + (M'.2.2.1 + 11) + 64 * d ≤ R.locals
    omega
  · exact pcm_at (as := as) w.1 C.2.2.2.2.2.2.1 w.2.1 C.2.2.2.2.2.1 U hU hW
  · show ((as.reverse ++ st).map (cv ad)) = _
    rw [List.map_append, List.map_reverse]
  · have := hp.at C hw hl
    rw [List.map_append] at this
    cases r <;> exact this
set_option maxHeartbeats 1000000 in
theorem ev_callN {idx n : Nat} {as : List AV} {host : String} (g : MGs M' n) (hlk : Cond.methodLinkNest M.1.cls idx M'.1 host ∈ nests) (hd : decode M.2.1 pc = .ok (.invokestatic idx, 3)) (hst : stk = as.reverse ++ st) (hn : as.length = n) (hr : cats st ≤ 8) (hL : entP M'.2.2.1 as = L0) (hl0 : (entL as).length ≤ M'.2.2.1)
    (h : Ev none d M' 0 L0 [] σ (fun r σ' => Ev X (d + 1) M (pc + 3) L (r.toList ++ st) σ' post)) : Ev X (d + 1) M pc L stk σ post := by
  intro D ad aC p l e R s m args below meth c cells slots A Q C H locs ls w hl
  subst hL
  subst hst
  obtain ⟨f1, f2, f3, f4⟩ := C.2.2.2.2.2.2.2.1
  obtain ⟨gM, gi⟩ := g
  have hmet := met_of_ev gM hl0 h l D ad aC H.size
  have hF := wld_free w.2.1 w.2.2 C.2.2.2.2.2.2.2.2.1
  have hrl := gM.2.2.2.2
  refine vg_call (va_runSN (As := as.map (cv ad)) (rest := st.map (cv ad)) (nL := M.2.2.1) (Ts := lw_gd) (own := M.1.cls) ⟨C.1, C.2.1, C.2.2.1, C.2.2.2.1, C.2.2.2.2.1⟩ hmet ⟨va_cnB n C.2.2.2.2.1 (good_M gM) rfl rfl rfl (C.2.2.2.2.2.1 _ hlk) (C.2.2.2.2.1 _ gM.2.1) gM.2.2.2.1 ⟨f1, ?_⟩, C.2.2.2.2.1 _ gi, trivial⟩ ⟨pcm_blind, fun U hU hW => ?_⟩ rfl (by rw [List.length_map]; exact hn) hl.1 ?_ (lv_room (by rw [cats_eq]; exact hr)) hd ⟨f3, f4⟩) w.2.2 hF hF (fun r σ' H1 locs1 hp hw => ?_)
  · show 8 + (M'.2.2.1 + 11) + 64 * d ≤ R.locals
    omega
  · exact pcm_at (as := as) w.1 C.2.2.2.2.2.2.1 w.2.1 C.2.2.2.2.2.1 U hU hW
  · show ((as.reverse ++ st).map (cv ad)) = _
    rw [List.map_append, List.map_reverse]
  · have := hp.at C hw hl
    rw [List.map_append] at this
    cases r <;> exact this
end EVC
end
