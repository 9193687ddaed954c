-- what the bytes decode to (by program: wip/gen/gen_meth.py)
theorem d_B_append_0 : decode prog_2_method_2_code 0 = .ok (.aload_n 0, 1) := by decide +kernel
theorem d_B_append_1 : decode prog_2_method_2_code 1 = .ok (.getfield 21, 3) := by decide +kernel
theorem d_B_append_4 : decode prog_2_method_2_code 4 = .ok (.bipush 60, 2) := by decide +kernel
theorem d_B_append_6 : decode prog_2_method_2_code 6 = .ok (.if_icmp .lt 5, 3) := by decide +kernel
theorem d_B_append_9 : decode prog_2_method_2_code 9 = .ok (.iconst 0, 1) := by decide +kernel
theorem d_B_append_10 : decode prog_2_method_2_code 10 = .ok (.ireturn, 1) := by decide +kernel
theorem d_B_append_11 : decode prog_2_method_2_code 11 = .ok (.aload_n 0, 1) := by decide +kernel
theorem d_B_append_12 : decode prog_2_method_2_code 12 = .ok (.getfield 11, 3) := by decide +kernel
theorem d_B_append_15 : decode prog_2_method_2_code 15 = .ok (.aload_n 0, 1) := by decide +kernel
theorem d_B_append_16 : decode prog_2_method_2_code 16 = .ok (.getfield 21, 3) := by decide +kernel
theorem d_B_append_19 : decode prog_2_method_2_code 19 = .ok (.iload_n 1, 1) := by decide +kernel
theorem d_B_append_20 : decode prog_2_method_2_code 20 = .ok (.iastore, 1) := by decide +kernel
theorem d_B_append_21 : decode prog_2_method_2_code 21 = .ok (.aload_n 0, 1) := by decide +kernel
theorem d_B_append_22 : decode prog_2_method_2_code 22 = .ok (.dup, 1) := by decide +kernel
theorem d_B_append_23 : decode prog_2_method_2_code 23 = .ok (.getfield 21, 3) := by decide +kernel
theorem d_B_append_26 : decode prog_2_method_2_code 26 = .ok (.iconst 1, 1) := by decide +kernel
theorem d_B_append_27 : decode prog_2_method_2_code 27 = .ok (.iadd, 1) := by decide +kernel
theorem d_B_append_28 : decode prog_2_method_2_code 28 = .ok (.putfield 21, 3) := by decide +kernel
theorem d_B_append_31 : decode prog_2_method_2_code 31 = .ok (.aload_n 0, 1) := by decide +kernel
theorem d_B_append_32 : decode prog_2_method_2_code 32 = .ok (.invokevirtual 31, 3) := by decide +kernel
theorem d_B_append_35 : decode prog_2_method_2_code 35 = .ok (.iconst 1, 1) := by decide +kernel
theorem d_B_append_36 : decode prog_2_method_2_code 36 = .ok (.ireturn, 1) := by decide +kernel
theorem d_B_clear_0 : decode prog_2_method_3_code 0 = .ok (.aload_n 0, 1) := by decide +kernel
theorem d_B_clear_1 : decode prog_2_method_3_code 1 = .ok (.iconst 0, 1) := by decide +kernel
theorem d_B_clear_2 : decode prog_2_method_3_code 2 = .ok (.putfield 21, 3) := by decide +kernel
theorem d_B_clear_5 : decode prog_2_method_3_code 5 = .ok (.aload_n 0, 1) := by decide +kernel
theorem d_B_clear_6 : decode prog_2_method_3_code 6 = .ok (.invokevirtual 31, 3) := by decide +kernel
theorem d_B_clear_9 : decode prog_2_method_3_code 9 = .ok (.return_, 1) := by decide +kernel
theorem d_B_size_0 : decode prog_2_method_4_code 0 = .ok (.aload_n 0, 1) := by decide +kernel
theorem d_B_size_1 : decode prog_2_method_4_code 1 = .ok (.getfield 21, 3) := by decide +kernel
theorem d_B_size_4 : decode prog_2_method_4_code 4 = .ok (.ireturn, 1) := by decide +kernel
theorem d_B_faultPlace_0 : decode prog_2_method_5_code 0 = .ok (.aload_n 0, 1) := by decide +kernel
theorem d_B_faultPlace_1 : decode prog_2_method_5_code 1 = .ok (.getfield 28, 3) := by decide +kernel
theorem d_B_faultPlace_4 : decode prog_2_method_5_code 4 = .ok (.ireturn, 1) := by decide +kernel
theorem d_B_chapters_0 : decode prog_2_method_6_code 0 = .ok (.aload_n 0, 1) := by decide +kernel
theorem d_B_chapters_1 : decode prog_2_method_6_code 1 = .ok (.getfield 25, 3) := by decide +kernel
theorem d_B_chapters_4 : decode prog_2_method_6_code 4 = .ok (.ireturn, 1) := by decide +kernel
theorem d_B_kindOf_0 : decode prog_2_method_7_code 0 = .ok (.aload_n 0, 1) := by decide +kernel
theorem d_B_kindOf_1 : decode prog_2_method_7_code 1 = .ok (.getfield 15, 3) := by decide +kernel
theorem d_B_kindOf_4 : decode prog_2_method_7_code 4 = .ok (.iload_n 1, 1) := by decide +kernel
theorem d_B_kindOf_5 : decode prog_2_method_7_code 5 = .ok (.iaload, 1) := by decide +kernel
theorem d_B_kindOf_6 : decode prog_2_method_7_code 6 = .ok (.ireturn, 1) := by decide +kernel
theorem d_B_linesOf_0 : decode prog_2_method_8_code 0 = .ok (.aload_n 0, 1) := by decide +kernel
theorem d_B_linesOf_1 : decode prog_2_method_8_code 1 = .ok (.getfield 18, 3) := by decide +kernel
theorem d_B_linesOf_4 : decode prog_2_method_8_code 4 = .ok (.iload_n 1, 1) := by decide +kernel
theorem d_B_linesOf_5 : decode prog_2_method_8_code 5 = .ok (.iaload, 1) := by decide +kernel
theorem d_B_linesOf_6 : decode prog_2_method_8_code 6 = .ok (.ireturn, 1) := by decide +kernel
theorem d_B_allLines_0 : decode prog_2_method_9_code 0 = .ok (.iconst 0, 1) := by decide +kernel
theorem d_B_allLines_1 : decode prog_2_method_9_code 1 = .ok (.istore_n 1, 1) := by decide +kernel
theorem d_B_allLines_2 : decode prog_2_method_9_code 2 = .ok (.iconst 0, 1) := by decide +kernel
theorem d_B_allLines_3 : decode prog_2_method_9_code 3 = .ok (.istore_n 2, 1) := by decide +kernel
theorem d_B_allLines_4 : decode prog_2_method_9_code 4 = .ok (.iload_n 2, 1) := by decide +kernel
theorem d_B_allLines_5 : decode prog_2_method_9_code 5 = .ok (.aload_n 0, 1) := by decide +kernel
theorem d_B_allLines_6 : decode prog_2_method_9_code 6 = .ok (.getfield 25, 3) := by decide +kernel
theorem d_B_allLines_9 : decode prog_2_method_9_code 9 = .ok (.if_icmp .ge 18, 3) := by decide +kernel
theorem d_B_allLines_12 : decode prog_2_method_9_code 12 = .ok (.iload_n 1, 1) := by decide +kernel
theorem d_B_allLines_13 : decode prog_2_method_9_code 13 = .ok (.aload_n 0, 1) := by decide +kernel
theorem d_B_allLines_14 : decode prog_2_method_9_code 14 = .ok (.getfield 18, 3) := by decide +kernel
theorem d_B_allLines_17 : decode prog_2_method_9_code 17 = .ok (.iload_n 2, 1) := by decide +kernel
theorem d_B_allLines_18 : decode prog_2_method_9_code 18 = .ok (.iaload, 1) := by decide +kernel
theorem d_B_allLines_19 : decode prog_2_method_9_code 19 = .ok (.iadd, 1) := by decide +kernel
theorem d_B_allLines_20 : decode prog_2_method_9_code 20 = .ok (.istore_n 1, 1) := by decide +kernel
theorem d_B_allLines_21 : decode prog_2_method_9_code 21 = .ok (.iinc 2 1, 3) := by decide +kernel
theorem d_B_allLines_24 : decode prog_2_method_9_code 24 = .ok (.goto (-20), 3) := by decide +kernel
theorem d_B_allLines_27 : decode prog_2_method_9_code 27 = .ok (.iload_n 1, 1) := by decide +kernel
theorem d_B_allLines_28 : decode prog_2_method_9_code 28 = .ok (.ireturn, 1) := by decide +kernel
theorem d_B_parse_0 : decode prog_2_method_10_code 0 = .ok (.aload_n 0, 1) := by decide +kernel
theorem d_B_parse_1 : decode prog_2_method_10_code 1 = .ok (.aload_n 0, 1) := by decide +kernel
theorem d_B_parse_2 : decode prog_2_method_10_code 2 = .ok (.invokevirtual 34, 3) := by decide +kernel
theorem d_B_parse_5 : decode prog_2_method_10_code 5 = .ok (.putfield 28, 3) := by decide +kernel
theorem d_B_parse_8 : decode prog_2_method_10_code 8 = .ok (.aload_n 0, 1) := by decide +kernel
theorem d_B_parse_9 : decode prog_2_method_10_code 9 = .ok (.aload_n 0, 1) := by decide +kernel
theorem d_B_parse_10 : decode prog_2_method_10_code 10 = .ok (.getfield 28, 3) := by decide +kernel
theorem d_B_parse_13 : decode prog_2_method_10_code 13 = .ok (.iconst (-1), 1) := by decide +kernel
theorem d_B_parse_14 : decode prog_2_method_10_code 14 = .ok (.if_icmp .ne 14, 3) := by decide +kernel
theorem d_B_parse_17 : decode prog_2_method_10_code 17 = .ok (.aload_n 0, 1) := by decide +kernel
theorem d_B_parse_18 : decode prog_2_method_10_code 18 = .ok (.getfield 21, 3) := by decide +kernel
theorem d_B_parse_21 : decode prog_2_method_10_code 21 = .ok (.iconst 1, 1) := by decide +kernel
theorem d_B_parse_22 : decode prog_2_method_10_code 22 = .ok (.iadd, 1) := by decide +kernel
theorem d_B_parse_23 : decode prog_2_method_10_code 23 = .ok (.iconst 4, 1) := by decide +kernel
theorem d_B_parse_24 : decode prog_2_method_10_code 24 = .ok (.idiv, 1) := by decide +kernel
theorem d_B_parse_25 : decode prog_2_method_10_code 25 = .ok (.goto 4, 3) := by decide +kernel
theorem d_B_parse_28 : decode prog_2_method_10_code 28 = .ok (.iconst 0, 1) := by decide +kernel
theorem d_B_parse_29 : decode prog_2_method_10_code 29 = .ok (.putfield 25, 3) := by decide +kernel
theorem d_B_parse_32 : decode prog_2_method_10_code 32 = .ok (.iconst 0, 1) := by decide +kernel
theorem d_B_parse_33 : decode prog_2_method_10_code 33 = .ok (.istore_n 1, 1) := by decide +kernel
theorem d_B_parse_34 : decode prog_2_method_10_code 34 = .ok (.iload_n 1, 1) := by decide +kernel
theorem d_B_parse_35 : decode prog_2_method_10_code 35 = .ok (.aload_n 0, 1) := by decide +kernel
theorem d_B_parse_36 : decode prog_2_method_10_code 36 = .ok (.getfield 25, 3) := by decide +kernel
theorem d_B_parse_39 : decode prog_2_method_10_code 39 = .ok (.if_icmp .ge 50, 3) := by decide +kernel
theorem d_B_parse_42 : decode prog_2_method_10_code 42 = .ok (.aload_n 0, 1) := by decide +kernel
theorem d_B_parse_43 : decode prog_2_method_10_code 43 = .ok (.getfield 15, 3) := by decide +kernel
theorem d_B_parse_46 : decode prog_2_method_10_code 46 = .ok (.iload_n 1, 1) := by decide +kernel
theorem d_B_parse_47 : decode prog_2_method_10_code 47 = .ok (.aload_n 0, 1) := by decide +kernel
theorem d_B_parse_48 : decode prog_2_method_10_code 48 = .ok (.iload_n 1, 1) := by decide +kernel
theorem d_B_parse_49 : decode prog_2_method_10_code 49 = .ok (.iconst 4, 1) := by decide +kernel
theorem d_B_parse_50 : decode prog_2_method_10_code 50 = .ok (.imul, 1) := by decide +kernel
theorem d_B_parse_51 : decode prog_2_method_10_code 51 = .ok (.invokevirtual 38, 3) := by decide +kernel
theorem d_B_parse_54 : decode prog_2_method_10_code 54 = .ok (.iastore, 1) := by decide +kernel
theorem d_B_parse_55 : decode prog_2_method_10_code 55 = .ok (.aload_n 0, 1) := by decide +kernel
theorem d_B_parse_56 : decode prog_2_method_10_code 56 = .ok (.getfield 18, 3) := by decide +kernel
theorem d_B_parse_59 : decode prog_2_method_10_code 59 = .ok (.iload_n 1, 1) := by decide +kernel
theorem d_B_parse_60 : decode prog_2_method_10_code 60 = .ok (.bipush 10, 2) := by decide +kernel
theorem d_B_parse_62 : decode prog_2_method_10_code 62 = .ok (.aload_n 0, 1) := by decide +kernel
theorem d_B_parse_63 : decode prog_2_method_10_code 63 = .ok (.iload_n 1, 1) := by decide +kernel
theorem d_B_parse_64 : decode prog_2_method_10_code 64 = .ok (.iconst 4, 1) := by decide +kernel
theorem d_B_parse_65 : decode prog_2_method_10_code 65 = .ok (.imul, 1) := by decide +kernel
theorem d_B_parse_66 : decode prog_2_method_10_code 66 = .ok (.iconst 1, 1) := by decide +kernel
theorem d_B_parse_67 : decode prog_2_method_10_code 67 = .ok (.iadd, 1) := by decide +kernel
theorem d_B_parse_68 : decode prog_2_method_10_code 68 = .ok (.invokevirtual 42, 3) := by decide +kernel
theorem d_B_parse_71 : decode prog_2_method_10_code 71 = .ok (.imul, 1) := by decide +kernel
theorem d_B_parse_72 : decode prog_2_method_10_code 72 = .ok (.aload_n 0, 1) := by decide +kernel
theorem d_B_parse_73 : decode prog_2_method_10_code 73 = .ok (.iload_n 1, 1) := by decide +kernel
theorem d_B_parse_74 : decode prog_2_method_10_code 74 = .ok (.iconst 4, 1) := by decide +kernel
theorem d_B_parse_75 : decode prog_2_method_10_code 75 = .ok (.imul, 1) := by decide +kernel
theorem d_B_parse_76 : decode prog_2_method_10_code 76 = .ok (.iconst 2, 1) := by decide +kernel
theorem d_B_parse_77 : decode prog_2_method_10_code 77 = .ok (.iadd, 1) := by decide +kernel
theorem d_B_parse_78 : decode prog_2_method_10_code 78 = .ok (.invokevirtual 42, 3) := by decide +kernel
theorem d_B_parse_81 : decode prog_2_method_10_code 81 = .ok (.iadd, 1) := by decide +kernel
theorem d_B_parse_82 : decode prog_2_method_10_code 82 = .ok (.iastore, 1) := by decide +kernel
theorem d_B_parse_83 : decode prog_2_method_10_code 83 = .ok (.iinc 1 1, 3) := by decide +kernel
theorem d_B_parse_86 : decode prog_2_method_10_code 86 = .ok (.goto (-52), 3) := by decide +kernel
theorem d_B_parse_89 : decode prog_2_method_10_code 89 = .ok (.return_, 1) := by decide +kernel
theorem d_B_findFault_0 : decode prog_2_method_11_code 0 = .ok (.iconst 0, 1) := by decide +kernel
theorem d_B_findFault_1 : decode prog_2_method_11_code 1 = .ok (.istore_n 1, 1) := by decide +kernel
theorem d_B_findFault_2 : decode prog_2_method_11_code 2 = .ok (.iload_n 1, 1) := by decide +kernel
theorem d_B_findFault_3 : decode prog_2_method_11_code 3 = .ok (.aload_n 0, 1) := by decide +kernel
theorem d_B_findFault_4 : decode prog_2_method_11_code 4 = .ok (.getfield 21, 3) := by decide +kernel
theorem d_B_findFault_7 : decode prog_2_method_11_code 7 = .ok (.if_icmp .ge 54, 3) := by decide +kernel
theorem d_B_findFault_10 : decode prog_2_method_11_code 10 = .ok (.iload_n 1, 1) := by decide +kernel
theorem d_B_findFault_11 : decode prog_2_method_11_code 11 = .ok (.bipush 32, 2) := by decide +kernel
theorem d_B_findFault_13 : decode prog_2_method_11_code 13 = .ok (.if_icmp .ge 11, 3) := by decide +kernel
theorem d_B_findFault_16 : decode prog_2_method_11_code 16 = .ok (.aload_n 0, 1) := by decide +kernel
theorem d_B_findFault_17 : decode prog_2_method_11_code 17 = .ok (.iload_n 1, 1) := by decide +kernel
theorem d_B_findFault_18 : decode prog_2_method_11_code 18 = .ok (.invokevirtual 45, 3) := by decide +kernel
theorem d_B_findFault_21 : decode prog_2_method_11_code 21 = .ok (.ifCond .ne 5, 3) := by decide +kernel
theorem d_B_findFault_24 : decode prog_2_method_11_code 24 = .ok (.iload_n 1, 1) := by decide +kernel
theorem d_B_findFault_25 : decode prog_2_method_11_code 25 = .ok (.ireturn, 1) := by decide +kernel
theorem d_B_findFault_26 : decode prog_2_method_11_code 26 = .ok (.iload_n 1, 1) := by decide +kernel
theorem d_B_findFault_27 : decode prog_2_method_11_code 27 = .ok (.iconst 4, 1) := by decide +kernel
theorem d_B_findFault_28 : decode prog_2_method_11_code 28 = .ok (.irem, 1) := by decide +kernel
theorem d_B_findFault_29 : decode prog_2_method_11_code 29 = .ok (.iconst 2, 1) := by decide +kernel
theorem d_B_findFault_30 : decode prog_2_method_11_code 30 = .ok (.if_icmp .ne 25, 3) := by decide +kernel
theorem d_B_findFault_33 : decode prog_2_method_11_code 33 = .ok (.aload_n 0, 1) := by decide +kernel
theorem d_B_findFault_34 : decode prog_2_method_11_code 34 = .ok (.iload_n 1, 1) := by decide +kernel
theorem d_B_findFault_35 : decode prog_2_method_11_code 35 = .ok (.iconst 1, 1) := by decide +kernel
theorem d_B_findFault_36 : decode prog_2_method_11_code 36 = .ok (.isub, 1) := by decide +kernel
theorem d_B_findFault_37 : decode prog_2_method_11_code 37 = .ok (.invokevirtual 42, 3) := by decide +kernel
theorem d_B_findFault_40 : decode prog_2_method_11_code 40 = .ok (.ifCond .ne 15, 3) := by decide +kernel
theorem d_B_findFault_43 : decode prog_2_method_11_code 43 = .ok (.aload_n 0, 1) := by decide +kernel
theorem d_B_findFault_44 : decode prog_2_method_11_code 44 = .ok (.iload_n 1, 1) := by decide +kernel
theorem d_B_findFault_45 : decode prog_2_method_11_code 45 = .ok (.invokevirtual 42, 3) := by decide +kernel
theorem d_B_findFault_48 : decode prog_2_method_11_code 48 = .ok (.ifCond .ne 7, 3) := by decide +kernel
theorem d_B_findFault_51 : decode prog_2_method_11_code 51 = .ok (.iload_n 1, 1) := by decide +kernel
theorem d_B_findFault_52 : decode prog_2_method_11_code 52 = .ok (.iconst 1, 1) := by decide +kernel
theorem d_B_findFault_53 : decode prog_2_method_11_code 53 = .ok (.isub, 1) := by decide +kernel
theorem d_B_findFault_54 : decode prog_2_method_11_code 54 = .ok (.ireturn, 1) := by decide +kernel
theorem d_B_findFault_55 : decode prog_2_method_11_code 55 = .ok (.iinc 1 1, 3) := by decide +kernel
theorem d_B_findFault_58 : decode prog_2_method_11_code 58 = .ok (.goto (-56), 3) := by decide +kernel
theorem d_B_findFault_61 : decode prog_2_method_11_code 61 = .ok (.aload_n 0, 1) := by decide +kernel
theorem d_B_findFault_62 : decode prog_2_method_11_code 62 = .ok (.getfield 21, 3) := by decide +kernel
theorem d_B_findFault_65 : decode prog_2_method_11_code 65 = .ok (.ifCond .eq 13, 3) := by decide +kernel
theorem d_B_findFault_68 : decode prog_2_method_11_code 68 = .ok (.aload_n 0, 1) := by decide +kernel
theorem d_B_findFault_69 : decode prog_2_method_11_code 69 = .ok (.getfield 21, 3) := by decide +kernel
theorem d_B_findFault_72 : decode prog_2_method_11_code 72 = .ok (.iconst 4, 1) := by decide +kernel
theorem d_B_findFault_73 : decode prog_2_method_11_code 73 = .ok (.irem, 1) := by decide +kernel
theorem d_B_findFault_74 : decode prog_2_method_11_code 74 = .ok (.iconst 3, 1) := by decide +kernel
theorem d_B_findFault_75 : decode prog_2_method_11_code 75 = .ok (.if_icmp .ne 7, 3) := by decide +kernel
theorem d_B_findFault_78 : decode prog_2_method_11_code 78 = .ok (.iconst (-1), 1) := by decide +kernel
theorem d_B_findFault_79 : decode prog_2_method_11_code 79 = .ok (.goto 7, 3) := by decide +kernel
theorem d_B_findFault_82 : decode prog_2_method_11_code 82 = .ok (.aload_n 0, 1) := by decide +kernel
theorem d_B_findFault_83 : decode prog_2_method_11_code 83 = .ok (.getfield 21, 3) := by decide +kernel
theorem d_B_findFault_86 : decode prog_2_method_11_code 86 = .ok (.ireturn, 1) := by decide +kernel
theorem d_B_goesOn_0 : decode prog_2_method_12_code 0 = .ok (.iload_n 1, 1) := by decide +kernel
theorem d_B_goesOn_1 : decode prog_2_method_12_code 1 = .ok (.iconst 4, 1) := by decide +kernel
theorem d_B_goesOn_2 : decode prog_2_method_12_code 2 = .ok (.irem, 1) := by decide +kernel
theorem d_B_goesOn_3 : decode prog_2_method_12_code 3 = .ok (.lookupswitch 57 #[(0, 25), (3, 40)], 25) := by decide +kernel
theorem d_B_goesOn_28 : decode prog_2_method_12_code 28 = .ok (.aload_n 0, 1) := by decide +kernel
theorem d_B_goesOn_29 : decode prog_2_method_12_code 29 = .ok (.iload_n 1, 1) := by decide +kernel
theorem d_B_goesOn_30 : decode prog_2_method_12_code 30 = .ok (.invokevirtual 38, 3) := by decide +kernel
theorem d_B_goesOn_33 : decode prog_2_method_12_code 33 = .ok (.iconst (-1), 1) := by decide +kernel
theorem d_B_goesOn_34 : decode prog_2_method_12_code 34 = .ok (.if_icmp .eq 7, 3) := by decide +kernel
theorem d_B_goesOn_37 : decode prog_2_method_12_code 37 = .ok (.iconst 1, 1) := by decide +kernel
theorem d_B_goesOn_38 : decode prog_2_method_12_code 38 = .ok (.goto 4, 3) := by decide +kernel
theorem d_B_goesOn_41 : decode prog_2_method_12_code 41 = .ok (.iconst 0, 1) := by decide +kernel
theorem d_B_goesOn_42 : decode prog_2_method_12_code 42 = .ok (.ireturn, 1) := by decide +kernel
theorem d_B_goesOn_43 : decode prog_2_method_12_code 43 = .ok (.aload_n 0, 1) := by decide +kernel
theorem d_B_goesOn_44 : decode prog_2_method_12_code 44 = .ok (.getfield 11, 3) := by decide +kernel
theorem d_B_goesOn_47 : decode prog_2_method_12_code 47 = .ok (.iload_n 1, 1) := by decide +kernel
theorem d_B_goesOn_48 : decode prog_2_method_12_code 48 = .ok (.iaload, 1) := by decide +kernel
theorem d_B_goesOn_49 : decode prog_2_method_12_code 49 = .ok (.bipush 59, 2) := by decide +kernel
theorem d_B_goesOn_51 : decode prog_2_method_12_code 51 = .ok (.if_icmp .ne 7, 3) := by decide +kernel
theorem d_B_goesOn_54 : decode prog_2_method_12_code 54 = .ok (.iconst 1, 1) := by decide +kernel
theorem d_B_goesOn_55 : decode prog_2_method_12_code 55 = .ok (.goto 4, 3) := by decide +kernel
theorem d_B_goesOn_58 : decode prog_2_method_12_code 58 = .ok (.iconst 0, 1) := by decide +kernel
theorem d_B_goesOn_59 : decode prog_2_method_12_code 59 = .ok (.ireturn, 1) := by decide +kernel
theorem d_B_goesOn_60 : decode prog_2_method_12_code 60 = .ok (.aload_n 0, 1) := by decide +kernel
theorem d_B_goesOn_61 : decode prog_2_method_12_code 61 = .ok (.iload_n 1, 1) := by decide +kernel
theorem d_B_goesOn_62 : decode prog_2_method_12_code 62 = .ok (.invokevirtual 42, 3) := by decide +kernel
theorem d_B_goesOn_65 : decode prog_2_method_12_code 65 = .ok (.iconst (-1), 1) := by decide +kernel
theorem d_B_goesOn_66 : decode prog_2_method_12_code 66 = .ok (.if_icmp .eq 7, 3) := by decide +kernel
theorem d_B_goesOn_69 : decode prog_2_method_12_code 69 = .ok (.iconst 1, 1) := by decide +kernel
theorem d_B_goesOn_70 : decode prog_2_method_12_code 70 = .ok (.goto 4, 3) := by decide +kernel
theorem d_B_goesOn_73 : decode prog_2_method_12_code 73 = .ok (.iconst 0, 1) := by decide +kernel
theorem d_B_goesOn_74 : decode prog_2_method_12_code 74 = .ok (.ireturn, 1) := by decide +kernel
theorem d_B_kindAt_0 : decode prog_2_method_13_code 0 = .ok (.aload_n 0, 1) := by decide +kernel
theorem d_B_kindAt_1 : decode prog_2_method_13_code 1 = .ok (.getfield 11, 3) := by decide +kernel
theorem d_B_kindAt_4 : decode prog_2_method_13_code 4 = .ok (.iload_n 1, 1) := by decide +kernel
theorem d_B_kindAt_5 : decode prog_2_method_13_code 5 = .ok (.iaload, 1) := by decide +kernel
theorem d_B_kindAt_6 : decode prog_2_method_13_code 6 = .ok (.lookupswitch 40 #[(100, 38), (112, 34), (118, 36)], 34) := by decide +kernel
theorem d_B_kindAt_40 : decode prog_2_method_13_code 40 = .ok (.iconst 0, 1) := by decide +kernel
theorem d_B_kindAt_41 : decode prog_2_method_13_code 41 = .ok (.ireturn, 1) := by decide +kernel
theorem d_B_kindAt_42 : decode prog_2_method_13_code 42 = .ok (.iconst 1, 1) := by decide +kernel
theorem d_B_kindAt_43 : decode prog_2_method_13_code 43 = .ok (.ireturn, 1) := by decide +kernel
theorem d_B_kindAt_44 : decode prog_2_method_13_code 44 = .ok (.iconst 2, 1) := by decide +kernel
theorem d_B_kindAt_45 : decode prog_2_method_13_code 45 = .ok (.ireturn, 1) := by decide +kernel
theorem d_B_kindAt_46 : decode prog_2_method_13_code 46 = .ok (.iconst (-1), 1) := by decide +kernel
theorem d_B_kindAt_47 : decode prog_2_method_13_code 47 = .ok (.ireturn, 1) := by decide +kernel
theorem d_B_figureAt_0 : decode prog_2_method_14_code 0 = .ok (.aload_n 0, 1) := by decide +kernel
theorem d_B_figureAt_1 : decode prog_2_method_14_code 1 = .ok (.getfield 11, 3) := by decide +kernel
theorem d_B_figureAt_4 : decode prog_2_method_14_code 4 = .ok (.iload_n 1, 1) := by decide +kernel
theorem d_B_figureAt_5 : decode prog_2_method_14_code 5 = .ok (.iaload, 1) := by decide +kernel
theorem d_B_figureAt_6 : decode prog_2_method_14_code 6 = .ok (.istore_n 2, 1) := by decide +kernel
theorem d_B_figureAt_7 : decode prog_2_method_14_code 7 = .ok (.iload_n 2, 1) := by decide +kernel
theorem d_B_figureAt_8 : decode prog_2_method_14_code 8 = .ok (.bipush 48, 2) := by decide +kernel
theorem d_B_figureAt_10 : decode prog_2_method_14_code 10 = .ok (.if_icmp .lt 16, 3) := by decide +kernel
theorem d_B_figureAt_13 : decode prog_2_method_14_code 13 = .ok (.iload_n 2, 1) := by decide +kernel
theorem d_B_figureAt_14 : decode prog_2_method_14_code 14 = .ok (.bipush 57, 2) := by decide +kernel
theorem d_B_figureAt_16 : decode prog_2_method_14_code 16 = .ok (.if_icmp .gt 10, 3) := by decide +kernel
theorem d_B_figureAt_19 : decode prog_2_method_14_code 19 = .ok (.iload_n 2, 1) := by decide +kernel
theorem d_B_figureAt_20 : decode prog_2_method_14_code 20 = .ok (.bipush 48, 2) := by decide +kernel
theorem d_B_figureAt_22 : decode prog_2_method_14_code 22 = .ok (.isub, 1) := by decide +kernel
theorem d_B_figureAt_23 : decode prog_2_method_14_code 23 = .ok (.goto 4, 3) := by decide +kernel
theorem d_B_figureAt_26 : decode prog_2_method_14_code 26 = .ok (.iconst (-1), 1) := by decide +kernel
theorem d_B_figureAt_27 : decode prog_2_method_14_code 27 = .ok (.ireturn, 1) := by decide +kernel
theorem d_C_person_0 : decode prog_3_method_2_code 0 = .ok (.aload_n 0, 1) := by decide +kernel
theorem d_C_person_1 : decode prog_3_method_2_code 1 = .ok (.getfield 11, 3) := by decide +kernel
theorem d_C_person_4 : decode prog_3_method_2_code 4 = .ok (.iload_n 1, 1) := by decide +kernel
theorem d_C_person_5 : decode prog_3_method_2_code 5 = .ok (.aaload, 1) := by decide +kernel
theorem d_C_person_6 : decode prog_3_method_2_code 6 = .ok (.areturn, 1) := by decide +kernel
theorem d_C_chapters_0 : decode prog_3_method_3_code 0 = .ok (.aload_n 0, 1) := by decide +kernel
theorem d_C_chapters_1 : decode prog_3_method_3_code 1 = .ok (.getfield 21, 3) := by decide +kernel
theorem d_C_chapters_4 : decode prog_3_method_3_code 4 = .ok (.invokevirtual 26, 3) := by decide +kernel
theorem d_C_chapters_7 : decode prog_3_method_3_code 7 = .ok (.ireturn, 1) := by decide +kernel
theorem d_C_kindOf_0 : decode prog_3_method_4_code 0 = .ok (.aload_n 0, 1) := by decide +kernel
theorem d_C_kindOf_1 : decode prog_3_method_4_code 1 = .ok (.getfield 21, 3) := by decide +kernel
theorem d_C_kindOf_4 : decode prog_3_method_4_code 4 = .ok (.iload_n 1, 1) := by decide +kernel
theorem d_C_kindOf_5 : decode prog_3_method_4_code 5 = .ok (.invokevirtual 32, 3) := by decide +kernel
theorem d_C_kindOf_8 : decode prog_3_method_4_code 8 = .ok (.ireturn, 1) := by decide +kernel
theorem d_C_linesOf_0 : decode prog_3_method_5_code 0 = .ok (.aload_n 0, 1) := by decide +kernel
theorem d_C_linesOf_1 : decode prog_3_method_5_code 1 = .ok (.getfield 21, 3) := by decide +kernel
theorem d_C_linesOf_4 : decode prog_3_method_5_code 4 = .ok (.iload_n 1, 1) := by decide +kernel
theorem d_C_linesOf_5 : decode prog_3_method_5_code 5 = .ok (.invokevirtual 36, 3) := by decide +kernel
theorem d_C_linesOf_8 : decode prog_3_method_5_code 8 = .ok (.ireturn, 1) := by decide +kernel
theorem d_C_isSkipped_0 : decode prog_3_method_6_code 0 = .ok (.aload_n 0, 1) := by decide +kernel
theorem d_C_isSkipped_1 : decode prog_3_method_6_code 1 = .ok (.getfield 17, 3) := by decide +kernel
theorem d_C_isSkipped_4 : decode prog_3_method_6_code 4 = .ok (.iload_n 1, 1) := by decide +kernel
theorem d_C_isSkipped_5 : decode prog_3_method_6_code 5 = .ok (.baload, 1) := by decide +kernel
theorem d_C_isSkipped_6 : decode prog_3_method_6_code 6 = .ok (.ireturn, 1) := by decide +kernel
theorem d_C_changeSkip_0 : decode prog_3_method_7_code 0 = .ok (.aload_n 0, 1) := by decide +kernel
theorem d_C_changeSkip_1 : decode prog_3_method_7_code 1 = .ok (.getfield 17, 3) := by decide +kernel
theorem d_C_changeSkip_4 : decode prog_3_method_7_code 4 = .ok (.iload_n 1, 1) := by decide +kernel
theorem d_C_changeSkip_5 : decode prog_3_method_7_code 5 = .ok (.baload, 1) := by decide +kernel
theorem d_C_changeSkip_6 : decode prog_3_method_7_code 6 = .ok (.istore_n 3, 1) := by decide +kernel
theorem d_C_changeSkip_7 : decode prog_3_method_7_code 7 = .ok (.aload_n 0, 1) := by decide +kernel
theorem d_C_changeSkip_8 : decode prog_3_method_7_code 8 = .ok (.getfield 17, 3) := by decide +kernel
theorem d_C_changeSkip_11 : decode prog_3_method_7_code 11 = .ok (.iload_n 1, 1) := by decide +kernel
theorem d_C_changeSkip_12 : decode prog_3_method_7_code 12 = .ok (.iload_n 2, 1) := by decide +kernel
theorem d_C_changeSkip_13 : decode prog_3_method_7_code 13 = .ok (.bastore, 1) := by decide +kernel
theorem d_C_changeSkip_14 : decode prog_3_method_7_code 14 = .ok (.iload_n 3, 1) := by decide +kernel
theorem d_C_changeSkip_15 : decode prog_3_method_7_code 15 = .ok (.ireturn, 1) := by decide +kernel
theorem d_C_countSkipped_0 : decode prog_3_method_8_code 0 = .ok (.iconst 0, 1) := by decide +kernel
theorem d_C_countSkipped_1 : decode prog_3_method_8_code 1 = .ok (.istore_n 1, 1) := by decide +kernel
theorem d_C_countSkipped_2 : decode prog_3_method_8_code 2 = .ok (.iconst 0, 1) := by decide +kernel
theorem d_C_countSkipped_3 : decode prog_3_method_8_code 3 = .ok (.istore_n 2, 1) := by decide +kernel
theorem d_C_countSkipped_4 : decode prog_3_method_8_code 4 = .ok (.iload_n 2, 1) := by decide +kernel
theorem d_C_countSkipped_5 : decode prog_3_method_8_code 5 = .ok (.aload_n 0, 1) := by decide +kernel
theorem d_C_countSkipped_6 : decode prog_3_method_8_code 6 = .ok (.invokevirtual 39, 3) := by decide +kernel
theorem d_C_countSkipped_9 : decode prog_3_method_8_code 9 = .ok (.if_icmp .ge 26, 3) := by decide +kernel
theorem d_C_countSkipped_12 : decode prog_3_method_8_code 12 = .ok (.iload_n 1, 1) := by decide +kernel
theorem d_C_countSkipped_13 : decode prog_3_method_8_code 13 = .ok (.aload_n 0, 1) := by decide +kernel
theorem d_C_countSkipped_14 : decode prog_3_method_8_code 14 = .ok (.getfield 17, 3) := by decide +kernel
theorem d_C_countSkipped_17 : decode prog_3_method_8_code 17 = .ok (.iload_n 2, 1) := by decide +kernel
theorem d_C_countSkipped_18 : decode prog_3_method_8_code 18 = .ok (.baload, 1) := by decide +kernel
theorem d_C_countSkipped_19 : decode prog_3_method_8_code 19 = .ok (.ifCond .eq 7, 3) := by decide +kernel
theorem d_C_countSkipped_22 : decode prog_3_method_8_code 22 = .ok (.iconst 1, 1) := by decide +kernel
theorem d_C_countSkipped_23 : decode prog_3_method_8_code 23 = .ok (.goto 4, 3) := by decide +kernel
theorem d_C_countSkipped_26 : decode prog_3_method_8_code 26 = .ok (.iconst 0, 1) := by decide +kernel
theorem d_C_countSkipped_27 : decode prog_3_method_8_code 27 = .ok (.iadd, 1) := by decide +kernel
theorem d_C_countSkipped_28 : decode prog_3_method_8_code 28 = .ok (.istore_n 1, 1) := by decide +kernel
theorem d_C_countSkipped_29 : decode prog_3_method_8_code 29 = .ok (.iinc 2 1, 3) := by decide +kernel
theorem d_C_countSkipped_32 : decode prog_3_method_8_code 32 = .ok (.goto (-28), 3) := by decide +kernel
theorem d_C_countSkipped_35 : decode prog_3_method_8_code 35 = .ok (.iload_n 1, 1) := by decide +kernel
theorem d_C_countSkipped_36 : decode prog_3_method_8_code 36 = .ok (.ireturn, 1) := by decide +kernel
theorem d_C_countLikes_0 : decode prog_3_method_9_code 0 = .ok (.iconst 0, 1) := by decide +kernel
theorem d_C_countLikes_1 : decode prog_3_method_9_code 1 = .ok (.istore_n 1, 1) := by decide +kernel
theorem d_C_countLikes_2 : decode prog_3_method_9_code 2 = .ok (.iconst 0, 1) := by decide +kernel
theorem d_C_countLikes_3 : decode prog_3_method_9_code 3 = .ok (.istore_n 2, 1) := by decide +kernel
theorem d_C_countLikes_4 : decode prog_3_method_9_code 4 = .ok (.iload_n 2, 1) := by decide +kernel
theorem d_C_countLikes_5 : decode prog_3_method_9_code 5 = .ok (.bipush 6, 2) := by decide +kernel
theorem d_C_countLikes_7 : decode prog_3_method_9_code 7 = .ok (.if_icmp .ge 46, 3) := by decide +kernel
theorem d_C_countLikes_10 : decode prog_3_method_9_code 10 = .ok (.iconst 0, 1) := by decide +kernel
theorem d_C_countLikes_11 : decode prog_3_method_9_code 11 = .ok (.istore_n 3, 1) := by decide +kernel
theorem d_C_countLikes_12 : decode prog_3_method_9_code 12 = .ok (.iload_n 3, 1) := by decide +kernel
theorem d_C_countLikes_13 : decode prog_3_method_9_code 13 = .ok (.aload_n 0, 1) := by decide +kernel
theorem d_C_countLikes_14 : decode prog_3_method_9_code 14 = .ok (.invokevirtual 39, 3) := by decide +kernel
theorem d_C_countLikes_17 : decode prog_3_method_9_code 17 = .ok (.if_icmp .ge 30, 3) := by decide +kernel
theorem d_C_countLikes_20 : decode prog_3_method_9_code 20 = .ok (.iload_n 1, 1) := by decide +kernel
theorem d_C_countLikes_21 : decode prog_3_method_9_code 21 = .ok (.aload_n 0, 1) := by decide +kernel
theorem d_C_countLikes_22 : decode prog_3_method_9_code 22 = .ok (.getfield 11, 3) := by decide +kernel
theorem d_C_countLikes_25 : decode prog_3_method_9_code 25 = .ok (.iload_n 2, 1) := by decide +kernel
theorem d_C_countLikes_26 : decode prog_3_method_9_code 26 = .ok (.aaload, 1) := by decide +kernel
theorem d_C_countLikes_27 : decode prog_3_method_9_code 27 = .ok (.iload_n 3, 1) := by decide +kernel
theorem d_C_countLikes_28 : decode prog_3_method_9_code 28 = .ok (.invokevirtual 40, 3) := by decide +kernel
theorem d_C_countLikes_31 : decode prog_3_method_9_code 31 = .ok (.ifCond .eq 7, 3) := by decide +kernel
theorem d_C_countLikes_34 : decode prog_3_method_9_code 34 = .ok (.iconst 1, 1) := by decide +kernel
theorem d_C_countLikes_35 : decode prog_3_method_9_code 35 = .ok (.goto 4, 3) := by decide +kernel
theorem d_C_countLikes_38 : decode prog_3_method_9_code 38 = .ok (.iconst 0, 1) := by decide +kernel
theorem d_C_countLikes_39 : decode prog_3_method_9_code 39 = .ok (.iadd, 1) := by decide +kernel
theorem d_C_countLikes_40 : decode prog_3_method_9_code 40 = .ok (.istore_n 1, 1) := by decide +kernel
theorem d_C_countLikes_41 : decode prog_3_method_9_code 41 = .ok (.iinc 3 1, 3) := by decide +kernel
theorem d_C_countLikes_44 : decode prog_3_method_9_code 44 = .ok (.goto (-32), 3) := by decide +kernel
theorem d_C_countLikes_47 : decode prog_3_method_9_code 47 = .ok (.iinc 2 1, 3) := by decide +kernel
theorem d_C_countLikes_50 : decode prog_3_method_9_code 50 = .ok (.goto (-46), 3) := by decide +kernel
theorem d_C_countLikes_53 : decode prog_3_method_9_code 53 = .ok (.iload_n 1, 1) := by decide +kernel
theorem d_C_countLikes_54 : decode prog_3_method_9_code 54 = .ok (.ireturn, 1) := by decide +kernel
theorem d_C_minutes_0 : decode prog_3_method_10_code 0 = .ok (.aload_n 0, 1) := by decide +kernel
theorem d_C_minutes_1 : decode prog_3_method_10_code 1 = .ok (.iload_n 1, 1) := by decide +kernel
theorem d_C_minutes_2 : decode prog_3_method_10_code 2 = .ok (.iload_n 2, 1) := by decide +kernel
theorem d_C_minutes_3 : decode prog_3_method_10_code 3 = .ok (.aload_n 0, 1) := by decide +kernel
theorem d_C_minutes_4 : decode prog_3_method_10_code 4 = .ok (.getfield 11, 3) := by decide +kernel
theorem d_C_minutes_7 : decode prog_3_method_10_code 7 = .ok (.iload_n 1, 1) := by decide +kernel
theorem d_C_minutes_8 : decode prog_3_method_10_code 8 = .ok (.aaload, 1) := by decide +kernel
theorem d_C_minutes_9 : decode prog_3_method_10_code 9 = .ok (.aload_n 0, 1) := by decide +kernel
theorem d_C_minutes_10 : decode prog_3_method_10_code 10 = .ok (.getfield 21, 3) := by decide +kernel
theorem d_C_minutes_13 : decode prog_3_method_10_code 13 = .ok (.iload_n 2, 1) := by decide +kernel
theorem d_C_minutes_14 : decode prog_3_method_10_code 14 = .ok (.invokevirtual 32, 3) := by decide +kernel
theorem d_C_minutes_17 : decode prog_3_method_10_code 17 = .ok (.invokevirtual 44, 3) := by decide +kernel
theorem d_C_minutes_20 : decode prog_3_method_10_code 20 = .ok (.invokevirtual 47, 3) := by decide +kernel
theorem d_C_minutes_23 : decode prog_3_method_10_code 23 = .ok (.ireturn, 1) := by decide +kernel
theorem d_C_minutesAt_0 : decode prog_3_method_11_code 0 = .ok (.iload_n 3, 1) := by decide +kernel
theorem d_C_minutesAt_1 : decode prog_3_method_11_code 1 = .ok (.iconst 1, 1) := by decide +kernel
theorem d_C_minutesAt_2 : decode prog_3_method_11_code 2 = .ok (.if_icmp .ge 5, 3) := by decide +kernel
theorem d_C_minutesAt_5 : decode prog_3_method_11_code 5 = .ok (.iconst 0, 1) := by decide +kernel
theorem d_C_minutesAt_6 : decode prog_3_method_11_code 6 = .ok (.ireturn, 1) := by decide +kernel
theorem d_C_minutesAt_7 : decode prog_3_method_11_code 7 = .ok (.aload_n 0, 1) := by decide +kernel
theorem d_C_minutesAt_8 : decode prog_3_method_11_code 8 = .ok (.getfield 21, 3) := by decide +kernel
theorem d_C_minutesAt_11 : decode prog_3_method_11_code 11 = .ok (.iload_n 2, 1) := by decide +kernel
theorem d_C_minutesAt_12 : decode prog_3_method_11_code 12 = .ok (.invokevirtual 36, 3) := by decide +kernel
theorem d_C_minutesAt_15 : decode prog_3_method_11_code 15 = .ok (.iload_n 3, 1) := by decide +kernel
theorem d_C_minutesAt_16 : decode prog_3_method_11_code 16 = .ok (.iadd, 1) := by decide +kernel
theorem d_C_minutesAt_17 : decode prog_3_method_11_code 17 = .ok (.iconst 1, 1) := by decide +kernel
theorem d_C_minutesAt_18 : decode prog_3_method_11_code 18 = .ok (.isub, 1) := by decide +kernel
theorem d_C_minutesAt_19 : decode prog_3_method_11_code 19 = .ok (.iload_n 3, 1) := by decide +kernel
theorem d_C_minutesAt_20 : decode prog_3_method_11_code 20 = .ok (.idiv, 1) := by decide +kernel
theorem d_C_minutesAt_21 : decode prog_3_method_11_code 21 = .ok (.istore 4, 2) := by decide +kernel
theorem d_C_minutesAt_23 : decode prog_3_method_11_code 23 = .ok (.aload_n 0, 1) := by decide +kernel
theorem d_C_minutesAt_24 : decode prog_3_method_11_code 24 = .ok (.getfield 11, 3) := by decide +kernel
theorem d_C_minutesAt_27 : decode prog_3_method_11_code 27 = .ok (.iload_n 1, 1) := by decide +kernel
theorem d_C_minutesAt_28 : decode prog_3_method_11_code 28 = .ok (.aaload, 1) := by decide +kernel
theorem d_C_minutesAt_29 : decode prog_3_method_11_code 29 = .ok (.iload_n 2, 1) := by decide +kernel
theorem d_C_minutesAt_30 : decode prog_3_method_11_code 30 = .ok (.invokevirtual 40, 3) := by decide +kernel
theorem d_C_minutesAt_33 : decode prog_3_method_11_code 33 = .ok (.ifCond .eq 10, 3) := by decide +kernel
theorem d_C_minutesAt_36 : decode prog_3_method_11_code 36 = .ok (.iconst 2, 1) := by decide +kernel
theorem d_C_minutesAt_37 : decode prog_3_method_11_code 37 = .ok (.iload 4, 2) := by decide +kernel
theorem d_C_minutesAt_39 : decode prog_3_method_11_code 39 = .ok (.imul, 1) := by decide +kernel
theorem d_C_minutesAt_40 : decode prog_3_method_11_code 40 = .ok (.goto 5, 3) := by decide +kernel
theorem d_C_minutesAt_43 : decode prog_3_method_11_code 43 = .ok (.iload 4, 2) := by decide +kernel
theorem d_C_minutesAt_45 : decode prog_3_method_11_code 45 = .ok (.ireturn, 1) := by decide +kernel
theorem d_C_together_0 : decode prog_3_method_12_code 0 = .ok (.aload_n 0, 1) := by decide +kernel
theorem d_C_together_1 : decode prog_3_method_12_code 1 = .ok (.getfield 21, 3) := by decide +kernel
theorem d_C_together_4 : decode prog_3_method_12_code 4 = .ok (.iload_n 2, 1) := by decide +kernel
theorem d_C_together_5 : decode prog_3_method_12_code 5 = .ok (.invokevirtual 32, 3) := by decide +kernel
theorem d_C_together_8 : decode prog_3_method_12_code 8 = .ok (.istore_n 3, 1) := by decide +kernel
theorem d_C_together_9 : decode prog_3_method_12_code 9 = .ok (.iconst 0, 1) := by decide +kernel
theorem d_C_together_10 : decode prog_3_method_12_code 10 = .ok (.istore 4, 2) := by decide +kernel
theorem d_C_together_12 : decode prog_3_method_12_code 12 = .ok (.iconst 0, 1) := by decide +kernel
theorem d_C_together_13 : decode prog_3_method_12_code 13 = .ok (.istore 5, 2) := by decide +kernel
theorem d_C_together_15 : decode prog_3_method_12_code 15 = .ok (.iload 5, 2) := by decide +kernel
theorem d_C_together_17 : decode prog_3_method_12_code 17 = .ok (.bipush 6, 2) := by decide +kernel
theorem d_C_together_19 : decode prog_3_method_12_code 19 = .ok (.if_icmp .ge 43, 3) := by decide +kernel
theorem d_C_together_22 : decode prog_3_method_12_code 22 = .ok (.iload_n 1, 1) := by decide +kernel
theorem d_C_together_23 : decode prog_3_method_12_code 23 = .ok (.iload 5, 2) := by decide +kernel
theorem d_C_together_25 : decode prog_3_method_12_code 25 = .ok (.invokestatic 51, 3) := by decide +kernel
theorem d_C_together_28 : decode prog_3_method_12_code 28 = .ok (.ifCond .eq 28, 3) := by decide +kernel
theorem d_C_together_31 : decode prog_3_method_12_code 31 = .ok (.iload 4, 2) := by decide +kernel
theorem d_C_together_33 : decode prog_3_method_12_code 33 = .ok (.aload_n 0, 1) := by decide +kernel
theorem d_C_together_34 : decode prog_3_method_12_code 34 = .ok (.iload 5, 2) := by decide +kernel
theorem d_C_together_36 : decode prog_3_method_12_code 36 = .ok (.iload_n 2, 1) := by decide +kernel
theorem d_C_together_37 : decode prog_3_method_12_code 37 = .ok (.aload_n 0, 1) := by decide +kernel
theorem d_C_together_38 : decode prog_3_method_12_code 38 = .ok (.getfield 11, 3) := by decide +kernel
theorem d_C_together_41 : decode prog_3_method_12_code 41 = .ok (.iload 5, 2) := by decide +kernel
theorem d_C_together_43 : decode prog_3_method_12_code 43 = .ok (.aaload, 1) := by decide +kernel
theorem d_C_together_44 : decode prog_3_method_12_code 44 = .ok (.iload_n 3, 1) := by decide +kernel
theorem d_C_together_45 : decode prog_3_method_12_code 45 = .ok (.invokevirtual 44, 3) := by decide +kernel
theorem d_C_together_48 : decode prog_3_method_12_code 48 = .ok (.invokevirtual 47, 3) := by decide +kernel
theorem d_C_together_51 : decode prog_3_method_12_code 51 = .ok (.invokestatic 55, 3) := by decide +kernel
theorem d_C_together_54 : decode prog_3_method_12_code 54 = .ok (.istore 4, 2) := by decide +kernel
theorem d_C_together_56 : decode prog_3_method_12_code 56 = .ok (.iinc 5 1, 3) := by decide +kernel
theorem d_C_together_59 : decode prog_3_method_12_code 59 = .ok (.goto (-44), 3) := by decide +kernel
theorem d_C_together_62 : decode prog_3_method_12_code 62 = .ok (.iload 4, 2) := by decide +kernel
theorem d_C_together_64 : decode prog_3_method_12_code 64 = .ok (.ireturn, 1) := by decide +kernel
theorem d_C_waitOfTwo_0 : decode prog_3_method_13_code 0 = .ok (.iconst 0, 1) := by decide +kernel
theorem d_C_waitOfTwo_1 : decode prog_3_method_13_code 1 = .ok (.istore_n 3, 1) := by decide +kernel
theorem d_C_waitOfTwo_2 : decode prog_3_method_13_code 2 = .ok (.iconst 0, 1) := by decide +kernel
theorem d_C_waitOfTwo_3 : decode prog_3_method_13_code 3 = .ok (.istore 4, 2) := by decide +kernel
theorem d_C_waitOfTwo_5 : decode prog_3_method_13_code 5 = .ok (.iload 4, 2) := by decide +kernel
theorem d_C_waitOfTwo_7 : decode prog_3_method_13_code 7 = .ok (.aload_n 0, 1) := by decide +kernel
theorem d_C_waitOfTwo_8 : decode prog_3_method_13_code 8 = .ok (.invokevirtual 39, 3) := by decide +kernel
theorem d_C_waitOfTwo_11 : decode prog_3_method_13_code 11 = .ok (.if_icmp .ge 40, 3) := by decide +kernel
theorem d_C_waitOfTwo_14 : decode prog_3_method_13_code 14 = .ok (.aload_n 0, 1) := by decide +kernel
theorem d_C_waitOfTwo_15 : decode prog_3_method_13_code 15 = .ok (.getfield 17, 3) := by decide +kernel
theorem d_C_waitOfTwo_18 : decode prog_3_method_13_code 18 = .ok (.iload 4, 2) := by decide +kernel
theorem d_C_waitOfTwo_20 : decode prog_3_method_13_code 20 = .ok (.baload, 1) := by decide +kernel
theorem d_C_waitOfTwo_21 : decode prog_3_method_13_code 21 = .ok (.ifCond .ne 24, 3) := by decide +kernel
theorem d_C_waitOfTwo_24 : decode prog_3_method_13_code 24 = .ok (.iload_n 3, 1) := by decide +kernel
theorem d_C_waitOfTwo_25 : decode prog_3_method_13_code 25 = .ok (.aload_n 0, 1) := by decide +kernel
theorem d_C_waitOfTwo_26 : decode prog_3_method_13_code 26 = .ok (.iload_n 1, 1) := by decide +kernel
theorem d_C_waitOfTwo_27 : decode prog_3_method_13_code 27 = .ok (.iload 4, 2) := by decide +kernel
theorem d_C_waitOfTwo_29 : decode prog_3_method_13_code 29 = .ok (.invokevirtual 61, 3) := by decide +kernel
theorem d_C_waitOfTwo_32 : decode prog_3_method_13_code 32 = .ok (.aload_n 0, 1) := by decide +kernel
theorem d_C_waitOfTwo_33 : decode prog_3_method_13_code 33 = .ok (.iload_n 2, 1) := by decide +kernel
theorem d_C_waitOfTwo_34 : decode prog_3_method_13_code 34 = .ok (.iload 4, 2) := by decide +kernel
theorem d_C_waitOfTwo_36 : decode prog_3_method_13_code 36 = .ok (.invokevirtual 61, 3) := by decide +kernel
theorem d_C_waitOfTwo_39 : decode prog_3_method_13_code 39 = .ok (.isub, 1) := by decide +kernel
theorem d_C_waitOfTwo_40 : decode prog_3_method_13_code 40 = .ok (.invokestatic 64, 3) := by decide +kernel
theorem d_C_waitOfTwo_43 : decode prog_3_method_13_code 43 = .ok (.iadd, 1) := by decide +kernel
theorem d_C_waitOfTwo_44 : decode prog_3_method_13_code 44 = .ok (.istore_n 3, 1) := by decide +kernel
theorem d_C_waitOfTwo_45 : decode prog_3_method_13_code 45 = .ok (.iinc 4 1, 3) := by decide +kernel
theorem d_C_waitOfTwo_48 : decode prog_3_method_13_code 48 = .ok (.goto (-43), 3) := by decide +kernel
theorem d_C_waitOfTwo_51 : decode prog_3_method_13_code 51 = .ok (.iload_n 3, 1) := by decide +kernel
theorem d_C_waitOfTwo_52 : decode prog_3_method_13_code 52 = .ok (.ireturn, 1) := by decide +kernel
theorem d_R_speedFor_0 : decode prog_7_method_2_code 0 = .ok (.aload_n 0, 1) := by decide +kernel
theorem d_R_speedFor_1 : decode prog_7_method_2_code 1 = .ok (.getfield 9, 3) := by decide +kernel
theorem d_R_speedFor_4 : decode prog_7_method_2_code 4 = .ok (.iload_n 1, 1) := by decide +kernel
theorem d_R_speedFor_5 : decode prog_7_method_2_code 5 = .ok (.iaload, 1) := by decide +kernel
theorem d_R_speedFor_6 : decode prog_7_method_2_code 6 = .ok (.ireturn, 1) := by decide +kernel
theorem d_R_changePace_0 : decode prog_7_method_3_code 0 = .ok (.aload_n 0, 1) := by decide +kernel
theorem d_R_changePace_1 : decode prog_7_method_3_code 1 = .ok (.getfield 9, 3) := by decide +kernel
theorem d_R_changePace_4 : decode prog_7_method_3_code 4 = .ok (.iload_n 1, 1) := by decide +kernel
theorem d_R_changePace_5 : decode prog_7_method_3_code 5 = .ok (.iaload, 1) := by decide +kernel
theorem d_R_changePace_6 : decode prog_7_method_3_code 6 = .ok (.istore_n 3, 1) := by decide +kernel
theorem d_R_changePace_7 : decode prog_7_method_3_code 7 = .ok (.aload_n 0, 1) := by decide +kernel
theorem d_R_changePace_8 : decode prog_7_method_3_code 8 = .ok (.getfield 9, 3) := by decide +kernel
theorem d_R_changePace_11 : decode prog_7_method_3_code 11 = .ok (.iload_n 1, 1) := by decide +kernel
theorem d_R_changePace_12 : decode prog_7_method_3_code 12 = .ok (.iload_n 2, 1) := by decide +kernel
theorem d_R_changePace_13 : decode prog_7_method_3_code 13 = .ok (.iastore, 1) := by decide +kernel
theorem d_R_changePace_14 : decode prog_7_method_3_code 14 = .ok (.iload_n 3, 1) := by decide +kernel
theorem d_R_changePace_15 : decode prog_7_method_3_code 15 = .ok (.ireturn, 1) := by decide +kernel
theorem d_R_likes_0 : decode prog_7_method_4_code 0 = .ok (.aload_n 0, 1) := by decide +kernel
theorem d_R_likes_1 : decode prog_7_method_4_code 1 = .ok (.getfield 15, 3) := by decide +kernel
theorem d_R_likes_4 : decode prog_7_method_4_code 4 = .ok (.iload_n 1, 1) := by decide +kernel
theorem d_R_likes_5 : decode prog_7_method_4_code 5 = .ok (.baload, 1) := by decide +kernel
theorem d_R_likes_6 : decode prog_7_method_4_code 6 = .ok (.ireturn, 1) := by decide +kernel
theorem d_R_changeLike_0 : decode prog_7_method_5_code 0 = .ok (.aload_n 0, 1) := by decide +kernel
theorem d_R_changeLike_1 : decode prog_7_method_5_code 1 = .ok (.getfield 15, 3) := by decide +kernel
theorem d_R_changeLike_4 : decode prog_7_method_5_code 4 = .ok (.iload_n 1, 1) := by decide +kernel
theorem d_R_changeLike_5 : decode prog_7_method_5_code 5 = .ok (.baload, 1) := by decide +kernel
theorem d_R_changeLike_6 : decode prog_7_method_5_code 6 = .ok (.istore_n 3, 1) := by decide +kernel
theorem d_R_changeLike_7 : decode prog_7_method_5_code 7 = .ok (.aload_n 0, 1) := by decide +kernel
theorem d_R_changeLike_8 : decode prog_7_method_5_code 8 = .ok (.getfield 15, 3) := by decide +kernel
theorem d_R_changeLike_11 : decode prog_7_method_5_code 11 = .ok (.iload_n 1, 1) := by decide +kernel
theorem d_R_changeLike_12 : decode prog_7_method_5_code 12 = .ok (.iload_n 2, 1) := by decide +kernel
theorem d_R_changeLike_13 : decode prog_7_method_5_code 13 = .ok (.bastore, 1) := by decide +kernel
theorem d_R_changeLike_14 : decode prog_7_method_5_code 14 = .ok (.iload_n 3, 1) := by decide +kernel
theorem d_R_changeLike_15 : decode prog_7_method_5_code 15 = .ok (.ireturn, 1) := by decide +kernel
theorem d_R_work_0 : decode prog_7_method_6_code 0 = .ok (.aload_n 0, 1) := by decide +kernel
theorem d_R_work_1 : decode prog_7_method_6_code 1 = .ok (.getfield 19, 3) := by decide +kernel
theorem d_R_work_4 : decode prog_7_method_6_code 4 = .ok (.iconst 0, 1) := by decide +kernel
theorem d_R_work_5 : decode prog_7_method_6_code 5 = .ok (.iaload, 1) := by decide +kernel
theorem d_R_work_6 : decode prog_7_method_6_code 6 = .ok (.ireturn, 1) := by decide +kernel
theorem d_R_joy_0 : decode prog_7_method_7_code 0 = .ok (.aload_n 0, 1) := by decide +kernel
theorem d_R_joy_1 : decode prog_7_method_7_code 1 = .ok (.getfield 19, 3) := by decide +kernel
theorem d_R_joy_4 : decode prog_7_method_7_code 4 = .ok (.iconst 1, 1) := by decide +kernel
theorem d_R_joy_5 : decode prog_7_method_7_code 5 = .ok (.iaload, 1) := by decide +kernel
theorem d_R_joy_6 : decode prog_7_method_7_code 6 = .ok (.ireturn, 1) := by decide +kernel
theorem d_R_mood_0 : decode prog_7_method_8_code 0 = .ok (.aload_n 0, 1) := by decide +kernel
theorem d_R_mood_1 : decode prog_7_method_8_code 1 = .ok (.getfield 19, 3) := by decide +kernel
theorem d_R_mood_4 : decode prog_7_method_8_code 4 = .ok (.iconst 2, 1) := by decide +kernel
theorem d_R_mood_5 : decode prog_7_method_8_code 5 = .ok (.iaload, 1) := by decide +kernel
theorem d_R_mood_6 : decode prog_7_method_8_code 6 = .ok (.ireturn, 1) := by decide +kernel
theorem d_R_changeTrait_0 : decode prog_7_method_9_code 0 = .ok (.aload_n 0, 1) := by decide +kernel
theorem d_R_changeTrait_1 : decode prog_7_method_9_code 1 = .ok (.getfield 19, 3) := by decide +kernel
theorem d_R_changeTrait_4 : decode prog_7_method_9_code 4 = .ok (.iload_n 1, 1) := by decide +kernel
theorem d_R_changeTrait_5 : decode prog_7_method_9_code 5 = .ok (.iaload, 1) := by decide +kernel
theorem d_R_changeTrait_6 : decode prog_7_method_9_code 6 = .ok (.istore_n 3, 1) := by decide +kernel
theorem d_R_changeTrait_7 : decode prog_7_method_9_code 7 = .ok (.aload_n 0, 1) := by decide +kernel
theorem d_R_changeTrait_8 : decode prog_7_method_9_code 8 = .ok (.getfield 19, 3) := by decide +kernel
theorem d_R_changeTrait_11 : decode prog_7_method_9_code 11 = .ok (.iload_n 1, 1) := by decide +kernel
theorem d_R_changeTrait_12 : decode prog_7_method_9_code 12 = .ok (.iload_n 2, 1) := by decide +kernel
theorem d_R_changeTrait_13 : decode prog_7_method_9_code 13 = .ok (.iastore, 1) := by decide +kernel
theorem d_R_changeTrait_14 : decode prog_7_method_9_code 14 = .ok (.iload_n 3, 1) := by decide +kernel
theorem d_R_changeTrait_15 : decode prog_7_method_9_code 15 = .ok (.ireturn, 1) := by decide +kernel
theorem d_E_sit_0 : decode prog_4_method_2_code 0 = .ok (.aload_n 0, 1) := by decide +kernel
theorem d_E_sit_1 : decode prog_4_method_2_code 1 = .ok (.iconst 0, 1) := by decide +kernel
theorem d_E_sit_2 : decode prog_4_method_2_code 2 = .ok (.putfield 15, 3) := by decide +kernel
theorem d_E_sit_5 : decode prog_4_method_2_code 5 = .ok (.aload_n 0, 1) := by decide +kernel
theorem d_E_sit_6 : decode prog_4_method_2_code 6 = .ok (.iconst 0, 1) := by decide +kernel
theorem d_E_sit_7 : decode prog_4_method_2_code 7 = .ok (.putfield 19, 3) := by decide +kernel
theorem d_E_sit_10 : decode prog_4_method_2_code 10 = .ok (.aload_n 0, 1) := by decide +kernel
theorem d_E_sit_11 : decode prog_4_method_2_code 11 = .ok (.iconst (-1), 1) := by decide +kernel
theorem d_E_sit_12 : decode prog_4_method_2_code 12 = .ok (.putfield 22, 3) := by decide +kernel
theorem d_E_sit_15 : decode prog_4_method_2_code 15 = .ok (.iconst 0, 1) := by decide +kernel
theorem d_E_sit_16 : decode prog_4_method_2_code 16 = .ok (.istore 4, 2) := by decide +kernel
theorem d_E_sit_18 : decode prog_4_method_2_code 18 = .ok (.iload 4, 2) := by decide +kernel
theorem d_E_sit_20 : decode prog_4_method_2_code 20 = .ok (.bipush 6, 2) := by decide +kernel
theorem d_E_sit_22 : decode prog_4_method_2_code 22 = .ok (.if_icmp .ge 17, 3) := by decide +kernel
theorem d_E_sit_25 : decode prog_4_method_2_code 25 = .ok (.aload_n 0, 1) := by decide +kernel
theorem d_E_sit_26 : decode prog_4_method_2_code 26 = .ok (.getfield 9, 3) := by decide +kernel
theorem d_E_sit_29 : decode prog_4_method_2_code 29 = .ok (.iload 4, 2) := by decide +kernel
theorem d_E_sit_31 : decode prog_4_method_2_code 31 = .ok (.iconst 0, 1) := by decide +kernel
theorem d_E_sit_32 : decode prog_4_method_2_code 32 = .ok (.iastore, 1) := by decide +kernel
theorem d_E_sit_33 : decode prog_4_method_2_code 33 = .ok (.iinc 4 1, 3) := by decide +kernel
theorem d_E_sit_36 : decode prog_4_method_2_code 36 = .ok (.goto (-18), 3) := by decide +kernel
theorem d_E_sit_39 : decode prog_4_method_2_code 39 = .ok (.iload_n 2, 1) := by decide +kernel
theorem d_E_sit_40 : decode prog_4_method_2_code 40 = .ok (.istore 4, 2) := by decide +kernel
theorem d_E_sit_42 : decode prog_4_method_2_code 42 = .ok (.iload 4, 2) := by decide +kernel
theorem d_E_sit_44 : decode prog_4_method_2_code 44 = .ok (.aload_n 0, 1) := by decide +kernel
theorem d_E_sit_45 : decode prog_4_method_2_code 45 = .ok (.getfield 25, 3) := by decide +kernel
theorem d_E_sit_48 : decode prog_4_method_2_code 48 = .ok (.invokevirtual 29, 3) := by decide +kernel
theorem d_E_sit_51 : decode prog_4_method_2_code 51 = .ok (.if_icmp .ge 37, 3) := by decide +kernel
theorem d_E_sit_54 : decode prog_4_method_2_code 54 = .ok (.aload_n 0, 1) := by decide +kernel
theorem d_E_sit_55 : decode prog_4_method_2_code 55 = .ok (.getfield 22, 3) := by decide +kernel
theorem d_E_sit_58 : decode prog_4_method_2_code 58 = .ok (.iconst (-1), 1) := by decide +kernel
theorem d_E_sit_59 : decode prog_4_method_2_code 59 = .ok (.if_icmp .ne 29, 3) := by decide +kernel
theorem d_E_sit_62 : decode prog_4_method_2_code 62 = .ok (.aload_n 0, 1) := by decide +kernel
theorem d_E_sit_63 : decode prog_4_method_2_code 63 = .ok (.getfield 25, 3) := by decide +kernel
theorem d_E_sit_66 : decode prog_4_method_2_code 66 = .ok (.iload 4, 2) := by decide +kernel
theorem d_E_sit_68 : decode prog_4_method_2_code 68 = .ok (.invokevirtual 34, 3) := by decide +kernel
theorem d_E_sit_71 : decode prog_4_method_2_code 71 = .ok (.ifCond .ne 11, 3) := by decide +kernel
theorem d_E_sit_74 : decode prog_4_method_2_code 74 = .ok (.aload_n 0, 1) := by decide +kernel
theorem d_E_sit_75 : decode prog_4_method_2_code 75 = .ok (.iload_n 1, 1) := by decide +kernel
theorem d_E_sit_76 : decode prog_4_method_2_code 76 = .ok (.iload 4, 2) := by decide +kernel
theorem d_E_sit_78 : decode prog_4_method_2_code 78 = .ok (.iload_n 3, 1) := by decide +kernel
theorem d_E_sit_79 : decode prog_4_method_2_code 79 = .ok (.invokevirtual 38, 3) := by decide +kernel
theorem d_E_sit_82 : decode prog_4_method_2_code 82 = .ok (.iinc 4 1, 3) := by decide +kernel
theorem d_E_sit_85 : decode prog_4_method_2_code 85 = .ok (.goto (-43), 3) := by decide +kernel
theorem d_E_sit_88 : decode prog_4_method_2_code 88 = .ok (.return_, 1) := by decide +kernel
theorem d_E_readOrStop_0 : decode prog_4_method_3_code 0 = .ok (.aload_n 0, 1) := by decide +kernel
theorem d_E_readOrStop_1 : decode prog_4_method_3_code 1 = .ok (.getfield 25, 3) := by decide +kernel
theorem d_E_readOrStop_4 : decode prog_4_method_3_code 4 = .ok (.iload_n 1, 1) := by decide +kernel
theorem d_E_readOrStop_5 : decode prog_4_method_3_code 5 = .ok (.iload_n 2, 1) := by decide +kernel
theorem d_E_readOrStop_6 : decode prog_4_method_3_code 6 = .ok (.invokevirtual 42, 3) := by decide +kernel
theorem d_E_readOrStop_9 : decode prog_4_method_3_code 9 = .ok (.istore 4, 2) := by decide +kernel
theorem d_E_readOrStop_11 : decode prog_4_method_3_code 11 = .ok (.aload_n 0, 1) := by decide +kernel
theorem d_E_readOrStop_12 : decode prog_4_method_3_code 12 = .ok (.getfield 19, 3) := by decide +kernel
theorem d_E_readOrStop_15 : decode prog_4_method_3_code 15 = .ok (.iload 4, 2) := by decide +kernel
theorem d_E_readOrStop_17 : decode prog_4_method_3_code 17 = .ok (.iadd, 1) := by decide +kernel
theorem d_E_readOrStop_18 : decode prog_4_method_3_code 18 = .ok (.iload_n 3, 1) := by decide +kernel
theorem d_E_readOrStop_19 : decode prog_4_method_3_code 19 = .ok (.if_icmp .le 9, 3) := by decide +kernel
theorem d_E_readOrStop_22 : decode prog_4_method_3_code 22 = .ok (.aload_n 0, 1) := by decide +kernel
theorem d_E_readOrStop_23 : decode prog_4_method_3_code 23 = .ok (.iload_n 2, 1) := by decide +kernel
theorem d_E_readOrStop_24 : decode prog_4_method_3_code 24 = .ok (.putfield 22, 3) := by decide +kernel
theorem d_E_readOrStop_27 : decode prog_4_method_3_code 27 = .ok (.return_, 1) := by decide +kernel
theorem d_E_readOrStop_28 : decode prog_4_method_3_code 28 = .ok (.aload_n 0, 1) := by decide +kernel
theorem d_E_readOrStop_29 : decode prog_4_method_3_code 29 = .ok (.dup, 1) := by decide +kernel
theorem d_E_readOrStop_30 : decode prog_4_method_3_code 30 = .ok (.getfield 15, 3) := by decide +kernel
theorem d_E_readOrStop_33 : decode prog_4_method_3_code 33 = .ok (.iconst 1, 1) := by decide +kernel
theorem d_E_readOrStop_34 : decode prog_4_method_3_code 34 = .ok (.iadd, 1) := by decide +kernel
theorem d_E_readOrStop_35 : decode prog_4_method_3_code 35 = .ok (.putfield 15, 3) := by decide +kernel
theorem d_E_readOrStop_38 : decode prog_4_method_3_code 38 = .ok (.aload_n 0, 1) := by decide +kernel
theorem d_E_readOrStop_39 : decode prog_4_method_3_code 39 = .ok (.dup, 1) := by decide +kernel
theorem d_E_readOrStop_40 : decode prog_4_method_3_code 40 = .ok (.getfield 19, 3) := by decide +kernel
theorem d_E_readOrStop_43 : decode prog_4_method_3_code 43 = .ok (.iload 4, 2) := by decide +kernel
theorem d_E_readOrStop_45 : decode prog_4_method_3_code 45 = .ok (.iadd, 1) := by decide +kernel
theorem d_E_readOrStop_46 : decode prog_4_method_3_code 46 = .ok (.putfield 19, 3) := by decide +kernel
theorem d_E_readOrStop_49 : decode prog_4_method_3_code 49 = .ok (.iconst 0, 1) := by decide +kernel
theorem d_E_readOrStop_50 : decode prog_4_method_3_code 50 = .ok (.istore 5, 2) := by decide +kernel
theorem d_E_readOrStop_52 : decode prog_4_method_3_code 52 = .ok (.iload 5, 2) := by decide +kernel
theorem d_E_readOrStop_54 : decode prog_4_method_3_code 54 = .ok (.bipush 6, 2) := by decide +kernel
theorem d_E_readOrStop_56 : decode prog_4_method_3_code 56 = .ok (.if_icmp .ge 41, 3) := by decide +kernel
theorem d_E_readOrStop_59 : decode prog_4_method_3_code 59 = .ok (.iload_n 1, 1) := by decide +kernel
theorem d_E_readOrStop_60 : decode prog_4_method_3_code 60 = .ok (.iload 5, 2) := by decide +kernel
theorem d_E_readOrStop_62 : decode prog_4_method_3_code 62 = .ok (.invokestatic 46, 3) := by decide +kernel
theorem d_E_readOrStop_65 : decode prog_4_method_3_code 65 = .ok (.ifCond .eq 26, 3) := by decide +kernel
theorem d_E_readOrStop_68 : decode prog_4_method_3_code 68 = .ok (.aload_n 0, 1) := by decide +kernel
theorem d_E_readOrStop_69 : decode prog_4_method_3_code 69 = .ok (.getfield 9, 3) := by decide +kernel
theorem d_E_readOrStop_72 : decode prog_4_method_3_code 72 = .ok (.iload 5, 2) := by decide +kernel
theorem d_E_readOrStop_74 : decode prog_4_method_3_code 74 = .ok (.dup2, 1) := by decide +kernel
theorem d_E_readOrStop_75 : decode prog_4_method_3_code 75 = .ok (.iaload, 1) := by decide +kernel
theorem d_E_readOrStop_76 : decode prog_4_method_3_code 76 = .ok (.iload 4, 2) := by decide +kernel
theorem d_E_readOrStop_78 : decode prog_4_method_3_code 78 = .ok (.aload_n 0, 1) := by decide +kernel
theorem d_E_readOrStop_79 : decode prog_4_method_3_code 79 = .ok (.getfield 25, 3) := by decide +kernel
theorem d_E_readOrStop_82 : decode prog_4_method_3_code 82 = .ok (.iload 5, 2) := by decide +kernel
theorem d_E_readOrStop_84 : decode prog_4_method_3_code 84 = .ok (.iload_n 2, 1) := by decide +kernel
theorem d_E_readOrStop_85 : decode prog_4_method_3_code 85 = .ok (.invokevirtual 50, 3) := by decide +kernel
theorem d_E_readOrStop_88 : decode prog_4_method_3_code 88 = .ok (.isub, 1) := by decide +kernel
theorem d_E_readOrStop_89 : decode prog_4_method_3_code 89 = .ok (.iadd, 1) := by decide +kernel
theorem d_E_readOrStop_90 : decode prog_4_method_3_code 90 = .ok (.iastore, 1) := by decide +kernel
theorem d_E_readOrStop_91 : decode prog_4_method_3_code 91 = .ok (.iinc 5 1, 3) := by decide +kernel
theorem d_E_readOrStop_94 : decode prog_4_method_3_code 94 = .ok (.goto (-42), 3) := by decide +kernel
theorem d_E_readOrStop_97 : decode prog_4_method_3_code 97 = .ok (.return_, 1) := by decide +kernel
theorem d_E_chapters_0 : decode prog_4_method_4_code 0 = .ok (.aload_n 0, 1) := by decide +kernel
theorem d_E_chapters_1 : decode prog_4_method_4_code 1 = .ok (.getfield 15, 3) := by decide +kernel
theorem d_E_chapters_4 : decode prog_4_method_4_code 4 = .ok (.ireturn, 1) := by decide +kernel
theorem d_E_minute_0 : decode prog_4_method_5_code 0 = .ok (.aload_n 0, 1) := by decide +kernel
theorem d_E_minute_1 : decode prog_4_method_5_code 1 = .ok (.getfield 19, 3) := by decide +kernel
theorem d_E_minute_4 : decode prog_4_method_5_code 4 = .ok (.ireturn, 1) := by decide +kernel
theorem d_E_next_0 : decode prog_4_method_6_code 0 = .ok (.aload_n 0, 1) := by decide +kernel
theorem d_E_next_1 : decode prog_4_method_6_code 1 = .ok (.getfield 22, 3) := by decide +kernel
theorem d_E_next_4 : decode prog_4_method_6_code 4 = .ok (.ireturn, 1) := by decide +kernel
theorem d_E_waitOf_0 : decode prog_4_method_7_code 0 = .ok (.aload_n 0, 1) := by decide +kernel
theorem d_E_waitOf_1 : decode prog_4_method_7_code 1 = .ok (.getfield 9, 3) := by decide +kernel
theorem d_E_waitOf_4 : decode prog_4_method_7_code 4 = .ok (.iload_n 1, 1) := by decide +kernel
theorem d_E_waitOf_5 : decode prog_4_method_7_code 5 = .ok (.iaload, 1) := by decide +kernel
theorem d_E_waitOf_6 : decode prog_4_method_7_code 6 = .ok (.ireturn, 1) := by decide +kernel
theorem d_E_workLeft_0 : decode prog_4_method_8_code 0 = .ok (.iconst 0, 1) := by decide +kernel
theorem d_E_workLeft_1 : decode prog_4_method_8_code 1 = .ok (.aload_n 0, 1) := by decide +kernel
theorem d_E_workLeft_2 : decode prog_4_method_8_code 2 = .ok (.getfield 25, 3) := by decide +kernel
theorem d_E_workLeft_5 : decode prog_4_method_8_code 5 = .ok (.iload_n 1, 1) := by decide +kernel
theorem d_E_workLeft_6 : decode prog_4_method_8_code 6 = .ok (.invokevirtual 53, 3) := by decide +kernel
theorem d_E_workLeft_9 : decode prog_4_method_8_code 9 = .ok (.invokevirtual 57, 3) := by decide +kernel
theorem d_E_workLeft_12 : decode prog_4_method_8_code 12 = .ok (.aload_n 0, 1) := by decide +kernel
theorem d_E_workLeft_13 : decode prog_4_method_8_code 13 = .ok (.getfield 9, 3) := by decide +kernel
theorem d_E_workLeft_16 : decode prog_4_method_8_code 16 = .ok (.iload_n 1, 1) := by decide +kernel
theorem d_E_workLeft_17 : decode prog_4_method_8_code 17 = .ok (.iaload, 1) := by decide +kernel
theorem d_E_workLeft_18 : decode prog_4_method_8_code 18 = .ok (.isub, 1) := by decide +kernel
theorem d_E_workLeft_19 : decode prog_4_method_8_code 19 = .ok (.invokestatic 62, 3) := by decide +kernel
theorem d_E_workLeft_22 : decode prog_4_method_8_code 22 = .ok (.ireturn, 1) := by decide +kernel
theorem d_P_search_0 : decode prog_6_method_2_code 0 = .ok (.aload_n 0, 1) := by decide +kernel
theorem d_P_search_1 : decode prog_6_method_2_code 1 = .ok (.iload_n 3, 1) := by decide +kernel
theorem d_P_search_2 : decode prog_6_method_2_code 2 = .ok (.putfield 27, 3) := by decide +kernel
theorem d_P_search_5 : decode prog_6_method_2_code 5 = .ok (.aload_n 0, 1) := by decide +kernel
theorem d_P_search_6 : decode prog_6_method_2_code 6 = .ok (.iload 4, 2) := by decide +kernel
theorem d_P_search_8 : decode prog_6_method_2_code 8 = .ok (.putfield 31, 3) := by decide +kernel
theorem d_P_search_11 : decode prog_6_method_2_code 11 = .ok (.aload_n 0, 1) := by decide +kernel
theorem d_P_search_12 : decode prog_6_method_2_code 12 = .ok (.iconst (-1), 1) := by decide +kernel
theorem d_P_search_13 : decode prog_6_method_2_code 13 = .ok (.putfield 34, 3) := by decide +kernel
theorem d_P_search_16 : decode prog_6_method_2_code 16 = .ok (.aload_n 0, 1) := by decide +kernel
theorem d_P_search_17 : decode prog_6_method_2_code 17 = .ok (.iconst 0, 1) := by decide +kernel
theorem d_P_search_18 : decode prog_6_method_2_code 18 = .ok (.putfield 37, 3) := by decide +kernel
theorem d_P_search_21 : decode prog_6_method_2_code 21 = .ok (.aload_n 0, 1) := by decide +kernel
theorem d_P_search_22 : decode prog_6_method_2_code 22 = .ok (.iconst 0, 1) := by decide +kernel
theorem d_P_search_23 : decode prog_6_method_2_code 23 = .ok (.putfield 40, 3) := by decide +kernel
theorem d_P_search_26 : decode prog_6_method_2_code 26 = .ok (.aload_n 0, 1) := by decide +kernel
theorem d_P_search_27 : decode prog_6_method_2_code 27 = .ok (.getfield 24, 3) := by decide +kernel
theorem d_P_search_30 : decode prog_6_method_2_code 30 = .ok (.aload_n 0, 1) := by decide +kernel
theorem d_P_search_31 : decode prog_6_method_2_code 31 = .ok (.getfield 43, 3) := by decide +kernel
theorem d_P_search_34 : decode prog_6_method_2_code 34 = .ok (.invokevirtual 47, 3) := by decide +kernel
theorem d_P_search_37 : decode prog_6_method_2_code 37 = .ok (.iconst 0, 1) := by decide +kernel
theorem d_P_search_38 : decode prog_6_method_2_code 38 = .ok (.iastore, 1) := by decide +kernel
theorem d_P_search_39 : decode prog_6_method_2_code 39 = .ok (.aload_n 0, 1) := by decide +kernel
theorem d_P_search_40 : decode prog_6_method_2_code 40 = .ok (.getfield 43, 3) := by decide +kernel
theorem d_P_search_43 : decode prog_6_method_2_code 43 = .ok (.invokevirtual 47, 3) := by decide +kernel
theorem d_P_search_46 : decode prog_6_method_2_code 46 = .ok (.iconst 1, 1) := by decide +kernel
theorem d_P_search_47 : decode prog_6_method_2_code 47 = .ok (.isub, 1) := by decide +kernel
theorem d_P_search_48 : decode prog_6_method_2_code 48 = .ok (.istore 5, 2) := by decide +kernel
theorem d_P_search_50 : decode prog_6_method_2_code 50 = .ok (.iload 5, 2) := by decide +kernel
theorem d_P_search_52 : decode prog_6_method_2_code 52 = .ok (.ifCond .lt 85, 3) := by decide +kernel
theorem d_P_search_55 : decode prog_6_method_2_code 55 = .ok (.aload_n 0, 1) := by decide +kernel
theorem d_P_search_56 : decode prog_6_method_2_code 56 = .ok (.getfield 9, 3) := by decide +kernel
theorem d_P_search_59 : decode prog_6_method_2_code 59 = .ok (.iload 5, 2) := by decide +kernel
theorem d_P_search_61 : decode prog_6_method_2_code 61 = .ok (.aload_n 0, 1) := by decide +kernel
theorem d_P_search_62 : decode prog_6_method_2_code 62 = .ok (.getfield 43, 3) := by decide +kernel
theorem d_P_search_65 : decode prog_6_method_2_code 65 = .ok (.iload_n 1, 1) := by decide +kernel
theorem d_P_search_66 : decode prog_6_method_2_code 66 = .ok (.iload 5, 2) := by decide +kernel
theorem d_P_search_68 : decode prog_6_method_2_code 68 = .ok (.invokevirtual 53, 3) := by decide +kernel
theorem d_P_search_71 : decode prog_6_method_2_code 71 = .ok (.iastore, 1) := by decide +kernel
theorem d_P_search_72 : decode prog_6_method_2_code 72 = .ok (.aload_n 0, 1) := by decide +kernel
theorem d_P_search_73 : decode prog_6_method_2_code 73 = .ok (.getfield 15, 3) := by decide +kernel
theorem d_P_search_76 : decode prog_6_method_2_code 76 = .ok (.iload 5, 2) := by decide +kernel
theorem d_P_search_78 : decode prog_6_method_2_code 78 = .ok (.aload_n 0, 1) := by decide +kernel
theorem d_P_search_79 : decode prog_6_method_2_code 79 = .ok (.getfield 43, 3) := by decide +kernel
theorem d_P_search_82 : decode prog_6_method_2_code 82 = .ok (.iload_n 2, 1) := by decide +kernel
theorem d_P_search_83 : decode prog_6_method_2_code 83 = .ok (.iload 5, 2) := by decide +kernel
theorem d_P_search_85 : decode prog_6_method_2_code 85 = .ok (.invokevirtual 53, 3) := by decide +kernel
theorem d_P_search_88 : decode prog_6_method_2_code 88 = .ok (.iastore, 1) := by decide +kernel
theorem d_P_search_89 : decode prog_6_method_2_code 89 = .ok (.aload_n 0, 1) := by decide +kernel
theorem d_P_search_90 : decode prog_6_method_2_code 90 = .ok (.getfield 24, 3) := by decide +kernel
theorem d_P_search_93 : decode prog_6_method_2_code 93 = .ok (.iload 5, 2) := by decide +kernel
theorem d_P_search_95 : decode prog_6_method_2_code 95 = .ok (.aload_n 0, 1) := by decide +kernel
theorem d_P_search_96 : decode prog_6_method_2_code 96 = .ok (.getfield 24, 3) := by decide +kernel
theorem d_P_search_99 : decode prog_6_method_2_code 99 = .ok (.iload 5, 2) := by decide +kernel
theorem d_P_search_101 : decode prog_6_method_2_code 101 = .ok (.iconst 1, 1) := by decide +kernel
theorem d_P_search_102 : decode prog_6_method_2_code 102 = .ok (.iadd, 1) := by decide +kernel
theorem d_P_search_103 : decode prog_6_method_2_code 103 = .ok (.iaload, 1) := by decide +kernel
theorem d_P_search_104 : decode prog_6_method_2_code 104 = .ok (.aload_n 0, 1) := by decide +kernel
theorem d_P_search_105 : decode prog_6_method_2_code 105 = .ok (.getfield 43, 3) := by decide +kernel
theorem d_P_search_108 : decode prog_6_method_2_code 108 = .ok (.iload 5, 2) := by decide +kernel
theorem d_P_search_110 : decode prog_6_method_2_code 110 = .ok (.invokevirtual 57, 3) := by decide +kernel
theorem d_P_search_113 : decode prog_6_method_2_code 113 = .ok (.ifCond .eq 7, 3) := by decide +kernel
theorem d_P_search_116 : decode prog_6_method_2_code 116 = .ok (.iconst 0, 1) := by decide +kernel
theorem d_P_search_117 : decode prog_6_method_2_code 117 = .ok (.goto 12, 3) := by decide +kernel
theorem d_P_search_120 : decode prog_6_method_2_code 120 = .ok (.aload_n 0, 1) := by decide +kernel
theorem d_P_search_121 : decode prog_6_method_2_code 121 = .ok (.getfield 43, 3) := by decide +kernel
theorem d_P_search_124 : decode prog_6_method_2_code 124 = .ok (.iload 5, 2) := by decide +kernel
theorem d_P_search_126 : decode prog_6_method_2_code 126 = .ok (.invokevirtual 61, 3) := by decide +kernel
theorem d_P_search_129 : decode prog_6_method_2_code 129 = .ok (.iadd, 1) := by decide +kernel
theorem d_P_search_130 : decode prog_6_method_2_code 130 = .ok (.iastore, 1) := by decide +kernel
theorem d_P_search_131 : decode prog_6_method_2_code 131 = .ok (.iinc 5 (-1), 3) := by decide +kernel
theorem d_P_search_134 : decode prog_6_method_2_code 134 = .ok (.goto (-84), 3) := by decide +kernel
theorem d_P_search_137 : decode prog_6_method_2_code 137 = .ok (.aload_n 0, 1) := by decide +kernel
theorem d_P_search_138 : decode prog_6_method_2_code 138 = .ok (.iconst 0, 1) := by decide +kernel
theorem d_P_search_139 : decode prog_6_method_2_code 139 = .ok (.iconst 0, 1) := by decide +kernel
theorem d_P_search_140 : decode prog_6_method_2_code 140 = .ok (.iconst 0, 1) := by decide +kernel
theorem d_P_search_141 : decode prog_6_method_2_code 141 = .ok (.iconst 0, 1) := by decide +kernel
theorem d_P_search_142 : decode prog_6_method_2_code 142 = .ok (.iconst 0, 1) := by decide +kernel
theorem d_P_search_143 : decode prog_6_method_2_code 143 = .ok (.iconst 0, 1) := by decide +kernel
theorem d_P_search_144 : decode prog_6_method_2_code 144 = .ok (.invokevirtual 65, 3) := by decide +kernel
theorem d_P_search_147 : decode prog_6_method_2_code 147 = .ok (.return_, 1) := by decide +kernel
theorem d_P_choose_0 : decode prog_6_method_3_code 0 = .ok (.iload 4, 2) := by decide +kernel
theorem d_P_choose_2 : decode prog_6_method_3_code 2 = .ok (.aload_n 0, 1) := by decide +kernel
theorem d_P_choose_3 : decode prog_6_method_3_code 3 = .ok (.getfield 27, 3) := by decide +kernel
theorem d_P_choose_6 : decode prog_6_method_3_code 6 = .ok (.if_icmp .gt 31, 3) := by decide +kernel
theorem d_P_choose_9 : decode prog_6_method_3_code 9 = .ok (.iload 5, 2) := by decide +kernel
theorem d_P_choose_11 : decode prog_6_method_3_code 11 = .ok (.aload_n 0, 1) := by decide +kernel
theorem d_P_choose_12 : decode prog_6_method_3_code 12 = .ok (.getfield 31, 3) := by decide +kernel
theorem d_P_choose_15 : decode prog_6_method_3_code 15 = .ok (.if_icmp .gt 22, 3) := by decide +kernel
theorem d_P_choose_18 : decode prog_6_method_3_code 18 = .ok (.iload 6, 2) := by decide +kernel
theorem d_P_choose_20 : decode prog_6_method_3_code 20 = .ok (.aload_n 0, 1) := by decide +kernel
theorem d_P_choose_21 : decode prog_6_method_3_code 21 = .ok (.getfield 31, 3) := by decide +kernel
theorem d_P_choose_24 : decode prog_6_method_3_code 24 = .ok (.if_icmp .gt 13, 3) := by decide +kernel
theorem d_P_choose_27 : decode prog_6_method_3_code 27 = .ok (.aload_n 0, 1) := by decide +kernel
theorem d_P_choose_28 : decode prog_6_method_3_code 28 = .ok (.iload_n 1, 1) := by decide +kernel
theorem d_P_choose_29 : decode prog_6_method_3_code 29 = .ok (.iload_n 2, 1) := by decide +kernel
theorem d_P_choose_30 : decode prog_6_method_3_code 30 = .ok (.iload_n 3, 1) := by decide +kernel
theorem d_P_choose_31 : decode prog_6_method_3_code 31 = .ok (.invokevirtual 69, 3) := by decide +kernel
theorem d_P_choose_34 : decode prog_6_method_3_code 34 = .ok (.ifCond .eq 4, 3) := by decide +kernel
theorem d_P_choose_37 : decode prog_6_method_3_code 37 = .ok (.return_, 1) := by decide +kernel
theorem d_P_choose_38 : decode prog_6_method_3_code 38 = .ok (.iload_n 1, 1) := by decide +kernel
theorem d_P_choose_39 : decode prog_6_method_3_code 39 = .ok (.aload_n 0, 1) := by decide +kernel
theorem d_P_choose_40 : decode prog_6_method_3_code 40 = .ok (.getfield 43, 3) := by decide +kernel
theorem d_P_choose_43 : decode prog_6_method_3_code 43 = .ok (.invokevirtual 47, 3) := by decide +kernel
theorem d_P_choose_46 : decode prog_6_method_3_code 46 = .ok (.if_icmp .lt 12, 3) := by decide +kernel
theorem d_P_choose_49 : decode prog_6_method_3_code 49 = .ok (.aload_n 0, 1) := by decide +kernel
theorem d_P_choose_50 : decode prog_6_method_3_code 50 = .ok (.iload_n 2, 1) := by decide +kernel
theorem d_P_choose_51 : decode prog_6_method_3_code 51 = .ok (.iload_n 3, 1) := by decide +kernel
theorem d_P_choose_52 : decode prog_6_method_3_code 52 = .ok (.iload 4, 2) := by decide +kernel
theorem d_P_choose_54 : decode prog_6_method_3_code 54 = .ok (.invokevirtual 73, 3) := by decide +kernel
theorem d_P_choose_57 : decode prog_6_method_3_code 57 = .ok (.return_, 1) := by decide +kernel
theorem d_P_choose_58 : decode prog_6_method_3_code 58 = .ok (.aload_n 0, 1) := by decide +kernel
theorem d_P_choose_59 : decode prog_6_method_3_code 59 = .ok (.getfield 43, 3) := by decide +kernel
theorem d_P_choose_62 : decode prog_6_method_3_code 62 = .ok (.iload_n 1, 1) := by decide +kernel
theorem d_P_choose_63 : decode prog_6_method_3_code 63 = .ok (.invokevirtual 57, 3) := by decide +kernel
theorem d_P_choose_66 : decode prog_6_method_3_code 66 = .ok (.ifCond .ne 100, 3) := by decide +kernel
theorem d_P_choose_69 : decode prog_6_method_3_code 69 = .ok (.aload_n 0, 1) := by decide +kernel
theorem d_P_choose_70 : decode prog_6_method_3_code 70 = .ok (.getfield 9, 3) := by decide +kernel
theorem d_P_choose_73 : decode prog_6_method_3_code 73 = .ok (.iload_n 1, 1) := by decide +kernel
theorem d_P_choose_74 : decode prog_6_method_3_code 74 = .ok (.iaload, 1) := by decide +kernel
theorem d_P_choose_75 : decode prog_6_method_3_code 75 = .ok (.istore 7, 2) := by decide +kernel
theorem d_P_choose_77 : decode prog_6_method_3_code 77 = .ok (.aload_n 0, 1) := by decide +kernel
theorem d_P_choose_78 : decode prog_6_method_3_code 78 = .ok (.getfield 15, 3) := by decide +kernel
theorem d_P_choose_81 : decode prog_6_method_3_code 81 = .ok (.iload_n 1, 1) := by decide +kernel
theorem d_P_choose_82 : decode prog_6_method_3_code 82 = .ok (.iaload, 1) := by decide +kernel
theorem d_P_choose_83 : decode prog_6_method_3_code 83 = .ok (.istore 8, 2) := by decide +kernel
theorem d_P_choose_85 : decode prog_6_method_3_code 85 = .ok (.iload_n 2, 1) := by decide +kernel
theorem d_P_choose_86 : decode prog_6_method_3_code 86 = .ok (.aload_n 0, 1) := by decide +kernel
theorem d_P_choose_87 : decode prog_6_method_3_code 87 = .ok (.getfield 43, 3) := by decide +kernel
theorem d_P_choose_90 : decode prog_6_method_3_code 90 = .ok (.iload_n 1, 1) := by decide +kernel
theorem d_P_choose_91 : decode prog_6_method_3_code 91 = .ok (.invokevirtual 61, 3) := by decide +kernel
theorem d_P_choose_94 : decode prog_6_method_3_code 94 = .ok (.iadd, 1) := by decide +kernel
theorem d_P_choose_95 : decode prog_6_method_3_code 95 = .ok (.istore 9, 2) := by decide +kernel
theorem d_P_choose_97 : decode prog_6_method_3_code 97 = .ok (.aload_n 0, 1) := by decide +kernel
theorem d_P_choose_98 : decode prog_6_method_3_code 98 = .ok (.getfield 18, 3) := by decide +kernel
theorem d_P_choose_101 : decode prog_6_method_3_code 101 = .ok (.iload_n 1, 1) := by decide +kernel
theorem d_P_choose_102 : decode prog_6_method_3_code 102 = .ok (.iconst 0, 1) := by decide +kernel
theorem d_P_choose_103 : decode prog_6_method_3_code 103 = .ok (.iastore, 1) := by decide +kernel
theorem d_P_choose_104 : decode prog_6_method_3_code 104 = .ok (.aload_n 0, 1) := by decide +kernel
theorem d_P_choose_105 : decode prog_6_method_3_code 105 = .ok (.iload_n 1, 1) := by decide +kernel
theorem d_P_choose_106 : decode prog_6_method_3_code 106 = .ok (.iconst 1, 1) := by decide +kernel
theorem d_P_choose_107 : decode prog_6_method_3_code 107 = .ok (.iadd, 1) := by decide +kernel
theorem d_P_choose_108 : decode prog_6_method_3_code 108 = .ok (.iload 9, 2) := by decide +kernel
theorem d_P_choose_110 : decode prog_6_method_3_code 110 = .ok (.iload_n 3, 1) := by decide +kernel
theorem d_P_choose_111 : decode prog_6_method_3_code 111 = .ok (.iload 7, 2) := by decide +kernel
theorem d_P_choose_113 : decode prog_6_method_3_code 113 = .ok (.iload 8, 2) := by decide +kernel
theorem d_P_choose_115 : decode prog_6_method_3_code 115 = .ok (.isub, 1) := by decide +kernel
theorem d_P_choose_116 : decode prog_6_method_3_code 116 = .ok (.invokestatic 77, 3) := by decide +kernel
theorem d_P_choose_119 : decode prog_6_method_3_code 119 = .ok (.iadd, 1) := by decide +kernel
theorem d_P_choose_120 : decode prog_6_method_3_code 120 = .ok (.iload 4, 2) := by decide +kernel
theorem d_P_choose_122 : decode prog_6_method_3_code 122 = .ok (.iload 7, 2) := by decide +kernel
theorem d_P_choose_124 : decode prog_6_method_3_code 124 = .ok (.iload 8, 2) := by decide +kernel
theorem d_P_choose_126 : decode prog_6_method_3_code 126 = .ok (.invokestatic 82, 3) := by decide +kernel
theorem d_P_choose_129 : decode prog_6_method_3_code 129 = .ok (.iadd, 1) := by decide +kernel
theorem d_P_choose_130 : decode prog_6_method_3_code 130 = .ok (.iload 5, 2) := by decide +kernel
theorem d_P_choose_132 : decode prog_6_method_3_code 132 = .ok (.iload 6, 2) := by decide +kernel
theorem d_P_choose_134 : decode prog_6_method_3_code 134 = .ok (.invokevirtual 65, 3) := by decide +kernel
theorem d_P_choose_137 : decode prog_6_method_3_code 137 = .ok (.aload_n 0, 1) := by decide +kernel
theorem d_P_choose_138 : decode prog_6_method_3_code 138 = .ok (.getfield 18, 3) := by decide +kernel
theorem d_P_choose_141 : decode prog_6_method_3_code 141 = .ok (.iload_n 1, 1) := by decide +kernel
theorem d_P_choose_142 : decode prog_6_method_3_code 142 = .ok (.iconst 1, 1) := by decide +kernel
theorem d_P_choose_143 : decode prog_6_method_3_code 143 = .ok (.iastore, 1) := by decide +kernel
theorem d_P_choose_144 : decode prog_6_method_3_code 144 = .ok (.aload_n 0, 1) := by decide +kernel
theorem d_P_choose_145 : decode prog_6_method_3_code 145 = .ok (.iload_n 1, 1) := by decide +kernel
theorem d_P_choose_146 : decode prog_6_method_3_code 146 = .ok (.iconst 1, 1) := by decide +kernel
theorem d_P_choose_147 : decode prog_6_method_3_code 147 = .ok (.iadd, 1) := by decide +kernel
theorem d_P_choose_148 : decode prog_6_method_3_code 148 = .ok (.iload 9, 2) := by decide +kernel
theorem d_P_choose_150 : decode prog_6_method_3_code 150 = .ok (.iload_n 3, 1) := by decide +kernel
theorem d_P_choose_151 : decode prog_6_method_3_code 151 = .ok (.iload 4, 2) := by decide +kernel
theorem d_P_choose_153 : decode prog_6_method_3_code 153 = .ok (.iload 5, 2) := by decide +kernel
theorem d_P_choose_155 : decode prog_6_method_3_code 155 = .ok (.iload 7, 2) := by decide +kernel
theorem d_P_choose_157 : decode prog_6_method_3_code 157 = .ok (.iadd, 1) := by decide +kernel
theorem d_P_choose_158 : decode prog_6_method_3_code 158 = .ok (.iload 6, 2) := by decide +kernel
theorem d_P_choose_160 : decode prog_6_method_3_code 160 = .ok (.iload 8, 2) := by decide +kernel
theorem d_P_choose_162 : decode prog_6_method_3_code 162 = .ok (.iadd, 1) := by decide +kernel
theorem d_P_choose_163 : decode prog_6_method_3_code 163 = .ok (.invokevirtual 65, 3) := by decide +kernel
theorem d_P_choose_166 : decode prog_6_method_3_code 166 = .ok (.aload_n 0, 1) := by decide +kernel
theorem d_P_choose_167 : decode prog_6_method_3_code 167 = .ok (.getfield 18, 3) := by decide +kernel
theorem d_P_choose_170 : decode prog_6_method_3_code 170 = .ok (.iload_n 1, 1) := by decide +kernel
theorem d_P_choose_171 : decode prog_6_method_3_code 171 = .ok (.iconst 2, 1) := by decide +kernel
theorem d_P_choose_172 : decode prog_6_method_3_code 172 = .ok (.iastore, 1) := by decide +kernel
theorem d_P_choose_173 : decode prog_6_method_3_code 173 = .ok (.aload_n 0, 1) := by decide +kernel
theorem d_P_choose_174 : decode prog_6_method_3_code 174 = .ok (.iload_n 1, 1) := by decide +kernel
theorem d_P_choose_175 : decode prog_6_method_3_code 175 = .ok (.iconst 1, 1) := by decide +kernel
theorem d_P_choose_176 : decode prog_6_method_3_code 176 = .ok (.iadd, 1) := by decide +kernel
theorem d_P_choose_177 : decode prog_6_method_3_code 177 = .ok (.iload_n 2, 1) := by decide +kernel
theorem d_P_choose_178 : decode prog_6_method_3_code 178 = .ok (.iload_n 3, 1) := by decide +kernel
theorem d_P_choose_179 : decode prog_6_method_3_code 179 = .ok (.iload 4, 2) := by decide +kernel
theorem d_P_choose_181 : decode prog_6_method_3_code 181 = .ok (.iload 5, 2) := by decide +kernel
theorem d_P_choose_183 : decode prog_6_method_3_code 183 = .ok (.iload 6, 2) := by decide +kernel
theorem d_P_choose_185 : decode prog_6_method_3_code 185 = .ok (.invokevirtual 65, 3) := by decide +kernel
theorem d_P_choose_188 : decode prog_6_method_3_code 188 = .ok (.return_, 1) := by decide +kernel
theorem d_P_isNoBetter_0 : decode prog_6_method_4_code 0 = .ok (.iload_n 2, 1) := by decide +kernel
theorem d_P_isNoBetter_1 : decode prog_6_method_4_code 1 = .ok (.aload_n 0, 1) := by decide +kernel
theorem d_P_isNoBetter_2 : decode prog_6_method_4_code 2 = .ok (.getfield 24, 3) := by decide +kernel
theorem d_P_isNoBetter_5 : decode prog_6_method_4_code 5 = .ok (.iload_n 1, 1) := by decide +kernel
theorem d_P_isNoBetter_6 : decode prog_6_method_4_code 6 = .ok (.iaload, 1) := by decide +kernel
theorem d_P_isNoBetter_7 : decode prog_6_method_4_code 7 = .ok (.iadd, 1) := by decide +kernel
theorem d_P_isNoBetter_8 : decode prog_6_method_4_code 8 = .ok (.istore 4, 2) := by decide +kernel
theorem d_P_isNoBetter_10 : decode prog_6_method_4_code 10 = .ok (.iload 4, 2) := by decide +kernel
theorem d_P_isNoBetter_12 : decode prog_6_method_4_code 12 = .ok (.aload_n 0, 1) := by decide +kernel
theorem d_P_isNoBetter_13 : decode prog_6_method_4_code 13 = .ok (.getfield 34, 3) := by decide +kernel
theorem d_P_isNoBetter_16 : decode prog_6_method_4_code 16 = .ok (.if_icmp .lt 20, 3) := by decide +kernel
theorem d_P_isNoBetter_19 : decode prog_6_method_4_code 19 = .ok (.iload 4, 2) := by decide +kernel
theorem d_P_isNoBetter_21 : decode prog_6_method_4_code 21 = .ok (.aload_n 0, 1) := by decide +kernel
theorem d_P_isNoBetter_22 : decode prog_6_method_4_code 22 = .ok (.getfield 34, 3) := by decide +kernel
theorem d_P_isNoBetter_25 : decode prog_6_method_4_code 25 = .ok (.if_icmp .ne 15, 3) := by decide +kernel
theorem d_P_isNoBetter_28 : decode prog_6_method_4_code 28 = .ok (.iload_n 3, 1) := by decide +kernel
theorem d_P_isNoBetter_29 : decode prog_6_method_4_code 29 = .ok (.aload_n 0, 1) := by decide +kernel
theorem d_P_isNoBetter_30 : decode prog_6_method_4_code 30 = .ok (.getfield 37, 3) := by decide +kernel
theorem d_P_isNoBetter_33 : decode prog_6_method_4_code 33 = .ok (.if_icmp .lt 7, 3) := by decide +kernel
theorem d_P_isNoBetter_36 : decode prog_6_method_4_code 36 = .ok (.iconst 1, 1) := by decide +kernel
theorem d_P_isNoBetter_37 : decode prog_6_method_4_code 37 = .ok (.goto 4, 3) := by decide +kernel
theorem d_P_isNoBetter_40 : decode prog_6_method_4_code 40 = .ok (.iconst 0, 1) := by decide +kernel
theorem d_P_isNoBetter_41 : decode prog_6_method_4_code 41 = .ok (.ireturn, 1) := by decide +kernel
theorem d_P_keep_0 : decode prog_6_method_5_code 0 = .ok (.aload_n 0, 1) := by decide +kernel
theorem d_P_keep_1 : decode prog_6_method_5_code 1 = .ok (.iload_n 1, 1) := by decide +kernel
theorem d_P_keep_2 : decode prog_6_method_5_code 2 = .ok (.putfield 34, 3) := by decide +kernel
theorem d_P_keep_5 : decode prog_6_method_5_code 5 = .ok (.aload_n 0, 1) := by decide +kernel
theorem d_P_keep_6 : decode prog_6_method_5_code 6 = .ok (.iload_n 2, 1) := by decide +kernel
theorem d_P_keep_7 : decode prog_6_method_5_code 7 = .ok (.putfield 37, 3) := by decide +kernel
theorem d_P_keep_10 : decode prog_6_method_5_code 10 = .ok (.aload_n 0, 1) := by decide +kernel
theorem d_P_keep_11 : decode prog_6_method_5_code 11 = .ok (.iload_n 3, 1) := by decide +kernel
theorem d_P_keep_12 : decode prog_6_method_5_code 12 = .ok (.putfield 40, 3) := by decide +kernel
theorem d_P_keep_15 : decode prog_6_method_5_code 15 = .ok (.aload_n 0, 1) := by decide +kernel
theorem d_P_keep_16 : decode prog_6_method_5_code 16 = .ok (.getfield 18, 3) := by decide +kernel
theorem d_P_keep_19 : decode prog_6_method_5_code 19 = .ok (.iconst 0, 1) := by decide +kernel
theorem d_P_keep_20 : decode prog_6_method_5_code 20 = .ok (.aload_n 0, 1) := by decide +kernel
theorem d_P_keep_21 : decode prog_6_method_5_code 21 = .ok (.getfield 21, 3) := by decide +kernel
theorem d_P_keep_24 : decode prog_6_method_5_code 24 = .ok (.iconst 0, 1) := by decide +kernel
theorem d_P_keep_25 : decode prog_6_method_5_code 25 = .ok (.bipush 8, 2) := by decide +kernel
theorem d_P_keep_27 : decode prog_6_method_5_code 27 = .ok (.invokestatic 85, 3) := by decide +kernel
theorem d_P_keep_30 : decode prog_6_method_5_code 30 = .ok (.return_, 1) := by decide +kernel
theorem d_P_lines_0 : decode prog_6_method_6_code 0 = .ok (.aload_n 0, 1) := by decide +kernel
theorem d_P_lines_1 : decode prog_6_method_6_code 1 = .ok (.getfield 34, 3) := by decide +kernel
theorem d_P_lines_4 : decode prog_6_method_6_code 4 = .ok (.ireturn, 1) := by decide +kernel
theorem d_P_waits_0 : decode prog_6_method_7_code 0 = .ok (.aload_n 0, 1) := by decide +kernel
theorem d_P_waits_1 : decode prog_6_method_7_code 1 = .ok (.getfield 37, 3) := by decide +kernel
theorem d_P_waits_4 : decode prog_6_method_7_code 4 = .ok (.ireturn, 1) := by decide +kernel
theorem d_P_minutes_0 : decode prog_6_method_8_code 0 = .ok (.aload_n 0, 1) := by decide +kernel
theorem d_P_minutes_1 : decode prog_6_method_8_code 1 = .ok (.getfield 40, 3) := by decide +kernel
theorem d_P_minutes_4 : decode prog_6_method_8_code 4 = .ok (.ireturn, 1) := by decide +kernel
theorem d_P_wayOf_0 : decode prog_6_method_9_code 0 = .ok (.aload_n 0, 1) := by decide +kernel
theorem d_P_wayOf_1 : decode prog_6_method_9_code 1 = .ok (.getfield 21, 3) := by decide +kernel
theorem d_P_wayOf_4 : decode prog_6_method_9_code 4 = .ok (.iload_n 1, 1) := by decide +kernel
theorem d_P_wayOf_5 : decode prog_6_method_9_code 5 = .ok (.iaload, 1) := by decide +kernel
theorem d_P_wayOf_6 : decode prog_6_method_9_code 6 = .ok (.ireturn, 1) := by decide +kernel
theorem d_S_gainOf_0 : decode prog_9_method_2_code 0 = .ok (.aload_n 0, 1) := by decide +kernel
theorem d_S_gainOf_1 : decode prog_9_method_2_code 1 = .ok (.getfield 25, 3) := by decide +kernel
theorem d_S_gainOf_4 : decode prog_9_method_2_code 4 = .ok (.iload_n 1, 1) := by decide +kernel
theorem d_S_gainOf_5 : decode prog_9_method_2_code 5 = .ok (.invokevirtual 29, 3) := by decide +kernel
theorem d_S_gainOf_8 : decode prog_9_method_2_code 8 = .ok (.invokevirtual 35, 3) := by decide +kernel
theorem d_S_gainOf_11 : decode prog_9_method_2_code 11 = .ok (.iload_n 3, 1) := by decide +kernel
theorem d_S_gainOf_12 : decode prog_9_method_2_code 12 = .ok (.imul, 1) := by decide +kernel
theorem d_S_gainOf_13 : decode prog_9_method_2_code 13 = .ok (.istore 5, 2) := by decide +kernel
theorem d_S_gainOf_15 : decode prog_9_method_2_code 15 = .ok (.iconst 0, 1) := by decide +kernel
theorem d_S_gainOf_16 : decode prog_9_method_2_code 16 = .ok (.istore 6, 2) := by decide +kernel
theorem d_S_gainOf_18 : decode prog_9_method_2_code 18 = .ok (.iconst 0, 1) := by decide +kernel
theorem d_S_gainOf_19 : decode prog_9_method_2_code 19 = .ok (.istore 7, 2) := by decide +kernel
theorem d_S_gainOf_21 : decode prog_9_method_2_code 21 = .ok (.iload 7, 2) := by decide +kernel
theorem d_S_gainOf_23 : decode prog_9_method_2_code 23 = .ok (.aload_n 0, 1) := by decide +kernel
theorem d_S_gainOf_24 : decode prog_9_method_2_code 24 = .ok (.getfield 25, 3) := by decide +kernel
theorem d_S_gainOf_27 : decode prog_9_method_2_code 27 = .ok (.invokevirtual 41, 3) := by decide +kernel
theorem d_S_gainOf_30 : decode prog_9_method_2_code 30 = .ok (.if_icmp .ge 63, 3) := by decide +kernel
theorem d_S_gainOf_33 : decode prog_9_method_2_code 33 = .ok (.aload_n 0, 1) := by decide +kernel
theorem d_S_gainOf_34 : decode prog_9_method_2_code 34 = .ok (.getfield 25, 3) := by decide +kernel
theorem d_S_gainOf_37 : decode prog_9_method_2_code 37 = .ok (.iload 7, 2) := by decide +kernel
theorem d_S_gainOf_39 : decode prog_9_method_2_code 39 = .ok (.invokevirtual 44, 3) := by decide +kernel
theorem d_S_gainOf_42 : decode prog_9_method_2_code 42 = .ok (.ifCond .ne 45, 3) := by decide +kernel
theorem d_S_gainOf_45 : decode prog_9_method_2_code 45 = .ok (.aload_n 0, 1) := by decide +kernel
theorem d_S_gainOf_46 : decode prog_9_method_2_code 46 = .ok (.getfield 25, 3) := by decide +kernel
theorem d_S_gainOf_49 : decode prog_9_method_2_code 49 = .ok (.iload_n 2, 1) := by decide +kernel
theorem d_S_gainOf_50 : decode prog_9_method_2_code 50 = .ok (.iload 7, 2) := by decide +kernel
theorem d_S_gainOf_52 : decode prog_9_method_2_code 52 = .ok (.invokevirtual 48, 3) := by decide +kernel
theorem d_S_gainOf_55 : decode prog_9_method_2_code 55 = .ok (.iload 4, 2) := by decide +kernel
theorem d_S_gainOf_57 : decode prog_9_method_2_code 57 = .ok (.iadd, 1) := by decide +kernel
theorem d_S_gainOf_58 : decode prog_9_method_2_code 58 = .ok (.aload_n 0, 1) := by decide +kernel
theorem d_S_gainOf_59 : decode prog_9_method_2_code 59 = .ok (.getfield 25, 3) := by decide +kernel
theorem d_S_gainOf_62 : decode prog_9_method_2_code 62 = .ok (.iload_n 1, 1) := by decide +kernel
theorem d_S_gainOf_63 : decode prog_9_method_2_code 63 = .ok (.iload 7, 2) := by decide +kernel
theorem d_S_gainOf_65 : decode prog_9_method_2_code 65 = .ok (.invokevirtual 48, 3) := by decide +kernel
theorem d_S_gainOf_68 : decode prog_9_method_2_code 68 = .ok (.isub, 1) := by decide +kernel
theorem d_S_gainOf_69 : decode prog_9_method_2_code 69 = .ok (.iload_n 3, 1) := by decide +kernel
theorem d_S_gainOf_70 : decode prog_9_method_2_code 70 = .ok (.isub, 1) := by decide +kernel
theorem d_S_gainOf_71 : decode prog_9_method_2_code 71 = .ok (.istore 8, 2) := by decide +kernel
theorem d_S_gainOf_73 : decode prog_9_method_2_code 73 = .ok (.iload 6, 2) := by decide +kernel
theorem d_S_gainOf_75 : decode prog_9_method_2_code 75 = .ok (.iload 5, 2) := by decide +kernel
theorem d_S_gainOf_77 : decode prog_9_method_2_code 77 = .ok (.iconst 0, 1) := by decide +kernel
theorem d_S_gainOf_78 : decode prog_9_method_2_code 78 = .ok (.iload 8, 2) := by decide +kernel
theorem d_S_gainOf_80 : decode prog_9_method_2_code 80 = .ok (.invokestatic 52, 3) := by decide +kernel
theorem d_S_gainOf_83 : decode prog_9_method_2_code 83 = .ok (.isub, 1) := by decide +kernel
theorem d_S_gainOf_84 : decode prog_9_method_2_code 84 = .ok (.iadd, 1) := by decide +kernel
theorem d_S_gainOf_85 : decode prog_9_method_2_code 85 = .ok (.istore 6, 2) := by decide +kernel
theorem d_S_gainOf_87 : decode prog_9_method_2_code 87 = .ok (.iinc 7 1, 3) := by decide +kernel
theorem d_S_gainOf_90 : decode prog_9_method_2_code 90 = .ok (.goto (-69), 3) := by decide +kernel
theorem d_S_gainOf_93 : decode prog_9_method_2_code 93 = .ok (.iload 6, 2) := by decide +kernel
theorem d_S_gainOf_95 : decode prog_9_method_2_code 95 = .ok (.ireturn, 1) := by decide +kernel
theorem d_S_findRests_0 : decode prog_9_method_3_code 0 = .ok (.iconst 0, 1) := by decide +kernel
theorem d_S_findRests_1 : decode prog_9_method_3_code 1 = .ok (.istore_n 3, 1) := by decide +kernel
theorem d_S_findRests_2 : decode prog_9_method_3_code 2 = .ok (.iload_n 3, 1) := by decide +kernel
theorem d_S_findRests_3 : decode prog_9_method_3_code 3 = .ok (.bipush 16, 2) := by decide +kernel
theorem d_S_findRests_5 : decode prog_9_method_3_code 5 = .ok (.if_icmp .ge 45, 3) := by decide +kernel
theorem d_S_findRests_8 : decode prog_9_method_3_code 8 = .ok (.aload_n 0, 1) := by decide +kernel
theorem d_S_findRests_9 : decode prog_9_method_3_code 9 = .ok (.getfield 11, 3) := by decide +kernel
theorem d_S_findRests_12 : decode prog_9_method_3_code 12 = .ok (.iload_n 3, 1) := by decide +kernel
theorem d_S_findRests_13 : decode prog_9_method_3_code 13 = .ok (.aload_n 0, 1) := by decide +kernel
theorem d_S_findRests_14 : decode prog_9_method_3_code 14 = .ok (.iload_n 1, 1) := by decide +kernel
theorem d_S_findRests_15 : decode prog_9_method_3_code 15 = .ok (.iload_n 2, 1) := by decide +kernel
theorem d_S_findRests_16 : decode prog_9_method_3_code 16 = .ok (.iload_n 3, 1) := by decide +kernel
theorem d_S_findRests_17 : decode prog_9_method_3_code 17 = .ok (.iconst 4, 1) := by decide +kernel
theorem d_S_findRests_18 : decode prog_9_method_3_code 18 = .ok (.idiv, 1) := by decide +kernel
theorem d_S_findRests_19 : decode prog_9_method_3_code 19 = .ok (.iload_n 3, 1) := by decide +kernel
theorem d_S_findRests_20 : decode prog_9_method_3_code 20 = .ok (.iconst 4, 1) := by decide +kernel
theorem d_S_findRests_21 : decode prog_9_method_3_code 21 = .ok (.irem, 1) := by decide +kernel
theorem d_S_findRests_22 : decode prog_9_method_3_code 22 = .ok (.invokevirtual 57, 3) := by decide +kernel
theorem d_S_findRests_25 : decode prog_9_method_3_code 25 = .ok (.iastore, 1) := by decide +kernel
theorem d_S_findRests_26 : decode prog_9_method_3_code 26 = .ok (.aload_n 0, 1) := by decide +kernel
theorem d_S_findRests_27 : decode prog_9_method_3_code 27 = .ok (.getfield 15, 3) := by decide +kernel
theorem d_S_findRests_30 : decode prog_9_method_3_code 30 = .ok (.iload_n 3, 1) := by decide +kernel
theorem d_S_findRests_31 : decode prog_9_method_3_code 31 = .ok (.aload_n 0, 1) := by decide +kernel
theorem d_S_findRests_32 : decode prog_9_method_3_code 32 = .ok (.iload_n 2, 1) := by decide +kernel
theorem d_S_findRests_33 : decode prog_9_method_3_code 33 = .ok (.iload_n 1, 1) := by decide +kernel
theorem d_S_findRests_34 : decode prog_9_method_3_code 34 = .ok (.iload_n 3, 1) := by decide +kernel
theorem d_S_findRests_35 : decode prog_9_method_3_code 35 = .ok (.iconst 4, 1) := by decide +kernel
theorem d_S_findRests_36 : decode prog_9_method_3_code 36 = .ok (.irem, 1) := by decide +kernel
theorem d_S_findRests_37 : decode prog_9_method_3_code 37 = .ok (.iload_n 3, 1) := by decide +kernel
theorem d_S_findRests_38 : decode prog_9_method_3_code 38 = .ok (.iconst 4, 1) := by decide +kernel
theorem d_S_findRests_39 : decode prog_9_method_3_code 39 = .ok (.idiv, 1) := by decide +kernel
theorem d_S_findRests_40 : decode prog_9_method_3_code 40 = .ok (.invokevirtual 57, 3) := by decide +kernel
theorem d_S_findRests_43 : decode prog_9_method_3_code 43 = .ok (.iastore, 1) := by decide +kernel
theorem d_S_findRests_44 : decode prog_9_method_3_code 44 = .ok (.iinc 3 1, 3) := by decide +kernel
theorem d_S_findRests_47 : decode prog_9_method_3_code 47 = .ok (.goto (-45), 3) := by decide +kernel
theorem d_S_findRests_50 : decode prog_9_method_3_code 50 = .ok (.aload_n 0, 1) := by decide +kernel
theorem d_S_findRests_51 : decode prog_9_method_3_code 51 = .ok (.iconst 0, 1) := by decide +kernel
theorem d_S_findRests_52 : decode prog_9_method_3_code 52 = .ok (.putfield 21, 3) := by decide +kernel
theorem d_S_findRests_55 : decode prog_9_method_3_code 55 = .ok (.iconst 0, 1) := by decide +kernel
theorem d_S_findRests_56 : decode prog_9_method_3_code 56 = .ok (.istore_n 3, 1) := by decide +kernel
theorem d_S_findRests_57 : decode prog_9_method_3_code 57 = .ok (.iload_n 3, 1) := by decide +kernel
theorem d_S_findRests_58 : decode prog_9_method_3_code 58 = .ok (.bipush 16, 2) := by decide +kernel
theorem d_S_findRests_60 : decode prog_9_method_3_code 60 = .ok (.if_icmp .ge 42, 3) := by decide +kernel
theorem d_S_findRests_63 : decode prog_9_method_3_code 63 = .ok (.aload_n 0, 1) := by decide +kernel
theorem d_S_findRests_64 : decode prog_9_method_3_code 64 = .ok (.iload_n 3, 1) := by decide +kernel
theorem d_S_findRests_65 : decode prog_9_method_3_code 65 = .ok (.iconst 4, 1) := by decide +kernel
theorem d_S_findRests_66 : decode prog_9_method_3_code 66 = .ok (.idiv, 1) := by decide +kernel
theorem d_S_findRests_67 : decode prog_9_method_3_code 67 = .ok (.iload_n 3, 1) := by decide +kernel
theorem d_S_findRests_68 : decode prog_9_method_3_code 68 = .ok (.iconst 4, 1) := by decide +kernel
theorem d_S_findRests_69 : decode prog_9_method_3_code 69 = .ok (.irem, 1) := by decide +kernel
theorem d_S_findRests_70 : decode prog_9_method_3_code 70 = .ok (.invokevirtual 61, 3) := by decide +kernel
theorem d_S_findRests_73 : decode prog_9_method_3_code 73 = .ok (.ifCond .eq 23, 3) := by decide +kernel
theorem d_S_findRests_76 : decode prog_9_method_3_code 76 = .ok (.aload_n 0, 1) := by decide +kernel
theorem d_S_findRests_77 : decode prog_9_method_3_code 77 = .ok (.getfield 18, 3) := by decide +kernel
theorem d_S_findRests_80 : decode prog_9_method_3_code 80 = .ok (.aload_n 0, 1) := by decide +kernel
theorem d_S_findRests_81 : decode prog_9_method_3_code 81 = .ok (.getfield 21, 3) := by decide +kernel
theorem d_S_findRests_84 : decode prog_9_method_3_code 84 = .ok (.iload_n 3, 1) := by decide +kernel
theorem d_S_findRests_85 : decode prog_9_method_3_code 85 = .ok (.iastore, 1) := by decide +kernel
theorem d_S_findRests_86 : decode prog_9_method_3_code 86 = .ok (.aload_n 0, 1) := by decide +kernel
theorem d_S_findRests_87 : decode prog_9_method_3_code 87 = .ok (.dup, 1) := by decide +kernel
theorem d_S_findRests_88 : decode prog_9_method_3_code 88 = .ok (.getfield 21, 3) := by decide +kernel
theorem d_S_findRests_91 : decode prog_9_method_3_code 91 = .ok (.iconst 1, 1) := by decide +kernel
theorem d_S_findRests_92 : decode prog_9_method_3_code 92 = .ok (.iadd, 1) := by decide +kernel
theorem d_S_findRests_93 : decode prog_9_method_3_code 93 = .ok (.putfield 21, 3) := by decide +kernel
theorem d_S_findRests_96 : decode prog_9_method_3_code 96 = .ok (.iinc 3 1, 3) := by decide +kernel
theorem d_S_findRests_99 : decode prog_9_method_3_code 99 = .ok (.goto (-42), 3) := by decide +kernel
theorem d_S_findRests_102 : decode prog_9_method_3_code 102 = .ok (.return_, 1) := by decide +kernel
theorem d_S_isRest_0 : decode prog_9_method_4_code 0 = .ok (.iconst 4, 1) := by decide +kernel
theorem d_S_isRest_1 : decode prog_9_method_4_code 1 = .ok (.iload_n 1, 1) := by decide +kernel
theorem d_S_isRest_2 : decode prog_9_method_4_code 2 = .ok (.imul, 1) := by decide +kernel
theorem d_S_isRest_3 : decode prog_9_method_4_code 3 = .ok (.iload_n 2, 1) := by decide +kernel
theorem d_S_isRest_4 : decode prog_9_method_4_code 4 = .ok (.iadd, 1) := by decide +kernel
theorem d_S_isRest_5 : decode prog_9_method_4_code 5 = .ok (.istore_n 3, 1) := by decide +kernel
theorem d_S_isRest_6 : decode prog_9_method_4_code 6 = .ok (.iconst 0, 1) := by decide +kernel
theorem d_S_isRest_7 : decode prog_9_method_4_code 7 = .ok (.istore 4, 2) := by decide +kernel
theorem d_S_isRest_9 : decode prog_9_method_4_code 9 = .ok (.iload 4, 2) := by decide +kernel
theorem d_S_isRest_11 : decode prog_9_method_4_code 11 = .ok (.iconst 4, 1) := by decide +kernel
theorem d_S_isRest_12 : decode prog_9_method_4_code 12 = .ok (.if_icmp .ge 51, 3) := by decide +kernel
theorem d_S_isRest_15 : decode prog_9_method_4_code 15 = .ok (.aload_n 0, 1) := by decide +kernel
theorem d_S_isRest_16 : decode prog_9_method_4_code 16 = .ok (.getfield 11, 3) := by decide +kernel
theorem d_S_isRest_19 : decode prog_9_method_4_code 19 = .ok (.iconst 4, 1) := by decide +kernel
theorem d_S_isRest_20 : decode prog_9_method_4_code 20 = .ok (.iload 4, 2) := by decide +kernel
theorem d_S_isRest_22 : decode prog_9_method_4_code 22 = .ok (.imul, 1) := by decide +kernel
theorem d_S_isRest_23 : decode prog_9_method_4_code 23 = .ok (.iload_n 2, 1) := by decide +kernel
theorem d_S_isRest_24 : decode prog_9_method_4_code 24 = .ok (.iadd, 1) := by decide +kernel
theorem d_S_isRest_25 : decode prog_9_method_4_code 25 = .ok (.iaload, 1) := by decide +kernel
theorem d_S_isRest_26 : decode prog_9_method_4_code 26 = .ok (.aload_n 0, 1) := by decide +kernel
theorem d_S_isRest_27 : decode prog_9_method_4_code 27 = .ok (.getfield 11, 3) := by decide +kernel
theorem d_S_isRest_30 : decode prog_9_method_4_code 30 = .ok (.iload_n 3, 1) := by decide +kernel
theorem d_S_isRest_31 : decode prog_9_method_4_code 31 = .ok (.iaload, 1) := by decide +kernel
theorem d_S_isRest_32 : decode prog_9_method_4_code 32 = .ok (.if_icmp .gt 23, 3) := by decide +kernel
theorem d_S_isRest_35 : decode prog_9_method_4_code 35 = .ok (.aload_n 0, 1) := by decide +kernel
theorem d_S_isRest_36 : decode prog_9_method_4_code 36 = .ok (.getfield 15, 3) := by decide +kernel
theorem d_S_isRest_39 : decode prog_9_method_4_code 39 = .ok (.iconst 4, 1) := by decide +kernel
theorem d_S_isRest_40 : decode prog_9_method_4_code 40 = .ok (.iload_n 1, 1) := by decide +kernel
theorem d_S_isRest_41 : decode prog_9_method_4_code 41 = .ok (.imul, 1) := by decide +kernel
theorem d_S_isRest_42 : decode prog_9_method_4_code 42 = .ok (.iload 4, 2) := by decide +kernel
theorem d_S_isRest_44 : decode prog_9_method_4_code 44 = .ok (.iadd, 1) := by decide +kernel
theorem d_S_isRest_45 : decode prog_9_method_4_code 45 = .ok (.iaload, 1) := by decide +kernel
theorem d_S_isRest_46 : decode prog_9_method_4_code 46 = .ok (.aload_n 0, 1) := by decide +kernel
theorem d_S_isRest_47 : decode prog_9_method_4_code 47 = .ok (.getfield 15, 3) := by decide +kernel
theorem d_S_isRest_50 : decode prog_9_method_4_code 50 = .ok (.iload_n 3, 1) := by decide +kernel
theorem d_S_isRest_51 : decode prog_9_method_4_code 51 = .ok (.iaload, 1) := by decide +kernel
theorem d_S_isRest_52 : decode prog_9_method_4_code 52 = .ok (.if_icmp .le 5, 3) := by decide +kernel
theorem d_S_isRest_55 : decode prog_9_method_4_code 55 = .ok (.iconst 0, 1) := by decide +kernel
theorem d_S_isRest_56 : decode prog_9_method_4_code 56 = .ok (.ireturn, 1) := by decide +kernel
theorem d_S_isRest_57 : decode prog_9_method_4_code 57 = .ok (.iinc 4 1, 3) := by decide +kernel
theorem d_S_isRest_60 : decode prog_9_method_4_code 60 = .ok (.goto (-51), 3) := by decide +kernel
theorem d_S_isRest_63 : decode prog_9_method_4_code 63 = .ok (.iconst 1, 1) := by decide +kernel
theorem d_S_isRest_64 : decode prog_9_method_4_code 64 = .ok (.ireturn, 1) := by decide +kernel
theorem d_S_restCount_0 : decode prog_9_method_5_code 0 = .ok (.aload_n 0, 1) := by decide +kernel
theorem d_S_restCount_1 : decode prog_9_method_5_code 1 = .ok (.getfield 21, 3) := by decide +kernel
theorem d_S_restCount_4 : decode prog_9_method_5_code 4 = .ok (.ireturn, 1) := by decide +kernel
theorem d_S_restAt_0 : decode prog_9_method_6_code 0 = .ok (.iload_n 1, 1) := by decide +kernel
theorem d_S_restAt_1 : decode prog_9_method_6_code 1 = .ok (.ifCond .lt 20, 3) := by decide +kernel
theorem d_S_restAt_4 : decode prog_9_method_6_code 4 = .ok (.iload_n 1, 1) := by decide +kernel
theorem d_S_restAt_5 : decode prog_9_method_6_code 5 = .ok (.aload_n 0, 1) := by decide +kernel
theorem d_S_restAt_6 : decode prog_9_method_6_code 6 = .ok (.getfield 21, 3) := by decide +kernel
theorem d_S_restAt_9 : decode prog_9_method_6_code 9 = .ok (.if_icmp .ge 12, 3) := by decide +kernel
theorem d_S_restAt_12 : decode prog_9_method_6_code 12 = .ok (.aload_n 0, 1) := by decide +kernel
theorem d_S_restAt_13 : decode prog_9_method_6_code 13 = .ok (.getfield 18, 3) := by decide +kernel
theorem d_S_restAt_16 : decode prog_9_method_6_code 16 = .ok (.iload_n 1, 1) := by decide +kernel
theorem d_S_restAt_17 : decode prog_9_method_6_code 17 = .ok (.iaload, 1) := by decide +kernel
theorem d_S_restAt_18 : decode prog_9_method_6_code 18 = .ok (.goto 4, 3) := by decide +kernel
theorem d_S_restAt_21 : decode prog_9_method_6_code 21 = .ok (.iconst (-1), 1) := by decide +kernel
theorem d_S_restAt_22 : decode prog_9_method_6_code 22 = .ok (.ireturn, 1) := by decide +kernel
theorem d_T_seat_0 : decode prog_8_method_2_code 0 = .ok (.iconst 0, 1) := by decide +kernel
theorem d_T_seat_1 : decode prog_8_method_2_code 1 = .ok (.istore_n 2, 1) := by decide +kernel
theorem d_T_seat_2 : decode prog_8_method_2_code 2 = .ok (.iload_n 2, 1) := by decide +kernel
theorem d_T_seat_3 : decode prog_8_method_2_code 3 = .ok (.bipush 6, 2) := by decide +kernel
theorem d_T_seat_5 : decode prog_8_method_2_code 5 = .ok (.if_icmp .ge 45, 3) := by decide +kernel
theorem d_T_seat_8 : decode prog_8_method_2_code 8 = .ok (.iload_n 2, 1) := by decide +kernel
theorem d_T_seat_9 : decode prog_8_method_2_code 9 = .ok (.iconst 1, 1) := by decide +kernel
theorem d_T_seat_10 : decode prog_8_method_2_code 10 = .ok (.iadd, 1) := by decide +kernel
theorem d_T_seat_11 : decode prog_8_method_2_code 11 = .ok (.istore_n 3, 1) := by decide +kernel
theorem d_T_seat_12 : decode prog_8_method_2_code 12 = .ok (.iload_n 3, 1) := by decide +kernel
theorem d_T_seat_13 : decode prog_8_method_2_code 13 = .ok (.bipush 6, 2) := by decide +kernel
theorem d_T_seat_15 : decode prog_8_method_2_code 15 = .ok (.if_icmp .ge 29, 3) := by decide +kernel
theorem d_T_seat_18 : decode prog_8_method_2_code 18 = .ok (.aload_n 0, 1) := by decide +kernel
theorem d_T_seat_19 : decode prog_8_method_2_code 19 = .ok (.getfield 9, 3) := by decide +kernel
theorem d_T_seat_22 : decode prog_8_method_2_code 22 = .ok (.bipush 6, 2) := by decide +kernel
theorem d_T_seat_24 : decode prog_8_method_2_code 24 = .ok (.iload_n 2, 1) := by decide +kernel
theorem d_T_seat_25 : decode prog_8_method_2_code 25 = .ok (.imul, 1) := by decide +kernel
theorem d_T_seat_26 : decode prog_8_method_2_code 26 = .ok (.iload_n 3, 1) := by decide +kernel
theorem d_T_seat_27 : decode prog_8_method_2_code 27 = .ok (.iadd, 1) := by decide +kernel
theorem d_T_seat_28 : decode prog_8_method_2_code 28 = .ok (.aload_n 0, 1) := by decide +kernel
theorem d_T_seat_29 : decode prog_8_method_2_code 29 = .ok (.getfield 25, 3) := by decide +kernel
theorem d_T_seat_32 : decode prog_8_method_2_code 32 = .ok (.iload_n 2, 1) := by decide +kernel
theorem d_T_seat_33 : decode prog_8_method_2_code 33 = .ok (.iload_n 3, 1) := by decide +kernel
theorem d_T_seat_34 : decode prog_8_method_2_code 34 = .ok (.invokevirtual 29, 3) := by decide +kernel
theorem d_T_seat_37 : decode prog_8_method_2_code 37 = .ok (.iastore, 1) := by decide +kernel
theorem d_T_seat_38 : decode prog_8_method_2_code 38 = .ok (.iinc 3 1, 3) := by decide +kernel
theorem d_T_seat_41 : decode prog_8_method_2_code 41 = .ok (.goto (-29), 3) := by decide +kernel
theorem d_T_seat_44 : decode prog_8_method_2_code 44 = .ok (.iinc 2 1, 3) := by decide +kernel
theorem d_T_seat_47 : decode prog_8_method_2_code 47 = .ok (.goto (-45), 3) := by decide +kernel
theorem d_T_seat_50 : decode prog_8_method_2_code 50 = .ok (.aload_n 0, 1) := by decide +kernel
theorem d_T_seat_51 : decode prog_8_method_2_code 51 = .ok (.getfield 15, 3) := by decide +kernel
theorem d_T_seat_54 : decode prog_8_method_2_code 54 = .ok (.iconst 0, 1) := by decide +kernel
theorem d_T_seat_55 : decode prog_8_method_2_code 55 = .ok (.iconst 0, 1) := by decide +kernel
theorem d_T_seat_56 : decode prog_8_method_2_code 56 = .ok (.iastore, 1) := by decide +kernel
theorem d_T_seat_57 : decode prog_8_method_2_code 57 = .ok (.iconst 1, 1) := by decide +kernel
theorem d_T_seat_58 : decode prog_8_method_2_code 58 = .ok (.istore_n 2, 1) := by decide +kernel
theorem d_T_seat_59 : decode prog_8_method_2_code 59 = .ok (.iload_n 2, 1) := by decide +kernel
theorem d_T_seat_60 : decode prog_8_method_2_code 60 = .ok (.iload_n 1, 1) := by decide +kernel
theorem d_T_seat_61 : decode prog_8_method_2_code 61 = .ok (.if_icmp .gt 32, 3) := by decide +kernel
theorem d_T_seat_64 : decode prog_8_method_2_code 64 = .ok (.iload_n 2, 1) := by decide +kernel
theorem d_T_seat_65 : decode prog_8_method_2_code 65 = .ok (.invokestatic 35, 3) := by decide +kernel
theorem d_T_seat_68 : decode prog_8_method_2_code 68 = .ok (.istore_n 3, 1) := by decide +kernel
theorem d_T_seat_69 : decode prog_8_method_2_code 69 = .ok (.aload_n 0, 1) := by decide +kernel
theorem d_T_seat_70 : decode prog_8_method_2_code 70 = .ok (.getfield 15, 3) := by decide +kernel
theorem d_T_seat_73 : decode prog_8_method_2_code 73 = .ok (.iload_n 2, 1) := by decide +kernel
theorem d_T_seat_74 : decode prog_8_method_2_code 74 = .ok (.aload_n 0, 1) := by decide +kernel
theorem d_T_seat_75 : decode prog_8_method_2_code 75 = .ok (.iload_n 2, 1) := by decide +kernel
theorem d_T_seat_76 : decode prog_8_method_2_code 76 = .ok (.iload_n 3, 1) := by decide +kernel
theorem d_T_seat_77 : decode prog_8_method_2_code 77 = .ok (.aload_n 0, 1) := by decide +kernel
theorem d_T_seat_78 : decode prog_8_method_2_code 78 = .ok (.iload_n 2, 1) := by decide +kernel
theorem d_T_seat_79 : decode prog_8_method_2_code 79 = .ok (.iload_n 3, 1) := by decide +kernel
theorem d_T_seat_80 : decode prog_8_method_2_code 80 = .ok (.invokevirtual 39, 3) := by decide +kernel
theorem d_T_seat_83 : decode prog_8_method_2_code 83 = .ok (.invokevirtual 42, 3) := by decide +kernel
theorem d_T_seat_86 : decode prog_8_method_2_code 86 = .ok (.iastore, 1) := by decide +kernel
theorem d_T_seat_87 : decode prog_8_method_2_code 87 = .ok (.iinc 2 1, 3) := by decide +kernel
theorem d_T_seat_90 : decode prog_8_method_2_code 90 = .ok (.goto (-31), 3) := by decide +kernel
theorem d_T_seat_93 : decode prog_8_method_2_code 93 = .ok (.aload_n 0, 1) := by decide +kernel
theorem d_T_seat_94 : decode prog_8_method_2_code 94 = .ok (.aload_n 0, 1) := by decide +kernel
theorem d_T_seat_95 : decode prog_8_method_2_code 95 = .ok (.getfield 15, 3) := by decide +kernel
theorem d_T_seat_98 : decode prog_8_method_2_code 98 = .ok (.iload_n 1, 1) := by decide +kernel
theorem d_T_seat_99 : decode prog_8_method_2_code 99 = .ok (.iaload, 1) := by decide +kernel
theorem d_T_seat_100 : decode prog_8_method_2_code 100 = .ok (.putfield 21, 3) := by decide +kernel
theorem d_T_seat_103 : decode prog_8_method_2_code 103 = .ok (.iload_n 1, 1) := by decide +kernel
theorem d_T_seat_104 : decode prog_8_method_2_code 104 = .ok (.istore_n 2, 1) := by decide +kernel
theorem d_T_seat_105 : decode prog_8_method_2_code 105 = .ok (.iconst 0, 1) := by decide +kernel
theorem d_T_seat_106 : decode prog_8_method_2_code 106 = .ok (.istore_n 3, 1) := by decide +kernel
theorem d_T_seat_107 : decode prog_8_method_2_code 107 = .ok (.iload_n 3, 1) := by decide +kernel
theorem d_T_seat_108 : decode prog_8_method_2_code 108 = .ok (.bipush 6, 2) := by decide +kernel
theorem d_T_seat_110 : decode prog_8_method_2_code 110 = .ok (.if_icmp .ge 49, 3) := by decide +kernel
theorem d_T_seat_113 : decode prog_8_method_2_code 113 = .ok (.iload_n 2, 1) := by decide +kernel
theorem d_T_seat_114 : decode prog_8_method_2_code 114 = .ok (.iload_n 3, 1) := by decide +kernel
theorem d_T_seat_115 : decode prog_8_method_2_code 115 = .ok (.invokestatic 46, 3) := by decide +kernel
theorem d_T_seat_118 : decode prog_8_method_2_code 118 = .ok (.ifCond .eq 35, 3) := by decide +kernel
theorem d_T_seat_121 : decode prog_8_method_2_code 121 = .ok (.aload_n 0, 1) := by decide +kernel
theorem d_T_seat_122 : decode prog_8_method_2_code 122 = .ok (.iload_n 2, 1) := by decide +kernel
theorem d_T_seat_123 : decode prog_8_method_2_code 123 = .ok (.iload_n 3, 1) := by decide +kernel
theorem d_T_seat_124 : decode prog_8_method_2_code 124 = .ok (.invokevirtual 39, 3) := by decide +kernel
theorem d_T_seat_127 : decode prog_8_method_2_code 127 = .ok (.istore 4, 2) := by decide +kernel
theorem d_T_seat_129 : decode prog_8_method_2_code 129 = .ok (.aload_n 0, 1) := by decide +kernel
theorem d_T_seat_130 : decode prog_8_method_2_code 130 = .ok (.getfield 18, 3) := by decide +kernel
theorem d_T_seat_133 : decode prog_8_method_2_code 133 = .ok (.iload_n 3, 1) := by decide +kernel
theorem d_T_seat_134 : decode prog_8_method_2_code 134 = .ok (.iload 4, 2) := by decide +kernel
theorem d_T_seat_136 : decode prog_8_method_2_code 136 = .ok (.iastore, 1) := by decide +kernel
theorem d_T_seat_137 : decode prog_8_method_2_code 137 = .ok (.aload_n 0, 1) := by decide +kernel
theorem d_T_seat_138 : decode prog_8_method_2_code 138 = .ok (.getfield 18, 3) := by decide +kernel
theorem d_T_seat_141 : decode prog_8_method_2_code 141 = .ok (.iload 4, 2) := by decide +kernel
theorem d_T_seat_143 : decode prog_8_method_2_code 143 = .ok (.iload_n 3, 1) := by decide +kernel
theorem d_T_seat_144 : decode prog_8_method_2_code 144 = .ok (.iastore, 1) := by decide +kernel
theorem d_T_seat_145 : decode prog_8_method_2_code 145 = .ok (.iload_n 2, 1) := by decide +kernel
theorem d_T_seat_146 : decode prog_8_method_2_code 146 = .ok (.iload_n 3, 1) := by decide +kernel
theorem d_T_seat_147 : decode prog_8_method_2_code 147 = .ok (.iload 4, 2) := by decide +kernel
theorem d_T_seat_149 : decode prog_8_method_2_code 149 = .ok (.invokestatic 50, 3) := by decide +kernel
theorem d_T_seat_152 : decode prog_8_method_2_code 152 = .ok (.istore_n 2, 1) := by decide +kernel
theorem d_T_seat_153 : decode prog_8_method_2_code 153 = .ok (.iinc 3 1, 3) := by decide +kernel
theorem d_T_seat_156 : decode prog_8_method_2_code 156 = .ok (.goto (-49), 3) := by decide +kernel
theorem d_T_seat_159 : decode prog_8_method_2_code 159 = .ok (.return_, 1) := by decide +kernel
theorem d_T_leastPartner_0 : decode prog_8_method_3_code 0 = .ok (.iload_n 2, 1) := by decide +kernel
theorem d_T_leastPartner_1 : decode prog_8_method_3_code 1 = .ok (.istore_n 3, 1) := by decide +kernel
theorem d_T_leastPartner_2 : decode prog_8_method_3_code 2 = .ok (.iload_n 2, 1) := by decide +kernel
theorem d_T_leastPartner_3 : decode prog_8_method_3_code 3 = .ok (.iconst 1, 1) := by decide +kernel
theorem d_T_leastPartner_4 : decode prog_8_method_3_code 4 = .ok (.iadd, 1) := by decide +kernel
theorem d_T_leastPartner_5 : decode prog_8_method_3_code 5 = .ok (.istore 4, 2) := by decide +kernel
theorem d_T_leastPartner_7 : decode prog_8_method_3_code 7 = .ok (.iload 4, 2) := by decide +kernel
theorem d_T_leastPartner_9 : decode prog_8_method_3_code 9 = .ok (.bipush 6, 2) := by decide +kernel
theorem d_T_leastPartner_11 : decode prog_8_method_3_code 11 = .ok (.if_icmp .ge 44, 3) := by decide +kernel
theorem d_T_leastPartner_14 : decode prog_8_method_3_code 14 = .ok (.iload_n 1, 1) := by decide +kernel
theorem d_T_leastPartner_15 : decode prog_8_method_3_code 15 = .ok (.iload 4, 2) := by decide +kernel
theorem d_T_leastPartner_17 : decode prog_8_method_3_code 17 = .ok (.invokestatic 46, 3) := by decide +kernel
theorem d_T_leastPartner_20 : decode prog_8_method_3_code 20 = .ok (.ifCond .eq 29, 3) := by decide +kernel
theorem d_T_leastPartner_23 : decode prog_8_method_3_code 23 = .ok (.iload_n 3, 1) := by decide +kernel
theorem d_T_leastPartner_24 : decode prog_8_method_3_code 24 = .ok (.iload_n 2, 1) := by decide +kernel
theorem d_T_leastPartner_25 : decode prog_8_method_3_code 25 = .ok (.if_icmp .eq 21, 3) := by decide +kernel
theorem d_T_leastPartner_28 : decode prog_8_method_3_code 28 = .ok (.aload_n 0, 1) := by decide +kernel
theorem d_T_leastPartner_29 : decode prog_8_method_3_code 29 = .ok (.iload_n 1, 1) := by decide +kernel
theorem d_T_leastPartner_30 : decode prog_8_method_3_code 30 = .ok (.iload_n 2, 1) := by decide +kernel
theorem d_T_leastPartner_31 : decode prog_8_method_3_code 31 = .ok (.iload 4, 2) := by decide +kernel
theorem d_T_leastPartner_33 : decode prog_8_method_3_code 33 = .ok (.invokevirtual 42, 3) := by decide +kernel
theorem d_T_leastPartner_36 : decode prog_8_method_3_code 36 = .ok (.aload_n 0, 1) := by decide +kernel
theorem d_T_leastPartner_37 : decode prog_8_method_3_code 37 = .ok (.iload_n 1, 1) := by decide +kernel
theorem d_T_leastPartner_38 : decode prog_8_method_3_code 38 = .ok (.iload_n 2, 1) := by decide +kernel
theorem d_T_leastPartner_39 : decode prog_8_method_3_code 39 = .ok (.iload_n 3, 1) := by decide +kernel
theorem d_T_leastPartner_40 : decode prog_8_method_3_code 40 = .ok (.invokevirtual 42, 3) := by decide +kernel
theorem d_T_leastPartner_43 : decode prog_8_method_3_code 43 = .ok (.if_icmp .ge 6, 3) := by decide +kernel
theorem d_T_leastPartner_46 : decode prog_8_method_3_code 46 = .ok (.iload 4, 2) := by decide +kernel
theorem d_T_leastPartner_48 : decode prog_8_method_3_code 48 = .ok (.istore_n 3, 1) := by decide +kernel
theorem d_T_leastPartner_49 : decode prog_8_method_3_code 49 = .ok (.iinc 4 1, 3) := by decide +kernel
theorem d_T_leastPartner_52 : decode prog_8_method_3_code 52 = .ok (.goto (-45), 3) := by decide +kernel
theorem d_T_leastPartner_55 : decode prog_8_method_3_code 55 = .ok (.iload_n 3, 1) := by decide +kernel
theorem d_T_leastPartner_56 : decode prog_8_method_3_code 56 = .ok (.ireturn, 1) := by decide +kernel
theorem d_T_leastOf_0 : decode prog_8_method_4_code 0 = .ok (.iconst 0, 1) := by decide +kernel
theorem d_T_leastOf_1 : decode prog_8_method_4_code 1 = .ok (.istore_n 1, 1) := by decide +kernel
theorem d_T_leastOf_2 : decode prog_8_method_4_code 2 = .ok (.iload_n 1, 1) := by decide +kernel
theorem d_T_leastOf_3 : decode prog_8_method_4_code 3 = .ok (.iconst 5, 1) := by decide +kernel
theorem d_T_leastOf_4 : decode prog_8_method_4_code 4 = .ok (.if_icmp .ge 17, 3) := by decide +kernel
theorem d_T_leastOf_7 : decode prog_8_method_4_code 7 = .ok (.iload_n 0, 1) := by decide +kernel
theorem d_T_leastOf_8 : decode prog_8_method_4_code 8 = .ok (.iload_n 1, 1) := by decide +kernel
theorem d_T_leastOf_9 : decode prog_8_method_4_code 9 = .ok (.invokestatic 46, 3) := by decide +kernel
theorem d_T_leastOf_12 : decode prog_8_method_4_code 12 = .ok (.ifCond .ne 9, 3) := by decide +kernel
theorem d_T_leastOf_15 : decode prog_8_method_4_code 15 = .ok (.iinc 1 1, 3) := by decide +kernel
theorem d_T_leastOf_18 : decode prog_8_method_4_code 18 = .ok (.goto (-16), 3) := by decide +kernel
theorem d_T_leastOf_21 : decode prog_8_method_4_code 21 = .ok (.iload_n 1, 1) := by decide +kernel
theorem d_T_leastOf_22 : decode prog_8_method_4_code 22 = .ok (.ireturn, 1) := by decide +kernel
theorem d_T_waitWith_0 : decode prog_8_method_5_code 0 = .ok (.aload_n 0, 1) := by decide +kernel
theorem d_T_waitWith_1 : decode prog_8_method_5_code 1 = .ok (.getfield 9, 3) := by decide +kernel
theorem d_T_waitWith_4 : decode prog_8_method_5_code 4 = .ok (.bipush 6, 2) := by decide +kernel
theorem d_T_waitWith_6 : decode prog_8_method_5_code 6 = .ok (.iload_n 2, 1) := by decide +kernel
theorem d_T_waitWith_7 : decode prog_8_method_5_code 7 = .ok (.imul, 1) := by decide +kernel
theorem d_T_waitWith_8 : decode prog_8_method_5_code 8 = .ok (.iload_n 3, 1) := by decide +kernel
theorem d_T_waitWith_9 : decode prog_8_method_5_code 9 = .ok (.iadd, 1) := by decide +kernel
theorem d_T_waitWith_10 : decode prog_8_method_5_code 10 = .ok (.iaload, 1) := by decide +kernel
theorem d_T_waitWith_11 : decode prog_8_method_5_code 11 = .ok (.aload_n 0, 1) := by decide +kernel
theorem d_T_waitWith_12 : decode prog_8_method_5_code 12 = .ok (.getfield 15, 3) := by decide +kernel
theorem d_T_waitWith_15 : decode prog_8_method_5_code 15 = .ok (.iload_n 1, 1) := by decide +kernel
theorem d_T_waitWith_16 : decode prog_8_method_5_code 16 = .ok (.iload_n 2, 1) := by decide +kernel
theorem d_T_waitWith_17 : decode prog_8_method_5_code 17 = .ok (.iload_n 3, 1) := by decide +kernel
theorem d_T_waitWith_18 : decode prog_8_method_5_code 18 = .ok (.invokestatic 50, 3) := by decide +kernel
theorem d_T_waitWith_21 : decode prog_8_method_5_code 21 = .ok (.iaload, 1) := by decide +kernel
theorem d_T_waitWith_22 : decode prog_8_method_5_code 22 = .ok (.iadd, 1) := by decide +kernel
theorem d_T_waitWith_23 : decode prog_8_method_5_code 23 = .ok (.ireturn, 1) := by decide +kernel
theorem d_T_without_0 : decode prog_8_method_6_code 0 = .ok (.iload_n 0, 1) := by decide +kernel
theorem d_T_without_1 : decode prog_8_method_6_code 1 = .ok (.iconst 1, 1) := by decide +kernel
theorem d_T_without_2 : decode prog_8_method_6_code 2 = .ok (.iload_n 1, 1) := by decide +kernel
theorem d_T_without_3 : decode prog_8_method_6_code 3 = .ok (.ishl, 1) := by decide +kernel
theorem d_T_without_4 : decode prog_8_method_6_code 4 = .ok (.iconst (-1), 1) := by decide +kernel
theorem d_T_without_5 : decode prog_8_method_6_code 5 = .ok (.ixor, 1) := by decide +kernel
theorem d_T_without_6 : decode prog_8_method_6_code 6 = .ok (.iand, 1) := by decide +kernel
theorem d_T_without_7 : decode prog_8_method_6_code 7 = .ok (.iconst 1, 1) := by decide +kernel
theorem d_T_without_8 : decode prog_8_method_6_code 8 = .ok (.iload_n 2, 1) := by decide +kernel
theorem d_T_without_9 : decode prog_8_method_6_code 9 = .ok (.ishl, 1) := by decide +kernel
theorem d_T_without_10 : decode prog_8_method_6_code 10 = .ok (.iconst (-1), 1) := by decide +kernel
theorem d_T_without_11 : decode prog_8_method_6_code 11 = .ok (.ixor, 1) := by decide +kernel
theorem d_T_without_12 : decode prog_8_method_6_code 12 = .ok (.iand, 1) := by decide +kernel
theorem d_T_without_13 : decode prog_8_method_6_code 13 = .ok (.ireturn, 1) := by decide +kernel
theorem d_T_minutes_0 : decode prog_8_method_7_code 0 = .ok (.aload_n 0, 1) := by decide +kernel
theorem d_T_minutes_1 : decode prog_8_method_7_code 1 = .ok (.getfield 21, 3) := by decide +kernel
theorem d_T_minutes_4 : decode prog_8_method_7_code 4 = .ok (.ireturn, 1) := by decide +kernel
theorem d_T_partnerOf_0 : decode prog_8_method_8_code 0 = .ok (.aload_n 0, 1) := by decide +kernel
theorem d_T_partnerOf_1 : decode prog_8_method_8_code 1 = .ok (.getfield 18, 3) := by decide +kernel
theorem d_T_partnerOf_4 : decode prog_8_method_8_code 4 = .ok (.iload_n 1, 1) := by decide +kernel
theorem d_T_partnerOf_5 : decode prog_8_method_8_code 5 = .ok (.iaload, 1) := by decide +kernel
theorem d_T_partnerOf_6 : decode prog_8_method_8_code 6 = .ok (.ireturn, 1) := by decide +kernel
theorem d_U_append_0 : decode prog_11_method_2_code 0 = .ok (.aload_n 0, 1) := by decide +kernel
theorem d_U_append_1 : decode prog_11_method_2_code 1 = .ok (.getfield 21, 3) := by decide +kernel
theorem d_U_append_4 : decode prog_11_method_2_code 4 = .ok (.bipush 8, 2) := by decide +kernel
theorem d_U_append_6 : decode prog_11_method_2_code 6 = .ok (.if_icmp .lt 5, 3) := by decide +kernel
theorem d_U_append_9 : decode prog_11_method_2_code 9 = .ok (.iconst 0, 1) := by decide +kernel
theorem d_U_append_10 : decode prog_11_method_2_code 10 = .ok (.ireturn, 1) := by decide +kernel
theorem d_U_append_11 : decode prog_11_method_2_code 11 = .ok (.aload_n 0, 1) := by decide +kernel
theorem d_U_append_12 : decode prog_11_method_2_code 12 = .ok (.getfield 11, 3) := by decide +kernel
theorem d_U_append_15 : decode prog_11_method_2_code 15 = .ok (.aload_n 0, 1) := by decide +kernel
theorem d_U_append_16 : decode prog_11_method_2_code 16 = .ok (.getfield 21, 3) := by decide +kernel
theorem d_U_append_19 : decode prog_11_method_2_code 19 = .ok (.iload_n 1, 1) := by decide +kernel
theorem d_U_append_20 : decode prog_11_method_2_code 20 = .ok (.iastore, 1) := by decide +kernel
theorem d_U_append_21 : decode prog_11_method_2_code 21 = .ok (.aload_n 0, 1) := by decide +kernel
theorem d_U_append_22 : decode prog_11_method_2_code 22 = .ok (.getfield 15, 3) := by decide +kernel
theorem d_U_append_25 : decode prog_11_method_2_code 25 = .ok (.aload_n 0, 1) := by decide +kernel
theorem d_U_append_26 : decode prog_11_method_2_code 26 = .ok (.getfield 21, 3) := by decide +kernel
theorem d_U_append_29 : decode prog_11_method_2_code 29 = .ok (.iload_n 2, 1) := by decide +kernel
theorem d_U_append_30 : decode prog_11_method_2_code 30 = .ok (.iastore, 1) := by decide +kernel
theorem d_U_append_31 : decode prog_11_method_2_code 31 = .ok (.aload_n 0, 1) := by decide +kernel
theorem d_U_append_32 : decode prog_11_method_2_code 32 = .ok (.getfield 18, 3) := by decide +kernel
theorem d_U_append_35 : decode prog_11_method_2_code 35 = .ok (.aload_n 0, 1) := by decide +kernel
theorem d_U_append_36 : decode prog_11_method_2_code 36 = .ok (.getfield 21, 3) := by decide +kernel
theorem d_U_append_39 : decode prog_11_method_2_code 39 = .ok (.iload_n 3, 1) := by decide +kernel
theorem d_U_append_40 : decode prog_11_method_2_code 40 = .ok (.iastore, 1) := by decide +kernel
theorem d_U_append_41 : decode prog_11_method_2_code 41 = .ok (.aload_n 0, 1) := by decide +kernel
theorem d_U_append_42 : decode prog_11_method_2_code 42 = .ok (.dup, 1) := by decide +kernel
theorem d_U_append_43 : decode prog_11_method_2_code 43 = .ok (.getfield 21, 3) := by decide +kernel
theorem d_U_append_46 : decode prog_11_method_2_code 46 = .ok (.iconst 1, 1) := by decide +kernel
theorem d_U_append_47 : decode prog_11_method_2_code 47 = .ok (.iadd, 1) := by decide +kernel
theorem d_U_append_48 : decode prog_11_method_2_code 48 = .ok (.putfield 21, 3) := by decide +kernel
theorem d_U_append_51 : decode prog_11_method_2_code 51 = .ok (.iconst 1, 1) := by decide +kernel
theorem d_U_append_52 : decode prog_11_method_2_code 52 = .ok (.ireturn, 1) := by decide +kernel
theorem d_U_clear_0 : decode prog_11_method_3_code 0 = .ok (.aload_n 0, 1) := by decide +kernel
theorem d_U_clear_1 : decode prog_11_method_3_code 1 = .ok (.iconst 0, 1) := by decide +kernel
theorem d_U_clear_2 : decode prog_11_method_3_code 2 = .ok (.putfield 21, 3) := by decide +kernel
theorem d_U_clear_5 : decode prog_11_method_3_code 5 = .ok (.return_, 1) := by decide +kernel
theorem d_U_size_0 : decode prog_11_method_4_code 0 = .ok (.aload_n 0, 1) := by decide +kernel
theorem d_U_size_1 : decode prog_11_method_4_code 1 = .ok (.getfield 21, 3) := by decide +kernel
theorem d_U_size_4 : decode prog_11_method_4_code 4 = .ok (.ireturn, 1) := by decide +kernel
theorem d_U_countUnlike_0 : decode prog_11_method_5_code 0 = .ok (.iconst 0, 1) := by decide +kernel
theorem d_U_countUnlike_1 : decode prog_11_method_5_code 1 = .ok (.istore_n 1, 1) := by decide +kernel
theorem d_U_countUnlike_2 : decode prog_11_method_5_code 2 = .ok (.iconst 0, 1) := by decide +kernel
theorem d_U_countUnlike_3 : decode prog_11_method_5_code 3 = .ok (.istore_n 2, 1) := by decide +kernel
theorem d_U_countUnlike_4 : decode prog_11_method_5_code 4 = .ok (.iload_n 2, 1) := by decide +kernel
theorem d_U_countUnlike_5 : decode prog_11_method_5_code 5 = .ok (.aload_n 0, 1) := by decide +kernel
theorem d_U_countUnlike_6 : decode prog_11_method_5_code 6 = .ok (.getfield 21, 3) := by decide +kernel
theorem d_U_countUnlike_9 : decode prog_11_method_5_code 9 = .ok (.if_icmp .ge 48, 3) := by decide +kernel
theorem d_U_countUnlike_12 : decode prog_11_method_5_code 12 = .ok (.aload_n 0, 1) := by decide +kernel
theorem d_U_countUnlike_13 : decode prog_11_method_5_code 13 = .ok (.iload_n 2, 1) := by decide +kernel
theorem d_U_countUnlike_14 : decode prog_11_method_5_code 14 = .ok (.invokevirtual 29, 3) := by decide +kernel
theorem d_U_countUnlike_17 : decode prog_11_method_5_code 17 = .ok (.ifCond .eq 31, 3) := by decide +kernel
theorem d_U_countUnlike_20 : decode prog_11_method_5_code 20 = .ok (.aload_n 0, 1) := by decide +kernel
theorem d_U_countUnlike_21 : decode prog_11_method_5_code 21 = .ok (.getfield 25, 3) := by decide +kernel
theorem d_U_countUnlike_24 : decode prog_11_method_5_code 24 = .ok (.aload_n 0, 1) := by decide +kernel
theorem d_U_countUnlike_25 : decode prog_11_method_5_code 25 = .ok (.getfield 15, 3) := by decide +kernel
theorem d_U_countUnlike_28 : decode prog_11_method_5_code 28 = .ok (.iload_n 2, 1) := by decide +kernel
theorem d_U_countUnlike_29 : decode prog_11_method_5_code 29 = .ok (.iaload, 1) := by decide +kernel
theorem d_U_countUnlike_30 : decode prog_11_method_5_code 30 = .ok (.aload_n 0, 1) := by decide +kernel
theorem d_U_countUnlike_31 : decode prog_11_method_5_code 31 = .ok (.getfield 11, 3) := by decide +kernel
theorem d_U_countUnlike_34 : decode prog_11_method_5_code 34 = .ok (.iload_n 2, 1) := by decide +kernel
theorem d_U_countUnlike_35 : decode prog_11_method_5_code 35 = .ok (.iaload, 1) := by decide +kernel
theorem d_U_countUnlike_36 : decode prog_11_method_5_code 36 = .ok (.invokevirtual 33, 3) := by decide +kernel
theorem d_U_countUnlike_39 : decode prog_11_method_5_code 39 = .ok (.aload_n 0, 1) := by decide +kernel
theorem d_U_countUnlike_40 : decode prog_11_method_5_code 40 = .ok (.getfield 18, 3) := by decide +kernel
theorem d_U_countUnlike_43 : decode prog_11_method_5_code 43 = .ok (.iload_n 2, 1) := by decide +kernel
theorem d_U_countUnlike_44 : decode prog_11_method_5_code 44 = .ok (.iaload, 1) := by decide +kernel
theorem d_U_countUnlike_45 : decode prog_11_method_5_code 45 = .ok (.if_icmp .eq 6, 3) := by decide +kernel
theorem d_U_countUnlike_48 : decode prog_11_method_5_code 48 = .ok (.iinc 1 1, 3) := by decide +kernel
theorem d_U_countUnlike_51 : decode prog_11_method_5_code 51 = .ok (.iinc 2 1, 3) := by decide +kernel
theorem d_U_countUnlike_54 : decode prog_11_method_5_code 54 = .ok (.goto (-50), 3) := by decide +kernel
theorem d_U_countUnlike_57 : decode prog_11_method_5_code 57 = .ok (.iload_n 1, 1) := by decide +kernel
theorem d_U_countUnlike_58 : decode prog_11_method_5_code 58 = .ok (.ireturn, 1) := by decide +kernel
theorem d_U_fittingPaces_0 : decode prog_11_method_6_code 0 = .ok (.iconst 0, 1) := by decide +kernel
theorem d_U_fittingPaces_1 : decode prog_11_method_6_code 1 = .ok (.istore_n 3, 1) := by decide +kernel
theorem d_U_fittingPaces_2 : decode prog_11_method_6_code 2 = .ok (.iconst 1, 1) := by decide +kernel
theorem d_U_fittingPaces_3 : decode prog_11_method_6_code 3 = .ok (.istore 4, 2) := by decide +kernel
theorem d_U_fittingPaces_5 : decode prog_11_method_6_code 5 = .ok (.iload 4, 2) := by decide +kernel
theorem d_U_fittingPaces_7 : decode prog_11_method_6_code 7 = .ok (.bipush 9, 2) := by decide +kernel
theorem d_U_fittingPaces_9 : decode prog_11_method_6_code 9 = .ok (.if_icmp .gt 29, 3) := by decide +kernel
theorem d_U_fittingPaces_12 : decode prog_11_method_6_code 12 = .ok (.aload_n 0, 1) := by decide +kernel
theorem d_U_fittingPaces_13 : decode prog_11_method_6_code 13 = .ok (.iload_n 1, 1) := by decide +kernel
theorem d_U_fittingPaces_14 : decode prog_11_method_6_code 14 = .ok (.iload_n 2, 1) := by decide +kernel
theorem d_U_fittingPaces_15 : decode prog_11_method_6_code 15 = .ok (.iload 4, 2) := by decide +kernel
theorem d_U_fittingPaces_17 : decode prog_11_method_6_code 17 = .ok (.invokevirtual 39, 3) := by decide +kernel
theorem d_U_fittingPaces_20 : decode prog_11_method_6_code 20 = .ok (.ifCond .eq 12, 3) := by decide +kernel
theorem d_U_fittingPaces_23 : decode prog_11_method_6_code 23 = .ok (.iload_n 3, 1) := by decide +kernel
theorem d_U_fittingPaces_24 : decode prog_11_method_6_code 24 = .ok (.iconst 1, 1) := by decide +kernel
theorem d_U_fittingPaces_25 : decode prog_11_method_6_code 25 = .ok (.iload 4, 2) := by decide +kernel
theorem d_U_fittingPaces_27 : decode prog_11_method_6_code 27 = .ok (.iconst 1, 1) := by decide +kernel
theorem d_U_fittingPaces_28 : decode prog_11_method_6_code 28 = .ok (.isub, 1) := by decide +kernel
theorem d_U_fittingPaces_29 : decode prog_11_method_6_code 29 = .ok (.ishl, 1) := by decide +kernel
theorem d_U_fittingPaces_30 : decode prog_11_method_6_code 30 = .ok (.ior, 1) := by decide +kernel
theorem d_U_fittingPaces_31 : decode prog_11_method_6_code 31 = .ok (.istore_n 3, 1) := by decide +kernel
theorem d_U_fittingPaces_32 : decode prog_11_method_6_code 32 = .ok (.iinc 4 1, 3) := by decide +kernel
theorem d_U_fittingPaces_35 : decode prog_11_method_6_code 35 = .ok (.goto (-30), 3) := by decide +kernel
theorem d_U_fittingPaces_38 : decode prog_11_method_6_code 38 = .ok (.iload_n 3, 1) := by decide +kernel
theorem d_U_fittingPaces_39 : decode prog_11_method_6_code 39 = .ok (.ireturn, 1) := by decide +kernel
theorem d_U_fitsAll_0 : decode prog_11_method_7_code 0 = .ok (.iconst 0, 1) := by decide +kernel
theorem d_U_fitsAll_1 : decode prog_11_method_7_code 1 = .ok (.istore 4, 2) := by decide +kernel
theorem d_U_fitsAll_3 : decode prog_11_method_7_code 3 = .ok (.iload 4, 2) := by decide +kernel
theorem d_U_fitsAll_5 : decode prog_11_method_7_code 5 = .ok (.aload_n 0, 1) := by decide +kernel
theorem d_U_fitsAll_6 : decode prog_11_method_7_code 6 = .ok (.getfield 21, 3) := by decide +kernel
theorem d_U_fitsAll_9 : decode prog_11_method_7_code 9 = .ok (.if_icmp .ge 86, 3) := by decide +kernel
theorem d_U_fitsAll_12 : decode prog_11_method_7_code 12 = .ok (.aload_n 0, 1) := by decide +kernel
theorem d_U_fitsAll_13 : decode prog_11_method_7_code 13 = .ok (.iload 4, 2) := by decide +kernel
theorem d_U_fitsAll_15 : decode prog_11_method_7_code 15 = .ok (.iload_n 1, 1) := by decide +kernel
theorem d_U_fitsAll_16 : decode prog_11_method_7_code 16 = .ok (.iload_n 2, 1) := by decide +kernel
theorem d_U_fitsAll_17 : decode prog_11_method_7_code 17 = .ok (.invokevirtual 43, 3) := by decide +kernel
theorem d_U_fitsAll_20 : decode prog_11_method_7_code 20 = .ok (.ifCond .eq 69, 3) := by decide +kernel
theorem d_U_fitsAll_23 : decode prog_11_method_7_code 23 = .ok (.aload_n 0, 1) := by decide +kernel
theorem d_U_fitsAll_24 : decode prog_11_method_7_code 24 = .ok (.getfield 25, 3) := by decide +kernel
theorem d_U_fitsAll_27 : decode prog_11_method_7_code 27 = .ok (.aload_n 0, 1) := by decide +kernel
theorem d_U_fitsAll_28 : decode prog_11_method_7_code 28 = .ok (.getfield 15, 3) := by decide +kernel
theorem d_U_fitsAll_31 : decode prog_11_method_7_code 31 = .ok (.iload 4, 2) := by decide +kernel
theorem d_U_fitsAll_33 : decode prog_11_method_7_code 33 = .ok (.iaload, 1) := by decide +kernel
theorem d_U_fitsAll_34 : decode prog_11_method_7_code 34 = .ok (.iconst 1, 1) := by decide +kernel
theorem d_U_fitsAll_35 : decode prog_11_method_7_code 35 = .ok (.iload_n 1, 1) := by decide +kernel
theorem d_U_fitsAll_36 : decode prog_11_method_7_code 36 = .ok (.ishl, 1) := by decide +kernel
theorem d_U_fitsAll_37 : decode prog_11_method_7_code 37 = .ok (.iconst (-1), 1) := by decide +kernel
theorem d_U_fitsAll_38 : decode prog_11_method_7_code 38 = .ok (.ixor, 1) := by decide +kernel
theorem d_U_fitsAll_39 : decode prog_11_method_7_code 39 = .ok (.iand, 1) := by decide +kernel
theorem d_U_fitsAll_40 : decode prog_11_method_7_code 40 = .ok (.aload_n 0, 1) := by decide +kernel
theorem d_U_fitsAll_41 : decode prog_11_method_7_code 41 = .ok (.getfield 11, 3) := by decide +kernel
theorem d_U_fitsAll_44 : decode prog_11_method_7_code 44 = .ok (.iload 4, 2) := by decide +kernel
theorem d_U_fitsAll_46 : decode prog_11_method_7_code 46 = .ok (.iaload, 1) := by decide +kernel
theorem d_U_fitsAll_47 : decode prog_11_method_7_code 47 = .ok (.invokevirtual 33, 3) := by decide +kernel
theorem d_U_fitsAll_50 : decode prog_11_method_7_code 50 = .ok (.istore 5, 2) := by decide +kernel
theorem d_U_fitsAll_52 : decode prog_11_method_7_code 52 = .ok (.aload_n 0, 1) := by decide +kernel
theorem d_U_fitsAll_53 : decode prog_11_method_7_code 53 = .ok (.getfield 25, 3) := by decide +kernel
theorem d_U_fitsAll_56 : decode prog_11_method_7_code 56 = .ok (.iload_n 1, 1) := by decide +kernel
theorem d_U_fitsAll_57 : decode prog_11_method_7_code 57 = .ok (.aload_n 0, 1) := by decide +kernel
theorem d_U_fitsAll_58 : decode prog_11_method_7_code 58 = .ok (.getfield 11, 3) := by decide +kernel
theorem d_U_fitsAll_61 : decode prog_11_method_7_code 61 = .ok (.iload 4, 2) := by decide +kernel
theorem d_U_fitsAll_63 : decode prog_11_method_7_code 63 = .ok (.iaload, 1) := by decide +kernel
theorem d_U_fitsAll_64 : decode prog_11_method_7_code 64 = .ok (.iload_n 3, 1) := by decide +kernel
theorem d_U_fitsAll_65 : decode prog_11_method_7_code 65 = .ok (.invokevirtual 46, 3) := by decide +kernel
theorem d_U_fitsAll_68 : decode prog_11_method_7_code 68 = .ok (.istore 6, 2) := by decide +kernel
theorem d_U_fitsAll_70 : decode prog_11_method_7_code 70 = .ok (.iload 5, 2) := by decide +kernel
theorem d_U_fitsAll_72 : decode prog_11_method_7_code 72 = .ok (.iload 6, 2) := by decide +kernel
theorem d_U_fitsAll_74 : decode prog_11_method_7_code 74 = .ok (.invokestatic 50, 3) := by decide +kernel
theorem d_U_fitsAll_77 : decode prog_11_method_7_code 77 = .ok (.aload_n 0, 1) := by decide +kernel
theorem d_U_fitsAll_78 : decode prog_11_method_7_code 78 = .ok (.getfield 18, 3) := by decide +kernel
theorem d_U_fitsAll_81 : decode prog_11_method_7_code 81 = .ok (.iload 4, 2) := by decide +kernel
theorem d_U_fitsAll_83 : decode prog_11_method_7_code 83 = .ok (.iaload, 1) := by decide +kernel
theorem d_U_fitsAll_84 : decode prog_11_method_7_code 84 = .ok (.if_icmp .eq 5, 3) := by decide +kernel
theorem d_U_fitsAll_87 : decode prog_11_method_7_code 87 = .ok (.iconst 0, 1) := by decide +kernel
theorem d_U_fitsAll_88 : decode prog_11_method_7_code 88 = .ok (.ireturn, 1) := by decide +kernel
theorem d_U_fitsAll_89 : decode prog_11_method_7_code 89 = .ok (.iinc 4 1, 3) := by decide +kernel
theorem d_U_fitsAll_92 : decode prog_11_method_7_code 92 = .ok (.goto (-89), 3) := by decide +kernel
theorem d_U_fitsAll_95 : decode prog_11_method_7_code 95 = .ok (.iconst 1, 1) := by decide +kernel
theorem d_U_fitsAll_96 : decode prog_11_method_7_code 96 = .ok (.ireturn, 1) := by decide +kernel
theorem d_U_isThere_0 : decode prog_11_method_8_code 0 = .ok (.aload_n 0, 1) := by decide +kernel
theorem d_U_isThere_1 : decode prog_11_method_8_code 1 = .ok (.getfield 11, 3) := by decide +kernel
theorem d_U_isThere_4 : decode prog_11_method_8_code 4 = .ok (.iload_n 1, 1) := by decide +kernel
theorem d_U_isThere_5 : decode prog_11_method_8_code 5 = .ok (.iaload, 1) := by decide +kernel
theorem d_U_isThere_6 : decode prog_11_method_8_code 6 = .ok (.aload_n 0, 1) := by decide +kernel
theorem d_U_isThere_7 : decode prog_11_method_8_code 7 = .ok (.getfield 25, 3) := by decide +kernel
theorem d_U_isThere_10 : decode prog_11_method_8_code 10 = .ok (.invokevirtual 55, 3) := by decide +kernel
theorem d_U_isThere_13 : decode prog_11_method_8_code 13 = .ok (.if_icmp .ge 7, 3) := by decide +kernel
theorem d_U_isThere_16 : decode prog_11_method_8_code 16 = .ok (.iconst 1, 1) := by decide +kernel
theorem d_U_isThere_17 : decode prog_11_method_8_code 17 = .ok (.goto 4, 3) := by decide +kernel
theorem d_U_isThere_20 : decode prog_11_method_8_code 20 = .ok (.iconst 0, 1) := by decide +kernel
theorem d_U_isThere_21 : decode prog_11_method_8_code 21 = .ok (.ireturn, 1) := by decide +kernel
theorem d_U_tellsOf_0 : decode prog_11_method_9_code 0 = .ok (.aload_n 0, 1) := by decide +kernel
theorem d_U_tellsOf_1 : decode prog_11_method_9_code 1 = .ok (.iload_n 1, 1) := by decide +kernel
theorem d_U_tellsOf_2 : decode prog_11_method_9_code 2 = .ok (.invokevirtual 29, 3) := by decide +kernel
theorem d_U_tellsOf_5 : decode prog_11_method_9_code 5 = .ok (.ifCond .eq 37, 3) := by decide +kernel
theorem d_U_tellsOf_8 : decode prog_11_method_9_code 8 = .ok (.aload_n 0, 1) := by decide +kernel
theorem d_U_tellsOf_9 : decode prog_11_method_9_code 9 = .ok (.getfield 25, 3) := by decide +kernel
theorem d_U_tellsOf_12 : decode prog_11_method_9_code 12 = .ok (.aload_n 0, 1) := by decide +kernel
theorem d_U_tellsOf_13 : decode prog_11_method_9_code 13 = .ok (.getfield 11, 3) := by decide +kernel
theorem d_U_tellsOf_16 : decode prog_11_method_9_code 16 = .ok (.iload_n 1, 1) := by decide +kernel
theorem d_U_tellsOf_17 : decode prog_11_method_9_code 17 = .ok (.iaload, 1) := by decide +kernel
theorem d_U_tellsOf_18 : decode prog_11_method_9_code 18 = .ok (.invokevirtual 58, 3) := by decide +kernel
theorem d_U_tellsOf_21 : decode prog_11_method_9_code 21 = .ok (.iload_n 3, 1) := by decide +kernel
theorem d_U_tellsOf_22 : decode prog_11_method_9_code 22 = .ok (.if_icmp .ne 20, 3) := by decide +kernel
theorem d_U_tellsOf_25 : decode prog_11_method_9_code 25 = .ok (.aload_n 0, 1) := by decide +kernel
theorem d_U_tellsOf_26 : decode prog_11_method_9_code 26 = .ok (.getfield 15, 3) := by decide +kernel
theorem d_U_tellsOf_29 : decode prog_11_method_9_code 29 = .ok (.iload_n 1, 1) := by decide +kernel
theorem d_U_tellsOf_30 : decode prog_11_method_9_code 30 = .ok (.iaload, 1) := by decide +kernel
theorem d_U_tellsOf_31 : decode prog_11_method_9_code 31 = .ok (.iload_n 2, 1) := by decide +kernel
theorem d_U_tellsOf_32 : decode prog_11_method_9_code 32 = .ok (.invokestatic 62, 3) := by decide +kernel
theorem d_U_tellsOf_35 : decode prog_11_method_9_code 35 = .ok (.ifCond .eq 7, 3) := by decide +kernel
theorem d_U_tellsOf_38 : decode prog_11_method_9_code 38 = .ok (.iconst 1, 1) := by decide +kernel
theorem d_U_tellsOf_39 : decode prog_11_method_9_code 39 = .ok (.goto 4, 3) := by decide +kernel
theorem d_U_tellsOf_42 : decode prog_11_method_9_code 42 = .ok (.iconst 0, 1) := by decide +kernel
theorem d_U_tellsOf_43 : decode prog_11_method_9_code 43 = .ok (.ireturn, 1) := by decide +kernel
theorem d_D_chanceBy_0 : decode prog_5_method_2_code 0 = .ok (.iload_n 2, 1) := by decide +kernel
theorem d_D_chanceBy_1 : decode prog_5_method_2_code 1 = .ok (.aload_n 0, 1) := by decide +kernel
theorem d_D_chanceBy_2 : decode prog_5_method_2_code 2 = .ok (.iload_n 1, 1) := by decide +kernel
theorem d_D_chanceBy_3 : decode prog_5_method_2_code 3 = .ok (.invokevirtual 43, 3) := by decide +kernel
theorem d_D_chanceBy_6 : decode prog_5_method_2_code 6 = .ok (.invokestatic 47, 3) := by decide +kernel
theorem d_D_chanceBy_9 : decode prog_5_method_2_code 9 = .ok (.istore_n 3, 1) := by decide +kernel
theorem d_D_chanceBy_10 : decode prog_5_method_2_code 10 = .ok (.lconst 1, 1) := by decide +kernel
theorem d_D_chanceBy_11 : decode prog_5_method_2_code 11 = .ok (.lstore 4, 2) := by decide +kernel
theorem d_D_chanceBy_13 : decode prog_5_method_2_code 13 = .ok (.iconst 0, 1) := by decide +kernel
theorem d_D_chanceBy_14 : decode prog_5_method_2_code 14 = .ok (.istore 6, 2) := by decide +kernel
theorem d_D_chanceBy_16 : decode prog_5_method_2_code 16 = .ok (.iload 6, 2) := by decide +kernel
theorem d_D_chanceBy_18 : decode prog_5_method_2_code 18 = .ok (.iload_n 3, 1) := by decide +kernel
theorem d_D_chanceBy_19 : decode prog_5_method_2_code 19 = .ok (.if_icmp .gt 17, 3) := by decide +kernel
theorem d_D_chanceBy_22 : decode prog_5_method_2_code 22 = .ok (.aload_n 0, 1) := by decide +kernel
theorem d_D_chanceBy_23 : decode prog_5_method_2_code 23 = .ok (.getfield 11, 3) := by decide +kernel
theorem d_D_chanceBy_26 : decode prog_5_method_2_code 26 = .ok (.iload 6, 2) := by decide +kernel
theorem d_D_chanceBy_28 : decode prog_5_method_2_code 28 = .ok (.lconst 0, 1) := by decide +kernel
theorem d_D_chanceBy_29 : decode prog_5_method_2_code 29 = .ok (.lastore, 1) := by decide +kernel
theorem d_D_chanceBy_30 : decode prog_5_method_2_code 30 = .ok (.iinc 6 1, 3) := by decide +kernel
theorem d_D_chanceBy_33 : decode prog_5_method_2_code 33 = .ok (.goto (-17), 3) := by decide +kernel
theorem d_D_chanceBy_36 : decode prog_5_method_2_code 36 = .ok (.aload_n 0, 1) := by decide +kernel
theorem d_D_chanceBy_37 : decode prog_5_method_2_code 37 = .ok (.getfield 11, 3) := by decide +kernel
theorem d_D_chanceBy_40 : decode prog_5_method_2_code 40 = .ok (.iconst 0, 1) := by decide +kernel
theorem d_D_chanceBy_41 : decode prog_5_method_2_code 41 = .ok (.lconst 1, 1) := by decide +kernel
theorem d_D_chanceBy_42 : decode prog_5_method_2_code 42 = .ok (.lastore, 1) := by decide +kernel
theorem d_D_chanceBy_43 : decode prog_5_method_2_code 43 = .ok (.iconst 0, 1) := by decide +kernel
theorem d_D_chanceBy_44 : decode prog_5_method_2_code 44 = .ok (.istore 6, 2) := by decide +kernel
theorem d_D_chanceBy_46 : decode prog_5_method_2_code 46 = .ok (.iload 6, 2) := by decide +kernel
theorem d_D_chanceBy_48 : decode prog_5_method_2_code 48 = .ok (.aload_n 0, 1) := by decide +kernel
theorem d_D_chanceBy_49 : decode prog_5_method_2_code 49 = .ok (.getfield 39, 3) := by decide +kernel
theorem d_D_chanceBy_52 : decode prog_5_method_2_code 52 = .ok (.invokevirtual 53, 3) := by decide +kernel
theorem d_D_chanceBy_55 : decode prog_5_method_2_code 55 = .ok (.if_icmp .ge 42, 3) := by decide +kernel
theorem d_D_chanceBy_58 : decode prog_5_method_2_code 58 = .ok (.aload_n 0, 1) := by decide +kernel
theorem d_D_chanceBy_59 : decode prog_5_method_2_code 59 = .ok (.getfield 39, 3) := by decide +kernel
theorem d_D_chanceBy_62 : decode prog_5_method_2_code 62 = .ok (.iload 6, 2) := by decide +kernel
theorem d_D_chanceBy_64 : decode prog_5_method_2_code 64 = .ok (.invokevirtual 59, 3) := by decide +kernel
theorem d_D_chanceBy_67 : decode prog_5_method_2_code 67 = .ok (.ifCond .ne 24, 3) := by decide +kernel
theorem d_D_chanceBy_70 : decode prog_5_method_2_code 70 = .ok (.aload_n 0, 1) := by decide +kernel
theorem d_D_chanceBy_71 : decode prog_5_method_2_code 71 = .ok (.iload_n 1, 1) := by decide +kernel
theorem d_D_chanceBy_72 : decode prog_5_method_2_code 72 = .ok (.iload 6, 2) := by decide +kernel
theorem d_D_chanceBy_74 : decode prog_5_method_2_code 74 = .ok (.invokevirtual 63, 3) := by decide +kernel
theorem d_D_chanceBy_77 : decode prog_5_method_2_code 77 = .ok (.aload_n 0, 1) := by decide +kernel
theorem d_D_chanceBy_78 : decode prog_5_method_2_code 78 = .ok (.iload_n 3, 1) := by decide +kernel
theorem d_D_chanceBy_79 : decode prog_5_method_2_code 79 = .ok (.invokevirtual 67, 3) := by decide +kernel
theorem d_D_chanceBy_82 : decode prog_5_method_2_code 82 = .ok (.lload 4, 2) := by decide +kernel
theorem d_D_chanceBy_84 : decode prog_5_method_2_code 84 = .ok (.iload_n 1, 1) := by decide +kernel
theorem d_D_chanceBy_85 : decode prog_5_method_2_code 85 = .ok (.invokestatic 71, 3) := by decide +kernel
theorem d_D_chanceBy_88 : decode prog_5_method_2_code 88 = .ok (.lmul, 1) := by decide +kernel
theorem d_D_chanceBy_89 : decode prog_5_method_2_code 89 = .ok (.lstore 4, 2) := by decide +kernel
theorem d_D_chanceBy_91 : decode prog_5_method_2_code 91 = .ok (.iinc 6 1, 3) := by decide +kernel
theorem d_D_chanceBy_94 : decode prog_5_method_2_code 94 = .ok (.goto (-48), 3) := by decide +kernel
theorem d_D_chanceBy_97 : decode prog_5_method_2_code 97 = .ok (.lconst 0, 1) := by decide +kernel
theorem d_D_chanceBy_98 : decode prog_5_method_2_code 98 = .ok (.lstore 6, 2) := by decide +kernel
theorem d_D_chanceBy_100 : decode prog_5_method_2_code 100 = .ok (.iconst 0, 1) := by decide +kernel
theorem d_D_chanceBy_101 : decode prog_5_method_2_code 101 = .ok (.istore 8, 2) := by decide +kernel
theorem d_D_chanceBy_103 : decode prog_5_method_2_code 103 = .ok (.iload 8, 2) := by decide +kernel
theorem d_D_chanceBy_105 : decode prog_5_method_2_code 105 = .ok (.iload_n 3, 1) := by decide +kernel
theorem d_D_chanceBy_106 : decode prog_5_method_2_code 106 = .ok (.if_icmp .gt 21, 3) := by decide +kernel
theorem d_D_chanceBy_109 : decode prog_5_method_2_code 109 = .ok (.lload 6, 2) := by decide +kernel
theorem d_D_chanceBy_111 : decode prog_5_method_2_code 111 = .ok (.aload_n 0, 1) := by decide +kernel
theorem d_D_chanceBy_112 : decode prog_5_method_2_code 112 = .ok (.getfield 11, 3) := by decide +kernel
theorem d_D_chanceBy_115 : decode prog_5_method_2_code 115 = .ok (.iload 8, 2) := by decide +kernel
theorem d_D_chanceBy_117 : decode prog_5_method_2_code 117 = .ok (.laload, 1) := by decide +kernel
theorem d_D_chanceBy_118 : decode prog_5_method_2_code 118 = .ok (.ladd, 1) := by decide +kernel
theorem d_D_chanceBy_119 : decode prog_5_method_2_code 119 = .ok (.lstore 6, 2) := by decide +kernel
theorem d_D_chanceBy_121 : decode prog_5_method_2_code 121 = .ok (.iinc 8 1, 3) := by decide +kernel
theorem d_D_chanceBy_124 : decode prog_5_method_2_code 124 = .ok (.goto (-21), 3) := by decide +kernel
theorem d_D_chanceBy_127 : decode prog_5_method_2_code 127 = .ok (.aload_n 0, 1) := by decide +kernel
theorem d_D_chanceBy_128 : decode prog_5_method_2_code 128 = .ok (.lload 6, 2) := by decide +kernel
theorem d_D_chanceBy_130 : decode prog_5_method_2_code 130 = .ok (.lload 4, 2) := by decide +kernel
theorem d_D_chanceBy_132 : decode prog_5_method_2_code 132 = .ok (.invokevirtual 75, 3) := by decide +kernel
theorem d_D_chanceBy_135 : decode prog_5_method_2_code 135 = .ok (.return_, 1) := by decide +kernel
theorem d_D_longestOf_0 : decode prog_5_method_3_code 0 = .ok (.iconst 0, 1) := by decide +kernel
theorem d_D_longestOf_1 : decode prog_5_method_3_code 1 = .ok (.istore_n 2, 1) := by decide +kernel
theorem d_D_longestOf_2 : decode prog_5_method_3_code 2 = .ok (.iconst 0, 1) := by decide +kernel
theorem d_D_longestOf_3 : decode prog_5_method_3_code 3 = .ok (.istore_n 3, 1) := by decide +kernel
theorem d_D_longestOf_4 : decode prog_5_method_3_code 4 = .ok (.iload_n 3, 1) := by decide +kernel
theorem d_D_longestOf_5 : decode prog_5_method_3_code 5 = .ok (.aload_n 0, 1) := by decide +kernel
theorem d_D_longestOf_6 : decode prog_5_method_3_code 6 = .ok (.getfield 39, 3) := by decide +kernel
theorem d_D_longestOf_9 : decode prog_5_method_3_code 9 = .ok (.invokevirtual 53, 3) := by decide +kernel
theorem d_D_longestOf_12 : decode prog_5_method_3_code 12 = .ok (.if_icmp .ge 34, 3) := by decide +kernel
theorem d_D_longestOf_15 : decode prog_5_method_3_code 15 = .ok (.aload_n 0, 1) := by decide +kernel
theorem d_D_longestOf_16 : decode prog_5_method_3_code 16 = .ok (.getfield 39, 3) := by decide +kernel
theorem d_D_longestOf_19 : decode prog_5_method_3_code 19 = .ok (.iload_n 3, 1) := by decide +kernel
theorem d_D_longestOf_20 : decode prog_5_method_3_code 20 = .ok (.invokevirtual 59, 3) := by decide +kernel
theorem d_D_longestOf_23 : decode prog_5_method_3_code 23 = .ok (.ifCond .ne 17, 3) := by decide +kernel
theorem d_D_longestOf_26 : decode prog_5_method_3_code 26 = .ok (.iload_n 2, 1) := by decide +kernel
theorem d_D_longestOf_27 : decode prog_5_method_3_code 27 = .ok (.iconst 2, 1) := by decide +kernel
theorem d_D_longestOf_28 : decode prog_5_method_3_code 28 = .ok (.aload_n 0, 1) := by decide +kernel
theorem d_D_longestOf_29 : decode prog_5_method_3_code 29 = .ok (.getfield 39, 3) := by decide +kernel
theorem d_D_longestOf_32 : decode prog_5_method_3_code 32 = .ok (.iload_n 1, 1) := by decide +kernel
theorem d_D_longestOf_33 : decode prog_5_method_3_code 33 = .ok (.iload_n 3, 1) := by decide +kernel
theorem d_D_longestOf_34 : decode prog_5_method_3_code 34 = .ok (.invokevirtual 79, 3) := by decide +kernel
theorem d_D_longestOf_37 : decode prog_5_method_3_code 37 = .ok (.imul, 1) := by decide +kernel
theorem d_D_longestOf_38 : decode prog_5_method_3_code 38 = .ok (.iadd, 1) := by decide +kernel
theorem d_D_longestOf_39 : decode prog_5_method_3_code 39 = .ok (.istore_n 2, 1) := by decide +kernel
theorem d_D_longestOf_40 : decode prog_5_method_3_code 40 = .ok (.iinc 3 1, 3) := by decide +kernel
theorem d_D_longestOf_43 : decode prog_5_method_3_code 43 = .ok (.goto (-39), 3) := by decide +kernel
theorem d_D_longestOf_46 : decode prog_5_method_3_code 46 = .ok (.iload_n 2, 1) := by decide +kernel
theorem d_D_longestOf_47 : decode prog_5_method_3_code 47 = .ok (.sipush 3168, 3) := by decide +kernel
theorem d_D_longestOf_50 : decode prog_5_method_3_code 50 = .ok (.invokestatic 47, 3) := by decide +kernel
theorem d_D_longestOf_53 : decode prog_5_method_3_code 53 = .ok (.ireturn, 1) := by decide +kernel
theorem d_D_meanMinutes_0 : decode prog_5_method_4_code 0 = .ok (.lconst 0, 1) := by decide +kernel
theorem d_D_meanMinutes_1 : decode prog_5_method_4_code 1 = .ok (.lstore_n 2, 1) := by decide +kernel
theorem d_D_meanMinutes_2 : decode prog_5_method_4_code 2 = .ok (.iconst 0, 1) := by decide +kernel
theorem d_D_meanMinutes_3 : decode prog_5_method_4_code 3 = .ok (.istore 4, 2) := by decide +kernel
theorem d_D_meanMinutes_5 : decode prog_5_method_4_code 5 = .ok (.iload 4, 2) := by decide +kernel
theorem d_D_meanMinutes_7 : decode prog_5_method_4_code 7 = .ok (.aload_n 0, 1) := by decide +kernel
theorem d_D_meanMinutes_8 : decode prog_5_method_4_code 8 = .ok (.getfield 39, 3) := by decide +kernel
theorem d_D_meanMinutes_11 : decode prog_5_method_4_code 11 = .ok (.invokevirtual 53, 3) := by decide +kernel
theorem d_D_meanMinutes_14 : decode prog_5_method_4_code 14 = .ok (.if_icmp .ge 66, 3) := by decide +kernel
theorem d_D_meanMinutes_17 : decode prog_5_method_4_code 17 = .ok (.aload_n 0, 1) := by decide +kernel
theorem d_D_meanMinutes_18 : decode prog_5_method_4_code 18 = .ok (.getfield 39, 3) := by decide +kernel
theorem d_D_meanMinutes_21 : decode prog_5_method_4_code 21 = .ok (.iload 4, 2) := by decide +kernel
theorem d_D_meanMinutes_23 : decode prog_5_method_4_code 23 = .ok (.invokevirtual 59, 3) := by decide +kernel
theorem d_D_meanMinutes_26 : decode prog_5_method_4_code 26 = .ok (.ifCond .ne 48, 3) := by decide +kernel
theorem d_D_meanMinutes_29 : decode prog_5_method_4_code 29 = .ok (.aload_n 0, 1) := by decide +kernel
theorem d_D_meanMinutes_30 : decode prog_5_method_4_code 30 = .ok (.iload_n 1, 1) := by decide +kernel
theorem d_D_meanMinutes_31 : decode prog_5_method_4_code 31 = .ok (.iload 4, 2) := by decide +kernel
theorem d_D_meanMinutes_33 : decode prog_5_method_4_code 33 = .ok (.invokevirtual 63, 3) := by decide +kernel
theorem d_D_meanMinutes_36 : decode prog_5_method_4_code 36 = .ok (.iconst 0, 1) := by decide +kernel
theorem d_D_meanMinutes_37 : decode prog_5_method_4_code 37 = .ok (.istore 5, 2) := by decide +kernel
theorem d_D_meanMinutes_39 : decode prog_5_method_4_code 39 = .ok (.iload 5, 2) := by decide +kernel
theorem d_D_meanMinutes_41 : decode prog_5_method_4_code 41 = .ok (.aload_n 0, 1) := by decide +kernel
theorem d_D_meanMinutes_42 : decode prog_5_method_4_code 42 = .ok (.getfield 28, 3) := by decide +kernel
theorem d_D_meanMinutes_45 : decode prog_5_method_4_code 45 = .ok (.if_icmp .ge 29, 3) := by decide +kernel
theorem d_D_meanMinutes_48 : decode prog_5_method_4_code 48 = .ok (.lload_n 2, 1) := by decide +kernel
theorem d_D_meanMinutes_49 : decode prog_5_method_4_code 49 = .ok (.aload_n 0, 1) := by decide +kernel
theorem d_D_meanMinutes_50 : decode prog_5_method_4_code 50 = .ok (.getfield 22, 3) := by decide +kernel
theorem d_D_meanMinutes_53 : decode prog_5_method_4_code 53 = .ok (.iload 5, 2) := by decide +kernel
theorem d_D_meanMinutes_55 : decode prog_5_method_4_code 55 = .ok (.iaload, 1) := by decide +kernel
theorem d_D_meanMinutes_56 : decode prog_5_method_4_code 56 = .ok (.i2l, 1) := by decide +kernel
theorem d_D_meanMinutes_57 : decode prog_5_method_4_code 57 = .ok (.aload_n 0, 1) := by decide +kernel
theorem d_D_meanMinutes_58 : decode prog_5_method_4_code 58 = .ok (.getfield 25, 3) := by decide +kernel
theorem d_D_meanMinutes_61 : decode prog_5_method_4_code 61 = .ok (.iload 5, 2) := by decide +kernel
theorem d_D_meanMinutes_63 : decode prog_5_method_4_code 63 = .ok (.iaload, 1) := by decide +kernel
theorem d_D_meanMinutes_64 : decode prog_5_method_4_code 64 = .ok (.i2l, 1) := by decide +kernel
theorem d_D_meanMinutes_65 : decode prog_5_method_4_code 65 = .ok (.lmul, 1) := by decide +kernel
theorem d_D_meanMinutes_66 : decode prog_5_method_4_code 66 = .ok (.ladd, 1) := by decide +kernel
theorem d_D_meanMinutes_67 : decode prog_5_method_4_code 67 = .ok (.lstore_n 2, 1) := by decide +kernel
theorem d_D_meanMinutes_68 : decode prog_5_method_4_code 68 = .ok (.iinc 5 1, 3) := by decide +kernel
theorem d_D_meanMinutes_71 : decode prog_5_method_4_code 71 = .ok (.goto (-32), 3) := by decide +kernel
theorem d_D_meanMinutes_74 : decode prog_5_method_4_code 74 = .ok (.iinc 4 1, 3) := by decide +kernel
theorem d_D_meanMinutes_77 : decode prog_5_method_4_code 77 = .ok (.goto (-72), 3) := by decide +kernel
theorem d_D_meanMinutes_80 : decode prog_5_method_4_code 80 = .ok (.aload_n 0, 1) := by decide +kernel
theorem d_D_meanMinutes_81 : decode prog_5_method_4_code 81 = .ok (.lload_n 2, 1) := by decide +kernel
theorem d_D_meanMinutes_82 : decode prog_5_method_4_code 82 = .ok (.iload_n 1, 1) := by decide +kernel
theorem d_D_meanMinutes_83 : decode prog_5_method_4_code 83 = .ok (.invokestatic 71, 3) := by decide +kernel
theorem d_D_meanMinutes_86 : decode prog_5_method_4_code 86 = .ok (.invokevirtual 75, 3) := by decide +kernel
theorem d_D_meanMinutes_89 : decode prog_5_method_4_code 89 = .ok (.return_, 1) := by decide +kernel
theorem d_D_casesOf_0 : decode prog_5_method_5_code 0 = .ok (.lconst 1, 1) := by decide +kernel
theorem d_D_casesOf_1 : decode prog_5_method_5_code 1 = .ok (.iconst 2, 1) := by decide +kernel
theorem d_D_casesOf_2 : decode prog_5_method_5_code 2 = .ok (.iload_n 0, 1) := by decide +kernel
theorem d_D_casesOf_3 : decode prog_5_method_5_code 3 = .ok (.invokestatic 82, 3) := by decide +kernel
theorem d_D_casesOf_6 : decode prog_5_method_5_code 6 = .ok (.imul, 1) := by decide +kernel
theorem d_D_casesOf_7 : decode prog_5_method_5_code 7 = .ok (.lshl, 1) := by decide +kernel
theorem d_D_casesOf_8 : decode prog_5_method_5_code 8 = .ok (.lreturn, 1) := by decide +kernel
theorem d_D_findOutcomes_0 : decode prog_5_method_6_code 0 = .ok (.iconst 0, 1) := by decide +kernel
theorem d_D_findOutcomes_1 : decode prog_5_method_6_code 1 = .ok (.istore_n 3, 1) := by decide +kernel
theorem d_D_findOutcomes_2 : decode prog_5_method_6_code 2 = .ok (.iconst 0, 1) := by decide +kernel
theorem d_D_findOutcomes_3 : decode prog_5_method_6_code 3 = .ok (.istore 4, 2) := by decide +kernel
theorem d_D_findOutcomes_5 : decode prog_5_method_6_code 5 = .ok (.iload 4, 2) := by decide +kernel
theorem d_D_findOutcomes_7 : decode prog_5_method_6_code 7 = .ok (.bipush 6, 2) := by decide +kernel
theorem d_D_findOutcomes_9 : decode prog_5_method_6_code 9 = .ok (.if_icmp .ge 60, 3) := by decide +kernel
theorem d_D_findOutcomes_12 : decode prog_5_method_6_code 12 = .ok (.iload_n 3, 1) := by decide +kernel
theorem d_D_findOutcomes_13 : decode prog_5_method_6_code 13 = .ok (.iconst 3, 1) := by decide +kernel
theorem d_D_findOutcomes_14 : decode prog_5_method_6_code 14 = .ok (.if_icmp .ge 55, 3) := by decide +kernel
theorem d_D_findOutcomes_17 : decode prog_5_method_6_code 17 = .ok (.iload_n 1, 1) := by decide +kernel
theorem d_D_findOutcomes_18 : decode prog_5_method_6_code 18 = .ok (.iload 4, 2) := by decide +kernel
theorem d_D_findOutcomes_20 : decode prog_5_method_6_code 20 = .ok (.invokestatic 87, 3) := by decide +kernel
theorem d_D_findOutcomes_23 : decode prog_5_method_6_code 23 = .ok (.ifCond .eq 40, 3) := by decide +kernel
theorem d_D_findOutcomes_26 : decode prog_5_method_6_code 26 = .ok (.aload_n 0, 1) := by decide +kernel
theorem d_D_findOutcomes_27 : decode prog_5_method_6_code 27 = .ok (.getfield 15, 3) := by decide +kernel
theorem d_D_findOutcomes_30 : decode prog_5_method_6_code 30 = .ok (.iload_n 3, 1) := by decide +kernel
theorem d_D_findOutcomes_31 : decode prog_5_method_6_code 31 = .ok (.aload_n 0, 1) := by decide +kernel
theorem d_D_findOutcomes_32 : decode prog_5_method_6_code 32 = .ok (.getfield 39, 3) := by decide +kernel
theorem d_D_findOutcomes_35 : decode prog_5_method_6_code 35 = .ok (.iload 4, 2) := by decide +kernel
theorem d_D_findOutcomes_37 : decode prog_5_method_6_code 37 = .ok (.iload_n 2, 1) := by decide +kernel
theorem d_D_findOutcomes_38 : decode prog_5_method_6_code 38 = .ok (.invokevirtual 91, 3) := by decide +kernel
theorem d_D_findOutcomes_41 : decode prog_5_method_6_code 41 = .ok (.iastore, 1) := by decide +kernel
theorem d_D_findOutcomes_42 : decode prog_5_method_6_code 42 = .ok (.aload_n 0, 1) := by decide +kernel
theorem d_D_findOutcomes_43 : decode prog_5_method_6_code 43 = .ok (.getfield 19, 3) := by decide +kernel
theorem d_D_findOutcomes_46 : decode prog_5_method_6_code 46 = .ok (.iload_n 3, 1) := by decide +kernel
theorem d_D_findOutcomes_47 : decode prog_5_method_6_code 47 = .ok (.aload_n 0, 1) := by decide +kernel
theorem d_D_findOutcomes_48 : decode prog_5_method_6_code 48 = .ok (.getfield 39, 3) := by decide +kernel
theorem d_D_findOutcomes_51 : decode prog_5_method_6_code 51 = .ok (.iload 4, 2) := by decide +kernel
theorem d_D_findOutcomes_53 : decode prog_5_method_6_code 53 = .ok (.invokevirtual 94, 3) := by decide +kernel
theorem d_D_findOutcomes_56 : decode prog_5_method_6_code 56 = .ok (.invokevirtual 98, 3) := by decide +kernel
theorem d_D_findOutcomes_59 : decode prog_5_method_6_code 59 = .ok (.iastore, 1) := by decide +kernel
theorem d_D_findOutcomes_60 : decode prog_5_method_6_code 60 = .ok (.iinc 3 1, 3) := by decide +kernel
theorem d_D_findOutcomes_63 : decode prog_5_method_6_code 63 = .ok (.iinc 4 1, 3) := by decide +kernel
theorem d_D_findOutcomes_66 : decode prog_5_method_6_code 66 = .ok (.goto (-61), 3) := by decide +kernel
theorem d_D_findOutcomes_69 : decode prog_5_method_6_code 69 = .ok (.aload_n 0, 1) := by decide +kernel
theorem d_D_findOutcomes_70 : decode prog_5_method_6_code 70 = .ok (.iconst 0, 1) := by decide +kernel
theorem d_D_findOutcomes_71 : decode prog_5_method_6_code 71 = .ok (.putfield 28, 3) := by decide +kernel
theorem d_D_findOutcomes_74 : decode prog_5_method_6_code 74 = .ok (.iconst 0, 1) := by decide +kernel
theorem d_D_findOutcomes_75 : decode prog_5_method_6_code 75 = .ok (.istore 4, 2) := by decide +kernel
theorem d_D_findOutcomes_77 : decode prog_5_method_6_code 77 = .ok (.iload 4, 2) := by decide +kernel
theorem d_D_findOutcomes_79 : decode prog_5_method_6_code 79 = .ok (.iconst 1, 1) := by decide +kernel
theorem d_D_findOutcomes_80 : decode prog_5_method_6_code 80 = .ok (.iload_n 3, 1) := by decide +kernel
theorem d_D_findOutcomes_81 : decode prog_5_method_6_code 81 = .ok (.ishl, 1) := by decide +kernel
theorem d_D_findOutcomes_82 : decode prog_5_method_6_code 82 = .ok (.if_icmp .ge 107, 3) := by decide +kernel
theorem d_D_findOutcomes_85 : decode prog_5_method_6_code 85 = .ok (.iconst 0, 1) := by decide +kernel
theorem d_D_findOutcomes_86 : decode prog_5_method_6_code 86 = .ok (.istore 5, 2) := by decide +kernel
theorem d_D_findOutcomes_88 : decode prog_5_method_6_code 88 = .ok (.iconst 1, 1) := by decide +kernel
theorem d_D_findOutcomes_89 : decode prog_5_method_6_code 89 = .ok (.istore 6, 2) := by decide +kernel
theorem d_D_findOutcomes_91 : decode prog_5_method_6_code 91 = .ok (.iconst 0, 1) := by decide +kernel
theorem d_D_findOutcomes_92 : decode prog_5_method_6_code 92 = .ok (.istore 7, 2) := by decide +kernel
theorem d_D_findOutcomes_94 : decode prog_5_method_6_code 94 = .ok (.iload 7, 2) := by decide +kernel
theorem d_D_findOutcomes_96 : decode prog_5_method_6_code 96 = .ok (.iload_n 3, 1) := by decide +kernel
theorem d_D_findOutcomes_97 : decode prog_5_method_6_code 97 = .ok (.if_icmp .ge 78, 3) := by decide +kernel
theorem d_D_findOutcomes_100 : decode prog_5_method_6_code 100 = .ok (.iload 4, 2) := by decide +kernel
theorem d_D_findOutcomes_102 : decode prog_5_method_6_code 102 = .ok (.iload 7, 2) := by decide +kernel
theorem d_D_findOutcomes_104 : decode prog_5_method_6_code 104 = .ok (.invokestatic 87, 3) := by decide +kernel
theorem d_D_findOutcomes_107 : decode prog_5_method_6_code 107 = .ok (.istore 8, 2) := by decide +kernel
theorem d_D_findOutcomes_109 : decode prog_5_method_6_code 109 = .ok (.iload 5, 2) := by decide +kernel
theorem d_D_findOutcomes_111 : decode prog_5_method_6_code 111 = .ok (.iload 8, 2) := by decide +kernel
theorem d_D_findOutcomes_113 : decode prog_5_method_6_code 113 = .ok (.ifCond .eq 15, 3) := by decide +kernel
theorem d_D_findOutcomes_116 : decode prog_5_method_6_code 116 = .ok (.iconst 2, 1) := by decide +kernel
theorem d_D_findOutcomes_117 : decode prog_5_method_6_code 117 = .ok (.aload_n 0, 1) := by decide +kernel
theorem d_D_findOutcomes_118 : decode prog_5_method_6_code 118 = .ok (.getfield 15, 3) := by decide +kernel
theorem d_D_findOutcomes_121 : decode prog_5_method_6_code 121 = .ok (.iload 7, 2) := by decide +kernel
theorem d_D_findOutcomes_123 : decode prog_5_method_6_code 123 = .ok (.iaload, 1) := by decide +kernel
theorem d_D_findOutcomes_124 : decode prog_5_method_6_code 124 = .ok (.imul, 1) := by decide +kernel
theorem d_D_findOutcomes_125 : decode prog_5_method_6_code 125 = .ok (.goto 10, 3) := by decide +kernel
theorem d_D_findOutcomes_128 : decode prog_5_method_6_code 128 = .ok (.aload_n 0, 1) := by decide +kernel
theorem d_D_findOutcomes_129 : decode prog_5_method_6_code 129 = .ok (.getfield 15, 3) := by decide +kernel
theorem d_D_findOutcomes_132 : decode prog_5_method_6_code 132 = .ok (.iload 7, 2) := by decide +kernel
theorem d_D_findOutcomes_134 : decode prog_5_method_6_code 134 = .ok (.iaload, 1) := by decide +kernel
theorem d_D_findOutcomes_135 : decode prog_5_method_6_code 135 = .ok (.invokestatic 103, 3) := by decide +kernel
theorem d_D_findOutcomes_138 : decode prog_5_method_6_code 138 = .ok (.istore 5, 2) := by decide +kernel
theorem d_D_findOutcomes_140 : decode prog_5_method_6_code 140 = .ok (.iload 6, 2) := by decide +kernel
theorem d_D_findOutcomes_142 : decode prog_5_method_6_code 142 = .ok (.iload 8, 2) := by decide +kernel
theorem d_D_findOutcomes_144 : decode prog_5_method_6_code 144 = .ok (.ifCond .eq 13, 3) := by decide +kernel
theorem d_D_findOutcomes_147 : decode prog_5_method_6_code 147 = .ok (.aload_n 0, 1) := by decide +kernel
theorem d_D_findOutcomes_148 : decode prog_5_method_6_code 148 = .ok (.getfield 19, 3) := by decide +kernel
theorem d_D_findOutcomes_151 : decode prog_5_method_6_code 151 = .ok (.iload 7, 2) := by decide +kernel
theorem d_D_findOutcomes_153 : decode prog_5_method_6_code 153 = .ok (.iaload, 1) := by decide +kernel
theorem d_D_findOutcomes_154 : decode prog_5_method_6_code 154 = .ok (.goto 12, 3) := by decide +kernel
theorem d_D_findOutcomes_157 : decode prog_5_method_6_code 157 = .ok (.iconst 4, 1) := by decide +kernel
theorem d_D_findOutcomes_158 : decode prog_5_method_6_code 158 = .ok (.aload_n 0, 1) := by decide +kernel
theorem d_D_findOutcomes_159 : decode prog_5_method_6_code 159 = .ok (.getfield 19, 3) := by decide +kernel
theorem d_D_findOutcomes_162 : decode prog_5_method_6_code 162 = .ok (.iload 7, 2) := by decide +kernel
theorem d_D_findOutcomes_164 : decode prog_5_method_6_code 164 = .ok (.iaload, 1) := by decide +kernel
theorem d_D_findOutcomes_165 : decode prog_5_method_6_code 165 = .ok (.isub, 1) := by decide +kernel
theorem d_D_findOutcomes_166 : decode prog_5_method_6_code 166 = .ok (.imul, 1) := by decide +kernel
theorem d_D_findOutcomes_167 : decode prog_5_method_6_code 167 = .ok (.istore 6, 2) := by decide +kernel
theorem d_D_findOutcomes_169 : decode prog_5_method_6_code 169 = .ok (.iinc 7 1, 3) := by decide +kernel
theorem d_D_findOutcomes_172 : decode prog_5_method_6_code 172 = .ok (.goto (-78), 3) := by decide +kernel
theorem d_D_findOutcomes_175 : decode prog_5_method_6_code 175 = .ok (.aload_n 0, 1) := by decide +kernel
theorem d_D_findOutcomes_176 : decode prog_5_method_6_code 176 = .ok (.iload 5, 2) := by decide +kernel
theorem d_D_findOutcomes_178 : decode prog_5_method_6_code 178 = .ok (.iload 6, 2) := by decide +kernel
theorem d_D_findOutcomes_180 : decode prog_5_method_6_code 180 = .ok (.invokevirtual 106, 3) := by decide +kernel
theorem d_D_findOutcomes_183 : decode prog_5_method_6_code 183 = .ok (.iinc 4 1, 3) := by decide +kernel
theorem d_D_findOutcomes_186 : decode prog_5_method_6_code 186 = .ok (.goto (-109), 3) := by decide +kernel
theorem d_D_findOutcomes_189 : decode prog_5_method_6_code 189 = .ok (.return_, 1) := by decide +kernel
theorem d_D_addOutcome_0 : decode prog_5_method_7_code 0 = .ok (.iload_n 2, 1) := by decide +kernel
theorem d_D_addOutcome_1 : decode prog_5_method_7_code 1 = .ok (.ifCond .ne 4, 3) := by decide +kernel
theorem d_D_addOutcome_4 : decode prog_5_method_7_code 4 = .ok (.return_, 1) := by decide +kernel
theorem d_D_addOutcome_5 : decode prog_5_method_7_code 5 = .ok (.iconst 0, 1) := by decide +kernel
theorem d_D_addOutcome_6 : decode prog_5_method_7_code 6 = .ok (.istore_n 3, 1) := by decide +kernel
theorem d_D_addOutcome_7 : decode prog_5_method_7_code 7 = .ok (.iload_n 3, 1) := by decide +kernel
theorem d_D_addOutcome_8 : decode prog_5_method_7_code 8 = .ok (.aload_n 0, 1) := by decide +kernel
theorem d_D_addOutcome_9 : decode prog_5_method_7_code 9 = .ok (.getfield 28, 3) := by decide +kernel
theorem d_D_addOutcome_12 : decode prog_5_method_7_code 12 = .ok (.if_icmp .ge 30, 3) := by decide +kernel
theorem d_D_addOutcome_15 : decode prog_5_method_7_code 15 = .ok (.aload_n 0, 1) := by decide +kernel
theorem d_D_addOutcome_16 : decode prog_5_method_7_code 16 = .ok (.getfield 22, 3) := by decide +kernel
theorem d_D_addOutcome_19 : decode prog_5_method_7_code 19 = .ok (.iload_n 3, 1) := by decide +kernel
theorem d_D_addOutcome_20 : decode prog_5_method_7_code 20 = .ok (.iaload, 1) := by decide +kernel
theorem d_D_addOutcome_21 : decode prog_5_method_7_code 21 = .ok (.iload_n 1, 1) := by decide +kernel
theorem d_D_addOutcome_22 : decode prog_5_method_7_code 22 = .ok (.if_icmp .ne 14, 3) := by decide +kernel
theorem d_D_addOutcome_25 : decode prog_5_method_7_code 25 = .ok (.aload_n 0, 1) := by decide +kernel
theorem d_D_addOutcome_26 : decode prog_5_method_7_code 26 = .ok (.getfield 25, 3) := by decide +kernel
theorem d_D_addOutcome_29 : decode prog_5_method_7_code 29 = .ok (.iload_n 3, 1) := by decide +kernel
theorem d_D_addOutcome_30 : decode prog_5_method_7_code 30 = .ok (.dup2, 1) := by decide +kernel
theorem d_D_addOutcome_31 : decode prog_5_method_7_code 31 = .ok (.iaload, 1) := by decide +kernel
theorem d_D_addOutcome_32 : decode prog_5_method_7_code 32 = .ok (.iload_n 2, 1) := by decide +kernel
theorem d_D_addOutcome_33 : decode prog_5_method_7_code 33 = .ok (.iadd, 1) := by decide +kernel
theorem d_D_addOutcome_34 : decode prog_5_method_7_code 34 = .ok (.iastore, 1) := by decide +kernel
theorem d_D_addOutcome_35 : decode prog_5_method_7_code 35 = .ok (.return_, 1) := by decide +kernel
theorem d_D_addOutcome_36 : decode prog_5_method_7_code 36 = .ok (.iinc 3 1, 3) := by decide +kernel
theorem d_D_addOutcome_39 : decode prog_5_method_7_code 39 = .ok (.goto (-32), 3) := by decide +kernel
theorem d_D_addOutcome_42 : decode prog_5_method_7_code 42 = .ok (.aload_n 0, 1) := by decide +kernel
theorem d_D_addOutcome_43 : decode prog_5_method_7_code 43 = .ok (.getfield 28, 3) := by decide +kernel
theorem d_D_addOutcome_46 : decode prog_5_method_7_code 46 = .ok (.bipush 8, 2) := by decide +kernel
theorem d_D_addOutcome_48 : decode prog_5_method_7_code 48 = .ok (.if_icmp .ge 33, 3) := by decide +kernel
theorem d_D_addOutcome_51 : decode prog_5_method_7_code 51 = .ok (.aload_n 0, 1) := by decide +kernel
theorem d_D_addOutcome_52 : decode prog_5_method_7_code 52 = .ok (.getfield 22, 3) := by decide +kernel
theorem d_D_addOutcome_55 : decode prog_5_method_7_code 55 = .ok (.aload_n 0, 1) := by decide +kernel
theorem d_D_addOutcome_56 : decode prog_5_method_7_code 56 = .ok (.getfield 28, 3) := by decide +kernel
theorem d_D_addOutcome_59 : decode prog_5_method_7_code 59 = .ok (.iload_n 1, 1) := by decide +kernel
theorem d_D_addOutcome_60 : decode prog_5_method_7_code 60 = .ok (.iastore, 1) := by decide +kernel
theorem d_D_addOutcome_61 : decode prog_5_method_7_code 61 = .ok (.aload_n 0, 1) := by decide +kernel
theorem d_D_addOutcome_62 : decode prog_5_method_7_code 62 = .ok (.getfield 25, 3) := by decide +kernel
theorem d_D_addOutcome_65 : decode prog_5_method_7_code 65 = .ok (.aload_n 0, 1) := by decide +kernel
theorem d_D_addOutcome_66 : decode prog_5_method_7_code 66 = .ok (.getfield 28, 3) := by decide +kernel
theorem d_D_addOutcome_69 : decode prog_5_method_7_code 69 = .ok (.iload_n 2, 1) := by decide +kernel
theorem d_D_addOutcome_70 : decode prog_5_method_7_code 70 = .ok (.iastore, 1) := by decide +kernel
theorem d_D_addOutcome_71 : decode prog_5_method_7_code 71 = .ok (.aload_n 0, 1) := by decide +kernel
theorem d_D_addOutcome_72 : decode prog_5_method_7_code 72 = .ok (.dup, 1) := by decide +kernel
theorem d_D_addOutcome_73 : decode prog_5_method_7_code 73 = .ok (.getfield 28, 3) := by decide +kernel
theorem d_D_addOutcome_76 : decode prog_5_method_7_code 76 = .ok (.iconst 1, 1) := by decide +kernel
theorem d_D_addOutcome_77 : decode prog_5_method_7_code 77 = .ok (.iadd, 1) := by decide +kernel
theorem d_D_addOutcome_78 : decode prog_5_method_7_code 78 = .ok (.putfield 28, 3) := by decide +kernel
theorem d_D_addOutcome_81 : decode prog_5_method_7_code 81 = .ok (.return_, 1) := by decide +kernel
theorem d_D_readOn_0 : decode prog_5_method_8_code 0 = .ok (.iload_n 1, 1) := by decide +kernel
theorem d_D_readOn_1 : decode prog_5_method_8_code 1 = .ok (.istore_n 2, 1) := by decide +kernel
theorem d_D_readOn_2 : decode prog_5_method_8_code 2 = .ok (.iload_n 2, 1) := by decide +kernel
theorem d_D_readOn_3 : decode prog_5_method_8_code 3 = .ok (.ifCond .lt 73, 3) := by decide +kernel
theorem d_D_readOn_6 : decode prog_5_method_8_code 6 = .ok (.lconst 0, 1) := by decide +kernel
theorem d_D_readOn_7 : decode prog_5_method_8_code 7 = .ok (.lstore_n 3, 1) := by decide +kernel
theorem d_D_readOn_8 : decode prog_5_method_8_code 8 = .ok (.iconst 0, 1) := by decide +kernel
theorem d_D_readOn_9 : decode prog_5_method_8_code 9 = .ok (.istore 5, 2) := by decide +kernel
theorem d_D_readOn_11 : decode prog_5_method_8_code 11 = .ok (.iload 5, 2) := by decide +kernel
theorem d_D_readOn_13 : decode prog_5_method_8_code 13 = .ok (.aload_n 0, 1) := by decide +kernel
theorem d_D_readOn_14 : decode prog_5_method_8_code 14 = .ok (.getfield 28, 3) := by decide +kernel
theorem d_D_readOn_17 : decode prog_5_method_8_code 17 = .ok (.if_icmp .ge 46, 3) := by decide +kernel
theorem d_D_readOn_20 : decode prog_5_method_8_code 20 = .ok (.aload_n 0, 1) := by decide +kernel
theorem d_D_readOn_21 : decode prog_5_method_8_code 21 = .ok (.getfield 22, 3) := by decide +kernel
theorem d_D_readOn_24 : decode prog_5_method_8_code 24 = .ok (.iload 5, 2) := by decide +kernel
theorem d_D_readOn_26 : decode prog_5_method_8_code 26 = .ok (.iaload, 1) := by decide +kernel
theorem d_D_readOn_27 : decode prog_5_method_8_code 27 = .ok (.iload_n 2, 1) := by decide +kernel
theorem d_D_readOn_28 : decode prog_5_method_8_code 28 = .ok (.if_icmp .gt 29, 3) := by decide +kernel
theorem d_D_readOn_31 : decode prog_5_method_8_code 31 = .ok (.lload_n 3, 1) := by decide +kernel
theorem d_D_readOn_32 : decode prog_5_method_8_code 32 = .ok (.aload_n 0, 1) := by decide +kernel
theorem d_D_readOn_33 : decode prog_5_method_8_code 33 = .ok (.getfield 25, 3) := by decide +kernel
theorem d_D_readOn_36 : decode prog_5_method_8_code 36 = .ok (.iload 5, 2) := by decide +kernel
theorem d_D_readOn_38 : decode prog_5_method_8_code 38 = .ok (.iaload, 1) := by decide +kernel
theorem d_D_readOn_39 : decode prog_5_method_8_code 39 = .ok (.i2l, 1) := by decide +kernel
theorem d_D_readOn_40 : decode prog_5_method_8_code 40 = .ok (.aload_n 0, 1) := by decide +kernel
theorem d_D_readOn_41 : decode prog_5_method_8_code 41 = .ok (.getfield 11, 3) := by decide +kernel
theorem d_D_readOn_44 : decode prog_5_method_8_code 44 = .ok (.iload_n 2, 1) := by decide +kernel
theorem d_D_readOn_45 : decode prog_5_method_8_code 45 = .ok (.aload_n 0, 1) := by decide +kernel
theorem d_D_readOn_46 : decode prog_5_method_8_code 46 = .ok (.getfield 22, 3) := by decide +kernel
theorem d_D_readOn_49 : decode prog_5_method_8_code 49 = .ok (.iload 5, 2) := by decide +kernel
theorem d_D_readOn_51 : decode prog_5_method_8_code 51 = .ok (.iaload, 1) := by decide +kernel
theorem d_D_readOn_52 : decode prog_5_method_8_code 52 = .ok (.isub, 1) := by decide +kernel
theorem d_D_readOn_53 : decode prog_5_method_8_code 53 = .ok (.laload, 1) := by decide +kernel
theorem d_D_readOn_54 : decode prog_5_method_8_code 54 = .ok (.lmul, 1) := by decide +kernel
theorem d_D_readOn_55 : decode prog_5_method_8_code 55 = .ok (.ladd, 1) := by decide +kernel
theorem d_D_readOn_56 : decode prog_5_method_8_code 56 = .ok (.lstore_n 3, 1) := by decide +kernel
theorem d_D_readOn_57 : decode prog_5_method_8_code 57 = .ok (.iinc 5 1, 3) := by decide +kernel
theorem d_D_readOn_60 : decode prog_5_method_8_code 60 = .ok (.goto (-49), 3) := by decide +kernel
theorem d_D_readOn_63 : decode prog_5_method_8_code 63 = .ok (.aload_n 0, 1) := by decide +kernel
theorem d_D_readOn_64 : decode prog_5_method_8_code 64 = .ok (.getfield 11, 3) := by decide +kernel
theorem d_D_readOn_67 : decode prog_5_method_8_code 67 = .ok (.iload_n 2, 1) := by decide +kernel
theorem d_D_readOn_68 : decode prog_5_method_8_code 68 = .ok (.lload_n 3, 1) := by decide +kernel
theorem d_D_readOn_69 : decode prog_5_method_8_code 69 = .ok (.lastore, 1) := by decide +kernel
theorem d_D_readOn_70 : decode prog_5_method_8_code 70 = .ok (.iinc 2 (-1), 3) := by decide +kernel
theorem d_D_readOn_73 : decode prog_5_method_8_code 73 = .ok (.goto (-71), 3) := by decide +kernel
theorem d_D_readOn_76 : decode prog_5_method_8_code 76 = .ok (.return_, 1) := by decide +kernel
theorem d_D_reduce_0 : decode prog_5_method_9_code 0 = .ok (.lload_n 1, 1) := by decide +kernel
theorem d_D_reduce_1 : decode prog_5_method_9_code 1 = .ok (.lload_n 3, 1) := by decide +kernel
theorem d_D_reduce_2 : decode prog_5_method_9_code 2 = .ok (.invokestatic 109, 3) := by decide +kernel
theorem d_D_reduce_5 : decode prog_5_method_9_code 5 = .ok (.lstore 5, 2) := by decide +kernel
theorem d_D_reduce_7 : decode prog_5_method_9_code 7 = .ok (.aload_n 0, 1) := by decide +kernel
theorem d_D_reduce_8 : decode prog_5_method_9_code 8 = .ok (.lload 5, 2) := by decide +kernel
theorem d_D_reduce_10 : decode prog_5_method_9_code 10 = .ok (.lconst 1, 1) := by decide +kernel
theorem d_D_reduce_11 : decode prog_5_method_9_code 11 = .ok (.lcmp, 1) := by decide +kernel
theorem d_D_reduce_12 : decode prog_5_method_9_code 12 = .ok (.ifCond .le 10, 3) := by decide +kernel
theorem d_D_reduce_15 : decode prog_5_method_9_code 15 = .ok (.lload_n 1, 1) := by decide +kernel
theorem d_D_reduce_16 : decode prog_5_method_9_code 16 = .ok (.lload 5, 2) := by decide +kernel
theorem d_D_reduce_18 : decode prog_5_method_9_code 18 = .ok (.ldiv, 1) := by decide +kernel
theorem d_D_reduce_19 : decode prog_5_method_9_code 19 = .ok (.goto 4, 3) := by decide +kernel
theorem d_D_reduce_22 : decode prog_5_method_9_code 22 = .ok (.lload_n 1, 1) := by decide +kernel
theorem d_D_reduce_23 : decode prog_5_method_9_code 23 = .ok (.putfield 32, 3) := by decide +kernel
theorem d_D_reduce_26 : decode prog_5_method_9_code 26 = .ok (.aload_n 0, 1) := by decide +kernel
theorem d_D_reduce_27 : decode prog_5_method_9_code 27 = .ok (.lload 5, 2) := by decide +kernel
theorem d_D_reduce_29 : decode prog_5_method_9_code 29 = .ok (.lconst 1, 1) := by decide +kernel
theorem d_D_reduce_30 : decode prog_5_method_9_code 30 = .ok (.lcmp, 1) := by decide +kernel
theorem d_D_reduce_31 : decode prog_5_method_9_code 31 = .ok (.ifCond .le 10, 3) := by decide +kernel
theorem d_D_reduce_34 : decode prog_5_method_9_code 34 = .ok (.lload_n 3, 1) := by decide +kernel
theorem d_D_reduce_35 : decode prog_5_method_9_code 35 = .ok (.lload 5, 2) := by decide +kernel
theorem d_D_reduce_37 : decode prog_5_method_9_code 37 = .ok (.ldiv, 1) := by decide +kernel
theorem d_D_reduce_38 : decode prog_5_method_9_code 38 = .ok (.goto 4, 3) := by decide +kernel
theorem d_D_reduce_41 : decode prog_5_method_9_code 41 = .ok (.lload_n 3, 1) := by decide +kernel
theorem d_D_reduce_42 : decode prog_5_method_9_code 42 = .ok (.putfield 36, 3) := by decide +kernel
theorem d_D_reduce_45 : decode prog_5_method_9_code 45 = .ok (.return_, 1) := by decide +kernel
theorem d_D_commonDivisor_0 : decode prog_5_method_10_code 0 = .ok (.lload_n 0, 1) := by decide +kernel
theorem d_D_commonDivisor_1 : decode prog_5_method_10_code 1 = .ok (.lstore 4, 2) := by decide +kernel
theorem d_D_commonDivisor_3 : decode prog_5_method_10_code 3 = .ok (.lload_n 2, 1) := by decide +kernel
theorem d_D_commonDivisor_4 : decode prog_5_method_10_code 4 = .ok (.lstore 6, 2) := by decide +kernel
theorem d_D_commonDivisor_6 : decode prog_5_method_10_code 6 = .ok (.iconst 0, 1) := by decide +kernel
theorem d_D_commonDivisor_7 : decode prog_5_method_10_code 7 = .ok (.istore 8, 2) := by decide +kernel
theorem d_D_commonDivisor_9 : decode prog_5_method_10_code 9 = .ok (.iload 8, 2) := by decide +kernel
theorem d_D_commonDivisor_11 : decode prog_5_method_10_code 11 = .ok (.sipush 200, 3) := by decide +kernel
theorem d_D_commonDivisor_14 : decode prog_5_method_10_code 14 = .ok (.if_icmp .ge 31, 3) := by decide +kernel
theorem d_D_commonDivisor_17 : decode prog_5_method_10_code 17 = .ok (.lload 6, 2) := by decide +kernel
theorem d_D_commonDivisor_19 : decode prog_5_method_10_code 19 = .ok (.lconst 0, 1) := by decide +kernel
theorem d_D_commonDivisor_20 : decode prog_5_method_10_code 20 = .ok (.lcmp, 1) := by decide +kernel
theorem d_D_commonDivisor_21 : decode prog_5_method_10_code 21 = .ok (.ifCond .eq 24, 3) := by decide +kernel
theorem d_D_commonDivisor_24 : decode prog_5_method_10_code 24 = .ok (.lload 4, 2) := by decide +kernel
theorem d_D_commonDivisor_26 : decode prog_5_method_10_code 26 = .ok (.lload 6, 2) := by decide +kernel
theorem d_D_commonDivisor_28 : decode prog_5_method_10_code 28 = .ok (.lrem, 1) := by decide +kernel
theorem d_D_commonDivisor_29 : decode prog_5_method_10_code 29 = .ok (.lstore 9, 2) := by decide +kernel
theorem d_D_commonDivisor_31 : decode prog_5_method_10_code 31 = .ok (.lload 6, 2) := by decide +kernel
theorem d_D_commonDivisor_33 : decode prog_5_method_10_code 33 = .ok (.lstore 4, 2) := by decide +kernel
theorem d_D_commonDivisor_35 : decode prog_5_method_10_code 35 = .ok (.lload 9, 2) := by decide +kernel
theorem d_D_commonDivisor_37 : decode prog_5_method_10_code 37 = .ok (.lstore 6, 2) := by decide +kernel
theorem d_D_commonDivisor_39 : decode prog_5_method_10_code 39 = .ok (.iinc 8 1, 3) := by decide +kernel
theorem d_D_commonDivisor_42 : decode prog_5_method_10_code 42 = .ok (.goto (-33), 3) := by decide +kernel
theorem d_D_commonDivisor_45 : decode prog_5_method_10_code 45 = .ok (.lload 4, 2) := by decide +kernel
theorem d_D_commonDivisor_47 : decode prog_5_method_10_code 47 = .ok (.lreturn, 1) := by decide +kernel
theorem d_D_above_0 : decode prog_5_method_11_code 0 = .ok (.aload_n 0, 1) := by decide +kernel
theorem d_D_above_1 : decode prog_5_method_11_code 1 = .ok (.getfield 32, 3) := by decide +kernel
theorem d_D_above_4 : decode prog_5_method_11_code 4 = .ok (.lreturn, 1) := by decide +kernel
theorem d_D_below_0 : decode prog_5_method_12_code 0 = .ok (.aload_n 0, 1) := by decide +kernel
theorem d_D_below_1 : decode prog_5_method_12_code 1 = .ok (.getfield 36, 3) := by decide +kernel
theorem d_D_below_4 : decode prog_5_method_12_code 4 = .ok (.lreturn, 1) := by decide +kernel
theorem d_H_renew_0 : decode prog_10_method_2_code 0 = .ok (.aload_n 0, 1) := by decide +kernel
theorem d_H_renew_1 : decode prog_10_method_2_code 1 = .ok (.iconst 0, 1) := by decide +kernel
theorem d_H_renew_2 : decode prog_10_method_2_code 2 = .ok (.putfield 15, 3) := by decide +kernel
theorem d_H_renew_5 : decode prog_10_method_2_code 5 = .ok (.aload_n 0, 1) := by decide +kernel
theorem d_H_renew_6 : decode prog_10_method_2_code 6 = .ok (.iload_n 1, 1) := by decide +kernel
theorem d_H_renew_7 : decode prog_10_method_2_code 7 = .ok (.putfield 19, 3) := by decide +kernel
theorem d_H_renew_10 : decode prog_10_method_2_code 10 = .ok (.aload_n 0, 1) := by decide +kernel
theorem d_H_renew_11 : decode prog_10_method_2_code 11 = .ok (.iload_n 2, 1) := by decide +kernel
theorem d_H_renew_12 : decode prog_10_method_2_code 12 = .ok (.putfield 23, 3) := by decide +kernel
theorem d_H_renew_15 : decode prog_10_method_2_code 15 = .ok (.iconst 0, 1) := by decide +kernel
theorem d_H_renew_16 : decode prog_10_method_2_code 16 = .ok (.istore_n 3, 1) := by decide +kernel
theorem d_H_renew_17 : decode prog_10_method_2_code 17 = .ok (.iload_n 3, 1) := by decide +kernel
theorem d_H_renew_18 : decode prog_10_method_2_code 18 = .ok (.bipush 60, 2) := by decide +kernel
theorem d_H_renew_20 : decode prog_10_method_2_code 20 = .ok (.if_icmp .ge 16, 3) := by decide +kernel
theorem d_H_renew_23 : decode prog_10_method_2_code 23 = .ok (.aload_n 0, 1) := by decide +kernel
theorem d_H_renew_24 : decode prog_10_method_2_code 24 = .ok (.getfield 9, 3) := by decide +kernel
theorem d_H_renew_27 : decode prog_10_method_2_code 27 = .ok (.iload_n 3, 1) := by decide +kernel
theorem d_H_renew_28 : decode prog_10_method_2_code 28 = .ok (.iconst 0, 1) := by decide +kernel
theorem d_H_renew_29 : decode prog_10_method_2_code 29 = .ok (.iastore, 1) := by decide +kernel
theorem d_H_renew_30 : decode prog_10_method_2_code 30 = .ok (.iinc 3 1, 3) := by decide +kernel
theorem d_H_renew_33 : decode prog_10_method_2_code 33 = .ok (.goto (-16), 3) := by decide +kernel
theorem d_H_renew_36 : decode prog_10_method_2_code 36 = .ok (.return_, 1) := by decide +kernel
theorem d_H_drop_0 : decode prog_10_method_3_code 0 = .ok (.aload_n 0, 1) := by decide +kernel
theorem d_H_drop_1 : decode prog_10_method_3_code 1 = .ok (.iconst 1, 1) := by decide +kernel
theorem d_H_drop_2 : decode prog_10_method_3_code 2 = .ok (.putfield 15, 3) := by decide +kernel
theorem d_H_drop_5 : decode prog_10_method_3_code 5 = .ok (.aload_n 0, 1) := by decide +kernel
theorem d_H_drop_6 : decode prog_10_method_3_code 6 = .ok (.iconst 0, 1) := by decide +kernel
theorem d_H_drop_7 : decode prog_10_method_3_code 7 = .ok (.putfield 23, 3) := by decide +kernel
theorem d_H_drop_10 : decode prog_10_method_3_code 10 = .ok (.return_, 1) := by decide +kernel
theorem d_H_isLost_0 : decode prog_10_method_4_code 0 = .ok (.aload_n 0, 1) := by decide +kernel
theorem d_H_isLost_1 : decode prog_10_method_4_code 1 = .ok (.getfield 15, 3) := by decide +kernel
theorem d_H_isLost_4 : decode prog_10_method_4_code 4 = .ok (.ireturn, 1) := by decide +kernel
theorem d_H_form_0 : decode prog_10_method_5_code 0 = .ok (.aload_n 0, 1) := by decide +kernel
theorem d_H_form_1 : decode prog_10_method_5_code 1 = .ok (.getfield 19, 3) := by decide +kernel
theorem d_H_form_4 : decode prog_10_method_5_code 4 = .ok (.ireturn, 1) := by decide +kernel
theorem d_H_size_0 : decode prog_10_method_6_code 0 = .ok (.aload_n 0, 1) := by decide +kernel
theorem d_H_size_1 : decode prog_10_method_6_code 1 = .ok (.getfield 23, 3) := by decide +kernel
theorem d_H_size_4 : decode prog_10_method_6_code 4 = .ok (.ireturn, 1) := by decide +kernel
theorem d_H_spans_0 : decode prog_10_method_7_code 0 = .ok (.iload_n 1, 1) := by decide +kernel
theorem d_H_spans_1 : decode prog_10_method_7_code 1 = .ok (.ifCond .lt 21, 3) := by decide +kernel
theorem d_H_spans_4 : decode prog_10_method_7_code 4 = .ok (.iload_n 2, 1) := by decide +kernel
theorem d_H_spans_5 : decode prog_10_method_7_code 5 = .ok (.ifCond .lt 17, 3) := by decide +kernel
theorem d_H_spans_8 : decode prog_10_method_7_code 8 = .ok (.iload_n 1, 1) := by decide +kernel
theorem d_H_spans_9 : decode prog_10_method_7_code 9 = .ok (.aload_n 0, 1) := by decide +kernel
theorem d_H_spans_10 : decode prog_10_method_7_code 10 = .ok (.getfield 23, 3) := by decide +kernel
theorem d_H_spans_13 : decode prog_10_method_7_code 13 = .ok (.iload_n 2, 1) := by decide +kernel
theorem d_H_spans_14 : decode prog_10_method_7_code 14 = .ok (.isub, 1) := by decide +kernel
theorem d_H_spans_15 : decode prog_10_method_7_code 15 = .ok (.if_icmp .gt 7, 3) := by decide +kernel
theorem d_H_spans_18 : decode prog_10_method_7_code 18 = .ok (.iconst 1, 1) := by decide +kernel
theorem d_H_spans_19 : decode prog_10_method_7_code 19 = .ok (.goto 4, 3) := by decide +kernel
theorem d_H_spans_22 : decode prog_10_method_7_code 22 = .ok (.iconst 0, 1) := by decide +kernel
theorem d_H_spans_23 : decode prog_10_method_7_code 23 = .ok (.ireturn, 1) := by decide +kernel
theorem d_H_item_0 : decode prog_10_method_8_code 0 = .ok (.aload_n 0, 1) := by decide +kernel
theorem d_H_item_1 : decode prog_10_method_8_code 1 = .ok (.getfield 9, 3) := by decide +kernel
theorem d_H_item_4 : decode prog_10_method_8_code 4 = .ok (.iload_n 1, 1) := by decide +kernel
theorem d_H_item_5 : decode prog_10_method_8_code 5 = .ok (.iaload, 1) := by decide +kernel
theorem d_H_item_6 : decode prog_10_method_8_code 6 = .ok (.ireturn, 1) := by decide +kernel
theorem d_H_put_0 : decode prog_10_method_9_code 0 = .ok (.aload_n 0, 1) := by decide +kernel
theorem d_H_put_1 : decode prog_10_method_9_code 1 = .ok (.getfield 9, 3) := by decide +kernel
theorem d_H_put_4 : decode prog_10_method_9_code 4 = .ok (.iload_n 1, 1) := by decide +kernel
theorem d_H_put_5 : decode prog_10_method_9_code 5 = .ok (.aload_n 0, 1) := by decide +kernel
theorem d_H_put_6 : decode prog_10_method_9_code 6 = .ok (.iload_n 2, 1) := by decide +kernel
theorem d_H_put_7 : decode prog_10_method_9_code 7 = .ok (.invokevirtual 26, 3) := by decide +kernel
theorem d_H_put_10 : decode prog_10_method_9_code 10 = .ok (.iastore, 1) := by decide +kernel
theorem d_H_put_11 : decode prog_10_method_9_code 11 = .ok (.return_, 1) := by decide +kernel
theorem d_H_narrow_0 : decode prog_10_method_10_code 0 = .ok (.aload_n 0, 1) := by decide +kernel
theorem d_H_narrow_1 : decode prog_10_method_10_code 1 = .ok (.getfield 19, 3) := by decide +kernel
theorem d_H_narrow_4 : decode prog_10_method_10_code 4 = .ok (.ifCond .ne 6, 3) := by decide +kernel
theorem d_H_narrow_7 : decode prog_10_method_10_code 7 = .ok (.iload_n 1, 1) := by decide +kernel
theorem d_H_narrow_8 : decode prog_10_method_10_code 8 = .ok (.i2b, 1) := by decide +kernel
theorem d_H_narrow_9 : decode prog_10_method_10_code 9 = .ok (.ireturn, 1) := by decide +kernel
theorem d_H_narrow_10 : decode prog_10_method_10_code 10 = .ok (.aload_n 0, 1) := by decide +kernel
theorem d_H_narrow_11 : decode prog_10_method_10_code 11 = .ok (.getfield 19, 3) := by decide +kernel
theorem d_H_narrow_14 : decode prog_10_method_10_code 14 = .ok (.iconst 1, 1) := by decide +kernel
theorem d_H_narrow_15 : decode prog_10_method_10_code 15 = .ok (.if_icmp .ne 8, 3) := by decide +kernel
theorem d_H_narrow_18 : decode prog_10_method_10_code 18 = .ok (.iload_n 1, 1) := by decide +kernel
theorem d_H_narrow_19 : decode prog_10_method_10_code 19 = .ok (.i2s, 1) := by decide +kernel
theorem d_H_narrow_20 : decode prog_10_method_10_code 20 = .ok (.goto 4, 3) := by decide +kernel
theorem d_H_narrow_23 : decode prog_10_method_10_code 23 = .ok (.iload_n 1, 1) := by decide +kernel
theorem d_H_narrow_24 : decode prog_10_method_10_code 24 = .ok (.ireturn, 1) := by decide +kernel
theorem d_H_takeFrom_0 : decode prog_10_method_11_code 0 = .ok (.aload_n 1, 1) := by decide +kernel
theorem d_H_takeFrom_1 : decode prog_10_method_11_code 1 = .ok (.getfield 9, 3) := by decide +kernel
theorem d_H_takeFrom_4 : decode prog_10_method_11_code 4 = .ok (.iload_n 2, 1) := by decide +kernel
theorem d_H_takeFrom_5 : decode prog_10_method_11_code 5 = .ok (.aload_n 0, 1) := by decide +kernel
theorem d_H_takeFrom_6 : decode prog_10_method_11_code 6 = .ok (.getfield 9, 3) := by decide +kernel
theorem d_H_takeFrom_9 : decode prog_10_method_11_code 9 = .ok (.iload_n 3, 1) := by decide +kernel
theorem d_H_takeFrom_10 : decode prog_10_method_11_code 10 = .ok (.iload 4, 2) := by decide +kernel
theorem d_H_takeFrom_12 : decode prog_10_method_11_code 12 = .ok (.invokestatic 30, 3) := by decide +kernel
theorem d_H_takeFrom_15 : decode prog_10_method_11_code 15 = .ok (.return_, 1) := by decide +kernel
theorem d_J_bitCount_0 : decode prog_14_method_49_code 0 = .ok (.iload_n 0, 1) := by decide +kernel
theorem d_J_bitCount_1 : decode prog_14_method_49_code 1 = .ok (.iload_n 0, 1) := by decide +kernel
theorem d_J_bitCount_2 : decode prog_14_method_49_code 2 = .ok (.iconst 1, 1) := by decide +kernel
theorem d_J_bitCount_3 : decode prog_14_method_49_code 3 = .ok (.iushr, 1) := by decide +kernel
theorem d_J_bitCount_4 : decode prog_14_method_49_code 4 = .ok (.ldc_w 265, 3) := by decide +kernel
theorem d_J_bitCount_7 : decode prog_14_method_49_code 7 = .ok (.iand, 1) := by decide +kernel
theorem d_J_bitCount_8 : decode prog_14_method_49_code 8 = .ok (.isub, 1) := by decide +kernel
theorem d_J_bitCount_9 : decode prog_14_method_49_code 9 = .ok (.istore_n 0, 1) := by decide +kernel
theorem d_J_bitCount_10 : decode prog_14_method_49_code 10 = .ok (.iload_n 0, 1) := by decide +kernel
theorem d_J_bitCount_11 : decode prog_14_method_49_code 11 = .ok (.ldc_w 266, 3) := by decide +kernel
theorem d_J_bitCount_14 : decode prog_14_method_49_code 14 = .ok (.iand, 1) := by decide +kernel
theorem d_J_bitCount_15 : decode prog_14_method_49_code 15 = .ok (.iload_n 0, 1) := by decide +kernel
theorem d_J_bitCount_16 : decode prog_14_method_49_code 16 = .ok (.iconst 2, 1) := by decide +kernel
theorem d_J_bitCount_17 : decode prog_14_method_49_code 17 = .ok (.iushr, 1) := by decide +kernel
theorem d_J_bitCount_18 : decode prog_14_method_49_code 18 = .ok (.ldc_w 266, 3) := by decide +kernel
theorem d_J_bitCount_21 : decode prog_14_method_49_code 21 = .ok (.iand, 1) := by decide +kernel
theorem d_J_bitCount_22 : decode prog_14_method_49_code 22 = .ok (.iadd, 1) := by decide +kernel
theorem d_J_bitCount_23 : decode prog_14_method_49_code 23 = .ok (.istore_n 0, 1) := by decide +kernel
theorem d_J_bitCount_24 : decode prog_14_method_49_code 24 = .ok (.iload_n 0, 1) := by decide +kernel
theorem d_J_bitCount_25 : decode prog_14_method_49_code 25 = .ok (.iload_n 0, 1) := by decide +kernel
theorem d_J_bitCount_26 : decode prog_14_method_49_code 26 = .ok (.iconst 4, 1) := by decide +kernel
theorem d_J_bitCount_27 : decode prog_14_method_49_code 27 = .ok (.iushr, 1) := by decide +kernel
theorem d_J_bitCount_28 : decode prog_14_method_49_code 28 = .ok (.iadd, 1) := by decide +kernel
theorem d_J_bitCount_29 : decode prog_14_method_49_code 29 = .ok (.ldc_w 267, 3) := by decide +kernel
theorem d_J_bitCount_32 : decode prog_14_method_49_code 32 = .ok (.iand, 1) := by decide +kernel
theorem d_J_bitCount_33 : decode prog_14_method_49_code 33 = .ok (.istore_n 0, 1) := by decide +kernel
theorem d_J_bitCount_34 : decode prog_14_method_49_code 34 = .ok (.iload_n 0, 1) := by decide +kernel
theorem d_J_bitCount_35 : decode prog_14_method_49_code 35 = .ok (.iload_n 0, 1) := by decide +kernel
theorem d_J_bitCount_36 : decode prog_14_method_49_code 36 = .ok (.bipush 8, 2) := by decide +kernel
theorem d_J_bitCount_38 : decode prog_14_method_49_code 38 = .ok (.iushr, 1) := by decide +kernel
theorem d_J_bitCount_39 : decode prog_14_method_49_code 39 = .ok (.iadd, 1) := by decide +kernel
theorem d_J_bitCount_40 : decode prog_14_method_49_code 40 = .ok (.istore_n 0, 1) := by decide +kernel
theorem d_J_bitCount_41 : decode prog_14_method_49_code 41 = .ok (.iload_n 0, 1) := by decide +kernel
theorem d_J_bitCount_42 : decode prog_14_method_49_code 42 = .ok (.iload_n 0, 1) := by decide +kernel
theorem d_J_bitCount_43 : decode prog_14_method_49_code 43 = .ok (.bipush 16, 2) := by decide +kernel
theorem d_J_bitCount_45 : decode prog_14_method_49_code 45 = .ok (.iushr, 1) := by decide +kernel
theorem d_J_bitCount_46 : decode prog_14_method_49_code 46 = .ok (.iadd, 1) := by decide +kernel
theorem d_J_bitCount_47 : decode prog_14_method_49_code 47 = .ok (.istore_n 0, 1) := by decide +kernel
theorem d_J_bitCount_48 : decode prog_14_method_49_code 48 = .ok (.iload_n 0, 1) := by decide +kernel
theorem d_J_bitCount_49 : decode prog_14_method_49_code 49 = .ok (.bipush 63, 2) := by decide +kernel
theorem d_J_bitCount_51 : decode prog_14_method_49_code 51 = .ok (.iand, 1) := by decide +kernel
theorem d_J_bitCount_52 : decode prog_14_method_49_code 52 = .ok (.ireturn, 1) := by decide +kernel
