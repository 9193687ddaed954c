-- what the bytes decode to (by program: wip/gen/gen_meth.py)
theorem d_M_in_0 : decode prog_13_method_3_code 0 = .ok (.lload_n 0, 1) := by decide +kernel
theorem d_M_in_1 : decode prog_13_method_3_code 1 = .ok (.lload_n 2, 1) := by decide +kernel
theorem d_M_in_2 : decode prog_13_method_3_code 2 = .ok (.lcmp, 1) := by decide +kernel
theorem d_M_in_3 : decode prog_13_method_3_code 3 = .ok (.ifCond .lt 14, 3) := by decide +kernel
theorem d_M_in_6 : decode prog_13_method_3_code 6 = .ok (.lload_n 0, 1) := by decide +kernel
theorem d_M_in_7 : decode prog_13_method_3_code 7 = .ok (.lload 4, 2) := by decide +kernel
theorem d_M_in_9 : decode prog_13_method_3_code 9 = .ok (.lcmp, 1) := by decide +kernel
theorem d_M_in_10 : decode prog_13_method_3_code 10 = .ok (.ifCond .gt 7, 3) := by decide +kernel
theorem d_M_in_13 : decode prog_13_method_3_code 13 = .ok (.iconst 1, 1) := by decide +kernel
theorem d_M_in_14 : decode prog_13_method_3_code 14 = .ok (.goto 4, 3) := by decide +kernel
theorem d_M_in_17 : decode prog_13_method_3_code 17 = .ok (.iconst 0, 1) := by decide +kernel
theorem d_M_in_18 : decode prog_13_method_3_code 18 = .ok (.ireturn, 1) := by decide +kernel
theorem d_M_no_0 : decode prog_13_method_4_code 0 = .ok (.ldc2_w 74, 3) := by decide +kernel
theorem d_M_no_3 : decode prog_13_method_4_code 3 = .ok (.iload_n 0, 1) := by decide +kernel
theorem d_M_no_4 : decode prog_13_method_4_code 4 = .ok (.i2l, 1) := by decide +kernel
theorem d_M_no_5 : decode prog_13_method_4_code 5 = .ok (.lsub, 1) := by decide +kernel
theorem d_M_no_6 : decode prog_13_method_4_code 6 = .ok (.lreturn, 1) := by decide +kernel
theorem d_M_isTwo_0 : decode prog_13_method_5_code 0 = .ok (.iload_n 0, 1) := by decide +kernel
theorem d_M_isTwo_1 : decode prog_13_method_5_code 1 = .ok (.i2l, 1) := by decide +kernel
theorem d_M_isTwo_2 : decode prog_13_method_5_code 2 = .ok (.lconst 0, 1) := by decide +kernel
theorem d_M_isTwo_3 : decode prog_13_method_5_code 3 = .ok (.lconst 1, 1) := by decide +kernel
theorem d_M_isTwo_4 : decode prog_13_method_5_code 4 = .ok (.invokestatic 76, 3) := by decide +kernel
theorem d_M_isTwo_7 : decode prog_13_method_5_code 7 = .ok (.ireturn, 1) := by decide +kernel
theorem d_M_isIn_0 : decode prog_13_method_6_code 0 = .ok (.iload_n 0, 1) := by decide +kernel
theorem d_M_isIn_1 : decode prog_13_method_6_code 1 = .ok (.iload_n 1, 1) := by decide +kernel
theorem d_M_isIn_2 : decode prog_13_method_6_code 2 = .ok (.ishr, 1) := by decide +kernel
theorem d_M_isIn_3 : decode prog_13_method_6_code 3 = .ok (.iconst 1, 1) := by decide +kernel
theorem d_M_isIn_4 : decode prog_13_method_6_code 4 = .ok (.iand, 1) := by decide +kernel
theorem d_M_isIn_5 : decode prog_13_method_6_code 5 = .ok (.iconst 1, 1) := by decide +kernel
theorem d_M_isIn_6 : decode prog_13_method_6_code 6 = .ok (.if_icmp .ne 7, 3) := by decide +kernel
theorem d_M_isIn_9 : decode prog_13_method_6_code 9 = .ok (.iconst 1, 1) := by decide +kernel
theorem d_M_isIn_10 : decode prog_13_method_6_code 10 = .ok (.goto 4, 3) := by decide +kernel
theorem d_M_isIn_13 : decode prog_13_method_6_code 13 = .ok (.iconst 0, 1) := by decide +kernel
theorem d_M_isIn_14 : decode prog_13_method_6_code 14 = .ok (.ireturn, 1) := by decide +kernel
theorem d_M_ones_0 : decode prog_13_method_7_code 0 = .ok (.iconst 0, 1) := by decide +kernel
theorem d_M_ones_1 : decode prog_13_method_7_code 1 = .ok (.istore_n 1, 1) := by decide +kernel
theorem d_M_ones_2 : decode prog_13_method_7_code 2 = .ok (.iload_n 0, 1) := by decide +kernel
theorem d_M_ones_3 : decode prog_13_method_7_code 3 = .ok (.istore_n 2, 1) := by decide +kernel
theorem d_M_ones_4 : decode prog_13_method_7_code 4 = .ok (.iload_n 2, 1) := by decide +kernel
theorem d_M_ones_5 : decode prog_13_method_7_code 5 = .ok (.ifCond .eq 15, 3) := by decide +kernel
theorem d_M_ones_8 : decode prog_13_method_7_code 8 = .ok (.iinc 1 1, 3) := by decide +kernel
theorem d_M_ones_11 : decode prog_13_method_7_code 11 = .ok (.iload_n 2, 1) := by decide +kernel
theorem d_M_ones_12 : decode prog_13_method_7_code 12 = .ok (.iload_n 2, 1) := by decide +kernel
theorem d_M_ones_13 : decode prog_13_method_7_code 13 = .ok (.iconst 1, 1) := by decide +kernel
theorem d_M_ones_14 : decode prog_13_method_7_code 14 = .ok (.isub, 1) := by decide +kernel
theorem d_M_ones_15 : decode prog_13_method_7_code 15 = .ok (.iand, 1) := by decide +kernel
theorem d_M_ones_16 : decode prog_13_method_7_code 16 = .ok (.istore_n 2, 1) := by decide +kernel
theorem d_M_ones_17 : decode prog_13_method_7_code 17 = .ok (.goto (-13), 3) := by decide +kernel
theorem d_M_ones_20 : decode prog_13_method_7_code 20 = .ok (.iload_n 1, 1) := by decide +kernel
theorem d_M_ones_21 : decode prog_13_method_7_code 21 = .ok (.ireturn, 1) := by decide +kernel
theorem d_M_met_0 : decode prog_13_method_8_code 0 = .ok (.aload_n 0, 1) := by decide +kernel
theorem d_M_met_1 : decode prog_13_method_8_code 1 = .ok (.iload_n 1, 1) := by decide +kernel
theorem d_M_met_2 : decode prog_13_method_8_code 2 = .ok (.putfield 80, 3) := by decide +kernel
theorem d_M_met_5 : decode prog_13_method_8_code 5 = .ok (.bipush (-10), 2) := by decide +kernel
theorem d_M_met_7 : decode prog_13_method_8_code 7 = .ok (.iload_n 1, 1) := by decide +kernel
theorem d_M_met_8 : decode prog_13_method_8_code 8 = .ok (.isub, 1) := by decide +kernel
theorem d_M_met_9 : decode prog_13_method_8_code 9 = .ok (.ireturn, 1) := by decide +kernel
theorem d_M_isSheet_0 : decode prog_13_method_9_code 0 = .ok (.iload_n 0, 1) := by decide +kernel
theorem d_M_isSheet_1 : decode prog_13_method_9_code 1 = .ok (.i2l, 1) := by decide +kernel
theorem d_M_isSheet_2 : decode prog_13_method_9_code 2 = .ok (.lconst 0, 1) := by decide +kernel
theorem d_M_isSheet_3 : decode prog_13_method_9_code 3 = .ok (.ldc2_w 84, 3) := by decide +kernel
theorem d_M_isSheet_6 : decode prog_13_method_9_code 6 = .ok (.invokestatic 76, 3) := by decide +kernel
theorem d_M_isSheet_9 : decode prog_13_method_9_code 9 = .ok (.ireturn, 1) := by decide +kernel
theorem d_M_sheet_0 : decode prog_13_method_10_code 0 = .ok (.iload_n 1, 1) := by decide +kernel
theorem d_M_sheet_1 : decode prog_13_method_10_code 1 = .ok (.invokestatic 86, 3) := by decide +kernel
theorem d_M_sheet_4 : decode prog_13_method_10_code 4 = .ok (.ifCond .eq 21, 3) := by decide +kernel
theorem d_M_sheet_7 : decode prog_13_method_10_code 7 = .ok (.iload_n 2, 1) := by decide +kernel
theorem d_M_sheet_8 : decode prog_13_method_10_code 8 = .ok (.i2l, 1) := by decide +kernel
theorem d_M_sheet_9 : decode prog_13_method_10_code 9 = .ok (.lconst 0, 1) := by decide +kernel
theorem d_M_sheet_10 : decode prog_13_method_10_code 10 = .ok (.ldc2_w 90, 3) := by decide +kernel
theorem d_M_sheet_13 : decode prog_13_method_10_code 13 = .ok (.invokestatic 76, 3) := by decide +kernel
theorem d_M_sheet_16 : decode prog_13_method_10_code 16 = .ok (.ifCond .eq 9, 3) := by decide +kernel
theorem d_M_sheet_19 : decode prog_13_method_10_code 19 = .ok (.iload_n 3, 1) := by decide +kernel
theorem d_M_sheet_20 : decode prog_13_method_10_code 20 = .ok (.bipush 60, 2) := by decide +kernel
theorem d_M_sheet_22 : decode prog_13_method_10_code 22 = .ok (.if_icmp .le 6, 3) := by decide +kernel
theorem d_M_sheet_25 : decode prog_13_method_10_code 25 = .ok (.bipush (-2), 2) := by decide +kernel
theorem d_M_sheet_27 : decode prog_13_method_10_code 27 = .ok (.ireturn, 1) := by decide +kernel
theorem d_M_sheet_28 : decode prog_13_method_10_code 28 = .ok (.iload_n 3, 1) := by decide +kernel
theorem d_M_sheet_29 : decode prog_13_method_10_code 29 = .ok (.ifCond .ge 9, 3) := by decide +kernel
theorem d_M_sheet_32 : decode prog_13_method_10_code 32 = .ok (.aload_n 0, 1) := by decide +kernel
theorem d_M_sheet_33 : decode prog_13_method_10_code 33 = .ok (.iconst 5, 1) := by decide +kernel
theorem d_M_sheet_34 : decode prog_13_method_10_code 34 = .ok (.invokevirtual 92, 3) := by decide +kernel
theorem d_M_sheet_37 : decode prog_13_method_10_code 37 = .ok (.ireturn, 1) := by decide +kernel
theorem d_M_sheet_38 : decode prog_13_method_10_code 38 = .ok (.aload_n 0, 1) := by decide +kernel
theorem d_M_sheet_39 : decode prog_13_method_10_code 39 = .ok (.getfield 7, 3) := by decide +kernel
theorem d_M_sheet_42 : decode prog_13_method_10_code 42 = .ok (.iload_n 1, 1) := by decide +kernel
theorem d_M_sheet_43 : decode prog_13_method_10_code 43 = .ok (.iload_n 2, 1) := by decide +kernel
theorem d_M_sheet_44 : decode prog_13_method_10_code 44 = .ok (.iastore, 1) := by decide +kernel
theorem d_M_sheet_45 : decode prog_13_method_10_code 45 = .ok (.aload_n 0, 1) := by decide +kernel
theorem d_M_sheet_46 : decode prog_13_method_10_code 46 = .ok (.getfield 13, 3) := by decide +kernel
theorem d_M_sheet_49 : decode prog_13_method_10_code 49 = .ok (.iload_n 1, 1) := by decide +kernel
theorem d_M_sheet_50 : decode prog_13_method_10_code 50 = .ok (.iload_n 3, 1) := by decide +kernel
theorem d_M_sheet_51 : decode prog_13_method_10_code 51 = .ok (.iastore, 1) := by decide +kernel
theorem d_M_sheet_52 : decode prog_13_method_10_code 52 = .ok (.iconst 0, 1) := by decide +kernel
theorem d_M_sheet_53 : decode prog_13_method_10_code 53 = .ok (.istore 4, 2) := by decide +kernel
theorem d_M_sheet_55 : decode prog_13_method_10_code 55 = .ok (.iload 4, 2) := by decide +kernel
theorem d_M_sheet_57 : decode prog_13_method_10_code 57 = .ok (.iload_n 3, 1) := by decide +kernel
theorem d_M_sheet_58 : decode prog_13_method_10_code 58 = .ok (.if_icmp .ge 22, 3) := by decide +kernel
theorem d_M_sheet_61 : decode prog_13_method_10_code 61 = .ok (.aload_n 0, 1) := by decide +kernel
theorem d_M_sheet_62 : decode prog_13_method_10_code 62 = .ok (.getfield 16, 3) := by decide +kernel
theorem d_M_sheet_65 : decode prog_13_method_10_code 65 = .ok (.bipush 60, 2) := by decide +kernel
theorem d_M_sheet_67 : decode prog_13_method_10_code 67 = .ok (.iload_n 1, 1) := by decide +kernel
theorem d_M_sheet_68 : decode prog_13_method_10_code 68 = .ok (.imul, 1) := by decide +kernel
theorem d_M_sheet_69 : decode prog_13_method_10_code 69 = .ok (.iload 4, 2) := by decide +kernel
theorem d_M_sheet_71 : decode prog_13_method_10_code 71 = .ok (.iadd, 1) := by decide +kernel
theorem d_M_sheet_72 : decode prog_13_method_10_code 72 = .ok (.iconst 0, 1) := by decide +kernel
theorem d_M_sheet_73 : decode prog_13_method_10_code 73 = .ok (.iastore, 1) := by decide +kernel
theorem d_M_sheet_74 : decode prog_13_method_10_code 74 = .ok (.iinc 4 1, 3) := by decide +kernel
theorem d_M_sheet_77 : decode prog_13_method_10_code 77 = .ok (.goto (-22), 3) := by decide +kernel
theorem d_M_sheet_80 : decode prog_13_method_10_code 80 = .ok (.iload_n 3, 1) := by decide +kernel
theorem d_M_sheet_81 : decode prog_13_method_10_code 81 = .ok (.ireturn, 1) := by decide +kernel
theorem d_M_lose_0 : decode prog_13_method_11_code 0 = .ok (.iload_n 1, 1) := by decide +kernel
theorem d_M_lose_1 : decode prog_13_method_11_code 1 = .ok (.invokestatic 86, 3) := by decide +kernel
theorem d_M_lose_4 : decode prog_13_method_11_code 4 = .ok (.ifCond .ne 6, 3) := by decide +kernel
theorem d_M_lose_7 : decode prog_13_method_11_code 7 = .ok (.bipush (-2), 2) := by decide +kernel
theorem d_M_lose_9 : decode prog_13_method_11_code 9 = .ok (.ireturn, 1) := by decide +kernel
theorem d_M_lose_10 : decode prog_13_method_11_code 10 = .ok (.aload_n 0, 1) := by decide +kernel
theorem d_M_lose_11 : decode prog_13_method_11_code 11 = .ok (.getfield 7, 3) := by decide +kernel
theorem d_M_lose_14 : decode prog_13_method_11_code 14 = .ok (.iload_n 1, 1) := by decide +kernel
theorem d_M_lose_15 : decode prog_13_method_11_code 15 = .ok (.iaload, 1) := by decide +kernel
theorem d_M_lose_16 : decode prog_13_method_11_code 16 = .ok (.ifCond .ge 9, 3) := by decide +kernel
theorem d_M_lose_19 : decode prog_13_method_11_code 19 = .ok (.aload_n 0, 1) := by decide +kernel
theorem d_M_lose_20 : decode prog_13_method_11_code 20 = .ok (.iconst 1, 1) := by decide +kernel
theorem d_M_lose_21 : decode prog_13_method_11_code 21 = .ok (.invokevirtual 92, 3) := by decide +kernel
theorem d_M_lose_24 : decode prog_13_method_11_code 24 = .ok (.ireturn, 1) := by decide +kernel
theorem d_M_lose_25 : decode prog_13_method_11_code 25 = .ok (.aload_n 0, 1) := by decide +kernel
theorem d_M_lose_26 : decode prog_13_method_11_code 26 = .ok (.getfield 7, 3) := by decide +kernel
theorem d_M_lose_29 : decode prog_13_method_11_code 29 = .ok (.iload_n 1, 1) := by decide +kernel
theorem d_M_lose_30 : decode prog_13_method_11_code 30 = .ok (.iconst (-1), 1) := by decide +kernel
theorem d_M_lose_31 : decode prog_13_method_11_code 31 = .ok (.iastore, 1) := by decide +kernel
theorem d_M_lose_32 : decode prog_13_method_11_code 32 = .ok (.aload_n 0, 1) := by decide +kernel
theorem d_M_lose_33 : decode prog_13_method_11_code 33 = .ok (.getfield 13, 3) := by decide +kernel
theorem d_M_lose_36 : decode prog_13_method_11_code 36 = .ok (.iload_n 1, 1) := by decide +kernel
theorem d_M_lose_37 : decode prog_13_method_11_code 37 = .ok (.iaload, 1) := by decide +kernel
theorem d_M_lose_38 : decode prog_13_method_11_code 38 = .ok (.ireturn, 1) := by decide +kernel
theorem d_M_lacks_0 : decode prog_13_method_12_code 0 = .ok (.aload_n 0, 1) := by decide +kernel
theorem d_M_lacks_1 : decode prog_13_method_12_code 1 = .ok (.getfield 7, 3) := by decide +kernel
theorem d_M_lacks_4 : decode prog_13_method_12_code 4 = .ok (.iload_n 1, 1) := by decide +kernel
theorem d_M_lacks_5 : decode prog_13_method_12_code 5 = .ok (.iaload, 1) := by decide +kernel
theorem d_M_lacks_6 : decode prog_13_method_12_code 6 = .ok (.ifCond .ge 9, 3) := by decide +kernel
theorem d_M_lacks_9 : decode prog_13_method_12_code 9 = .ok (.aload_n 0, 1) := by decide +kernel
theorem d_M_lacks_10 : decode prog_13_method_12_code 10 = .ok (.iconst 1, 1) := by decide +kernel
theorem d_M_lacks_11 : decode prog_13_method_12_code 11 = .ok (.invokevirtual 92, 3) := by decide +kernel
theorem d_M_lacks_14 : decode prog_13_method_12_code 14 = .ok (.ireturn, 1) := by decide +kernel
theorem d_M_lacks_15 : decode prog_13_method_12_code 15 = .ok (.aload_n 0, 1) := by decide +kernel
theorem d_M_lacks_16 : decode prog_13_method_12_code 16 = .ok (.getfield 7, 3) := by decide +kernel
theorem d_M_lacks_19 : decode prog_13_method_12_code 19 = .ok (.iload_n 1, 1) := by decide +kernel
theorem d_M_lacks_20 : decode prog_13_method_12_code 20 = .ok (.iaload, 1) := by decide +kernel
theorem d_M_lacks_21 : decode prog_13_method_12_code 21 = .ok (.iload_n 2, 1) := by decide +kernel
theorem d_M_lacks_22 : decode prog_13_method_12_code 22 = .ok (.if_icmp .eq 9, 3) := by decide +kernel
theorem d_M_lacks_25 : decode prog_13_method_12_code 25 = .ok (.aload_n 0, 1) := by decide +kernel
theorem d_M_lacks_26 : decode prog_13_method_12_code 26 = .ok (.iconst 3, 1) := by decide +kernel
theorem d_M_lacks_27 : decode prog_13_method_12_code 27 = .ok (.invokevirtual 92, 3) := by decide +kernel
theorem d_M_lacks_30 : decode prog_13_method_12_code 30 = .ok (.ireturn, 1) := by decide +kernel
theorem d_M_lacks_31 : decode prog_13_method_12_code 31 = .ok (.iload_n 3, 1) := by decide +kernel
theorem d_M_lacks_32 : decode prog_13_method_12_code 32 = .ok (.i2l, 1) := by decide +kernel
theorem d_M_lacks_33 : decode prog_13_method_12_code 33 = .ok (.lconst 0, 1) := by decide +kernel
theorem d_M_lacks_34 : decode prog_13_method_12_code 34 = .ok (.aload_n 0, 1) := by decide +kernel
theorem d_M_lacks_35 : decode prog_13_method_12_code 35 = .ok (.getfield 13, 3) := by decide +kernel
theorem d_M_lacks_38 : decode prog_13_method_12_code 38 = .ok (.iload_n 1, 1) := by decide +kernel
theorem d_M_lacks_39 : decode prog_13_method_12_code 39 = .ok (.iaload, 1) := by decide +kernel
theorem d_M_lacks_40 : decode prog_13_method_12_code 40 = .ok (.iconst 1, 1) := by decide +kernel
theorem d_M_lacks_41 : decode prog_13_method_12_code 41 = .ok (.isub, 1) := by decide +kernel
theorem d_M_lacks_42 : decode prog_13_method_12_code 42 = .ok (.i2l, 1) := by decide +kernel
theorem d_M_lacks_43 : decode prog_13_method_12_code 43 = .ok (.invokestatic 76, 3) := by decide +kernel
theorem d_M_lacks_46 : decode prog_13_method_12_code 46 = .ok (.ifCond .eq 7, 3) := by decide +kernel
theorem d_M_lacks_49 : decode prog_13_method_12_code 49 = .ok (.iconst 0, 1) := by decide +kernel
theorem d_M_lacks_50 : decode prog_13_method_12_code 50 = .ok (.goto 8, 3) := by decide +kernel
theorem d_M_lacks_53 : decode prog_13_method_12_code 53 = .ok (.aload_n 0, 1) := by decide +kernel
theorem d_M_lacks_54 : decode prog_13_method_12_code 54 = .ok (.iconst 2, 1) := by decide +kernel
theorem d_M_lacks_55 : decode prog_13_method_12_code 55 = .ok (.invokevirtual 92, 3) := by decide +kernel
theorem d_M_lacks_58 : decode prog_13_method_12_code 58 = .ok (.ireturn, 1) := by decide +kernel
theorem d_M_cut_0 : decode prog_13_method_13_code 0 = .ok (.iload_n 0, 1) := by decide +kernel
theorem d_M_cut_1 : decode prog_13_method_13_code 1 = .ok (.ifCond .ne 8, 3) := by decide +kernel
theorem d_M_cut_4 : decode prog_13_method_13_code 4 = .ok (.iload_n 1, 1) := by decide +kernel
theorem d_M_cut_5 : decode prog_13_method_13_code 5 = .ok (.i2b, 1) := by decide +kernel
theorem d_M_cut_6 : decode prog_13_method_13_code 6 = .ok (.goto 14, 3) := by decide +kernel
theorem d_M_cut_9 : decode prog_13_method_13_code 9 = .ok (.iload_n 0, 1) := by decide +kernel
theorem d_M_cut_10 : decode prog_13_method_13_code 10 = .ok (.iconst 1, 1) := by decide +kernel
theorem d_M_cut_11 : decode prog_13_method_13_code 11 = .ok (.if_icmp .ne 8, 3) := by decide +kernel
theorem d_M_cut_14 : decode prog_13_method_13_code 14 = .ok (.iload_n 1, 1) := by decide +kernel
theorem d_M_cut_15 : decode prog_13_method_13_code 15 = .ok (.i2s, 1) := by decide +kernel
theorem d_M_cut_16 : decode prog_13_method_13_code 16 = .ok (.goto 4, 3) := by decide +kernel
theorem d_M_cut_19 : decode prog_13_method_13_code 19 = .ok (.iload_n 1, 1) := by decide +kernel
theorem d_M_cut_20 : decode prog_13_method_13_code 20 = .ok (.ireturn, 1) := by decide +kernel
theorem d_M_lay_0 : decode prog_13_method_14_code 0 = .ok (.iload_n 1, 1) := by decide +kernel
theorem d_M_lay_1 : decode prog_13_method_14_code 1 = .ok (.invokestatic 86, 3) := by decide +kernel
theorem d_M_lay_4 : decode prog_13_method_14_code 4 = .ok (.ifCond .eq 15, 3) := by decide +kernel
theorem d_M_lay_7 : decode prog_13_method_14_code 7 = .ok (.iload_n 2, 1) := by decide +kernel
theorem d_M_lay_8 : decode prog_13_method_14_code 8 = .ok (.i2l, 1) := by decide +kernel
theorem d_M_lay_9 : decode prog_13_method_14_code 9 = .ok (.lconst 0, 1) := by decide +kernel
theorem d_M_lay_10 : decode prog_13_method_14_code 10 = .ok (.ldc2_w 90, 3) := by decide +kernel
theorem d_M_lay_13 : decode prog_13_method_14_code 13 = .ok (.invokestatic 76, 3) := by decide +kernel
theorem d_M_lay_16 : decode prog_13_method_14_code 16 = .ok (.ifCond .ne 6, 3) := by decide +kernel
theorem d_M_lay_19 : decode prog_13_method_14_code 19 = .ok (.bipush (-2), 2) := by decide +kernel
theorem d_M_lay_21 : decode prog_13_method_14_code 21 = .ok (.ireturn, 1) := by decide +kernel
theorem d_M_lay_22 : decode prog_13_method_14_code 22 = .ok (.aload_n 0, 1) := by decide +kernel
theorem d_M_lay_23 : decode prog_13_method_14_code 23 = .ok (.iload_n 1, 1) := by decide +kernel
theorem d_M_lay_24 : decode prog_13_method_14_code 24 = .ok (.iload_n 2, 1) := by decide +kernel
theorem d_M_lay_25 : decode prog_13_method_14_code 25 = .ok (.iload_n 3, 1) := by decide +kernel
theorem d_M_lay_26 : decode prog_13_method_14_code 26 = .ok (.invokevirtual 96, 3) := by decide +kernel
theorem d_M_lay_29 : decode prog_13_method_14_code 29 = .ok (.istore 5, 2) := by decide +kernel
theorem d_M_lay_31 : decode prog_13_method_14_code 31 = .ok (.iload 5, 2) := by decide +kernel
theorem d_M_lay_33 : decode prog_13_method_14_code 33 = .ok (.ifCond .eq 6, 3) := by decide +kernel
theorem d_M_lay_36 : decode prog_13_method_14_code 36 = .ok (.iload 5, 2) := by decide +kernel
theorem d_M_lay_38 : decode prog_13_method_14_code 38 = .ok (.ireturn, 1) := by decide +kernel
theorem d_M_lay_39 : decode prog_13_method_14_code 39 = .ok (.aload_n 0, 1) := by decide +kernel
theorem d_M_lay_40 : decode prog_13_method_14_code 40 = .ok (.getfield 16, 3) := by decide +kernel
theorem d_M_lay_43 : decode prog_13_method_14_code 43 = .ok (.bipush 60, 2) := by decide +kernel
theorem d_M_lay_45 : decode prog_13_method_14_code 45 = .ok (.iload_n 1, 1) := by decide +kernel
theorem d_M_lay_46 : decode prog_13_method_14_code 46 = .ok (.imul, 1) := by decide +kernel
theorem d_M_lay_47 : decode prog_13_method_14_code 47 = .ok (.iload_n 3, 1) := by decide +kernel
theorem d_M_lay_48 : decode prog_13_method_14_code 48 = .ok (.iadd, 1) := by decide +kernel
theorem d_M_lay_49 : decode prog_13_method_14_code 49 = .ok (.iload_n 2, 1) := by decide +kernel
theorem d_M_lay_50 : decode prog_13_method_14_code 50 = .ok (.iload 4, 2) := by decide +kernel
theorem d_M_lay_52 : decode prog_13_method_14_code 52 = .ok (.invokestatic 100, 3) := by decide +kernel
theorem d_M_lay_55 : decode prog_13_method_14_code 55 = .ok (.iastore, 1) := by decide +kernel
theorem d_M_lay_56 : decode prog_13_method_14_code 56 = .ok (.iconst 1, 1) := by decide +kernel
theorem d_M_lay_57 : decode prog_13_method_14_code 57 = .ok (.ireturn, 1) := by decide +kernel
theorem d_M_get_0 : decode prog_13_method_15_code 0 = .ok (.iload_n 1, 1) := by decide +kernel
theorem d_M_get_1 : decode prog_13_method_15_code 1 = .ok (.invokestatic 86, 3) := by decide +kernel
theorem d_M_get_4 : decode prog_13_method_15_code 4 = .ok (.ifCond .eq 25, 3) := by decide +kernel
theorem d_M_get_7 : decode prog_13_method_15_code 7 = .ok (.iload_n 2, 1) := by decide +kernel
theorem d_M_get_8 : decode prog_13_method_15_code 8 = .ok (.i2l, 1) := by decide +kernel
theorem d_M_get_9 : decode prog_13_method_15_code 9 = .ok (.lconst 0, 1) := by decide +kernel
theorem d_M_get_10 : decode prog_13_method_15_code 10 = .ok (.ldc2_w 90, 3) := by decide +kernel
theorem d_M_get_13 : decode prog_13_method_15_code 13 = .ok (.invokestatic 76, 3) := by decide +kernel
theorem d_M_get_16 : decode prog_13_method_15_code 16 = .ok (.ifCond .eq 13, 3) := by decide +kernel
theorem d_M_get_19 : decode prog_13_method_15_code 19 = .ok (.aload_n 0, 1) := by decide +kernel
theorem d_M_get_20 : decode prog_13_method_15_code 20 = .ok (.iload_n 1, 1) := by decide +kernel
theorem d_M_get_21 : decode prog_13_method_15_code 21 = .ok (.iload_n 2, 1) := by decide +kernel
theorem d_M_get_22 : decode prog_13_method_15_code 22 = .ok (.iload_n 3, 1) := by decide +kernel
theorem d_M_get_23 : decode prog_13_method_15_code 23 = .ok (.invokevirtual 96, 3) := by decide +kernel
theorem d_M_get_26 : decode prog_13_method_15_code 26 = .ok (.ifCond .eq 6, 3) := by decide +kernel
theorem d_M_get_29 : decode prog_13_method_15_code 29 = .ok (.ldc 104, 2) := by decide +kernel
theorem d_M_get_31 : decode prog_13_method_15_code 31 = .ok (.ireturn, 1) := by decide +kernel
theorem d_M_get_32 : decode prog_13_method_15_code 32 = .ok (.aload_n 0, 1) := by decide +kernel
theorem d_M_get_33 : decode prog_13_method_15_code 33 = .ok (.getfield 16, 3) := by decide +kernel
theorem d_M_get_36 : decode prog_13_method_15_code 36 = .ok (.bipush 60, 2) := by decide +kernel
theorem d_M_get_38 : decode prog_13_method_15_code 38 = .ok (.iload_n 1, 1) := by decide +kernel
theorem d_M_get_39 : decode prog_13_method_15_code 39 = .ok (.imul, 1) := by decide +kernel
theorem d_M_get_40 : decode prog_13_method_15_code 40 = .ok (.iload_n 3, 1) := by decide +kernel
theorem d_M_get_41 : decode prog_13_method_15_code 41 = .ok (.iadd, 1) := by decide +kernel
theorem d_M_get_42 : decode prog_13_method_15_code 42 = .ok (.iaload, 1) := by decide +kernel
theorem d_M_get_43 : decode prog_13_method_15_code 43 = .ok (.ireturn, 1) := by decide +kernel
theorem d_M_copy_0 : decode prog_13_method_16_code 0 = .ok (.iload_n 1, 1) := by decide +kernel
theorem d_M_copy_1 : decode prog_13_method_16_code 1 = .ok (.invokestatic 86, 3) := by decide +kernel
theorem d_M_copy_4 : decode prog_13_method_16_code 4 = .ok (.ifCond .eq 10, 3) := by decide +kernel
theorem d_M_copy_7 : decode prog_13_method_16_code 7 = .ok (.iload_n 3, 1) := by decide +kernel
theorem d_M_copy_8 : decode prog_13_method_16_code 8 = .ok (.invokestatic 86, 3) := by decide +kernel
theorem d_M_copy_11 : decode prog_13_method_16_code 11 = .ok (.ifCond .ne 6, 3) := by decide +kernel
theorem d_M_copy_14 : decode prog_13_method_16_code 14 = .ok (.bipush (-2), 2) := by decide +kernel
theorem d_M_copy_16 : decode prog_13_method_16_code 16 = .ok (.ireturn, 1) := by decide +kernel
theorem d_M_copy_17 : decode prog_13_method_16_code 17 = .ok (.aload_n 0, 1) := by decide +kernel
theorem d_M_copy_18 : decode prog_13_method_16_code 18 = .ok (.getfield 7, 3) := by decide +kernel
theorem d_M_copy_21 : decode prog_13_method_16_code 21 = .ok (.iload_n 1, 1) := by decide +kernel
theorem d_M_copy_22 : decode prog_13_method_16_code 22 = .ok (.iaload, 1) := by decide +kernel
theorem d_M_copy_23 : decode prog_13_method_16_code 23 = .ok (.ifCond .lt 12, 3) := by decide +kernel
theorem d_M_copy_26 : decode prog_13_method_16_code 26 = .ok (.aload_n 0, 1) := by decide +kernel
theorem d_M_copy_27 : decode prog_13_method_16_code 27 = .ok (.getfield 7, 3) := by decide +kernel
theorem d_M_copy_30 : decode prog_13_method_16_code 30 = .ok (.iload_n 3, 1) := by decide +kernel
theorem d_M_copy_31 : decode prog_13_method_16_code 31 = .ok (.iaload, 1) := by decide +kernel
theorem d_M_copy_32 : decode prog_13_method_16_code 32 = .ok (.ifCond .ge 9, 3) := by decide +kernel
theorem d_M_copy_35 : decode prog_13_method_16_code 35 = .ok (.aload_n 0, 1) := by decide +kernel
theorem d_M_copy_36 : decode prog_13_method_16_code 36 = .ok (.iconst 1, 1) := by decide +kernel
theorem d_M_copy_37 : decode prog_13_method_16_code 37 = .ok (.invokevirtual 92, 3) := by decide +kernel
theorem d_M_copy_40 : decode prog_13_method_16_code 40 = .ok (.ireturn, 1) := by decide +kernel
theorem d_M_copy_41 : decode prog_13_method_16_code 41 = .ok (.aload_n 0, 1) := by decide +kernel
theorem d_M_copy_42 : decode prog_13_method_16_code 42 = .ok (.getfield 7, 3) := by decide +kernel
theorem d_M_copy_45 : decode prog_13_method_16_code 45 = .ok (.iload_n 1, 1) := by decide +kernel
theorem d_M_copy_46 : decode prog_13_method_16_code 46 = .ok (.iaload, 1) := by decide +kernel
theorem d_M_copy_47 : decode prog_13_method_16_code 47 = .ok (.aload_n 0, 1) := by decide +kernel
theorem d_M_copy_48 : decode prog_13_method_16_code 48 = .ok (.getfield 7, 3) := by decide +kernel
theorem d_M_copy_51 : decode prog_13_method_16_code 51 = .ok (.iload_n 3, 1) := by decide +kernel
theorem d_M_copy_52 : decode prog_13_method_16_code 52 = .ok (.iaload, 1) := by decide +kernel
theorem d_M_copy_53 : decode prog_13_method_16_code 53 = .ok (.if_icmp .eq 9, 3) := by decide +kernel
theorem d_M_copy_56 : decode prog_13_method_16_code 56 = .ok (.aload_n 0, 1) := by decide +kernel
theorem d_M_copy_57 : decode prog_13_method_16_code 57 = .ok (.iconst 4, 1) := by decide +kernel
theorem d_M_copy_58 : decode prog_13_method_16_code 58 = .ok (.invokevirtual 92, 3) := by decide +kernel
theorem d_M_copy_61 : decode prog_13_method_16_code 61 = .ok (.ireturn, 1) := by decide +kernel
theorem d_M_copy_62 : decode prog_13_method_16_code 62 = .ok (.iload_n 2, 1) := by decide +kernel
theorem d_M_copy_63 : decode prog_13_method_16_code 63 = .ok (.ifCond .lt 48, 3) := by decide +kernel
theorem d_M_copy_66 : decode prog_13_method_16_code 66 = .ok (.iload 4, 2) := by decide +kernel
theorem d_M_copy_68 : decode prog_13_method_16_code 68 = .ok (.ifCond .lt 43, 3) := by decide +kernel
theorem d_M_copy_71 : decode prog_13_method_16_code 71 = .ok (.iload 5, 2) := by decide +kernel
theorem d_M_copy_73 : decode prog_13_method_16_code 73 = .ok (.ifCond .lt 38, 3) := by decide +kernel
theorem d_M_copy_76 : decode prog_13_method_16_code 76 = .ok (.iload_n 2, 1) := by decide +kernel
theorem d_M_copy_77 : decode prog_13_method_16_code 77 = .ok (.i2l, 1) := by decide +kernel
theorem d_M_copy_78 : decode prog_13_method_16_code 78 = .ok (.iload 5, 2) := by decide +kernel
theorem d_M_copy_80 : decode prog_13_method_16_code 80 = .ok (.i2l, 1) := by decide +kernel
theorem d_M_copy_81 : decode prog_13_method_16_code 81 = .ok (.ladd, 1) := by decide +kernel
theorem d_M_copy_82 : decode prog_13_method_16_code 82 = .ok (.aload_n 0, 1) := by decide +kernel
theorem d_M_copy_83 : decode prog_13_method_16_code 83 = .ok (.getfield 13, 3) := by decide +kernel
theorem d_M_copy_86 : decode prog_13_method_16_code 86 = .ok (.iload_n 1, 1) := by decide +kernel
theorem d_M_copy_87 : decode prog_13_method_16_code 87 = .ok (.iaload, 1) := by decide +kernel
theorem d_M_copy_88 : decode prog_13_method_16_code 88 = .ok (.i2l, 1) := by decide +kernel
theorem d_M_copy_89 : decode prog_13_method_16_code 89 = .ok (.lcmp, 1) := by decide +kernel
theorem d_M_copy_90 : decode prog_13_method_16_code 90 = .ok (.ifCond .gt 21, 3) := by decide +kernel
theorem d_M_copy_93 : decode prog_13_method_16_code 93 = .ok (.iload 4, 2) := by decide +kernel
theorem d_M_copy_95 : decode prog_13_method_16_code 95 = .ok (.i2l, 1) := by decide +kernel
theorem d_M_copy_96 : decode prog_13_method_16_code 96 = .ok (.iload 5, 2) := by decide +kernel
theorem d_M_copy_98 : decode prog_13_method_16_code 98 = .ok (.i2l, 1) := by decide +kernel
theorem d_M_copy_99 : decode prog_13_method_16_code 99 = .ok (.ladd, 1) := by decide +kernel
theorem d_M_copy_100 : decode prog_13_method_16_code 100 = .ok (.aload_n 0, 1) := by decide +kernel
theorem d_M_copy_101 : decode prog_13_method_16_code 101 = .ok (.getfield 13, 3) := by decide +kernel
theorem d_M_copy_104 : decode prog_13_method_16_code 104 = .ok (.iload_n 3, 1) := by decide +kernel
theorem d_M_copy_105 : decode prog_13_method_16_code 105 = .ok (.iaload, 1) := by decide +kernel
theorem d_M_copy_106 : decode prog_13_method_16_code 106 = .ok (.i2l, 1) := by decide +kernel
theorem d_M_copy_107 : decode prog_13_method_16_code 107 = .ok (.lcmp, 1) := by decide +kernel
theorem d_M_copy_108 : decode prog_13_method_16_code 108 = .ok (.ifCond .le 9, 3) := by decide +kernel
theorem d_M_copy_111 : decode prog_13_method_16_code 111 = .ok (.aload_n 0, 1) := by decide +kernel
theorem d_M_copy_112 : decode prog_13_method_16_code 112 = .ok (.iconst 2, 1) := by decide +kernel
theorem d_M_copy_113 : decode prog_13_method_16_code 113 = .ok (.invokevirtual 92, 3) := by decide +kernel
theorem d_M_copy_116 : decode prog_13_method_16_code 116 = .ok (.ireturn, 1) := by decide +kernel
theorem d_M_copy_117 : decode prog_13_method_16_code 117 = .ok (.iconst 0, 1) := by decide +kernel
theorem d_M_copy_118 : decode prog_13_method_16_code 118 = .ok (.istore 6, 2) := by decide +kernel
theorem d_M_copy_120 : decode prog_13_method_16_code 120 = .ok (.iload 6, 2) := by decide +kernel
theorem d_M_copy_122 : decode prog_13_method_16_code 122 = .ok (.iload 5, 2) := by decide +kernel
theorem d_M_copy_124 : decode prog_13_method_16_code 124 = .ok (.if_icmp .ge 30, 3) := by decide +kernel
theorem d_M_copy_127 : decode prog_13_method_16_code 127 = .ok (.aload_n 0, 1) := by decide +kernel
theorem d_M_copy_128 : decode prog_13_method_16_code 128 = .ok (.getfield 19, 3) := by decide +kernel
theorem d_M_copy_131 : decode prog_13_method_16_code 131 = .ok (.iload 6, 2) := by decide +kernel
theorem d_M_copy_133 : decode prog_13_method_16_code 133 = .ok (.aload_n 0, 1) := by decide +kernel
theorem d_M_copy_134 : decode prog_13_method_16_code 134 = .ok (.getfield 16, 3) := by decide +kernel
theorem d_M_copy_137 : decode prog_13_method_16_code 137 = .ok (.bipush 60, 2) := by decide +kernel
theorem d_M_copy_139 : decode prog_13_method_16_code 139 = .ok (.iload_n 1, 1) := by decide +kernel
theorem d_M_copy_140 : decode prog_13_method_16_code 140 = .ok (.imul, 1) := by decide +kernel
theorem d_M_copy_141 : decode prog_13_method_16_code 141 = .ok (.iload_n 2, 1) := by decide +kernel
theorem d_M_copy_142 : decode prog_13_method_16_code 142 = .ok (.iadd, 1) := by decide +kernel
theorem d_M_copy_143 : decode prog_13_method_16_code 143 = .ok (.iload 6, 2) := by decide +kernel
theorem d_M_copy_145 : decode prog_13_method_16_code 145 = .ok (.iadd, 1) := by decide +kernel
theorem d_M_copy_146 : decode prog_13_method_16_code 146 = .ok (.iaload, 1) := by decide +kernel
theorem d_M_copy_147 : decode prog_13_method_16_code 147 = .ok (.iastore, 1) := by decide +kernel
theorem d_M_copy_148 : decode prog_13_method_16_code 148 = .ok (.iinc 6 1, 3) := by decide +kernel
theorem d_M_copy_151 : decode prog_13_method_16_code 151 = .ok (.goto (-31), 3) := by decide +kernel
theorem d_M_copy_154 : decode prog_13_method_16_code 154 = .ok (.iconst 0, 1) := by decide +kernel
theorem d_M_copy_155 : decode prog_13_method_16_code 155 = .ok (.istore 6, 2) := by decide +kernel
theorem d_M_copy_157 : decode prog_13_method_16_code 157 = .ok (.iload 6, 2) := by decide +kernel
theorem d_M_copy_159 : decode prog_13_method_16_code 159 = .ok (.iload 5, 2) := by decide +kernel
theorem d_M_copy_161 : decode prog_13_method_16_code 161 = .ok (.if_icmp .ge 31, 3) := by decide +kernel
theorem d_M_copy_164 : decode prog_13_method_16_code 164 = .ok (.aload_n 0, 1) := by decide +kernel
theorem d_M_copy_165 : decode prog_13_method_16_code 165 = .ok (.getfield 16, 3) := by decide +kernel
theorem d_M_copy_168 : decode prog_13_method_16_code 168 = .ok (.bipush 60, 2) := by decide +kernel
theorem d_M_copy_170 : decode prog_13_method_16_code 170 = .ok (.iload_n 3, 1) := by decide +kernel
theorem d_M_copy_171 : decode prog_13_method_16_code 171 = .ok (.imul, 1) := by decide +kernel
theorem d_M_copy_172 : decode prog_13_method_16_code 172 = .ok (.iload 4, 2) := by decide +kernel
theorem d_M_copy_174 : decode prog_13_method_16_code 174 = .ok (.iadd, 1) := by decide +kernel
theorem d_M_copy_175 : decode prog_13_method_16_code 175 = .ok (.iload 6, 2) := by decide +kernel
theorem d_M_copy_177 : decode prog_13_method_16_code 177 = .ok (.iadd, 1) := by decide +kernel
theorem d_M_copy_178 : decode prog_13_method_16_code 178 = .ok (.aload_n 0, 1) := by decide +kernel
theorem d_M_copy_179 : decode prog_13_method_16_code 179 = .ok (.getfield 19, 3) := by decide +kernel
theorem d_M_copy_182 : decode prog_13_method_16_code 182 = .ok (.iload 6, 2) := by decide +kernel
theorem d_M_copy_184 : decode prog_13_method_16_code 184 = .ok (.iaload, 1) := by decide +kernel
theorem d_M_copy_185 : decode prog_13_method_16_code 185 = .ok (.iastore, 1) := by decide +kernel
theorem d_M_copy_186 : decode prog_13_method_16_code 186 = .ok (.iinc 6 1, 3) := by decide +kernel
theorem d_M_copy_189 : decode prog_13_method_16_code 189 = .ok (.goto (-32), 3) := by decide +kernel
theorem d_M_copy_192 : decode prog_13_method_16_code 192 = .ok (.iconst 1, 1) := by decide +kernel
theorem d_M_copy_193 : decode prog_13_method_16_code 193 = .ok (.ireturn, 1) := by decide +kernel
theorem d_M_type_0 : decode prog_13_method_17_code 0 = .ok (.iload_n 1, 1) := by decide +kernel
theorem d_M_type_1 : decode prog_13_method_17_code 1 = .ok (.i2l, 1) := by decide +kernel
theorem d_M_type_2 : decode prog_13_method_17_code 2 = .ok (.lconst 0, 1) := by decide +kernel
theorem d_M_type_3 : decode prog_13_method_17_code 3 = .ok (.ldc2_w 105, 3) := by decide +kernel
theorem d_M_type_6 : decode prog_13_method_17_code 6 = .ok (.invokestatic 76, 3) := by decide +kernel
theorem d_M_type_9 : decode prog_13_method_17_code 9 = .ok (.ifCond .ne 6, 3) := by decide +kernel
theorem d_M_type_12 : decode prog_13_method_17_code 12 = .ok (.bipush (-2), 2) := by decide +kernel
theorem d_M_type_14 : decode prog_13_method_17_code 14 = .ok (.ireturn, 1) := by decide +kernel
theorem d_M_type_15 : decode prog_13_method_17_code 15 = .ok (.aload_n 0, 1) := by decide +kernel
theorem d_M_type_16 : decode prog_13_method_17_code 16 = .ok (.getfield 107, 3) := by decide +kernel
theorem d_M_type_19 : decode prog_13_method_17_code 19 = .ok (.bipush 60, 2) := by decide +kernel
theorem d_M_type_21 : decode prog_13_method_17_code 21 = .ok (.if_icmp .ne 6, 3) := by decide +kernel
theorem d_M_type_24 : decode prog_13_method_17_code 24 = .ok (.bipush (-4), 2) := by decide +kernel
theorem d_M_type_26 : decode prog_13_method_17_code 26 = .ok (.ireturn, 1) := by decide +kernel
theorem d_M_type_27 : decode prog_13_method_17_code 27 = .ok (.aload_n 0, 1) := by decide +kernel
theorem d_M_type_28 : decode prog_13_method_17_code 28 = .ok (.getfield 22, 3) := by decide +kernel
theorem d_M_type_31 : decode prog_13_method_17_code 31 = .ok (.aload_n 0, 1) := by decide +kernel
theorem d_M_type_32 : decode prog_13_method_17_code 32 = .ok (.getfield 107, 3) := by decide +kernel
theorem d_M_type_35 : decode prog_13_method_17_code 35 = .ok (.iload_n 1, 1) := by decide +kernel
theorem d_M_type_36 : decode prog_13_method_17_code 36 = .ok (.iastore, 1) := by decide +kernel
theorem d_M_type_37 : decode prog_13_method_17_code 37 = .ok (.aload_n 0, 1) := by decide +kernel
theorem d_M_type_38 : decode prog_13_method_17_code 38 = .ok (.dup, 1) := by decide +kernel
theorem d_M_type_39 : decode prog_13_method_17_code 39 = .ok (.getfield 107, 3) := by decide +kernel
theorem d_M_type_42 : decode prog_13_method_17_code 42 = .ok (.iconst 1, 1) := by decide +kernel
theorem d_M_type_43 : decode prog_13_method_17_code 43 = .ok (.iadd, 1) := by decide +kernel
theorem d_M_type_44 : decode prog_13_method_17_code 44 = .ok (.putfield 107, 3) := by decide +kernel
theorem d_M_type_47 : decode prog_13_method_17_code 47 = .ok (.aload_n 0, 1) := by decide +kernel
theorem d_M_type_48 : decode prog_13_method_17_code 48 = .ok (.getfield 107, 3) := by decide +kernel
theorem d_M_type_51 : decode prog_13_method_17_code 51 = .ok (.ireturn, 1) := by decide +kernel
theorem d_M_wipe_0 : decode prog_13_method_18_code 0 = .ok (.aload_n 0, 1) := by decide +kernel
theorem d_M_wipe_1 : decode prog_13_method_18_code 1 = .ok (.getfield 107, 3) := by decide +kernel
theorem d_M_wipe_4 : decode prog_13_method_18_code 4 = .ok (.istore_n 1, 1) := by decide +kernel
theorem d_M_wipe_5 : decode prog_13_method_18_code 5 = .ok (.aload_n 0, 1) := by decide +kernel
theorem d_M_wipe_6 : decode prog_13_method_18_code 6 = .ok (.iconst 0, 1) := by decide +kernel
theorem d_M_wipe_7 : decode prog_13_method_18_code 7 = .ok (.putfield 107, 3) := by decide +kernel
theorem d_M_wipe_10 : decode prog_13_method_18_code 10 = .ok (.iload_n 1, 1) := by decide +kernel
theorem d_M_wipe_11 : decode prog_13_method_18_code 11 = .ok (.ireturn, 1) := by decide +kernel
theorem d_M_here_0 : decode prog_13_method_19_code 0 = .ok (.aload_n 0, 1) := by decide +kernel
theorem d_M_here_1 : decode prog_13_method_19_code 1 = .ok (.getfield 110, 3) := by decide +kernel
theorem d_M_here_4 : decode prog_13_method_19_code 4 = .ok (.aload_n 0, 1) := by decide +kernel
theorem d_M_here_5 : decode prog_13_method_19_code 5 = .ok (.getfield 107, 3) := by decide +kernel
theorem d_M_here_8 : decode prog_13_method_19_code 8 = .ok (.if_icmp .ge 15, 3) := by decide +kernel
theorem d_M_here_11 : decode prog_13_method_19_code 11 = .ok (.aload_n 0, 1) := by decide +kernel
theorem d_M_here_12 : decode prog_13_method_19_code 12 = .ok (.getfield 22, 3) := by decide +kernel
theorem d_M_here_15 : decode prog_13_method_19_code 15 = .ok (.aload_n 0, 1) := by decide +kernel
theorem d_M_here_16 : decode prog_13_method_19_code 16 = .ok (.getfield 110, 3) := by decide +kernel
theorem d_M_here_19 : decode prog_13_method_19_code 19 = .ok (.iaload, 1) := by decide +kernel
theorem d_M_here_20 : decode prog_13_method_19_code 20 = .ok (.goto 4, 3) := by decide +kernel
theorem d_M_here_23 : decode prog_13_method_19_code 23 = .ok (.iconst (-1), 1) := by decide +kernel
theorem d_M_here_24 : decode prog_13_method_19_code 24 = .ok (.ireturn, 1) := by decide +kernel
theorem d_M_none_0 : decode prog_13_method_20_code 0 = .ok (.aload_n 0, 1) := by decide +kernel
theorem d_M_none_1 : decode prog_13_method_20_code 1 = .ok (.iconst 0, 1) := by decide +kernel
theorem d_M_none_2 : decode prog_13_method_20_code 2 = .ok (.putfield 113, 3) := by decide +kernel
theorem d_M_none_5 : decode prog_13_method_20_code 5 = .ok (.aload_n 0, 1) := by decide +kernel
theorem d_M_none_6 : decode prog_13_method_20_code 6 = .ok (.getfield 110, 3) := by decide +kernel
theorem d_M_none_9 : decode prog_13_method_20_code 9 = .ok (.ireturn, 1) := by decide +kernel
theorem d_M_readsPart_0 : decode prog_13_method_21_code 0 = .ok (.aload_n 0, 1) := by decide +kernel
theorem d_M_readsPart_1 : decode prog_13_method_21_code 1 = .ok (.invokevirtual 116, 3) := by decide +kernel
theorem d_M_readsPart_4 : decode prog_13_method_21_code 4 = .ok (.istore_n 1, 1) := by decide +kernel
theorem d_M_readsPart_5 : decode prog_13_method_21_code 5 = .ok (.iload_n 1, 1) := by decide +kernel
theorem d_M_readsPart_6 : decode prog_13_method_21_code 6 = .ok (.bipush 112, 2) := by decide +kernel
theorem d_M_readsPart_8 : decode prog_13_method_21_code 8 = .ok (.if_icmp .ne 7, 3) := by decide +kernel
theorem d_M_readsPart_11 : decode prog_13_method_21_code 11 = .ok (.iconst 0, 1) := by decide +kernel
theorem d_M_readsPart_12 : decode prog_13_method_21_code 12 = .ok (.goto 24, 3) := by decide +kernel
theorem d_M_readsPart_15 : decode prog_13_method_21_code 15 = .ok (.iload_n 1, 1) := by decide +kernel
theorem d_M_readsPart_16 : decode prog_13_method_21_code 16 = .ok (.bipush 118, 2) := by decide +kernel
theorem d_M_readsPart_18 : decode prog_13_method_21_code 18 = .ok (.if_icmp .ne 7, 3) := by decide +kernel
theorem d_M_readsPart_21 : decode prog_13_method_21_code 21 = .ok (.iconst 1, 1) := by decide +kernel
theorem d_M_readsPart_22 : decode prog_13_method_21_code 22 = .ok (.goto 14, 3) := by decide +kernel
theorem d_M_readsPart_25 : decode prog_13_method_21_code 25 = .ok (.iload_n 1, 1) := by decide +kernel
theorem d_M_readsPart_26 : decode prog_13_method_21_code 26 = .ok (.bipush 100, 2) := by decide +kernel
theorem d_M_readsPart_28 : decode prog_13_method_21_code 28 = .ok (.if_icmp .ne 7, 3) := by decide +kernel
theorem d_M_readsPart_31 : decode prog_13_method_21_code 31 = .ok (.iconst 2, 1) := by decide +kernel
theorem d_M_readsPart_32 : decode prog_13_method_21_code 32 = .ok (.goto 4, 3) := by decide +kernel
theorem d_M_readsPart_35 : decode prog_13_method_21_code 35 = .ok (.iconst (-1), 1) := by decide +kernel
theorem d_M_readsPart_36 : decode prog_13_method_21_code 36 = .ok (.istore_n 2, 1) := by decide +kernel
theorem d_M_readsPart_37 : decode prog_13_method_21_code 37 = .ok (.iload_n 2, 1) := by decide +kernel
theorem d_M_readsPart_38 : decode prog_13_method_21_code 38 = .ok (.iconst (-1), 1) := by decide +kernel
theorem d_M_readsPart_39 : decode prog_13_method_21_code 39 = .ok (.if_icmp .eq 12, 3) := by decide +kernel
theorem d_M_readsPart_42 : decode prog_13_method_21_code 42 = .ok (.aload_n 0, 1) := by decide +kernel
theorem d_M_readsPart_43 : decode prog_13_method_21_code 43 = .ok (.getfield 113, 3) := by decide +kernel
theorem d_M_readsPart_46 : decode prog_13_method_21_code 46 = .ok (.bipush 8, 2) := by decide +kernel
theorem d_M_readsPart_48 : decode prog_13_method_21_code 48 = .ok (.if_icmp .ne 5, 3) := by decide +kernel
theorem d_M_readsPart_51 : decode prog_13_method_21_code 51 = .ok (.iconst 0, 1) := by decide +kernel
theorem d_M_readsPart_52 : decode prog_13_method_21_code 52 = .ok (.ireturn, 1) := by decide +kernel
theorem d_M_readsPart_53 : decode prog_13_method_21_code 53 = .ok (.aload_n 0, 1) := by decide +kernel
theorem d_M_readsPart_54 : decode prog_13_method_21_code 54 = .ok (.dup, 1) := by decide +kernel
theorem d_M_readsPart_55 : decode prog_13_method_21_code 55 = .ok (.getfield 110, 3) := by decide +kernel
theorem d_M_readsPart_58 : decode prog_13_method_21_code 58 = .ok (.iconst 1, 1) := by decide +kernel
theorem d_M_readsPart_59 : decode prog_13_method_21_code 59 = .ok (.iadd, 1) := by decide +kernel
theorem d_M_readsPart_60 : decode prog_13_method_21_code 60 = .ok (.putfield 110, 3) := by decide +kernel
theorem d_M_readsPart_63 : decode prog_13_method_21_code 63 = .ok (.iconst 0, 1) := by decide +kernel
theorem d_M_readsPart_64 : decode prog_13_method_21_code 64 = .ok (.istore_n 3, 1) := by decide +kernel
theorem d_M_readsPart_65 : decode prog_13_method_21_code 65 = .ok (.iconst 0, 1) := by decide +kernel
theorem d_M_readsPart_66 : decode prog_13_method_21_code 66 = .ok (.istore 4, 2) := by decide +kernel
theorem d_M_readsPart_68 : decode prog_13_method_21_code 68 = .ok (.iload 4, 2) := by decide +kernel
theorem d_M_readsPart_70 : decode prog_13_method_21_code 70 = .ok (.iconst 2, 1) := by decide +kernel
theorem d_M_readsPart_71 : decode prog_13_method_21_code 71 = .ok (.if_icmp .ge 51, 3) := by decide +kernel
theorem d_M_readsPart_74 : decode prog_13_method_21_code 74 = .ok (.aload_n 0, 1) := by decide +kernel
theorem d_M_readsPart_75 : decode prog_13_method_21_code 75 = .ok (.invokevirtual 116, 3) := by decide +kernel
theorem d_M_readsPart_78 : decode prog_13_method_21_code 78 = .ok (.i2l, 1) := by decide +kernel
theorem d_M_readsPart_79 : decode prog_13_method_21_code 79 = .ok (.ldc2_w 120, 3) := by decide +kernel
theorem d_M_readsPart_82 : decode prog_13_method_21_code 82 = .ok (.ldc2_w 122, 3) := by decide +kernel
theorem d_M_readsPart_85 : decode prog_13_method_21_code 85 = .ok (.invokestatic 76, 3) := by decide +kernel
theorem d_M_readsPart_88 : decode prog_13_method_21_code 88 = .ok (.ifCond .ne 5, 3) := by decide +kernel
theorem d_M_readsPart_91 : decode prog_13_method_21_code 91 = .ok (.iconst 0, 1) := by decide +kernel
theorem d_M_readsPart_92 : decode prog_13_method_21_code 92 = .ok (.ireturn, 1) := by decide +kernel
theorem d_M_readsPart_93 : decode prog_13_method_21_code 93 = .ok (.bipush 10, 2) := by decide +kernel
theorem d_M_readsPart_95 : decode prog_13_method_21_code 95 = .ok (.iload_n 3, 1) := by decide +kernel
theorem d_M_readsPart_96 : decode prog_13_method_21_code 96 = .ok (.imul, 1) := by decide +kernel
theorem d_M_readsPart_97 : decode prog_13_method_21_code 97 = .ok (.aload_n 0, 1) := by decide +kernel
theorem d_M_readsPart_98 : decode prog_13_method_21_code 98 = .ok (.invokevirtual 116, 3) := by decide +kernel
theorem d_M_readsPart_101 : decode prog_13_method_21_code 101 = .ok (.iadd, 1) := by decide +kernel
theorem d_M_readsPart_102 : decode prog_13_method_21_code 102 = .ok (.bipush 48, 2) := by decide +kernel
theorem d_M_readsPart_104 : decode prog_13_method_21_code 104 = .ok (.isub, 1) := by decide +kernel
theorem d_M_readsPart_105 : decode prog_13_method_21_code 105 = .ok (.istore_n 3, 1) := by decide +kernel
theorem d_M_readsPart_106 : decode prog_13_method_21_code 106 = .ok (.aload_n 0, 1) := by decide +kernel
theorem d_M_readsPart_107 : decode prog_13_method_21_code 107 = .ok (.dup, 1) := by decide +kernel
theorem d_M_readsPart_108 : decode prog_13_method_21_code 108 = .ok (.getfield 110, 3) := by decide +kernel
theorem d_M_readsPart_111 : decode prog_13_method_21_code 111 = .ok (.iconst 1, 1) := by decide +kernel
theorem d_M_readsPart_112 : decode prog_13_method_21_code 112 = .ok (.iadd, 1) := by decide +kernel
theorem d_M_readsPart_113 : decode prog_13_method_21_code 113 = .ok (.putfield 110, 3) := by decide +kernel
theorem d_M_readsPart_116 : decode prog_13_method_21_code 116 = .ok (.iinc 4 1, 3) := by decide +kernel
theorem d_M_readsPart_119 : decode prog_13_method_21_code 119 = .ok (.goto (-51), 3) := by decide +kernel
theorem d_M_readsPart_122 : decode prog_13_method_21_code 122 = .ok (.iload_n 3, 1) := by decide +kernel
theorem d_M_readsPart_123 : decode prog_13_method_21_code 123 = .ok (.ifCond .ne 15, 3) := by decide +kernel
theorem d_M_readsPart_126 : decode prog_13_method_21_code 126 = .ok (.aload_n 0, 1) := by decide +kernel
theorem d_M_readsPart_127 : decode prog_13_method_21_code 127 = .ok (.dup, 1) := by decide +kernel
theorem d_M_readsPart_128 : decode prog_13_method_21_code 128 = .ok (.getfield 110, 3) := by decide +kernel
theorem d_M_readsPart_131 : decode prog_13_method_21_code 131 = .ok (.iconst 2, 1) := by decide +kernel
theorem d_M_readsPart_132 : decode prog_13_method_21_code 132 = .ok (.isub, 1) := by decide +kernel
theorem d_M_readsPart_133 : decode prog_13_method_21_code 133 = .ok (.putfield 110, 3) := by decide +kernel
theorem d_M_readsPart_136 : decode prog_13_method_21_code 136 = .ok (.iconst 0, 1) := by decide +kernel
theorem d_M_readsPart_137 : decode prog_13_method_21_code 137 = .ok (.ireturn, 1) := by decide +kernel
theorem d_M_readsPart_138 : decode prog_13_method_21_code 138 = .ok (.aload_n 0, 1) := by decide +kernel
theorem d_M_readsPart_139 : decode prog_13_method_21_code 139 = .ok (.getfield 25, 3) := by decide +kernel
theorem d_M_readsPart_142 : decode prog_13_method_21_code 142 = .ok (.aload_n 0, 1) := by decide +kernel
theorem d_M_readsPart_143 : decode prog_13_method_21_code 143 = .ok (.getfield 113, 3) := by decide +kernel
theorem d_M_readsPart_146 : decode prog_13_method_21_code 146 = .ok (.iload_n 2, 1) := by decide +kernel
theorem d_M_readsPart_147 : decode prog_13_method_21_code 147 = .ok (.iastore, 1) := by decide +kernel
theorem d_M_readsPart_148 : decode prog_13_method_21_code 148 = .ok (.aload_n 0, 1) := by decide +kernel
theorem d_M_readsPart_149 : decode prog_13_method_21_code 149 = .ok (.getfield 28, 3) := by decide +kernel
theorem d_M_readsPart_152 : decode prog_13_method_21_code 152 = .ok (.aload_n 0, 1) := by decide +kernel
theorem d_M_readsPart_153 : decode prog_13_method_21_code 153 = .ok (.getfield 113, 3) := by decide +kernel
theorem d_M_readsPart_156 : decode prog_13_method_21_code 156 = .ok (.iload_n 3, 1) := by decide +kernel
theorem d_M_readsPart_157 : decode prog_13_method_21_code 157 = .ok (.iastore, 1) := by decide +kernel
theorem d_M_readsPart_158 : decode prog_13_method_21_code 158 = .ok (.aload_n 0, 1) := by decide +kernel
theorem d_M_readsPart_159 : decode prog_13_method_21_code 159 = .ok (.dup, 1) := by decide +kernel
theorem d_M_readsPart_160 : decode prog_13_method_21_code 160 = .ok (.getfield 113, 3) := by decide +kernel
theorem d_M_readsPart_163 : decode prog_13_method_21_code 163 = .ok (.iconst 1, 1) := by decide +kernel
theorem d_M_readsPart_164 : decode prog_13_method_21_code 164 = .ok (.iadd, 1) := by decide +kernel
theorem d_M_readsPart_165 : decode prog_13_method_21_code 165 = .ok (.putfield 113, 3) := by decide +kernel
theorem d_M_readsPart_168 : decode prog_13_method_21_code 168 = .ok (.iconst 1, 1) := by decide +kernel
theorem d_M_readsPart_169 : decode prog_13_method_21_code 169 = .ok (.ireturn, 1) := by decide +kernel
theorem d_M_reads_0 : decode prog_13_method_22_code 0 = .ok (.aload_n 0, 1) := by decide +kernel
theorem d_M_reads_1 : decode prog_13_method_22_code 1 = .ok (.iconst 0, 1) := by decide +kernel
theorem d_M_reads_2 : decode prog_13_method_22_code 2 = .ok (.putfield 110, 3) := by decide +kernel
theorem d_M_reads_5 : decode prog_13_method_22_code 5 = .ok (.aload_n 0, 1) := by decide +kernel
theorem d_M_reads_6 : decode prog_13_method_22_code 6 = .ok (.iconst 0, 1) := by decide +kernel
theorem d_M_reads_7 : decode prog_13_method_22_code 7 = .ok (.putfield 113, 3) := by decide +kernel
theorem d_M_reads_10 : decode prog_13_method_22_code 10 = .ok (.aload_n 0, 1) := by decide +kernel
theorem d_M_reads_11 : decode prog_13_method_22_code 11 = .ok (.getfield 107, 3) := by decide +kernel
theorem d_M_reads_14 : decode prog_13_method_22_code 14 = .ok (.ifCond .le 7, 3) := by decide +kernel
theorem d_M_reads_17 : decode prog_13_method_22_code 17 = .ok (.iconst 1, 1) := by decide +kernel
theorem d_M_reads_18 : decode prog_13_method_22_code 18 = .ok (.goto 4, 3) := by decide +kernel
theorem d_M_reads_21 : decode prog_13_method_22_code 21 = .ok (.iconst 0, 1) := by decide +kernel
theorem d_M_reads_22 : decode prog_13_method_22_code 22 = .ok (.istore_n 1, 1) := by decide +kernel
theorem d_M_reads_23 : decode prog_13_method_22_code 23 = .ok (.iload_n 1, 1) := by decide +kernel
theorem d_M_reads_24 : decode prog_13_method_22_code 24 = .ok (.ifCond .eq 71, 3) := by decide +kernel
theorem d_M_reads_27 : decode prog_13_method_22_code 27 = .ok (.aload_n 0, 1) := by decide +kernel
theorem d_M_reads_28 : decode prog_13_method_22_code 28 = .ok (.invokevirtual 124, 3) := by decide +kernel
theorem d_M_reads_31 : decode prog_13_method_22_code 31 = .ok (.ifCond .ne 8, 3) := by decide +kernel
theorem d_M_reads_34 : decode prog_13_method_22_code 34 = .ok (.aload_n 0, 1) := by decide +kernel
theorem d_M_reads_35 : decode prog_13_method_22_code 35 = .ok (.invokevirtual 128, 3) := by decide +kernel
theorem d_M_reads_38 : decode prog_13_method_22_code 38 = .ok (.ireturn, 1) := by decide +kernel
theorem d_M_reads_39 : decode prog_13_method_22_code 39 = .ok (.aload_n 0, 1) := by decide +kernel
theorem d_M_reads_40 : decode prog_13_method_22_code 40 = .ok (.getfield 110, 3) := by decide +kernel
theorem d_M_reads_43 : decode prog_13_method_22_code 43 = .ok (.aload_n 0, 1) := by decide +kernel
theorem d_M_reads_44 : decode prog_13_method_22_code 44 = .ok (.getfield 107, 3) := by decide +kernel
theorem d_M_reads_47 : decode prog_13_method_22_code 47 = .ok (.if_icmp .ge 7, 3) := by decide +kernel
theorem d_M_reads_50 : decode prog_13_method_22_code 50 = .ok (.iconst 1, 1) := by decide +kernel
theorem d_M_reads_51 : decode prog_13_method_22_code 51 = .ok (.goto 4, 3) := by decide +kernel
theorem d_M_reads_54 : decode prog_13_method_22_code 54 = .ok (.iconst 0, 1) := by decide +kernel
theorem d_M_reads_55 : decode prog_13_method_22_code 55 = .ok (.istore_n 1, 1) := by decide +kernel
theorem d_M_reads_56 : decode prog_13_method_22_code 56 = .ok (.iload_n 1, 1) := by decide +kernel
theorem d_M_reads_57 : decode prog_13_method_22_code 57 = .ok (.ifCond .eq 17, 3) := by decide +kernel
theorem d_M_reads_60 : decode prog_13_method_22_code 60 = .ok (.aload_n 0, 1) := by decide +kernel
theorem d_M_reads_61 : decode prog_13_method_22_code 61 = .ok (.invokevirtual 116, 3) := by decide +kernel
theorem d_M_reads_64 : decode prog_13_method_22_code 64 = .ok (.bipush 59, 2) := by decide +kernel
theorem d_M_reads_66 : decode prog_13_method_22_code 66 = .ok (.if_icmp .eq 8, 3) := by decide +kernel
theorem d_M_reads_69 : decode prog_13_method_22_code 69 = .ok (.aload_n 0, 1) := by decide +kernel
theorem d_M_reads_70 : decode prog_13_method_22_code 70 = .ok (.invokevirtual 128, 3) := by decide +kernel
theorem d_M_reads_73 : decode prog_13_method_22_code 73 = .ok (.ireturn, 1) := by decide +kernel
theorem d_M_reads_74 : decode prog_13_method_22_code 74 = .ok (.aload_n 0, 1) := by decide +kernel
theorem d_M_reads_75 : decode prog_13_method_22_code 75 = .ok (.dup, 1) := by decide +kernel
theorem d_M_reads_76 : decode prog_13_method_22_code 76 = .ok (.getfield 110, 3) := by decide +kernel
theorem d_M_reads_79 : decode prog_13_method_22_code 79 = .ok (.iload_n 1, 1) := by decide +kernel
theorem d_M_reads_80 : decode prog_13_method_22_code 80 = .ok (.ifCond .eq 7, 3) := by decide +kernel
theorem d_M_reads_83 : decode prog_13_method_22_code 83 = .ok (.iconst 1, 1) := by decide +kernel
theorem d_M_reads_84 : decode prog_13_method_22_code 84 = .ok (.goto 4, 3) := by decide +kernel
theorem d_M_reads_87 : decode prog_13_method_22_code 87 = .ok (.iconst 0, 1) := by decide +kernel
theorem d_M_reads_88 : decode prog_13_method_22_code 88 = .ok (.iadd, 1) := by decide +kernel
theorem d_M_reads_89 : decode prog_13_method_22_code 89 = .ok (.putfield 110, 3) := by decide +kernel
theorem d_M_reads_92 : decode prog_13_method_22_code 92 = .ok (.goto (-69), 3) := by decide +kernel
theorem d_M_reads_95 : decode prog_13_method_22_code 95 = .ok (.iconst (-1), 1) := by decide +kernel
theorem d_M_reads_96 : decode prog_13_method_22_code 96 = .ok (.ireturn, 1) := by decide +kernel
theorem d_M_fault_0 : decode prog_13_method_23_code 0 = .ok (.aload_n 0, 1) := by decide +kernel
theorem d_M_fault_1 : decode prog_13_method_23_code 1 = .ok (.invokevirtual 131, 3) := by decide +kernel
theorem d_M_fault_4 : decode prog_13_method_23_code 4 = .ok (.ireturn, 1) := by decide +kernel
theorem d_M_isChapter_0 : decode prog_13_method_24_code 0 = .ok (.aload_n 0, 1) := by decide +kernel
theorem d_M_isChapter_1 : decode prog_13_method_24_code 1 = .ok (.invokevirtual 131, 3) := by decide +kernel
theorem d_M_isChapter_4 : decode prog_13_method_24_code 4 = .ok (.pop, 1) := by decide +kernel
theorem d_M_isChapter_5 : decode prog_13_method_24_code 5 = .ok (.iload_n 1, 1) := by decide +kernel
theorem d_M_isChapter_6 : decode prog_13_method_24_code 6 = .ok (.i2l, 1) := by decide +kernel
theorem d_M_isChapter_7 : decode prog_13_method_24_code 7 = .ok (.lconst 0, 1) := by decide +kernel
theorem d_M_isChapter_8 : decode prog_13_method_24_code 8 = .ok (.aload_n 0, 1) := by decide +kernel
theorem d_M_isChapter_9 : decode prog_13_method_24_code 9 = .ok (.getfield 113, 3) := by decide +kernel
theorem d_M_isChapter_12 : decode prog_13_method_24_code 12 = .ok (.iconst 1, 1) := by decide +kernel
theorem d_M_isChapter_13 : decode prog_13_method_24_code 13 = .ok (.isub, 1) := by decide +kernel
theorem d_M_isChapter_14 : decode prog_13_method_24_code 14 = .ok (.i2l, 1) := by decide +kernel
theorem d_M_isChapter_15 : decode prog_13_method_24_code 15 = .ok (.invokestatic 76, 3) := by decide +kernel
theorem d_M_isChapter_18 : decode prog_13_method_24_code 18 = .ok (.ireturn, 1) := by decide +kernel
theorem d_M_isAnyChapter_0 : decode prog_13_method_25_code 0 = .ok (.iload_n 0, 1) := by decide +kernel
theorem d_M_isAnyChapter_1 : decode prog_13_method_25_code 1 = .ok (.i2l, 1) := by decide +kernel
theorem d_M_isAnyChapter_2 : decode prog_13_method_25_code 2 = .ok (.lconst 0, 1) := by decide +kernel
theorem d_M_isAnyChapter_3 : decode prog_13_method_25_code 3 = .ok (.ldc2_w 134, 3) := by decide +kernel
theorem d_M_isAnyChapter_6 : decode prog_13_method_25_code 6 = .ok (.invokestatic 76, 3) := by decide +kernel
theorem d_M_isAnyChapter_9 : decode prog_13_method_25_code 9 = .ok (.ireturn, 1) := by decide +kernel
theorem d_M_isReader_0 : decode prog_13_method_26_code 0 = .ok (.iload_n 0, 1) := by decide +kernel
theorem d_M_isReader_1 : decode prog_13_method_26_code 1 = .ok (.i2l, 1) := by decide +kernel
theorem d_M_isReader_2 : decode prog_13_method_26_code 2 = .ok (.lconst 0, 1) := by decide +kernel
theorem d_M_isReader_3 : decode prog_13_method_26_code 3 = .ok (.ldc2_w 136, 3) := by decide +kernel
theorem d_M_isReader_6 : decode prog_13_method_26_code 6 = .ok (.invokestatic 76, 3) := by decide +kernel
theorem d_M_isReader_9 : decode prog_13_method_26_code 9 = .ok (.ireturn, 1) := by decide +kernel
theorem d_M_isSome_0 : decode prog_13_method_27_code 0 = .ok (.iload_n 0, 1) := by decide +kernel
theorem d_M_isSome_1 : decode prog_13_method_27_code 1 = .ok (.i2l, 1) := by decide +kernel
theorem d_M_isSome_2 : decode prog_13_method_27_code 2 = .ok (.lconst 1, 1) := by decide +kernel
theorem d_M_isSome_3 : decode prog_13_method_27_code 3 = .ok (.ldc2_w 138, 3) := by decide +kernel
theorem d_M_isSome_6 : decode prog_13_method_27_code 6 = .ok (.invokestatic 76, 3) := by decide +kernel
theorem d_M_isSome_9 : decode prog_13_method_27_code 9 = .ok (.ireturn, 1) := by decide +kernel
theorem d_M_chapterOf_0 : decode prog_13_method_28_code 0 = .ok (.iload_n 2, 1) := by decide +kernel
theorem d_M_chapterOf_1 : decode prog_13_method_28_code 1 = .ok (.ifCond .ne 12, 3) := by decide +kernel
theorem d_M_chapterOf_4 : decode prog_13_method_28_code 4 = .ok (.aload_n 0, 1) := by decide +kernel
theorem d_M_chapterOf_5 : decode prog_13_method_28_code 5 = .ok (.getfield 25, 3) := by decide +kernel
theorem d_M_chapterOf_8 : decode prog_13_method_28_code 8 = .ok (.iload_n 1, 1) := by decide +kernel
theorem d_M_chapterOf_9 : decode prog_13_method_28_code 9 = .ok (.iaload, 1) := by decide +kernel
theorem d_M_chapterOf_10 : decode prog_13_method_28_code 10 = .ok (.goto 25, 3) := by decide +kernel
theorem d_M_chapterOf_13 : decode prog_13_method_28_code 13 = .ok (.iload_n 2, 1) := by decide +kernel
theorem d_M_chapterOf_14 : decode prog_13_method_28_code 14 = .ok (.iconst 1, 1) := by decide +kernel
theorem d_M_chapterOf_15 : decode prog_13_method_28_code 15 = .ok (.if_icmp .ne 12, 3) := by decide +kernel
theorem d_M_chapterOf_18 : decode prog_13_method_28_code 18 = .ok (.aload_n 0, 1) := by decide +kernel
theorem d_M_chapterOf_19 : decode prog_13_method_28_code 19 = .ok (.getfield 28, 3) := by decide +kernel
theorem d_M_chapterOf_22 : decode prog_13_method_28_code 22 = .ok (.iload_n 1, 1) := by decide +kernel
theorem d_M_chapterOf_23 : decode prog_13_method_28_code 23 = .ok (.iaload, 1) := by decide +kernel
theorem d_M_chapterOf_24 : decode prog_13_method_28_code 24 = .ok (.goto 11, 3) := by decide +kernel
theorem d_M_chapterOf_27 : decode prog_13_method_28_code 27 = .ok (.aload_n 0, 1) := by decide +kernel
theorem d_M_chapterOf_28 : decode prog_13_method_28_code 28 = .ok (.getfield 140, 3) := by decide +kernel
theorem d_M_chapterOf_31 : decode prog_13_method_28_code 31 = .ok (.iload_n 1, 1) := by decide +kernel
theorem d_M_chapterOf_32 : decode prog_13_method_28_code 32 = .ok (.ishr, 1) := by decide +kernel
theorem d_M_chapterOf_33 : decode prog_13_method_28_code 33 = .ok (.iconst 1, 1) := by decide +kernel
theorem d_M_chapterOf_34 : decode prog_13_method_28_code 34 = .ok (.iand, 1) := by decide +kernel
theorem d_M_chapterOf_35 : decode prog_13_method_28_code 35 = .ok (.ireturn, 1) := by decide +kernel
theorem d_M_chapter_0 : decode prog_13_method_29_code 0 = .ok (.aload_n 0, 1) := by decide +kernel
theorem d_M_chapter_1 : decode prog_13_method_29_code 1 = .ok (.iload_n 1, 1) := by decide +kernel
theorem d_M_chapter_2 : decode prog_13_method_29_code 2 = .ok (.invokevirtual 143, 3) := by decide +kernel
theorem d_M_chapter_5 : decode prog_13_method_29_code 5 = .ok (.ifCond .eq 24, 3) := by decide +kernel
theorem d_M_chapter_8 : decode prog_13_method_29_code 8 = .ok (.iload_n 2, 1) := by decide +kernel
theorem d_M_chapter_9 : decode prog_13_method_29_code 9 = .ok (.i2l, 1) := by decide +kernel
theorem d_M_chapter_10 : decode prog_13_method_29_code 10 = .ok (.lconst 0, 1) := by decide +kernel
theorem d_M_chapter_11 : decode prog_13_method_29_code 11 = .ok (.ldc2_w 90, 3) := by decide +kernel
theorem d_M_chapter_14 : decode prog_13_method_29_code 14 = .ok (.invokestatic 76, 3) := by decide +kernel
theorem d_M_chapter_17 : decode prog_13_method_29_code 17 = .ok (.ifCond .eq 12, 3) := by decide +kernel
theorem d_M_chapter_20 : decode prog_13_method_29_code 20 = .ok (.aload_n 0, 1) := by decide +kernel
theorem d_M_chapter_21 : decode prog_13_method_29_code 21 = .ok (.iload_n 1, 1) := by decide +kernel
theorem d_M_chapter_22 : decode prog_13_method_29_code 22 = .ok (.iload_n 2, 1) := by decide +kernel
theorem d_M_chapter_23 : decode prog_13_method_29_code 23 = .ok (.invokevirtual 146, 3) := by decide +kernel
theorem d_M_chapter_26 : decode prog_13_method_29_code 26 = .ok (.goto 5, 3) := by decide +kernel
theorem d_M_chapter_29 : decode prog_13_method_29_code 29 = .ok (.bipush (-2), 2) := by decide +kernel
theorem d_M_chapter_31 : decode prog_13_method_29_code 31 = .ok (.ireturn, 1) := by decide +kernel
theorem d_M_pace_0 : decode prog_13_method_30_code 0 = .ok (.iload_n 1, 1) := by decide +kernel
theorem d_M_pace_1 : decode prog_13_method_30_code 1 = .ok (.invokestatic 149, 3) := by decide +kernel
theorem d_M_pace_4 : decode prog_13_method_30_code 4 = .ok (.ifCond .eq 27, 3) := by decide +kernel
theorem d_M_pace_7 : decode prog_13_method_30_code 7 = .ok (.iload_n 2, 1) := by decide +kernel
theorem d_M_pace_8 : decode prog_13_method_30_code 8 = .ok (.i2l, 1) := by decide +kernel
theorem d_M_pace_9 : decode prog_13_method_30_code 9 = .ok (.lconst 0, 1) := by decide +kernel
theorem d_M_pace_10 : decode prog_13_method_30_code 10 = .ok (.ldc2_w 90, 3) := by decide +kernel
theorem d_M_pace_13 : decode prog_13_method_30_code 13 = .ok (.invokestatic 76, 3) := by decide +kernel
theorem d_M_pace_16 : decode prog_13_method_30_code 16 = .ok (.ifCond .eq 15, 3) := by decide +kernel
theorem d_M_pace_19 : decode prog_13_method_30_code 19 = .ok (.iload_n 3, 1) := by decide +kernel
theorem d_M_pace_20 : decode prog_13_method_30_code 20 = .ok (.i2l, 1) := by decide +kernel
theorem d_M_pace_21 : decode prog_13_method_30_code 21 = .ok (.lconst 1, 1) := by decide +kernel
theorem d_M_pace_22 : decode prog_13_method_30_code 22 = .ok (.ldc2_w 152, 3) := by decide +kernel
theorem d_M_pace_25 : decode prog_13_method_30_code 25 = .ok (.invokestatic 76, 3) := by decide +kernel
theorem d_M_pace_28 : decode prog_13_method_30_code 28 = .ok (.ifCond .ne 6, 3) := by decide +kernel
theorem d_M_pace_31 : decode prog_13_method_30_code 31 = .ok (.bipush (-2), 2) := by decide +kernel
theorem d_M_pace_33 : decode prog_13_method_30_code 33 = .ok (.ireturn, 1) := by decide +kernel
theorem d_M_pace_34 : decode prog_13_method_30_code 34 = .ok (.aload_n 0, 1) := by decide +kernel
theorem d_M_pace_35 : decode prog_13_method_30_code 35 = .ok (.getfield 31, 3) := by decide +kernel
theorem d_M_pace_38 : decode prog_13_method_30_code 38 = .ok (.iconst 3, 1) := by decide +kernel
theorem d_M_pace_39 : decode prog_13_method_30_code 39 = .ok (.iload_n 1, 1) := by decide +kernel
theorem d_M_pace_40 : decode prog_13_method_30_code 40 = .ok (.imul, 1) := by decide +kernel
theorem d_M_pace_41 : decode prog_13_method_30_code 41 = .ok (.iload_n 2, 1) := by decide +kernel
theorem d_M_pace_42 : decode prog_13_method_30_code 42 = .ok (.iadd, 1) := by decide +kernel
theorem d_M_pace_43 : decode prog_13_method_30_code 43 = .ok (.iaload, 1) := by decide +kernel
theorem d_M_pace_44 : decode prog_13_method_30_code 44 = .ok (.istore 4, 2) := by decide +kernel
theorem d_M_pace_46 : decode prog_13_method_30_code 46 = .ok (.aload_n 0, 1) := by decide +kernel
theorem d_M_pace_47 : decode prog_13_method_30_code 47 = .ok (.getfield 31, 3) := by decide +kernel
theorem d_M_pace_50 : decode prog_13_method_30_code 50 = .ok (.iconst 3, 1) := by decide +kernel
theorem d_M_pace_51 : decode prog_13_method_30_code 51 = .ok (.iload_n 1, 1) := by decide +kernel
theorem d_M_pace_52 : decode prog_13_method_30_code 52 = .ok (.imul, 1) := by decide +kernel
theorem d_M_pace_53 : decode prog_13_method_30_code 53 = .ok (.iload_n 2, 1) := by decide +kernel
theorem d_M_pace_54 : decode prog_13_method_30_code 54 = .ok (.iadd, 1) := by decide +kernel
theorem d_M_pace_55 : decode prog_13_method_30_code 55 = .ok (.iload_n 3, 1) := by decide +kernel
theorem d_M_pace_56 : decode prog_13_method_30_code 56 = .ok (.iastore, 1) := by decide +kernel
theorem d_M_pace_57 : decode prog_13_method_30_code 57 = .ok (.iload 4, 2) := by decide +kernel
theorem d_M_pace_59 : decode prog_13_method_30_code 59 = .ok (.ireturn, 1) := by decide +kernel
theorem d_M_read_0 : decode prog_13_method_31_code 0 = .ok (.iload_n 1, 1) := by decide +kernel
theorem d_M_read_1 : decode prog_13_method_31_code 1 = .ok (.invokestatic 86, 3) := by decide +kernel
theorem d_M_read_4 : decode prog_13_method_31_code 4 = .ok (.ifCond .eq 10, 3) := by decide +kernel
theorem d_M_read_7 : decode prog_13_method_31_code 7 = .ok (.iload_n 2, 1) := by decide +kernel
theorem d_M_read_8 : decode prog_13_method_31_code 8 = .ok (.invokestatic 149, 3) := by decide +kernel
theorem d_M_read_11 : decode prog_13_method_31_code 11 = .ok (.ifCond .ne 6, 3) := by decide +kernel
theorem d_M_read_14 : decode prog_13_method_31_code 14 = .ok (.bipush (-2), 2) := by decide +kernel
theorem d_M_read_16 : decode prog_13_method_31_code 16 = .ok (.ireturn, 1) := by decide +kernel
theorem d_M_read_17 : decode prog_13_method_31_code 17 = .ok (.aload_n 0, 1) := by decide +kernel
theorem d_M_read_18 : decode prog_13_method_31_code 18 = .ok (.getfield 7, 3) := by decide +kernel
theorem d_M_read_21 : decode prog_13_method_31_code 21 = .ok (.iload_n 1, 1) := by decide +kernel
theorem d_M_read_22 : decode prog_13_method_31_code 22 = .ok (.iaload, 1) := by decide +kernel
theorem d_M_read_23 : decode prog_13_method_31_code 23 = .ok (.ifCond .ge 9, 3) := by decide +kernel
theorem d_M_read_26 : decode prog_13_method_31_code 26 = .ok (.aload_n 0, 1) := by decide +kernel
theorem d_M_read_27 : decode prog_13_method_31_code 27 = .ok (.iconst 1, 1) := by decide +kernel
theorem d_M_read_28 : decode prog_13_method_31_code 28 = .ok (.invokevirtual 92, 3) := by decide +kernel
theorem d_M_read_31 : decode prog_13_method_31_code 31 = .ok (.ireturn, 1) := by decide +kernel
theorem d_M_read_32 : decode prog_13_method_31_code 32 = .ok (.iconst 0, 1) := by decide +kernel
theorem d_M_read_33 : decode prog_13_method_31_code 33 = .ok (.istore_n 3, 1) := by decide +kernel
theorem d_M_read_34 : decode prog_13_method_31_code 34 = .ok (.iload_n 3, 1) := by decide +kernel
theorem d_M_read_35 : decode prog_13_method_31_code 35 = .ok (.aload_n 0, 1) := by decide +kernel
theorem d_M_read_36 : decode prog_13_method_31_code 36 = .ok (.getfield 13, 3) := by decide +kernel
theorem d_M_read_39 : decode prog_13_method_31_code 39 = .ok (.iload_n 1, 1) := by decide +kernel
theorem d_M_read_40 : decode prog_13_method_31_code 40 = .ok (.iaload, 1) := by decide +kernel
theorem d_M_read_41 : decode prog_13_method_31_code 41 = .ok (.if_icmp .ge 29, 3) := by decide +kernel
theorem d_M_read_44 : decode prog_13_method_31_code 44 = .ok (.aload_n 0, 1) := by decide +kernel
theorem d_M_read_45 : decode prog_13_method_31_code 45 = .ok (.iload_n 2, 1) := by decide +kernel
theorem d_M_read_46 : decode prog_13_method_31_code 46 = .ok (.iload_n 3, 1) := by decide +kernel
theorem d_M_read_47 : decode prog_13_method_31_code 47 = .ok (.aload_n 0, 1) := by decide +kernel
theorem d_M_read_48 : decode prog_13_method_31_code 48 = .ok (.getfield 16, 3) := by decide +kernel
theorem d_M_read_51 : decode prog_13_method_31_code 51 = .ok (.bipush 60, 2) := by decide +kernel
theorem d_M_read_53 : decode prog_13_method_31_code 53 = .ok (.iload_n 1, 1) := by decide +kernel
theorem d_M_read_54 : decode prog_13_method_31_code 54 = .ok (.imul, 1) := by decide +kernel
theorem d_M_read_55 : decode prog_13_method_31_code 55 = .ok (.iload_n 3, 1) := by decide +kernel
theorem d_M_read_56 : decode prog_13_method_31_code 56 = .ok (.iadd, 1) := by decide +kernel
theorem d_M_read_57 : decode prog_13_method_31_code 57 = .ok (.iaload, 1) := by decide +kernel
theorem d_M_read_58 : decode prog_13_method_31_code 58 = .ok (.invokevirtual 154, 3) := by decide +kernel
theorem d_M_read_61 : decode prog_13_method_31_code 61 = .ok (.ifCond .le 9, 3) := by decide +kernel
theorem d_M_read_64 : decode prog_13_method_31_code 64 = .ok (.iinc 3 1, 3) := by decide +kernel
theorem d_M_read_67 : decode prog_13_method_31_code 67 = .ok (.goto (-33), 3) := by decide +kernel
theorem d_M_read_70 : decode prog_13_method_31_code 70 = .ok (.iload_n 3, 1) := by decide +kernel
theorem d_M_read_71 : decode prog_13_method_31_code 71 = .ok (.ireturn, 1) := by decide +kernel
theorem d_M_like_0 : decode prog_13_method_32_code 0 = .ok (.iload_n 1, 1) := by decide +kernel
theorem d_M_like_1 : decode prog_13_method_32_code 1 = .ok (.invokestatic 149, 3) := by decide +kernel
theorem d_M_like_4 : decode prog_13_method_32_code 4 = .ok (.ifCond .eq 17, 3) := by decide +kernel
theorem d_M_like_7 : decode prog_13_method_32_code 7 = .ok (.iload_n 2, 1) := by decide +kernel
theorem d_M_like_8 : decode prog_13_method_32_code 8 = .ok (.invokestatic 157, 3) := by decide +kernel
theorem d_M_like_11 : decode prog_13_method_32_code 11 = .ok (.ifCond .eq 10, 3) := by decide +kernel
theorem d_M_like_14 : decode prog_13_method_32_code 14 = .ok (.iload_n 3, 1) := by decide +kernel
theorem d_M_like_15 : decode prog_13_method_32_code 15 = .ok (.invokestatic 160, 3) := by decide +kernel
theorem d_M_like_18 : decode prog_13_method_32_code 18 = .ok (.ifCond .ne 6, 3) := by decide +kernel
theorem d_M_like_21 : decode prog_13_method_32_code 21 = .ok (.bipush (-2), 2) := by decide +kernel
theorem d_M_like_23 : decode prog_13_method_32_code 23 = .ok (.ireturn, 1) := by decide +kernel
theorem d_M_like_24 : decode prog_13_method_32_code 24 = .ok (.aload_n 0, 1) := by decide +kernel
theorem d_M_like_25 : decode prog_13_method_32_code 25 = .ok (.getfield 34, 3) := by decide +kernel
theorem d_M_like_28 : decode prog_13_method_32_code 28 = .ok (.iload_n 1, 1) := by decide +kernel
theorem d_M_like_29 : decode prog_13_method_32_code 29 = .ok (.iaload, 1) := by decide +kernel
theorem d_M_like_30 : decode prog_13_method_32_code 30 = .ok (.iload_n 2, 1) := by decide +kernel
theorem d_M_like_31 : decode prog_13_method_32_code 31 = .ok (.ishr, 1) := by decide +kernel
theorem d_M_like_32 : decode prog_13_method_32_code 32 = .ok (.iconst 1, 1) := by decide +kernel
theorem d_M_like_33 : decode prog_13_method_32_code 33 = .ok (.iand, 1) := by decide +kernel
theorem d_M_like_34 : decode prog_13_method_32_code 34 = .ok (.istore 4, 2) := by decide +kernel
theorem d_M_like_36 : decode prog_13_method_32_code 36 = .ok (.aload_n 0, 1) := by decide +kernel
theorem d_M_like_37 : decode prog_13_method_32_code 37 = .ok (.getfield 34, 3) := by decide +kernel
theorem d_M_like_40 : decode prog_13_method_32_code 40 = .ok (.iload_n 1, 1) := by decide +kernel
theorem d_M_like_41 : decode prog_13_method_32_code 41 = .ok (.aload_n 0, 1) := by decide +kernel
theorem d_M_like_42 : decode prog_13_method_32_code 42 = .ok (.getfield 34, 3) := by decide +kernel
theorem d_M_like_45 : decode prog_13_method_32_code 45 = .ok (.iload_n 1, 1) := by decide +kernel
theorem d_M_like_46 : decode prog_13_method_32_code 46 = .ok (.iaload, 1) := by decide +kernel
theorem d_M_like_47 : decode prog_13_method_32_code 47 = .ok (.iconst 1, 1) := by decide +kernel
theorem d_M_like_48 : decode prog_13_method_32_code 48 = .ok (.iload_n 2, 1) := by decide +kernel
theorem d_M_like_49 : decode prog_13_method_32_code 49 = .ok (.ishl, 1) := by decide +kernel
theorem d_M_like_50 : decode prog_13_method_32_code 50 = .ok (.iconst (-1), 1) := by decide +kernel
theorem d_M_like_51 : decode prog_13_method_32_code 51 = .ok (.ixor, 1) := by decide +kernel
theorem d_M_like_52 : decode prog_13_method_32_code 52 = .ok (.iand, 1) := by decide +kernel
theorem d_M_like_53 : decode prog_13_method_32_code 53 = .ok (.iload_n 3, 1) := by decide +kernel
theorem d_M_like_54 : decode prog_13_method_32_code 54 = .ok (.iload_n 2, 1) := by decide +kernel
theorem d_M_like_55 : decode prog_13_method_32_code 55 = .ok (.ishl, 1) := by decide +kernel
theorem d_M_like_56 : decode prog_13_method_32_code 56 = .ok (.ior, 1) := by decide +kernel
theorem d_M_like_57 : decode prog_13_method_32_code 57 = .ok (.iastore, 1) := by decide +kernel
theorem d_M_like_58 : decode prog_13_method_32_code 58 = .ok (.iload 4, 2) := by decide +kernel
theorem d_M_like_60 : decode prog_13_method_32_code 60 = .ok (.ireturn, 1) := by decide +kernel
theorem d_M_skip_0 : decode prog_13_method_33_code 0 = .ok (.iload_n 1, 1) := by decide +kernel
theorem d_M_skip_1 : decode prog_13_method_33_code 1 = .ok (.invokestatic 157, 3) := by decide +kernel
theorem d_M_skip_4 : decode prog_13_method_33_code 4 = .ok (.ifCond .eq 10, 3) := by decide +kernel
theorem d_M_skip_7 : decode prog_13_method_33_code 7 = .ok (.iload_n 2, 1) := by decide +kernel
theorem d_M_skip_8 : decode prog_13_method_33_code 8 = .ok (.invokestatic 160, 3) := by decide +kernel
theorem d_M_skip_11 : decode prog_13_method_33_code 11 = .ok (.ifCond .ne 6, 3) := by decide +kernel
theorem d_M_skip_14 : decode prog_13_method_33_code 14 = .ok (.bipush (-2), 2) := by decide +kernel
theorem d_M_skip_16 : decode prog_13_method_33_code 16 = .ok (.ireturn, 1) := by decide +kernel
theorem d_M_skip_17 : decode prog_13_method_33_code 17 = .ok (.aload_n 0, 1) := by decide +kernel
theorem d_M_skip_18 : decode prog_13_method_33_code 18 = .ok (.getfield 140, 3) := by decide +kernel
theorem d_M_skip_21 : decode prog_13_method_33_code 21 = .ok (.iload_n 1, 1) := by decide +kernel
theorem d_M_skip_22 : decode prog_13_method_33_code 22 = .ok (.ishr, 1) := by decide +kernel
theorem d_M_skip_23 : decode prog_13_method_33_code 23 = .ok (.iconst 1, 1) := by decide +kernel
theorem d_M_skip_24 : decode prog_13_method_33_code 24 = .ok (.iand, 1) := by decide +kernel
theorem d_M_skip_25 : decode prog_13_method_33_code 25 = .ok (.istore_n 3, 1) := by decide +kernel
theorem d_M_skip_26 : decode prog_13_method_33_code 26 = .ok (.aload_n 0, 1) := by decide +kernel
theorem d_M_skip_27 : decode prog_13_method_33_code 27 = .ok (.aload_n 0, 1) := by decide +kernel
theorem d_M_skip_28 : decode prog_13_method_33_code 28 = .ok (.getfield 140, 3) := by decide +kernel
theorem d_M_skip_31 : decode prog_13_method_33_code 31 = .ok (.iconst 1, 1) := by decide +kernel
theorem d_M_skip_32 : decode prog_13_method_33_code 32 = .ok (.iload_n 1, 1) := by decide +kernel
theorem d_M_skip_33 : decode prog_13_method_33_code 33 = .ok (.ishl, 1) := by decide +kernel
theorem d_M_skip_34 : decode prog_13_method_33_code 34 = .ok (.iconst (-1), 1) := by decide +kernel
theorem d_M_skip_35 : decode prog_13_method_33_code 35 = .ok (.ixor, 1) := by decide +kernel
theorem d_M_skip_36 : decode prog_13_method_33_code 36 = .ok (.iand, 1) := by decide +kernel
theorem d_M_skip_37 : decode prog_13_method_33_code 37 = .ok (.iload_n 2, 1) := by decide +kernel
theorem d_M_skip_38 : decode prog_13_method_33_code 38 = .ok (.iload_n 1, 1) := by decide +kernel
theorem d_M_skip_39 : decode prog_13_method_33_code 39 = .ok (.ishl, 1) := by decide +kernel
theorem d_M_skip_40 : decode prog_13_method_33_code 40 = .ok (.ior, 1) := by decide +kernel
theorem d_M_skip_41 : decode prog_13_method_33_code 41 = .ok (.putfield 140, 3) := by decide +kernel
theorem d_M_skip_44 : decode prog_13_method_33_code 44 = .ok (.iload_n 3, 1) := by decide +kernel
theorem d_M_skip_45 : decode prog_13_method_33_code 45 = .ok (.ireturn, 1) := by decide +kernel
theorem d_M_reader_0 : decode prog_13_method_34_code 0 = .ok (.iload_n 1, 1) := by decide +kernel
theorem d_M_reader_1 : decode prog_13_method_34_code 1 = .ok (.invokestatic 149, 3) := by decide +kernel
theorem d_M_reader_4 : decode prog_13_method_34_code 4 = .ok (.ifCond .eq 48, 3) := by decide +kernel
theorem d_M_reader_7 : decode prog_13_method_34_code 7 = .ok (.iload_n 2, 1) := by decide +kernel
theorem d_M_reader_8 : decode prog_13_method_34_code 8 = .ok (.i2l, 1) := by decide +kernel
theorem d_M_reader_9 : decode prog_13_method_34_code 9 = .ok (.lconst 0, 1) := by decide +kernel
theorem d_M_reader_10 : decode prog_13_method_34_code 10 = .ok (.ldc2_w 90, 3) := by decide +kernel
theorem d_M_reader_13 : decode prog_13_method_34_code 13 = .ok (.invokestatic 76, 3) := by decide +kernel
theorem d_M_reader_16 : decode prog_13_method_34_code 16 = .ok (.ifCond .eq 36, 3) := by decide +kernel
theorem d_M_reader_19 : decode prog_13_method_34_code 19 = .ok (.iload_n 3, 1) := by decide +kernel
theorem d_M_reader_20 : decode prog_13_method_34_code 20 = .ok (.i2l, 1) := by decide +kernel
theorem d_M_reader_21 : decode prog_13_method_34_code 21 = .ok (.lconst 0, 1) := by decide +kernel
theorem d_M_reader_22 : decode prog_13_method_34_code 22 = .ok (.iload_n 2, 1) := by decide +kernel
theorem d_M_reader_23 : decode prog_13_method_34_code 23 = .ok (.ifCond .ne 9, 3) := by decide +kernel
theorem d_M_reader_26 : decode prog_13_method_34_code 26 = .ok (.ldc2_w 163, 3) := by decide +kernel
theorem d_M_reader_29 : decode prog_13_method_34_code 29 = .ok (.goto 17, 3) := by decide +kernel
theorem d_M_reader_32 : decode prog_13_method_34_code 32 = .ok (.iload_n 2, 1) := by decide +kernel
theorem d_M_reader_33 : decode prog_13_method_34_code 33 = .ok (.iconst 1, 1) := by decide +kernel
theorem d_M_reader_34 : decode prog_13_method_34_code 34 = .ok (.if_icmp .ne 9, 3) := by decide +kernel
theorem d_M_reader_37 : decode prog_13_method_34_code 37 = .ok (.ldc2_w 152, 3) := by decide +kernel
theorem d_M_reader_40 : decode prog_13_method_34_code 40 = .ok (.goto 6, 3) := by decide +kernel
theorem d_M_reader_43 : decode prog_13_method_34_code 43 = .ok (.ldc2_w 165, 3) := by decide +kernel
theorem d_M_reader_46 : decode prog_13_method_34_code 46 = .ok (.invokestatic 76, 3) := by decide +kernel
theorem d_M_reader_49 : decode prog_13_method_34_code 49 = .ok (.ifCond .ne 6, 3) := by decide +kernel
theorem d_M_reader_52 : decode prog_13_method_34_code 52 = .ok (.bipush (-2), 2) := by decide +kernel
theorem d_M_reader_54 : decode prog_13_method_34_code 54 = .ok (.ireturn, 1) := by decide +kernel
theorem d_M_reader_55 : decode prog_13_method_34_code 55 = .ok (.iload_n 2, 1) := by decide +kernel
theorem d_M_reader_56 : decode prog_13_method_34_code 56 = .ok (.ifCond .ne 12, 3) := by decide +kernel
theorem d_M_reader_59 : decode prog_13_method_34_code 59 = .ok (.aload_n 0, 1) := by decide +kernel
theorem d_M_reader_60 : decode prog_13_method_34_code 60 = .ok (.getfield 37, 3) := by decide +kernel
theorem d_M_reader_63 : decode prog_13_method_34_code 63 = .ok (.iload_n 1, 1) := by decide +kernel
theorem d_M_reader_64 : decode prog_13_method_34_code 64 = .ok (.iaload, 1) := by decide +kernel
theorem d_M_reader_65 : decode prog_13_method_34_code 65 = .ok (.goto 23, 3) := by decide +kernel
theorem d_M_reader_68 : decode prog_13_method_34_code 68 = .ok (.iload_n 2, 1) := by decide +kernel
theorem d_M_reader_69 : decode prog_13_method_34_code 69 = .ok (.iconst 1, 1) := by decide +kernel
theorem d_M_reader_70 : decode prog_13_method_34_code 70 = .ok (.if_icmp .ne 12, 3) := by decide +kernel
theorem d_M_reader_73 : decode prog_13_method_34_code 73 = .ok (.aload_n 0, 1) := by decide +kernel
theorem d_M_reader_74 : decode prog_13_method_34_code 74 = .ok (.getfield 40, 3) := by decide +kernel
theorem d_M_reader_77 : decode prog_13_method_34_code 77 = .ok (.iload_n 1, 1) := by decide +kernel
theorem d_M_reader_78 : decode prog_13_method_34_code 78 = .ok (.iaload, 1) := by decide +kernel
theorem d_M_reader_79 : decode prog_13_method_34_code 79 = .ok (.goto 9, 3) := by decide +kernel
theorem d_M_reader_82 : decode prog_13_method_34_code 82 = .ok (.aload_n 0, 1) := by decide +kernel
theorem d_M_reader_83 : decode prog_13_method_34_code 83 = .ok (.getfield 43, 3) := by decide +kernel
theorem d_M_reader_86 : decode prog_13_method_34_code 86 = .ok (.iload_n 1, 1) := by decide +kernel
theorem d_M_reader_87 : decode prog_13_method_34_code 87 = .ok (.iaload, 1) := by decide +kernel
theorem d_M_reader_88 : decode prog_13_method_34_code 88 = .ok (.istore 4, 2) := by decide +kernel
theorem d_M_reader_90 : decode prog_13_method_34_code 90 = .ok (.iload_n 2, 1) := by decide +kernel
theorem d_M_reader_91 : decode prog_13_method_34_code 91 = .ok (.ifCond .ne 13, 3) := by decide +kernel
theorem d_M_reader_94 : decode prog_13_method_34_code 94 = .ok (.aload_n 0, 1) := by decide +kernel
theorem d_M_reader_95 : decode prog_13_method_34_code 95 = .ok (.getfield 37, 3) := by decide +kernel
theorem d_M_reader_98 : decode prog_13_method_34_code 98 = .ok (.iload_n 1, 1) := by decide +kernel
theorem d_M_reader_99 : decode prog_13_method_34_code 99 = .ok (.iload_n 3, 1) := by decide +kernel
theorem d_M_reader_100 : decode prog_13_method_34_code 100 = .ok (.iastore, 1) := by decide +kernel
theorem d_M_reader_101 : decode prog_13_method_34_code 101 = .ok (.goto 25, 3) := by decide +kernel
theorem d_M_reader_104 : decode prog_13_method_34_code 104 = .ok (.iload_n 2, 1) := by decide +kernel
theorem d_M_reader_105 : decode prog_13_method_34_code 105 = .ok (.iconst 1, 1) := by decide +kernel
theorem d_M_reader_106 : decode prog_13_method_34_code 106 = .ok (.if_icmp .ne 13, 3) := by decide +kernel
theorem d_M_reader_109 : decode prog_13_method_34_code 109 = .ok (.aload_n 0, 1) := by decide +kernel
theorem d_M_reader_110 : decode prog_13_method_34_code 110 = .ok (.getfield 40, 3) := by decide +kernel
theorem d_M_reader_113 : decode prog_13_method_34_code 113 = .ok (.iload_n 1, 1) := by decide +kernel
theorem d_M_reader_114 : decode prog_13_method_34_code 114 = .ok (.iload_n 3, 1) := by decide +kernel
theorem d_M_reader_115 : decode prog_13_method_34_code 115 = .ok (.iastore, 1) := by decide +kernel
theorem d_M_reader_116 : decode prog_13_method_34_code 116 = .ok (.goto 10, 3) := by decide +kernel
theorem d_M_reader_119 : decode prog_13_method_34_code 119 = .ok (.aload_n 0, 1) := by decide +kernel
theorem d_M_reader_120 : decode prog_13_method_34_code 120 = .ok (.getfield 43, 3) := by decide +kernel
theorem d_M_reader_123 : decode prog_13_method_34_code 123 = .ok (.iload_n 1, 1) := by decide +kernel
theorem d_M_reader_124 : decode prog_13_method_34_code 124 = .ok (.iload_n 3, 1) := by decide +kernel
theorem d_M_reader_125 : decode prog_13_method_34_code 125 = .ok (.iastore, 1) := by decide +kernel
theorem d_M_reader_126 : decode prog_13_method_34_code 126 = .ok (.iload 4, 2) := by decide +kernel
theorem d_M_reader_128 : decode prog_13_method_34_code 128 = .ok (.ireturn, 1) := by decide +kernel
theorem d_M_set_0 : decode prog_13_method_35_code 0 = .ok (.iload_n 1, 1) := by decide +kernel
theorem d_M_set_1 : decode prog_13_method_35_code 1 = .ok (.invokestatic 160, 3) := by decide +kernel
theorem d_M_set_4 : decode prog_13_method_35_code 4 = .ok (.ifCond .eq 15, 3) := by decide +kernel
theorem d_M_set_7 : decode prog_13_method_35_code 7 = .ok (.iload_n 2, 1) := by decide +kernel
theorem d_M_set_8 : decode prog_13_method_35_code 8 = .ok (.i2l, 1) := by decide +kernel
theorem d_M_set_9 : decode prog_13_method_35_code 9 = .ok (.lconst 0, 1) := by decide +kernel
theorem d_M_set_10 : decode prog_13_method_35_code 10 = .ok (.ldc2_w 167, 3) := by decide +kernel
theorem d_M_set_13 : decode prog_13_method_35_code 13 = .ok (.invokestatic 76, 3) := by decide +kernel
theorem d_M_set_16 : decode prog_13_method_35_code 16 = .ok (.ifCond .ne 6, 3) := by decide +kernel
theorem d_M_set_19 : decode prog_13_method_35_code 19 = .ok (.bipush (-2), 2) := by decide +kernel
theorem d_M_set_21 : decode prog_13_method_35_code 21 = .ok (.ireturn, 1) := by decide +kernel
theorem d_M_set_22 : decode prog_13_method_35_code 22 = .ok (.aload_n 0, 1) := by decide +kernel
theorem d_M_set_23 : decode prog_13_method_35_code 23 = .ok (.getfield 46, 3) := by decide +kernel
theorem d_M_set_26 : decode prog_13_method_35_code 26 = .ok (.iload_n 1, 1) := by decide +kernel
theorem d_M_set_27 : decode prog_13_method_35_code 27 = .ok (.iaload, 1) := by decide +kernel
theorem d_M_set_28 : decode prog_13_method_35_code 28 = .ok (.istore_n 3, 1) := by decide +kernel
theorem d_M_set_29 : decode prog_13_method_35_code 29 = .ok (.aload_n 0, 1) := by decide +kernel
theorem d_M_set_30 : decode prog_13_method_35_code 30 = .ok (.getfield 46, 3) := by decide +kernel
theorem d_M_set_33 : decode prog_13_method_35_code 33 = .ok (.iload_n 1, 1) := by decide +kernel
theorem d_M_set_34 : decode prog_13_method_35_code 34 = .ok (.iload_n 2, 1) := by decide +kernel
theorem d_M_set_35 : decode prog_13_method_35_code 35 = .ok (.iastore, 1) := by decide +kernel
theorem d_M_set_36 : decode prog_13_method_35_code 36 = .ok (.iload_n 3, 1) := by decide +kernel
theorem d_M_set_37 : decode prog_13_method_35_code 37 = .ok (.ireturn, 1) := by decide +kernel
theorem d_M_timeBy_0 : decode prog_13_method_36_code 0 = .ok (.aload_n 0, 1) := by decide +kernel
theorem d_M_timeBy_1 : decode prog_13_method_36_code 1 = .ok (.getfield 28, 3) := by decide +kernel
theorem d_M_timeBy_4 : decode prog_13_method_36_code 4 = .ok (.iload_n 2, 1) := by decide +kernel
theorem d_M_timeBy_5 : decode prog_13_method_36_code 5 = .ok (.iaload, 1) := by decide +kernel
theorem d_M_timeBy_6 : decode prog_13_method_36_code 6 = .ok (.iload_n 3, 1) := by decide +kernel
theorem d_M_timeBy_7 : decode prog_13_method_36_code 7 = .ok (.iadd, 1) := by decide +kernel
theorem d_M_timeBy_8 : decode prog_13_method_36_code 8 = .ok (.iconst 1, 1) := by decide +kernel
theorem d_M_timeBy_9 : decode prog_13_method_36_code 9 = .ok (.isub, 1) := by decide +kernel
theorem d_M_timeBy_10 : decode prog_13_method_36_code 10 = .ok (.iload_n 3, 1) := by decide +kernel
theorem d_M_timeBy_11 : decode prog_13_method_36_code 11 = .ok (.idiv, 1) := by decide +kernel
theorem d_M_timeBy_12 : decode prog_13_method_36_code 12 = .ok (.istore 4, 2) := by decide +kernel
theorem d_M_timeBy_14 : decode prog_13_method_36_code 14 = .ok (.aload_n 0, 1) := by decide +kernel
theorem d_M_timeBy_15 : decode prog_13_method_36_code 15 = .ok (.getfield 34, 3) := by decide +kernel
theorem d_M_timeBy_18 : decode prog_13_method_36_code 18 = .ok (.iload_n 1, 1) := by decide +kernel
theorem d_M_timeBy_19 : decode prog_13_method_36_code 19 = .ok (.iaload, 1) := by decide +kernel
theorem d_M_timeBy_20 : decode prog_13_method_36_code 20 = .ok (.iload_n 2, 1) := by decide +kernel
theorem d_M_timeBy_21 : decode prog_13_method_36_code 21 = .ok (.invokestatic 169, 3) := by decide +kernel
theorem d_M_timeBy_24 : decode prog_13_method_36_code 24 = .ok (.ifCond .eq 10, 3) := by decide +kernel
theorem d_M_timeBy_27 : decode prog_13_method_36_code 27 = .ok (.iconst 2, 1) := by decide +kernel
theorem d_M_timeBy_28 : decode prog_13_method_36_code 28 = .ok (.iload 4, 2) := by decide +kernel
theorem d_M_timeBy_30 : decode prog_13_method_36_code 30 = .ok (.imul, 1) := by decide +kernel
theorem d_M_timeBy_31 : decode prog_13_method_36_code 31 = .ok (.goto 5, 3) := by decide +kernel
theorem d_M_timeBy_34 : decode prog_13_method_36_code 34 = .ok (.iload 4, 2) := by decide +kernel
theorem d_M_timeBy_36 : decode prog_13_method_36_code 36 = .ok (.ireturn, 1) := by decide +kernel
theorem d_M_timeOf_0 : decode prog_13_method_37_code 0 = .ok (.aload_n 0, 1) := by decide +kernel
theorem d_M_timeOf_1 : decode prog_13_method_37_code 1 = .ok (.iload_n 1, 1) := by decide +kernel
theorem d_M_timeOf_2 : decode prog_13_method_37_code 2 = .ok (.iload_n 2, 1) := by decide +kernel
theorem d_M_timeOf_3 : decode prog_13_method_37_code 3 = .ok (.aload_n 0, 1) := by decide +kernel
theorem d_M_timeOf_4 : decode prog_13_method_37_code 4 = .ok (.getfield 31, 3) := by decide +kernel
theorem d_M_timeOf_7 : decode prog_13_method_37_code 7 = .ok (.iconst 3, 1) := by decide +kernel
theorem d_M_timeOf_8 : decode prog_13_method_37_code 8 = .ok (.iload_n 1, 1) := by decide +kernel
theorem d_M_timeOf_9 : decode prog_13_method_37_code 9 = .ok (.imul, 1) := by decide +kernel
theorem d_M_timeOf_10 : decode prog_13_method_37_code 10 = .ok (.aload_n 0, 1) := by decide +kernel
theorem d_M_timeOf_11 : decode prog_13_method_37_code 11 = .ok (.getfield 25, 3) := by decide +kernel
theorem d_M_timeOf_14 : decode prog_13_method_37_code 14 = .ok (.iload_n 2, 1) := by decide +kernel
theorem d_M_timeOf_15 : decode prog_13_method_37_code 15 = .ok (.iaload, 1) := by decide +kernel
theorem d_M_timeOf_16 : decode prog_13_method_37_code 16 = .ok (.iadd, 1) := by decide +kernel
theorem d_M_timeOf_17 : decode prog_13_method_37_code 17 = .ok (.iaload, 1) := by decide +kernel
theorem d_M_timeOf_18 : decode prog_13_method_37_code 18 = .ok (.invokevirtual 173, 3) := by decide +kernel
theorem d_M_timeOf_21 : decode prog_13_method_37_code 21 = .ok (.ireturn, 1) := by decide +kernel
theorem d_M_time_0 : decode prog_13_method_38_code 0 = .ok (.iload_n 1, 1) := by decide +kernel
theorem d_M_time_1 : decode prog_13_method_38_code 1 = .ok (.invokestatic 149, 3) := by decide +kernel
theorem d_M_time_4 : decode prog_13_method_38_code 4 = .ok (.ifCond .eq 20, 3) := by decide +kernel
theorem d_M_time_7 : decode prog_13_method_38_code 7 = .ok (.aload_n 0, 1) := by decide +kernel
theorem d_M_time_8 : decode prog_13_method_38_code 8 = .ok (.iload_n 2, 1) := by decide +kernel
theorem d_M_time_9 : decode prog_13_method_38_code 9 = .ok (.invokevirtual 143, 3) := by decide +kernel
theorem d_M_time_12 : decode prog_13_method_38_code 12 = .ok (.ifCond .eq 12, 3) := by decide +kernel
theorem d_M_time_15 : decode prog_13_method_38_code 15 = .ok (.aload_n 0, 1) := by decide +kernel
theorem d_M_time_16 : decode prog_13_method_38_code 16 = .ok (.iload_n 1, 1) := by decide +kernel
theorem d_M_time_17 : decode prog_13_method_38_code 17 = .ok (.iload_n 2, 1) := by decide +kernel
theorem d_M_time_18 : decode prog_13_method_38_code 18 = .ok (.invokevirtual 176, 3) := by decide +kernel
theorem d_M_time_21 : decode prog_13_method_38_code 21 = .ok (.goto 5, 3) := by decide +kernel
theorem d_M_time_24 : decode prog_13_method_38_code 24 = .ok (.bipush (-2), 2) := by decide +kernel
theorem d_M_time_26 : decode prog_13_method_38_code 26 = .ok (.ireturn, 1) := by decide +kernel
theorem d_M_together_0 : decode prog_13_method_39_code 0 = .ok (.iconst 0, 1) := by decide +kernel
theorem d_M_together_1 : decode prog_13_method_39_code 1 = .ok (.istore_n 3, 1) := by decide +kernel
theorem d_M_together_2 : decode prog_13_method_39_code 2 = .ok (.iconst 0, 1) := by decide +kernel
theorem d_M_together_3 : decode prog_13_method_39_code 3 = .ok (.istore 4, 2) := by decide +kernel
theorem d_M_together_5 : decode prog_13_method_39_code 5 = .ok (.iload 4, 2) := by decide +kernel
theorem d_M_together_7 : decode prog_13_method_39_code 7 = .ok (.bipush 6, 2) := by decide +kernel
theorem d_M_together_9 : decode prog_13_method_39_code 9 = .ok (.if_icmp .ge 44, 3) := by decide +kernel
theorem d_M_together_12 : decode prog_13_method_39_code 12 = .ok (.iload_n 1, 1) := by decide +kernel
theorem d_M_together_13 : decode prog_13_method_39_code 13 = .ok (.iload 4, 2) := by decide +kernel
theorem d_M_together_15 : decode prog_13_method_39_code 15 = .ok (.invokestatic 169, 3) := by decide +kernel
theorem d_M_together_18 : decode prog_13_method_39_code 18 = .ok (.ifCond .eq 13, 3) := by decide +kernel
theorem d_M_together_21 : decode prog_13_method_39_code 21 = .ok (.aload_n 0, 1) := by decide +kernel
theorem d_M_together_22 : decode prog_13_method_39_code 22 = .ok (.iload 4, 2) := by decide +kernel
theorem d_M_together_24 : decode prog_13_method_39_code 24 = .ok (.iload_n 2, 1) := by decide +kernel
theorem d_M_together_25 : decode prog_13_method_39_code 25 = .ok (.invokevirtual 176, 3) := by decide +kernel
theorem d_M_together_28 : decode prog_13_method_39_code 28 = .ok (.goto 4, 3) := by decide +kernel
theorem d_M_together_31 : decode prog_13_method_39_code 31 = .ok (.iconst 0, 1) := by decide +kernel
theorem d_M_together_32 : decode prog_13_method_39_code 32 = .ok (.istore 5, 2) := by decide +kernel
theorem d_M_together_34 : decode prog_13_method_39_code 34 = .ok (.iload 5, 2) := by decide +kernel
theorem d_M_together_36 : decode prog_13_method_39_code 36 = .ok (.iload_n 3, 1) := by decide +kernel
theorem d_M_together_37 : decode prog_13_method_39_code 37 = .ok (.if_icmp .le 8, 3) := by decide +kernel
theorem d_M_together_40 : decode prog_13_method_39_code 40 = .ok (.iload 5, 2) := by decide +kernel
theorem d_M_together_42 : decode prog_13_method_39_code 42 = .ok (.goto 4, 3) := by decide +kernel
theorem d_M_together_45 : decode prog_13_method_39_code 45 = .ok (.iload_n 3, 1) := by decide +kernel
theorem d_M_together_46 : decode prog_13_method_39_code 46 = .ok (.istore_n 3, 1) := by decide +kernel
theorem d_M_together_47 : decode prog_13_method_39_code 47 = .ok (.iinc 4 1, 3) := by decide +kernel
theorem d_M_together_50 : decode prog_13_method_39_code 50 = .ok (.goto (-45), 3) := by decide +kernel
theorem d_M_together_53 : decode prog_13_method_39_code 53 = .ok (.iload_n 3, 1) := by decide +kernel
theorem d_M_together_54 : decode prog_13_method_39_code 54 = .ok (.ireturn, 1) := by decide +kernel
theorem d_M_isRead_0 : decode prog_13_method_40_code 0 = .ok (.iload_n 1, 1) := by decide +kernel
theorem d_M_isRead_1 : decode prog_13_method_40_code 1 = .ok (.aload_n 0, 1) := by decide +kernel
theorem d_M_isRead_2 : decode prog_13_method_40_code 2 = .ok (.getfield 113, 3) := by decide +kernel
theorem d_M_isRead_5 : decode prog_13_method_40_code 5 = .ok (.if_icmp .ge 18, 3) := by decide +kernel
theorem d_M_isRead_8 : decode prog_13_method_40_code 8 = .ok (.aload_n 0, 1) := by decide +kernel
theorem d_M_isRead_9 : decode prog_13_method_40_code 9 = .ok (.getfield 140, 3) := by decide +kernel
theorem d_M_isRead_12 : decode prog_13_method_40_code 12 = .ok (.iload_n 1, 1) := by decide +kernel
theorem d_M_isRead_13 : decode prog_13_method_40_code 13 = .ok (.invokestatic 169, 3) := by decide +kernel
theorem d_M_isRead_16 : decode prog_13_method_40_code 16 = .ok (.ifCond .ne 7, 3) := by decide +kernel
theorem d_M_isRead_19 : decode prog_13_method_40_code 19 = .ok (.iconst 1, 1) := by decide +kernel
theorem d_M_isRead_20 : decode prog_13_method_40_code 20 = .ok (.goto 4, 3) := by decide +kernel
theorem d_M_isRead_23 : decode prog_13_method_40_code 23 = .ok (.iconst 0, 1) := by decide +kernel
theorem d_M_isRead_24 : decode prog_13_method_40_code 24 = .ok (.ireturn, 1) := by decide +kernel
theorem d_M_findEvening_0 : decode prog_13_method_41_code 0 = .ok (.aload_n 0, 1) := by decide +kernel
theorem d_M_findEvening_1 : decode prog_13_method_41_code 1 = .ok (.iconst 0, 1) := by decide +kernel
theorem d_M_findEvening_2 : decode prog_13_method_41_code 2 = .ok (.putfield 179, 3) := by decide +kernel
theorem d_M_findEvening_5 : decode prog_13_method_41_code 5 = .ok (.aload_n 0, 1) := by decide +kernel
theorem d_M_findEvening_6 : decode prog_13_method_41_code 6 = .ok (.iconst 0, 1) := by decide +kernel
theorem d_M_findEvening_7 : decode prog_13_method_41_code 7 = .ok (.putfield 182, 3) := by decide +kernel
theorem d_M_findEvening_10 : decode prog_13_method_41_code 10 = .ok (.aload_n 0, 1) := by decide +kernel
theorem d_M_findEvening_11 : decode prog_13_method_41_code 11 = .ok (.iconst (-1), 1) := by decide +kernel
theorem d_M_findEvening_12 : decode prog_13_method_41_code 12 = .ok (.putfield 185, 3) := by decide +kernel
theorem d_M_findEvening_15 : decode prog_13_method_41_code 15 = .ok (.iconst 0, 1) := by decide +kernel
theorem d_M_findEvening_16 : decode prog_13_method_41_code 16 = .ok (.istore_n 3, 1) := by decide +kernel
theorem d_M_findEvening_17 : decode prog_13_method_41_code 17 = .ok (.iload_n 3, 1) := by decide +kernel
theorem d_M_findEvening_18 : decode prog_13_method_41_code 18 = .ok (.bipush 6, 2) := by decide +kernel
theorem d_M_findEvening_20 : decode prog_13_method_41_code 20 = .ok (.if_icmp .ge 16, 3) := by decide +kernel
theorem d_M_findEvening_23 : decode prog_13_method_41_code 23 = .ok (.aload_n 0, 1) := by decide +kernel
theorem d_M_findEvening_24 : decode prog_13_method_41_code 24 = .ok (.getfield 49, 3) := by decide +kernel
theorem d_M_findEvening_27 : decode prog_13_method_41_code 27 = .ok (.iload_n 3, 1) := by decide +kernel
theorem d_M_findEvening_28 : decode prog_13_method_41_code 28 = .ok (.iconst 0, 1) := by decide +kernel
theorem d_M_findEvening_29 : decode prog_13_method_41_code 29 = .ok (.iastore, 1) := by decide +kernel
theorem d_M_findEvening_30 : decode prog_13_method_41_code 30 = .ok (.iinc 3 1, 3) := by decide +kernel
theorem d_M_findEvening_33 : decode prog_13_method_41_code 33 = .ok (.goto (-16), 3) := by decide +kernel
theorem d_M_findEvening_36 : decode prog_13_method_41_code 36 = .ok (.iload_n 2, 1) := by decide +kernel
theorem d_M_findEvening_37 : decode prog_13_method_41_code 37 = .ok (.istore_n 3, 1) := by decide +kernel
theorem d_M_findEvening_38 : decode prog_13_method_41_code 38 = .ok (.iload_n 3, 1) := by decide +kernel
theorem d_M_findEvening_39 : decode prog_13_method_41_code 39 = .ok (.aload_n 0, 1) := by decide +kernel
theorem d_M_findEvening_40 : decode prog_13_method_41_code 40 = .ok (.getfield 113, 3) := by decide +kernel
theorem d_M_findEvening_43 : decode prog_13_method_41_code 43 = .ok (.if_icmp .ge 114, 3) := by decide +kernel
theorem d_M_findEvening_46 : decode prog_13_method_41_code 46 = .ok (.aload_n 0, 1) := by decide +kernel
theorem d_M_findEvening_47 : decode prog_13_method_41_code 47 = .ok (.getfield 185, 3) := by decide +kernel
theorem d_M_findEvening_50 : decode prog_13_method_41_code 50 = .ok (.iconst (-1), 1) := by decide +kernel
theorem d_M_findEvening_51 : decode prog_13_method_41_code 51 = .ok (.if_icmp .ne 106, 3) := by decide +kernel
theorem d_M_findEvening_54 : decode prog_13_method_41_code 54 = .ok (.aload_n 0, 1) := by decide +kernel
theorem d_M_findEvening_55 : decode prog_13_method_41_code 55 = .ok (.iload_n 3, 1) := by decide +kernel
theorem d_M_findEvening_56 : decode prog_13_method_41_code 56 = .ok (.invokevirtual 188, 3) := by decide +kernel
theorem d_M_findEvening_59 : decode prog_13_method_41_code 59 = .ok (.ifCond .eq 92, 3) := by decide +kernel
theorem d_M_findEvening_62 : decode prog_13_method_41_code 62 = .ok (.aload_n 0, 1) := by decide +kernel
theorem d_M_findEvening_63 : decode prog_13_method_41_code 63 = .ok (.iload_n 1, 1) := by decide +kernel
theorem d_M_findEvening_64 : decode prog_13_method_41_code 64 = .ok (.iload_n 3, 1) := by decide +kernel
theorem d_M_findEvening_65 : decode prog_13_method_41_code 65 = .ok (.invokevirtual 191, 3) := by decide +kernel
theorem d_M_findEvening_68 : decode prog_13_method_41_code 68 = .ok (.istore 4, 2) := by decide +kernel
theorem d_M_findEvening_70 : decode prog_13_method_41_code 70 = .ok (.aload_n 0, 1) := by decide +kernel
theorem d_M_findEvening_71 : decode prog_13_method_41_code 71 = .ok (.getfield 182, 3) := by decide +kernel
theorem d_M_findEvening_74 : decode prog_13_method_41_code 74 = .ok (.iload 4, 2) := by decide +kernel
theorem d_M_findEvening_76 : decode prog_13_method_41_code 76 = .ok (.iadd, 1) := by decide +kernel
theorem d_M_findEvening_77 : decode prog_13_method_41_code 77 = .ok (.aload_n 0, 1) := by decide +kernel
theorem d_M_findEvening_78 : decode prog_13_method_41_code 78 = .ok (.getfield 46, 3) := by decide +kernel
theorem d_M_findEvening_81 : decode prog_13_method_41_code 81 = .ok (.iconst 0, 1) := by decide +kernel
theorem d_M_findEvening_82 : decode prog_13_method_41_code 82 = .ok (.iaload, 1) := by decide +kernel
theorem d_M_findEvening_83 : decode prog_13_method_41_code 83 = .ok (.if_icmp .le 11, 3) := by decide +kernel
theorem d_M_findEvening_86 : decode prog_13_method_41_code 86 = .ok (.aload_n 0, 1) := by decide +kernel
theorem d_M_findEvening_87 : decode prog_13_method_41_code 87 = .ok (.iload_n 3, 1) := by decide +kernel
theorem d_M_findEvening_88 : decode prog_13_method_41_code 88 = .ok (.putfield 185, 3) := by decide +kernel
theorem d_M_findEvening_91 : decode prog_13_method_41_code 91 = .ok (.goto 60, 3) := by decide +kernel
theorem d_M_findEvening_94 : decode prog_13_method_41_code 94 = .ok (.aload_n 0, 1) := by decide +kernel
theorem d_M_findEvening_95 : decode prog_13_method_41_code 95 = .ok (.dup, 1) := by decide +kernel
theorem d_M_findEvening_96 : decode prog_13_method_41_code 96 = .ok (.getfield 179, 3) := by decide +kernel
theorem d_M_findEvening_99 : decode prog_13_method_41_code 99 = .ok (.iconst 1, 1) := by decide +kernel
theorem d_M_findEvening_100 : decode prog_13_method_41_code 100 = .ok (.iadd, 1) := by decide +kernel
theorem d_M_findEvening_101 : decode prog_13_method_41_code 101 = .ok (.putfield 179, 3) := by decide +kernel
theorem d_M_findEvening_104 : decode prog_13_method_41_code 104 = .ok (.aload_n 0, 1) := by decide +kernel
theorem d_M_findEvening_105 : decode prog_13_method_41_code 105 = .ok (.dup, 1) := by decide +kernel
theorem d_M_findEvening_106 : decode prog_13_method_41_code 106 = .ok (.getfield 182, 3) := by decide +kernel
theorem d_M_findEvening_109 : decode prog_13_method_41_code 109 = .ok (.iload 4, 2) := by decide +kernel
theorem d_M_findEvening_111 : decode prog_13_method_41_code 111 = .ok (.iadd, 1) := by decide +kernel
theorem d_M_findEvening_112 : decode prog_13_method_41_code 112 = .ok (.putfield 182, 3) := by decide +kernel
theorem d_M_findEvening_115 : decode prog_13_method_41_code 115 = .ok (.iconst 0, 1) := by decide +kernel
theorem d_M_findEvening_116 : decode prog_13_method_41_code 116 = .ok (.istore 5, 2) := by decide +kernel
theorem d_M_findEvening_118 : decode prog_13_method_41_code 118 = .ok (.iload 5, 2) := by decide +kernel
theorem d_M_findEvening_120 : decode prog_13_method_41_code 120 = .ok (.bipush 6, 2) := by decide +kernel
theorem d_M_findEvening_122 : decode prog_13_method_41_code 122 = .ok (.if_icmp .ge 29, 3) := by decide +kernel
theorem d_M_findEvening_125 : decode prog_13_method_41_code 125 = .ok (.aload_n 0, 1) := by decide +kernel
theorem d_M_findEvening_126 : decode prog_13_method_41_code 126 = .ok (.getfield 49, 3) := by decide +kernel
theorem d_M_findEvening_129 : decode prog_13_method_41_code 129 = .ok (.iload 5, 2) := by decide +kernel
theorem d_M_findEvening_131 : decode prog_13_method_41_code 131 = .ok (.dup2, 1) := by decide +kernel
theorem d_M_findEvening_132 : decode prog_13_method_41_code 132 = .ok (.iaload, 1) := by decide +kernel
theorem d_M_findEvening_133 : decode prog_13_method_41_code 133 = .ok (.iload 4, 2) := by decide +kernel
theorem d_M_findEvening_135 : decode prog_13_method_41_code 135 = .ok (.aload_n 0, 1) := by decide +kernel
theorem d_M_findEvening_136 : decode prog_13_method_41_code 136 = .ok (.iload 5, 2) := by decide +kernel
theorem d_M_findEvening_138 : decode prog_13_method_41_code 138 = .ok (.iload_n 3, 1) := by decide +kernel
theorem d_M_findEvening_139 : decode prog_13_method_41_code 139 = .ok (.invokevirtual 176, 3) := by decide +kernel
theorem d_M_findEvening_142 : decode prog_13_method_41_code 142 = .ok (.isub, 1) := by decide +kernel
theorem d_M_findEvening_143 : decode prog_13_method_41_code 143 = .ok (.iadd, 1) := by decide +kernel
theorem d_M_findEvening_144 : decode prog_13_method_41_code 144 = .ok (.iastore, 1) := by decide +kernel
theorem d_M_findEvening_145 : decode prog_13_method_41_code 145 = .ok (.iinc 5 1, 3) := by decide +kernel
theorem d_M_findEvening_148 : decode prog_13_method_41_code 148 = .ok (.goto (-30), 3) := by decide +kernel
theorem d_M_findEvening_151 : decode prog_13_method_41_code 151 = .ok (.iinc 3 1, 3) := by decide +kernel
theorem d_M_findEvening_154 : decode prog_13_method_41_code 154 = .ok (.goto (-116), 3) := by decide +kernel
theorem d_M_findEvening_157 : decode prog_13_method_41_code 157 = .ok (.return_, 1) := by decide +kernel
theorem d_M_eveningOf_0 : decode prog_13_method_42_code 0 = .ok (.aload_n 0, 1) := by decide +kernel
theorem d_M_eveningOf_1 : decode prog_13_method_42_code 1 = .ok (.iload_n 1, 1) := by decide +kernel
theorem d_M_eveningOf_2 : decode prog_13_method_42_code 2 = .ok (.iload_n 2, 1) := by decide +kernel
theorem d_M_eveningOf_3 : decode prog_13_method_42_code 3 = .ok (.invokevirtual 194, 3) := by decide +kernel
theorem d_M_eveningOf_6 : decode prog_13_method_42_code 6 = .ok (.iload_n 3, 1) := by decide +kernel
theorem d_M_eveningOf_7 : decode prog_13_method_42_code 7 = .ok (.ifCond .ne 10, 3) := by decide +kernel
theorem d_M_eveningOf_10 : decode prog_13_method_42_code 10 = .ok (.aload_n 0, 1) := by decide +kernel
theorem d_M_eveningOf_11 : decode prog_13_method_42_code 11 = .ok (.getfield 179, 3) := by decide +kernel
theorem d_M_eveningOf_14 : decode prog_13_method_42_code 14 = .ok (.goto 19, 3) := by decide +kernel
theorem d_M_eveningOf_17 : decode prog_13_method_42_code 17 = .ok (.iload_n 3, 1) := by decide +kernel
theorem d_M_eveningOf_18 : decode prog_13_method_42_code 18 = .ok (.iconst 1, 1) := by decide +kernel
theorem d_M_eveningOf_19 : decode prog_13_method_42_code 19 = .ok (.if_icmp .ne 10, 3) := by decide +kernel
theorem d_M_eveningOf_22 : decode prog_13_method_42_code 22 = .ok (.aload_n 0, 1) := by decide +kernel
theorem d_M_eveningOf_23 : decode prog_13_method_42_code 23 = .ok (.getfield 182, 3) := by decide +kernel
theorem d_M_eveningOf_26 : decode prog_13_method_42_code 26 = .ok (.goto 7, 3) := by decide +kernel
theorem d_M_eveningOf_29 : decode prog_13_method_42_code 29 = .ok (.aload_n 0, 1) := by decide +kernel
theorem d_M_eveningOf_30 : decode prog_13_method_42_code 30 = .ok (.getfield 185, 3) := by decide +kernel
theorem d_M_eveningOf_33 : decode prog_13_method_42_code 33 = .ok (.ireturn, 1) := by decide +kernel
theorem d_M_evening_0 : decode prog_13_method_43_code 0 = .ok (.iload_n 1, 1) := by decide +kernel
theorem d_M_evening_1 : decode prog_13_method_43_code 1 = .ok (.invokestatic 198, 3) := by decide +kernel
theorem d_M_evening_4 : decode prog_13_method_43_code 4 = .ok (.ifCond .eq 33, 3) := by decide +kernel
theorem d_M_evening_7 : decode prog_13_method_43_code 7 = .ok (.aload_n 0, 1) := by decide +kernel
theorem d_M_evening_8 : decode prog_13_method_43_code 8 = .ok (.iload_n 2, 1) := by decide +kernel
theorem d_M_evening_9 : decode prog_13_method_43_code 9 = .ok (.invokevirtual 143, 3) := by decide +kernel
theorem d_M_evening_12 : decode prog_13_method_43_code 12 = .ok (.ifCond .eq 25, 3) := by decide +kernel
theorem d_M_evening_15 : decode prog_13_method_43_code 15 = .ok (.iload_n 3, 1) := by decide +kernel
theorem d_M_evening_16 : decode prog_13_method_43_code 16 = .ok (.i2l, 1) := by decide +kernel
theorem d_M_evening_17 : decode prog_13_method_43_code 17 = .ok (.lconst 0, 1) := by decide +kernel
theorem d_M_evening_18 : decode prog_13_method_43_code 18 = .ok (.ldc2_w 90, 3) := by decide +kernel
theorem d_M_evening_21 : decode prog_13_method_43_code 21 = .ok (.invokestatic 76, 3) := by decide +kernel
theorem d_M_evening_24 : decode prog_13_method_43_code 24 = .ok (.ifCond .eq 13, 3) := by decide +kernel
theorem d_M_evening_27 : decode prog_13_method_43_code 27 = .ok (.aload_n 0, 1) := by decide +kernel
theorem d_M_evening_28 : decode prog_13_method_43_code 28 = .ok (.iload_n 1, 1) := by decide +kernel
theorem d_M_evening_29 : decode prog_13_method_43_code 29 = .ok (.iload_n 2, 1) := by decide +kernel
theorem d_M_evening_30 : decode prog_13_method_43_code 30 = .ok (.iload_n 3, 1) := by decide +kernel
theorem d_M_evening_31 : decode prog_13_method_43_code 31 = .ok (.invokevirtual 201, 3) := by decide +kernel
theorem d_M_evening_34 : decode prog_13_method_43_code 34 = .ok (.goto 5, 3) := by decide +kernel
theorem d_M_evening_37 : decode prog_13_method_43_code 37 = .ok (.bipush (-2), 2) := by decide +kernel
theorem d_M_evening_39 : decode prog_13_method_43_code 39 = .ok (.ireturn, 1) := by decide +kernel
theorem d_M_waitedOf_0 : decode prog_13_method_44_code 0 = .ok (.aload_n 0, 1) := by decide +kernel
theorem d_M_waitedOf_1 : decode prog_13_method_44_code 1 = .ok (.iload_n 1, 1) := by decide +kernel
theorem d_M_waitedOf_2 : decode prog_13_method_44_code 2 = .ok (.iload_n 2, 1) := by decide +kernel
theorem d_M_waitedOf_3 : decode prog_13_method_44_code 3 = .ok (.invokevirtual 194, 3) := by decide +kernel
theorem d_M_waitedOf_6 : decode prog_13_method_44_code 6 = .ok (.aload_n 0, 1) := by decide +kernel
theorem d_M_waitedOf_7 : decode prog_13_method_44_code 7 = .ok (.getfield 37, 3) := by decide +kernel
theorem d_M_waitedOf_10 : decode prog_13_method_44_code 10 = .ok (.iload_n 3, 1) := by decide +kernel
theorem d_M_waitedOf_11 : decode prog_13_method_44_code 11 = .ok (.iaload, 1) := by decide +kernel
theorem d_M_waitedOf_12 : decode prog_13_method_44_code 12 = .ok (.aload_n 0, 1) := by decide +kernel
theorem d_M_waitedOf_13 : decode prog_13_method_44_code 13 = .ok (.getfield 49, 3) := by decide +kernel
theorem d_M_waitedOf_16 : decode prog_13_method_44_code 16 = .ok (.iload_n 3, 1) := by decide +kernel
theorem d_M_waitedOf_17 : decode prog_13_method_44_code 17 = .ok (.iaload, 1) := by decide +kernel
theorem d_M_waitedOf_18 : decode prog_13_method_44_code 18 = .ok (.isub, 1) := by decide +kernel
theorem d_M_waitedOf_19 : decode prog_13_method_44_code 19 = .ok (.istore 5, 2) := by decide +kernel
theorem d_M_waitedOf_21 : decode prog_13_method_44_code 21 = .ok (.iload 4, 2) := by decide +kernel
theorem d_M_waitedOf_23 : decode prog_13_method_44_code 23 = .ok (.ifCond .ne 12, 3) := by decide +kernel
theorem d_M_waitedOf_26 : decode prog_13_method_44_code 26 = .ok (.aload_n 0, 1) := by decide +kernel
theorem d_M_waitedOf_27 : decode prog_13_method_44_code 27 = .ok (.getfield 49, 3) := by decide +kernel
theorem d_M_waitedOf_30 : decode prog_13_method_44_code 30 = .ok (.iload_n 3, 1) := by decide +kernel
theorem d_M_waitedOf_31 : decode prog_13_method_44_code 31 = .ok (.iaload, 1) := by decide +kernel
theorem d_M_waitedOf_32 : decode prog_13_method_44_code 32 = .ok (.goto 14, 3) := by decide +kernel
theorem d_M_waitedOf_35 : decode prog_13_method_44_code 35 = .ok (.iload 5, 2) := by decide +kernel
theorem d_M_waitedOf_37 : decode prog_13_method_44_code 37 = .ok (.ifCond .ge 7, 3) := by decide +kernel
theorem d_M_waitedOf_40 : decode prog_13_method_44_code 40 = .ok (.iconst 0, 1) := by decide +kernel
theorem d_M_waitedOf_41 : decode prog_13_method_44_code 41 = .ok (.goto 5, 3) := by decide +kernel
theorem d_M_waitedOf_44 : decode prog_13_method_44_code 44 = .ok (.iload 5, 2) := by decide +kernel
theorem d_M_waitedOf_46 : decode prog_13_method_44_code 46 = .ok (.ireturn, 1) := by decide +kernel
theorem d_M_waited_0 : decode prog_13_method_45_code 0 = .ok (.iload_n 1, 1) := by decide +kernel
theorem d_M_waited_1 : decode prog_13_method_45_code 1 = .ok (.invokestatic 198, 3) := by decide +kernel
theorem d_M_waited_4 : decode prog_13_method_45_code 4 = .ok (.ifCond .eq 30, 3) := by decide +kernel
theorem d_M_waited_7 : decode prog_13_method_45_code 7 = .ok (.aload_n 0, 1) := by decide +kernel
theorem d_M_waited_8 : decode prog_13_method_45_code 8 = .ok (.iload_n 2, 1) := by decide +kernel
theorem d_M_waited_9 : decode prog_13_method_45_code 9 = .ok (.invokevirtual 143, 3) := by decide +kernel
theorem d_M_waited_12 : decode prog_13_method_45_code 12 = .ok (.ifCond .eq 22, 3) := by decide +kernel
theorem d_M_waited_15 : decode prog_13_method_45_code 15 = .ok (.iload_n 3, 1) := by decide +kernel
theorem d_M_waited_16 : decode prog_13_method_45_code 16 = .ok (.invokestatic 149, 3) := by decide +kernel
theorem d_M_waited_19 : decode prog_13_method_45_code 19 = .ok (.ifCond .eq 15, 3) := by decide +kernel
theorem d_M_waited_22 : decode prog_13_method_45_code 22 = .ok (.iload 4, 2) := by decide +kernel
theorem d_M_waited_24 : decode prog_13_method_45_code 24 = .ok (.invokestatic 160, 3) := by decide +kernel
theorem d_M_waited_27 : decode prog_13_method_45_code 27 = .ok (.ifCond .eq 7, 3) := by decide +kernel
theorem d_M_waited_30 : decode prog_13_method_45_code 30 = .ok (.iconst 1, 1) := by decide +kernel
theorem d_M_waited_31 : decode prog_13_method_45_code 31 = .ok (.goto 4, 3) := by decide +kernel
theorem d_M_waited_34 : decode prog_13_method_45_code 34 = .ok (.iconst 0, 1) := by decide +kernel
theorem d_M_waited_35 : decode prog_13_method_45_code 35 = .ok (.istore 5, 2) := by decide +kernel
theorem d_M_waited_37 : decode prog_13_method_45_code 37 = .ok (.iload 5, 2) := by decide +kernel
theorem d_M_waited_39 : decode prog_13_method_45_code 39 = .ok (.ifCond .eq 23, 3) := by decide +kernel
theorem d_M_waited_42 : decode prog_13_method_45_code 42 = .ok (.iload_n 1, 1) := by decide +kernel
theorem d_M_waited_43 : decode prog_13_method_45_code 43 = .ok (.iload_n 3, 1) := by decide +kernel
theorem d_M_waited_44 : decode prog_13_method_45_code 44 = .ok (.invokestatic 169, 3) := by decide +kernel
theorem d_M_waited_47 : decode prog_13_method_45_code 47 = .ok (.ifCond .eq 15, 3) := by decide +kernel
theorem d_M_waited_50 : decode prog_13_method_45_code 50 = .ok (.aload_n 0, 1) := by decide +kernel
theorem d_M_waited_51 : decode prog_13_method_45_code 51 = .ok (.iload_n 1, 1) := by decide +kernel
theorem d_M_waited_52 : decode prog_13_method_45_code 52 = .ok (.iload_n 2, 1) := by decide +kernel
theorem d_M_waited_53 : decode prog_13_method_45_code 53 = .ok (.iload_n 3, 1) := by decide +kernel
theorem d_M_waited_54 : decode prog_13_method_45_code 54 = .ok (.iload 4, 2) := by decide +kernel
theorem d_M_waited_56 : decode prog_13_method_45_code 56 = .ok (.invokevirtual 204, 3) := by decide +kernel
theorem d_M_waited_59 : decode prog_13_method_45_code 59 = .ok (.goto 5, 3) := by decide +kernel
theorem d_M_waited_62 : decode prog_13_method_45_code 62 = .ok (.bipush (-2), 2) := by decide +kernel
theorem d_M_waited_64 : decode prog_13_method_45_code 64 = .ok (.ireturn, 1) := by decide +kernel
theorem d_M_amount_0 : decode prog_13_method_46_code 0 = .ok (.iload_n 0, 1) := by decide +kernel
theorem d_M_amount_1 : decode prog_13_method_46_code 1 = .ok (.ifCond .ge 8, 3) := by decide +kernel
theorem d_M_amount_4 : decode prog_13_method_46_code 4 = .ok (.iload_n 0, 1) := by decide +kernel
theorem d_M_amount_5 : decode prog_13_method_46_code 5 = .ok (.ineg, 1) := by decide +kernel
theorem d_M_amount_6 : decode prog_13_method_46_code 6 = .ok (.goto 4, 3) := by decide +kernel
theorem d_M_amount_9 : decode prog_13_method_46_code 9 = .ok (.iload_n 0, 1) := by decide +kernel
theorem d_M_amount_10 : decode prog_13_method_46_code 10 = .ok (.ireturn, 1) := by decide +kernel
theorem d_M_tries_0 : decode prog_13_method_47_code 0 = .ok (.iconst 0, 1) := by decide +kernel
theorem d_M_tries_1 : decode prog_13_method_47_code 1 = .ok (.istore_n 3, 1) := by decide +kernel
theorem d_M_tries_2 : decode prog_13_method_47_code 2 = .ok (.iconst 0, 1) := by decide +kernel
theorem d_M_tries_3 : decode prog_13_method_47_code 3 = .ok (.istore 4, 2) := by decide +kernel
theorem d_M_tries_5 : decode prog_13_method_47_code 5 = .ok (.iconst 0, 1) := by decide +kernel
theorem d_M_tries_6 : decode prog_13_method_47_code 6 = .ok (.istore 5, 2) := by decide +kernel
theorem d_M_tries_8 : decode prog_13_method_47_code 8 = .ok (.iconst 0, 1) := by decide +kernel
theorem d_M_tries_9 : decode prog_13_method_47_code 9 = .ok (.istore 6, 2) := by decide +kernel
theorem d_M_tries_11 : decode prog_13_method_47_code 11 = .ok (.iconst 0, 1) := by decide +kernel
theorem d_M_tries_12 : decode prog_13_method_47_code 12 = .ok (.istore 7, 2) := by decide +kernel
theorem d_M_tries_14 : decode prog_13_method_47_code 14 = .ok (.iconst 0, 1) := by decide +kernel
theorem d_M_tries_15 : decode prog_13_method_47_code 15 = .ok (.istore 8, 2) := by decide +kernel
theorem d_M_tries_17 : decode prog_13_method_47_code 17 = .ok (.iload 8, 2) := by decide +kernel
theorem d_M_tries_19 : decode prog_13_method_47_code 19 = .ok (.aload_n 0, 1) := by decide +kernel
theorem d_M_tries_20 : decode prog_13_method_47_code 20 = .ok (.getfield 113, 3) := by decide +kernel
theorem d_M_tries_23 : decode prog_13_method_47_code 23 = .ok (.if_icmp .ge 156, 3) := by decide +kernel
theorem d_M_tries_26 : decode prog_13_method_47_code 26 = .ok (.aload_n 0, 1) := by decide +kernel
theorem d_M_tries_27 : decode prog_13_method_47_code 27 = .ok (.iload_n 1, 1) := by decide +kernel
theorem d_M_tries_28 : decode prog_13_method_47_code 28 = .ok (.iload 8, 2) := by decide +kernel
theorem d_M_tries_30 : decode prog_13_method_47_code 30 = .ok (.invokevirtual 176, 3) := by decide +kernel
theorem d_M_tries_33 : decode prog_13_method_47_code 33 = .ok (.istore 9, 2) := by decide +kernel
theorem d_M_tries_35 : decode prog_13_method_47_code 35 = .ok (.aload_n 0, 1) := by decide +kernel
theorem d_M_tries_36 : decode prog_13_method_47_code 36 = .ok (.iload_n 2, 1) := by decide +kernel
theorem d_M_tries_37 : decode prog_13_method_47_code 37 = .ok (.iload 8, 2) := by decide +kernel
theorem d_M_tries_39 : decode prog_13_method_47_code 39 = .ok (.invokevirtual 176, 3) := by decide +kernel
theorem d_M_tries_42 : decode prog_13_method_47_code 42 = .ok (.istore 10, 2) := by decide +kernel
theorem d_M_tries_44 : decode prog_13_method_47_code 44 = .ok (.iload_n 3, 1) := by decide +kernel
theorem d_M_tries_45 : decode prog_13_method_47_code 45 = .ok (.aload_n 0, 1) := by decide +kernel
theorem d_M_tries_46 : decode prog_13_method_47_code 46 = .ok (.getfield 52, 3) := by decide +kernel
theorem d_M_tries_49 : decode prog_13_method_47_code 49 = .ok (.iload 8, 2) := by decide +kernel
theorem d_M_tries_51 : decode prog_13_method_47_code 51 = .ok (.iaload, 1) := by decide +kernel
theorem d_M_tries_52 : decode prog_13_method_47_code 52 = .ok (.iconst 2, 1) := by decide +kernel
theorem d_M_tries_53 : decode prog_13_method_47_code 53 = .ok (.if_icmp .ge 13, 3) := by decide +kernel
theorem d_M_tries_56 : decode prog_13_method_47_code 56 = .ok (.aload_n 0, 1) := by decide +kernel
theorem d_M_tries_57 : decode prog_13_method_47_code 57 = .ok (.getfield 28, 3) := by decide +kernel
theorem d_M_tries_60 : decode prog_13_method_47_code 60 = .ok (.iload 8, 2) := by decide +kernel
theorem d_M_tries_62 : decode prog_13_method_47_code 62 = .ok (.iaload, 1) := by decide +kernel
theorem d_M_tries_63 : decode prog_13_method_47_code 63 = .ok (.goto 4, 3) := by decide +kernel
theorem d_M_tries_66 : decode prog_13_method_47_code 66 = .ok (.iconst 0, 1) := by decide +kernel
theorem d_M_tries_67 : decode prog_13_method_47_code 67 = .ok (.iadd, 1) := by decide +kernel
theorem d_M_tries_68 : decode prog_13_method_47_code 68 = .ok (.istore_n 3, 1) := by decide +kernel
theorem d_M_tries_69 : decode prog_13_method_47_code 69 = .ok (.iload 4, 2) := by decide +kernel
theorem d_M_tries_71 : decode prog_13_method_47_code 71 = .ok (.aload_n 0, 1) := by decide +kernel
theorem d_M_tries_72 : decode prog_13_method_47_code 72 = .ok (.getfield 52, 3) := by decide +kernel
theorem d_M_tries_75 : decode prog_13_method_47_code 75 = .ok (.iload 8, 2) := by decide +kernel
theorem d_M_tries_77 : decode prog_13_method_47_code 77 = .ok (.iaload, 1) := by decide +kernel
theorem d_M_tries_78 : decode prog_13_method_47_code 78 = .ok (.ifCond .ne 14, 3) := by decide +kernel
theorem d_M_tries_81 : decode prog_13_method_47_code 81 = .ok (.iload 9, 2) := by decide +kernel
theorem d_M_tries_83 : decode prog_13_method_47_code 83 = .ok (.iload 10, 2) := by decide +kernel
theorem d_M_tries_85 : decode prog_13_method_47_code 85 = .ok (.isub, 1) := by decide +kernel
theorem d_M_tries_86 : decode prog_13_method_47_code 86 = .ok (.invokestatic 208, 3) := by decide +kernel
theorem d_M_tries_89 : decode prog_13_method_47_code 89 = .ok (.goto 4, 3) := by decide +kernel
theorem d_M_tries_92 : decode prog_13_method_47_code 92 = .ok (.iconst 0, 1) := by decide +kernel
theorem d_M_tries_93 : decode prog_13_method_47_code 93 = .ok (.iadd, 1) := by decide +kernel
theorem d_M_tries_94 : decode prog_13_method_47_code 94 = .ok (.istore 4, 2) := by decide +kernel
theorem d_M_tries_96 : decode prog_13_method_47_code 96 = .ok (.iload 5, 2) := by decide +kernel
theorem d_M_tries_98 : decode prog_13_method_47_code 98 = .ok (.aload_n 0, 1) := by decide +kernel
theorem d_M_tries_99 : decode prog_13_method_47_code 99 = .ok (.getfield 52, 3) := by decide +kernel
theorem d_M_tries_102 : decode prog_13_method_47_code 102 = .ok (.iload 8, 2) := by decide +kernel
theorem d_M_tries_104 : decode prog_13_method_47_code 104 = .ok (.iaload, 1) := by decide +kernel
theorem d_M_tries_105 : decode prog_13_method_47_code 105 = .ok (.ifCond .ne 20, 3) := by decide +kernel
theorem d_M_tries_108 : decode prog_13_method_47_code 108 = .ok (.iload 9, 2) := by decide +kernel
theorem d_M_tries_110 : decode prog_13_method_47_code 110 = .ok (.iload 10, 2) := by decide +kernel
theorem d_M_tries_112 : decode prog_13_method_47_code 112 = .ok (.if_icmp .le 8, 3) := by decide +kernel
theorem d_M_tries_115 : decode prog_13_method_47_code 115 = .ok (.iload 9, 2) := by decide +kernel
theorem d_M_tries_117 : decode prog_13_method_47_code 117 = .ok (.goto 9, 3) := by decide +kernel
theorem d_M_tries_120 : decode prog_13_method_47_code 120 = .ok (.iload 10, 2) := by decide +kernel
theorem d_M_tries_122 : decode prog_13_method_47_code 122 = .ok (.goto 4, 3) := by decide +kernel
theorem d_M_tries_125 : decode prog_13_method_47_code 125 = .ok (.iconst 0, 1) := by decide +kernel
theorem d_M_tries_126 : decode prog_13_method_47_code 126 = .ok (.iadd, 1) := by decide +kernel
theorem d_M_tries_127 : decode prog_13_method_47_code 127 = .ok (.istore 5, 2) := by decide +kernel
theorem d_M_tries_129 : decode prog_13_method_47_code 129 = .ok (.iload 6, 2) := by decide +kernel
theorem d_M_tries_131 : decode prog_13_method_47_code 131 = .ok (.aload_n 0, 1) := by decide +kernel
theorem d_M_tries_132 : decode prog_13_method_47_code 132 = .ok (.getfield 52, 3) := by decide +kernel
theorem d_M_tries_135 : decode prog_13_method_47_code 135 = .ok (.iload 8, 2) := by decide +kernel
theorem d_M_tries_137 : decode prog_13_method_47_code 137 = .ok (.iaload, 1) := by decide +kernel
theorem d_M_tries_138 : decode prog_13_method_47_code 138 = .ok (.iconst 1, 1) := by decide +kernel
theorem d_M_tries_139 : decode prog_13_method_47_code 139 = .ok (.if_icmp .ne 8, 3) := by decide +kernel
theorem d_M_tries_142 : decode prog_13_method_47_code 142 = .ok (.iload 9, 2) := by decide +kernel
theorem d_M_tries_144 : decode prog_13_method_47_code 144 = .ok (.goto 4, 3) := by decide +kernel
theorem d_M_tries_147 : decode prog_13_method_47_code 147 = .ok (.iconst 0, 1) := by decide +kernel
theorem d_M_tries_148 : decode prog_13_method_47_code 148 = .ok (.iadd, 1) := by decide +kernel
theorem d_M_tries_149 : decode prog_13_method_47_code 149 = .ok (.istore 6, 2) := by decide +kernel
theorem d_M_tries_151 : decode prog_13_method_47_code 151 = .ok (.iload 7, 2) := by decide +kernel
theorem d_M_tries_153 : decode prog_13_method_47_code 153 = .ok (.aload_n 0, 1) := by decide +kernel
theorem d_M_tries_154 : decode prog_13_method_47_code 154 = .ok (.getfield 52, 3) := by decide +kernel
theorem d_M_tries_157 : decode prog_13_method_47_code 157 = .ok (.iload 8, 2) := by decide +kernel
theorem d_M_tries_159 : decode prog_13_method_47_code 159 = .ok (.iaload, 1) := by decide +kernel
theorem d_M_tries_160 : decode prog_13_method_47_code 160 = .ok (.iconst 1, 1) := by decide +kernel
theorem d_M_tries_161 : decode prog_13_method_47_code 161 = .ok (.if_icmp .ne 8, 3) := by decide +kernel
theorem d_M_tries_164 : decode prog_13_method_47_code 164 = .ok (.iload 10, 2) := by decide +kernel
theorem d_M_tries_166 : decode prog_13_method_47_code 166 = .ok (.goto 4, 3) := by decide +kernel
theorem d_M_tries_169 : decode prog_13_method_47_code 169 = .ok (.iconst 0, 1) := by decide +kernel
theorem d_M_tries_170 : decode prog_13_method_47_code 170 = .ok (.iadd, 1) := by decide +kernel
theorem d_M_tries_171 : decode prog_13_method_47_code 171 = .ok (.istore 7, 2) := by decide +kernel
theorem d_M_tries_173 : decode prog_13_method_47_code 173 = .ok (.iinc 8 1, 3) := by decide +kernel
theorem d_M_tries_176 : decode prog_13_method_47_code 176 = .ok (.goto (-159), 3) := by decide +kernel
theorem d_M_tries_179 : decode prog_13_method_47_code 179 = .ok (.iload 5, 2) := by decide +kernel
theorem d_M_tries_181 : decode prog_13_method_47_code 181 = .ok (.aload_n 0, 1) := by decide +kernel
theorem d_M_tries_182 : decode prog_13_method_47_code 182 = .ok (.getfield 46, 3) := by decide +kernel
theorem d_M_tries_185 : decode prog_13_method_47_code 185 = .ok (.iconst 0, 1) := by decide +kernel
theorem d_M_tries_186 : decode prog_13_method_47_code 186 = .ok (.iaload, 1) := by decide +kernel
theorem d_M_tries_187 : decode prog_13_method_47_code 187 = .ok (.if_icmp .gt 29, 3) := by decide +kernel
theorem d_M_tries_190 : decode prog_13_method_47_code 190 = .ok (.iload 6, 2) := by decide +kernel
theorem d_M_tries_192 : decode prog_13_method_47_code 192 = .ok (.aload_n 0, 1) := by decide +kernel
theorem d_M_tries_193 : decode prog_13_method_47_code 193 = .ok (.getfield 46, 3) := by decide +kernel
theorem d_M_tries_196 : decode prog_13_method_47_code 196 = .ok (.iconst 1, 1) := by decide +kernel
theorem d_M_tries_197 : decode prog_13_method_47_code 197 = .ok (.iaload, 1) := by decide +kernel
theorem d_M_tries_198 : decode prog_13_method_47_code 198 = .ok (.if_icmp .gt 18, 3) := by decide +kernel
theorem d_M_tries_201 : decode prog_13_method_47_code 201 = .ok (.iload 7, 2) := by decide +kernel
theorem d_M_tries_203 : decode prog_13_method_47_code 203 = .ok (.aload_n 0, 1) := by decide +kernel
theorem d_M_tries_204 : decode prog_13_method_47_code 204 = .ok (.getfield 46, 3) := by decide +kernel
theorem d_M_tries_207 : decode prog_13_method_47_code 207 = .ok (.iconst 1, 1) := by decide +kernel
theorem d_M_tries_208 : decode prog_13_method_47_code 208 = .ok (.iaload, 1) := by decide +kernel
theorem d_M_tries_209 : decode prog_13_method_47_code 209 = .ok (.if_icmp .gt 7, 3) := by decide +kernel
theorem d_M_tries_212 : decode prog_13_method_47_code 212 = .ok (.iconst 1, 1) := by decide +kernel
theorem d_M_tries_213 : decode prog_13_method_47_code 213 = .ok (.goto 4, 3) := by decide +kernel
theorem d_M_tries_216 : decode prog_13_method_47_code 216 = .ok (.iconst 0, 1) := by decide +kernel
theorem d_M_tries_217 : decode prog_13_method_47_code 217 = .ok (.istore 8, 2) := by decide +kernel
theorem d_M_tries_219 : decode prog_13_method_47_code 219 = .ok (.iload 8, 2) := by decide +kernel
theorem d_M_tries_221 : decode prog_13_method_47_code 221 = .ok (.ifCond .eq 77, 3) := by decide +kernel
theorem d_M_tries_224 : decode prog_13_method_47_code 224 = .ok (.iload_n 3, 1) := by decide +kernel
theorem d_M_tries_225 : decode prog_13_method_47_code 225 = .ok (.aload_n 0, 1) := by decide +kernel
theorem d_M_tries_226 : decode prog_13_method_47_code 226 = .ok (.getfield 211, 3) := by decide +kernel
theorem d_M_tries_229 : decode prog_13_method_47_code 229 = .ok (.if_icmp .gt 20, 3) := by decide +kernel
theorem d_M_tries_232 : decode prog_13_method_47_code 232 = .ok (.iload_n 3, 1) := by decide +kernel
theorem d_M_tries_233 : decode prog_13_method_47_code 233 = .ok (.aload_n 0, 1) := by decide +kernel
theorem d_M_tries_234 : decode prog_13_method_47_code 234 = .ok (.getfield 211, 3) := by decide +kernel
theorem d_M_tries_237 : decode prog_13_method_47_code 237 = .ok (.if_icmp .ne 61, 3) := by decide +kernel
theorem d_M_tries_240 : decode prog_13_method_47_code 240 = .ok (.iload 4, 2) := by decide +kernel
theorem d_M_tries_242 : decode prog_13_method_47_code 242 = .ok (.aload_n 0, 1) := by decide +kernel
theorem d_M_tries_243 : decode prog_13_method_47_code 243 = .ok (.getfield 214, 3) := by decide +kernel
theorem d_M_tries_246 : decode prog_13_method_47_code 246 = .ok (.if_icmp .ge 52, 3) := by decide +kernel
theorem d_M_tries_249 : decode prog_13_method_47_code 249 = .ok (.aload_n 0, 1) := by decide +kernel
theorem d_M_tries_250 : decode prog_13_method_47_code 250 = .ok (.iload_n 3, 1) := by decide +kernel
theorem d_M_tries_251 : decode prog_13_method_47_code 251 = .ok (.putfield 211, 3) := by decide +kernel
theorem d_M_tries_254 : decode prog_13_method_47_code 254 = .ok (.aload_n 0, 1) := by decide +kernel
theorem d_M_tries_255 : decode prog_13_method_47_code 255 = .ok (.iload 4, 2) := by decide +kernel
theorem d_M_tries_257 : decode prog_13_method_47_code 257 = .ok (.putfield 214, 3) := by decide +kernel
theorem d_M_tries_260 : decode prog_13_method_47_code 260 = .ok (.aload_n 0, 1) := by decide +kernel
theorem d_M_tries_261 : decode prog_13_method_47_code 261 = .ok (.iload 5, 2) := by decide +kernel
theorem d_M_tries_263 : decode prog_13_method_47_code 263 = .ok (.putfield 217, 3) := by decide +kernel
theorem d_M_tries_266 : decode prog_13_method_47_code 266 = .ok (.iconst 0, 1) := by decide +kernel
theorem d_M_tries_267 : decode prog_13_method_47_code 267 = .ok (.istore 9, 2) := by decide +kernel
theorem d_M_tries_269 : decode prog_13_method_47_code 269 = .ok (.iload 9, 2) := by decide +kernel
theorem d_M_tries_271 : decode prog_13_method_47_code 271 = .ok (.aload_n 0, 1) := by decide +kernel
theorem d_M_tries_272 : decode prog_13_method_47_code 272 = .ok (.getfield 113, 3) := by decide +kernel
theorem d_M_tries_275 : decode prog_13_method_47_code 275 = .ok (.if_icmp .ge 23, 3) := by decide +kernel
theorem d_M_tries_278 : decode prog_13_method_47_code 278 = .ok (.aload_n 0, 1) := by decide +kernel
theorem d_M_tries_279 : decode prog_13_method_47_code 279 = .ok (.getfield 55, 3) := by decide +kernel
theorem d_M_tries_282 : decode prog_13_method_47_code 282 = .ok (.iload 9, 2) := by decide +kernel
theorem d_M_tries_284 : decode prog_13_method_47_code 284 = .ok (.aload_n 0, 1) := by decide +kernel
theorem d_M_tries_285 : decode prog_13_method_47_code 285 = .ok (.getfield 52, 3) := by decide +kernel
theorem d_M_tries_288 : decode prog_13_method_47_code 288 = .ok (.iload 9, 2) := by decide +kernel
theorem d_M_tries_290 : decode prog_13_method_47_code 290 = .ok (.iaload, 1) := by decide +kernel
theorem d_M_tries_291 : decode prog_13_method_47_code 291 = .ok (.iastore, 1) := by decide +kernel
theorem d_M_tries_292 : decode prog_13_method_47_code 292 = .ok (.iinc 9 1, 3) := by decide +kernel
theorem d_M_tries_295 : decode prog_13_method_47_code 295 = .ok (.goto (-26), 3) := by decide +kernel
theorem d_M_tries_298 : decode prog_13_method_47_code 298 = .ok (.return_, 1) := by decide +kernel
theorem d_M_findBest_0 : decode prog_13_method_48_code 0 = .ok (.iconst 1, 1) := by decide +kernel
theorem d_M_findBest_1 : decode prog_13_method_48_code 1 = .ok (.istore_n 3, 1) := by decide +kernel
theorem d_M_findBest_2 : decode prog_13_method_48_code 2 = .ok (.iconst 0, 1) := by decide +kernel
theorem d_M_findBest_3 : decode prog_13_method_48_code 3 = .ok (.istore 4, 2) := by decide +kernel
theorem d_M_findBest_5 : decode prog_13_method_48_code 5 = .ok (.iload 4, 2) := by decide +kernel
theorem d_M_findBest_7 : decode prog_13_method_48_code 7 = .ok (.aload_n 0, 1) := by decide +kernel
theorem d_M_findBest_8 : decode prog_13_method_48_code 8 = .ok (.getfield 113, 3) := by decide +kernel
theorem d_M_findBest_11 : decode prog_13_method_48_code 11 = .ok (.if_icmp .ge 13, 3) := by decide +kernel
theorem d_M_findBest_14 : decode prog_13_method_48_code 14 = .ok (.iload_n 3, 1) := by decide +kernel
theorem d_M_findBest_15 : decode prog_13_method_48_code 15 = .ok (.iconst 3, 1) := by decide +kernel
theorem d_M_findBest_16 : decode prog_13_method_48_code 16 = .ok (.imul, 1) := by decide +kernel
theorem d_M_findBest_17 : decode prog_13_method_48_code 17 = .ok (.istore_n 3, 1) := by decide +kernel
theorem d_M_findBest_18 : decode prog_13_method_48_code 18 = .ok (.iinc 4 1, 3) := by decide +kernel
theorem d_M_findBest_21 : decode prog_13_method_48_code 21 = .ok (.goto (-16), 3) := by decide +kernel
theorem d_M_findBest_24 : decode prog_13_method_48_code 24 = .ok (.aload_n 0, 1) := by decide +kernel
theorem d_M_findBest_25 : decode prog_13_method_48_code 25 = .ok (.iconst (-1), 1) := by decide +kernel
theorem d_M_findBest_26 : decode prog_13_method_48_code 26 = .ok (.putfield 211, 3) := by decide +kernel
theorem d_M_findBest_29 : decode prog_13_method_48_code 29 = .ok (.iconst 0, 1) := by decide +kernel
theorem d_M_findBest_30 : decode prog_13_method_48_code 30 = .ok (.istore 4, 2) := by decide +kernel
theorem d_M_findBest_32 : decode prog_13_method_48_code 32 = .ok (.iload 4, 2) := by decide +kernel
theorem d_M_findBest_34 : decode prog_13_method_48_code 34 = .ok (.iload_n 3, 1) := by decide +kernel
theorem d_M_findBest_35 : decode prog_13_method_48_code 35 = .ok (.if_icmp .ge 95, 3) := by decide +kernel
theorem d_M_findBest_38 : decode prog_13_method_48_code 38 = .ok (.iload 4, 2) := by decide +kernel
theorem d_M_findBest_40 : decode prog_13_method_48_code 40 = .ok (.istore 5, 2) := by decide +kernel
theorem d_M_findBest_42 : decode prog_13_method_48_code 42 = .ok (.iconst 1, 1) := by decide +kernel
theorem d_M_findBest_43 : decode prog_13_method_48_code 43 = .ok (.istore 6, 2) := by decide +kernel
theorem d_M_findBest_45 : decode prog_13_method_48_code 45 = .ok (.aload_n 0, 1) := by decide +kernel
theorem d_M_findBest_46 : decode prog_13_method_48_code 46 = .ok (.getfield 113, 3) := by decide +kernel
theorem d_M_findBest_49 : decode prog_13_method_48_code 49 = .ok (.iconst 1, 1) := by decide +kernel
theorem d_M_findBest_50 : decode prog_13_method_48_code 50 = .ok (.isub, 1) := by decide +kernel
theorem d_M_findBest_51 : decode prog_13_method_48_code 51 = .ok (.istore 7, 2) := by decide +kernel
theorem d_M_findBest_53 : decode prog_13_method_48_code 53 = .ok (.iload 7, 2) := by decide +kernel
theorem d_M_findBest_55 : decode prog_13_method_48_code 55 = .ok (.ifCond .lt 58, 3) := by decide +kernel
theorem d_M_findBest_58 : decode prog_13_method_48_code 58 = .ok (.aload_n 0, 1) := by decide +kernel
theorem d_M_findBest_59 : decode prog_13_method_48_code 59 = .ok (.getfield 52, 3) := by decide +kernel
theorem d_M_findBest_62 : decode prog_13_method_48_code 62 = .ok (.iload 7, 2) := by decide +kernel
theorem d_M_findBest_64 : decode prog_13_method_48_code 64 = .ok (.iload 5, 2) := by decide +kernel
theorem d_M_findBest_66 : decode prog_13_method_48_code 66 = .ok (.iconst 3, 1) := by decide +kernel
theorem d_M_findBest_67 : decode prog_13_method_48_code 67 = .ok (.irem, 1) := by decide +kernel
theorem d_M_findBest_68 : decode prog_13_method_48_code 68 = .ok (.iastore, 1) := by decide +kernel
theorem d_M_findBest_69 : decode prog_13_method_48_code 69 = .ok (.iload 5, 2) := by decide +kernel
theorem d_M_findBest_71 : decode prog_13_method_48_code 71 = .ok (.iconst 3, 1) := by decide +kernel
theorem d_M_findBest_72 : decode prog_13_method_48_code 72 = .ok (.idiv, 1) := by decide +kernel
theorem d_M_findBest_73 : decode prog_13_method_48_code 73 = .ok (.istore 5, 2) := by decide +kernel
theorem d_M_findBest_75 : decode prog_13_method_48_code 75 = .ok (.iload 6, 2) := by decide +kernel
theorem d_M_findBest_77 : decode prog_13_method_48_code 77 = .ok (.ifCond .eq 27, 3) := by decide +kernel
theorem d_M_findBest_80 : decode prog_13_method_48_code 80 = .ok (.aload_n 0, 1) := by decide +kernel
theorem d_M_findBest_81 : decode prog_13_method_48_code 81 = .ok (.getfield 52, 3) := by decide +kernel
theorem d_M_findBest_84 : decode prog_13_method_48_code 84 = .ok (.iload 7, 2) := by decide +kernel
theorem d_M_findBest_86 : decode prog_13_method_48_code 86 = .ok (.iaload, 1) := by decide +kernel
theorem d_M_findBest_87 : decode prog_13_method_48_code 87 = .ok (.iconst 2, 1) := by decide +kernel
theorem d_M_findBest_88 : decode prog_13_method_48_code 88 = .ok (.if_icmp .eq 12, 3) := by decide +kernel
theorem d_M_findBest_91 : decode prog_13_method_48_code 91 = .ok (.aload_n 0, 1) := by decide +kernel
theorem d_M_findBest_92 : decode prog_13_method_48_code 92 = .ok (.iload 7, 2) := by decide +kernel
theorem d_M_findBest_94 : decode prog_13_method_48_code 94 = .ok (.invokevirtual 188, 3) := by decide +kernel
theorem d_M_findBest_97 : decode prog_13_method_48_code 97 = .ok (.ifCond .eq 7, 3) := by decide +kernel
theorem d_M_findBest_100 : decode prog_13_method_48_code 100 = .ok (.iconst 1, 1) := by decide +kernel
theorem d_M_findBest_101 : decode prog_13_method_48_code 101 = .ok (.goto 4, 3) := by decide +kernel
theorem d_M_findBest_104 : decode prog_13_method_48_code 104 = .ok (.iconst 0, 1) := by decide +kernel
theorem d_M_findBest_105 : decode prog_13_method_48_code 105 = .ok (.istore 6, 2) := by decide +kernel
theorem d_M_findBest_107 : decode prog_13_method_48_code 107 = .ok (.iinc 7 (-1), 3) := by decide +kernel
theorem d_M_findBest_110 : decode prog_13_method_48_code 110 = .ok (.goto (-57), 3) := by decide +kernel
theorem d_M_findBest_113 : decode prog_13_method_48_code 113 = .ok (.iload 6, 2) := by decide +kernel
theorem d_M_findBest_115 : decode prog_13_method_48_code 115 = .ok (.ifCond .eq 9, 3) := by decide +kernel
theorem d_M_findBest_118 : decode prog_13_method_48_code 118 = .ok (.aload_n 0, 1) := by decide +kernel
theorem d_M_findBest_119 : decode prog_13_method_48_code 119 = .ok (.iload_n 1, 1) := by decide +kernel
theorem d_M_findBest_120 : decode prog_13_method_48_code 120 = .ok (.iload_n 2, 1) := by decide +kernel
theorem d_M_findBest_121 : decode prog_13_method_48_code 121 = .ok (.invokevirtual 220, 3) := by decide +kernel
theorem d_M_findBest_124 : decode prog_13_method_48_code 124 = .ok (.iinc 4 1, 3) := by decide +kernel
theorem d_M_findBest_127 : decode prog_13_method_48_code 127 = .ok (.goto (-95), 3) := by decide +kernel
theorem d_M_findBest_130 : decode prog_13_method_48_code 130 = .ok (.return_, 1) := by decide +kernel
theorem d_M_areTwo_0 : decode prog_13_method_49_code 0 = .ok (.iload_n 0, 1) := by decide +kernel
theorem d_M_areTwo_1 : decode prog_13_method_49_code 1 = .ok (.invokestatic 149, 3) := by decide +kernel
theorem d_M_areTwo_4 : decode prog_13_method_49_code 4 = .ok (.ifCond .eq 19, 3) := by decide +kernel
theorem d_M_areTwo_7 : decode prog_13_method_49_code 7 = .ok (.iload_n 1, 1) := by decide +kernel
theorem d_M_areTwo_8 : decode prog_13_method_49_code 8 = .ok (.invokestatic 149, 3) := by decide +kernel
theorem d_M_areTwo_11 : decode prog_13_method_49_code 11 = .ok (.ifCond .eq 12, 3) := by decide +kernel
theorem d_M_areTwo_14 : decode prog_13_method_49_code 14 = .ok (.iload_n 0, 1) := by decide +kernel
theorem d_M_areTwo_15 : decode prog_13_method_49_code 15 = .ok (.iload_n 1, 1) := by decide +kernel
theorem d_M_areTwo_16 : decode prog_13_method_49_code 16 = .ok (.if_icmp .eq 7, 3) := by decide +kernel
theorem d_M_areTwo_19 : decode prog_13_method_49_code 19 = .ok (.iconst 1, 1) := by decide +kernel
theorem d_M_areTwo_20 : decode prog_13_method_49_code 20 = .ok (.goto 4, 3) := by decide +kernel
theorem d_M_areTwo_23 : decode prog_13_method_49_code 23 = .ok (.iconst 0, 1) := by decide +kernel
theorem d_M_areTwo_24 : decode prog_13_method_49_code 24 = .ok (.ireturn, 1) := by decide +kernel
theorem d_M_bestOf_0 : decode prog_13_method_50_code 0 = .ok (.iload_n 1, 1) := by decide +kernel
theorem d_M_bestOf_1 : decode prog_13_method_50_code 1 = .ok (.ifCond .ne 10, 3) := by decide +kernel
theorem d_M_bestOf_4 : decode prog_13_method_50_code 4 = .ok (.aload_n 0, 1) := by decide +kernel
theorem d_M_bestOf_5 : decode prog_13_method_50_code 5 = .ok (.getfield 211, 3) := by decide +kernel
theorem d_M_bestOf_8 : decode prog_13_method_50_code 8 = .ok (.goto 19, 3) := by decide +kernel
theorem d_M_bestOf_11 : decode prog_13_method_50_code 11 = .ok (.iload_n 1, 1) := by decide +kernel
theorem d_M_bestOf_12 : decode prog_13_method_50_code 12 = .ok (.iconst 1, 1) := by decide +kernel
theorem d_M_bestOf_13 : decode prog_13_method_50_code 13 = .ok (.if_icmp .ne 10, 3) := by decide +kernel
theorem d_M_bestOf_16 : decode prog_13_method_50_code 16 = .ok (.aload_n 0, 1) := by decide +kernel
theorem d_M_bestOf_17 : decode prog_13_method_50_code 17 = .ok (.getfield 214, 3) := by decide +kernel
theorem d_M_bestOf_20 : decode prog_13_method_50_code 20 = .ok (.goto 7, 3) := by decide +kernel
theorem d_M_bestOf_23 : decode prog_13_method_50_code 23 = .ok (.aload_n 0, 1) := by decide +kernel
theorem d_M_bestOf_24 : decode prog_13_method_50_code 24 = .ok (.getfield 217, 3) := by decide +kernel
theorem d_M_bestOf_27 : decode prog_13_method_50_code 27 = .ok (.ireturn, 1) := by decide +kernel
theorem d_M_best_0 : decode prog_13_method_51_code 0 = .ok (.iload_n 1, 1) := by decide +kernel
theorem d_M_best_1 : decode prog_13_method_51_code 1 = .ok (.iload_n 2, 1) := by decide +kernel
theorem d_M_best_2 : decode prog_13_method_51_code 2 = .ok (.invokestatic 223, 3) := by decide +kernel
theorem d_M_best_5 : decode prog_13_method_51_code 5 = .ok (.ifCond .eq 15, 3) := by decide +kernel
theorem d_M_best_8 : decode prog_13_method_51_code 8 = .ok (.iload_n 3, 1) := by decide +kernel
theorem d_M_best_9 : decode prog_13_method_51_code 9 = .ok (.i2l, 1) := by decide +kernel
theorem d_M_best_10 : decode prog_13_method_51_code 10 = .ok (.lconst 0, 1) := by decide +kernel
theorem d_M_best_11 : decode prog_13_method_51_code 11 = .ok (.ldc2_w 90, 3) := by decide +kernel
theorem d_M_best_14 : decode prog_13_method_51_code 14 = .ok (.invokestatic 76, 3) := by decide +kernel
theorem d_M_best_17 : decode prog_13_method_51_code 17 = .ok (.ifCond .ne 6, 3) := by decide +kernel
theorem d_M_best_20 : decode prog_13_method_51_code 20 = .ok (.bipush (-2), 2) := by decide +kernel
theorem d_M_best_22 : decode prog_13_method_51_code 22 = .ok (.ireturn, 1) := by decide +kernel
theorem d_M_best_23 : decode prog_13_method_51_code 23 = .ok (.aload_n 0, 1) := by decide +kernel
theorem d_M_best_24 : decode prog_13_method_51_code 24 = .ok (.invokevirtual 131, 3) := by decide +kernel
theorem d_M_best_27 : decode prog_13_method_51_code 27 = .ok (.pop, 1) := by decide +kernel
theorem d_M_best_28 : decode prog_13_method_51_code 28 = .ok (.aload_n 0, 1) := by decide +kernel
theorem d_M_best_29 : decode prog_13_method_51_code 29 = .ok (.iload_n 1, 1) := by decide +kernel
theorem d_M_best_30 : decode prog_13_method_51_code 30 = .ok (.iload_n 2, 1) := by decide +kernel
theorem d_M_best_31 : decode prog_13_method_51_code 31 = .ok (.invokevirtual 226, 3) := by decide +kernel
theorem d_M_best_34 : decode prog_13_method_51_code 34 = .ok (.aload_n 0, 1) := by decide +kernel
theorem d_M_best_35 : decode prog_13_method_51_code 35 = .ok (.iload_n 3, 1) := by decide +kernel
theorem d_M_best_36 : decode prog_13_method_51_code 36 = .ok (.invokevirtual 229, 3) := by decide +kernel
theorem d_M_best_39 : decode prog_13_method_51_code 39 = .ok (.ireturn, 1) := by decide +kernel
theorem d_M_how_0 : decode prog_13_method_52_code 0 = .ok (.iload_n 1, 1) := by decide +kernel
theorem d_M_how_1 : decode prog_13_method_52_code 1 = .ok (.iload_n 2, 1) := by decide +kernel
theorem d_M_how_2 : decode prog_13_method_52_code 2 = .ok (.invokestatic 223, 3) := by decide +kernel
theorem d_M_how_5 : decode prog_13_method_52_code 5 = .ok (.ifCond .eq 11, 3) := by decide +kernel
theorem d_M_how_8 : decode prog_13_method_52_code 8 = .ok (.aload_n 0, 1) := by decide +kernel
theorem d_M_how_9 : decode prog_13_method_52_code 9 = .ok (.iload_n 3, 1) := by decide +kernel
theorem d_M_how_10 : decode prog_13_method_52_code 10 = .ok (.invokevirtual 143, 3) := by decide +kernel
theorem d_M_how_13 : decode prog_13_method_52_code 13 = .ok (.ifCond .ne 6, 3) := by decide +kernel
theorem d_M_how_16 : decode prog_13_method_52_code 16 = .ok (.bipush (-2), 2) := by decide +kernel
theorem d_M_how_18 : decode prog_13_method_52_code 18 = .ok (.ireturn, 1) := by decide +kernel
theorem d_M_how_19 : decode prog_13_method_52_code 19 = .ok (.aload_n 0, 1) := by decide +kernel
theorem d_M_how_20 : decode prog_13_method_52_code 20 = .ok (.iload_n 1, 1) := by decide +kernel
theorem d_M_how_21 : decode prog_13_method_52_code 21 = .ok (.iload_n 2, 1) := by decide +kernel
theorem d_M_how_22 : decode prog_13_method_52_code 22 = .ok (.invokevirtual 226, 3) := by decide +kernel
theorem d_M_how_25 : decode prog_13_method_52_code 25 = .ok (.aload_n 0, 1) := by decide +kernel
theorem d_M_how_26 : decode prog_13_method_52_code 26 = .ok (.getfield 55, 3) := by decide +kernel
theorem d_M_how_29 : decode prog_13_method_52_code 29 = .ok (.iload_n 3, 1) := by decide +kernel
theorem d_M_how_30 : decode prog_13_method_52_code 30 = .ok (.iaload, 1) := by decide +kernel
theorem d_M_how_31 : decode prog_13_method_52_code 31 = .ok (.ireturn, 1) := by decide +kernel
theorem d_M_isSlow_0 : decode prog_13_method_53_code 0 = .ok (.iload_n 0, 1) := by decide +kernel
theorem d_M_isSlow_1 : decode prog_13_method_53_code 1 = .ok (.i2l, 1) := by decide +kernel
theorem d_M_isSlow_2 : decode prog_13_method_53_code 2 = .ok (.lconst 0, 1) := by decide +kernel
theorem d_M_isSlow_3 : decode prog_13_method_53_code 3 = .ok (.ldc2_w 84, 3) := by decide +kernel
theorem d_M_isSlow_6 : decode prog_13_method_53_code 6 = .ok (.invokestatic 76, 3) := by decide +kernel
theorem d_M_isSlow_9 : decode prog_13_method_53_code 9 = .ok (.ireturn, 1) := by decide +kernel
theorem d_M_gainOf_0 : decode prog_13_method_54_code 0 = .ok (.iconst 0, 1) := by decide +kernel
theorem d_M_gainOf_1 : decode prog_13_method_54_code 1 = .ok (.istore 5, 2) := by decide +kernel
theorem d_M_gainOf_3 : decode prog_13_method_54_code 3 = .ok (.iconst 0, 1) := by decide +kernel
theorem d_M_gainOf_4 : decode prog_13_method_54_code 4 = .ok (.istore 6, 2) := by decide +kernel
theorem d_M_gainOf_6 : decode prog_13_method_54_code 6 = .ok (.iload 6, 2) := by decide +kernel
theorem d_M_gainOf_8 : decode prog_13_method_54_code 8 = .ok (.aload_n 0, 1) := by decide +kernel
theorem d_M_gainOf_9 : decode prog_13_method_54_code 9 = .ok (.getfield 113, 3) := by decide +kernel
theorem d_M_gainOf_12 : decode prog_13_method_54_code 12 = .ok (.if_icmp .ge 65, 3) := by decide +kernel
theorem d_M_gainOf_15 : decode prog_13_method_54_code 15 = .ok (.aload_n 0, 1) := by decide +kernel
theorem d_M_gainOf_16 : decode prog_13_method_54_code 16 = .ok (.iload 6, 2) := by decide +kernel
theorem d_M_gainOf_18 : decode prog_13_method_54_code 18 = .ok (.invokevirtual 188, 3) := by decide +kernel
theorem d_M_gainOf_21 : decode prog_13_method_54_code 21 = .ok (.ifCond .eq 50, 3) := by decide +kernel
theorem d_M_gainOf_24 : decode prog_13_method_54_code 24 = .ok (.aload_n 0, 1) := by decide +kernel
theorem d_M_gainOf_25 : decode prog_13_method_54_code 25 = .ok (.iload_n 2, 1) := by decide +kernel
theorem d_M_gainOf_26 : decode prog_13_method_54_code 26 = .ok (.iload 6, 2) := by decide +kernel
theorem d_M_gainOf_28 : decode prog_13_method_54_code 28 = .ok (.invokevirtual 176, 3) := by decide +kernel
theorem d_M_gainOf_31 : decode prog_13_method_54_code 31 = .ok (.iload 4, 2) := by decide +kernel
theorem d_M_gainOf_33 : decode prog_13_method_54_code 33 = .ok (.iadd, 1) := by decide +kernel
theorem d_M_gainOf_34 : decode prog_13_method_54_code 34 = .ok (.aload_n 0, 1) := by decide +kernel
theorem d_M_gainOf_35 : decode prog_13_method_54_code 35 = .ok (.iload_n 1, 1) := by decide +kernel
theorem d_M_gainOf_36 : decode prog_13_method_54_code 36 = .ok (.iload 6, 2) := by decide +kernel
theorem d_M_gainOf_38 : decode prog_13_method_54_code 38 = .ok (.invokevirtual 176, 3) := by decide +kernel
theorem d_M_gainOf_41 : decode prog_13_method_54_code 41 = .ok (.isub, 1) := by decide +kernel
theorem d_M_gainOf_42 : decode prog_13_method_54_code 42 = .ok (.iload_n 3, 1) := by decide +kernel
theorem d_M_gainOf_43 : decode prog_13_method_54_code 43 = .ok (.isub, 1) := by decide +kernel
theorem d_M_gainOf_44 : decode prog_13_method_54_code 44 = .ok (.istore 7, 2) := by decide +kernel
theorem d_M_gainOf_46 : decode prog_13_method_54_code 46 = .ok (.iload 5, 2) := by decide +kernel
theorem d_M_gainOf_48 : decode prog_13_method_54_code 48 = .ok (.aload_n 0, 1) := by decide +kernel
theorem d_M_gainOf_49 : decode prog_13_method_54_code 49 = .ok (.getfield 40, 3) := by decide +kernel
theorem d_M_gainOf_52 : decode prog_13_method_54_code 52 = .ok (.iload_n 1, 1) := by decide +kernel
theorem d_M_gainOf_53 : decode prog_13_method_54_code 53 = .ok (.iaload, 1) := by decide +kernel
theorem d_M_gainOf_54 : decode prog_13_method_54_code 54 = .ok (.iload_n 3, 1) := by decide +kernel
theorem d_M_gainOf_55 : decode prog_13_method_54_code 55 = .ok (.imul, 1) := by decide +kernel
theorem d_M_gainOf_56 : decode prog_13_method_54_code 56 = .ok (.iload 7, 2) := by decide +kernel
theorem d_M_gainOf_58 : decode prog_13_method_54_code 58 = .ok (.ifCond .le 8, 3) := by decide +kernel
theorem d_M_gainOf_61 : decode prog_13_method_54_code 61 = .ok (.iload 7, 2) := by decide +kernel
theorem d_M_gainOf_63 : decode prog_13_method_54_code 63 = .ok (.goto 4, 3) := by decide +kernel
theorem d_M_gainOf_66 : decode prog_13_method_54_code 66 = .ok (.iconst 0, 1) := by decide +kernel
theorem d_M_gainOf_67 : decode prog_13_method_54_code 67 = .ok (.isub, 1) := by decide +kernel
theorem d_M_gainOf_68 : decode prog_13_method_54_code 68 = .ok (.iadd, 1) := by decide +kernel
theorem d_M_gainOf_69 : decode prog_13_method_54_code 69 = .ok (.istore 5, 2) := by decide +kernel
theorem d_M_gainOf_71 : decode prog_13_method_54_code 71 = .ok (.iinc 6 1, 3) := by decide +kernel
theorem d_M_gainOf_74 : decode prog_13_method_54_code 74 = .ok (.goto (-68), 3) := by decide +kernel
theorem d_M_gainOf_77 : decode prog_13_method_54_code 77 = .ok (.iload 5, 2) := by decide +kernel
theorem d_M_gainOf_79 : decode prog_13_method_54_code 79 = .ok (.ireturn, 1) := by decide +kernel
theorem d_M_gain_0 : decode prog_13_method_55_code 0 = .ok (.aload_n 0, 1) := by decide +kernel
theorem d_M_gain_1 : decode prog_13_method_55_code 1 = .ok (.invokevirtual 131, 3) := by decide +kernel
theorem d_M_gain_4 : decode prog_13_method_55_code 4 = .ok (.pop, 1) := by decide +kernel
theorem d_M_gain_5 : decode prog_13_method_55_code 5 = .ok (.iload_n 1, 1) := by decide +kernel
theorem d_M_gain_6 : decode prog_13_method_55_code 6 = .ok (.iload_n 2, 1) := by decide +kernel
theorem d_M_gain_7 : decode prog_13_method_55_code 7 = .ok (.invokestatic 223, 3) := by decide +kernel
theorem d_M_gain_10 : decode prog_13_method_55_code 10 = .ok (.ifCond .eq 30, 3) := by decide +kernel
theorem d_M_gain_13 : decode prog_13_method_55_code 13 = .ok (.iload_n 3, 1) := by decide +kernel
theorem d_M_gain_14 : decode prog_13_method_55_code 14 = .ok (.invokestatic 232, 3) := by decide +kernel
theorem d_M_gain_17 : decode prog_13_method_55_code 17 = .ok (.ifCond .eq 23, 3) := by decide +kernel
theorem d_M_gain_20 : decode prog_13_method_55_code 20 = .ok (.iload 4, 2) := by decide +kernel
theorem d_M_gain_22 : decode prog_13_method_55_code 22 = .ok (.invokestatic 232, 3) := by decide +kernel
theorem d_M_gain_25 : decode prog_13_method_55_code 25 = .ok (.ifCond .eq 15, 3) := by decide +kernel
theorem d_M_gain_28 : decode prog_13_method_55_code 28 = .ok (.aload_n 0, 1) := by decide +kernel
theorem d_M_gain_29 : decode prog_13_method_55_code 29 = .ok (.iload_n 1, 1) := by decide +kernel
theorem d_M_gain_30 : decode prog_13_method_55_code 30 = .ok (.iload_n 2, 1) := by decide +kernel
theorem d_M_gain_31 : decode prog_13_method_55_code 31 = .ok (.iload_n 3, 1) := by decide +kernel
theorem d_M_gain_32 : decode prog_13_method_55_code 32 = .ok (.iload 4, 2) := by decide +kernel
theorem d_M_gain_34 : decode prog_13_method_55_code 34 = .ok (.invokevirtual 235, 3) := by decide +kernel
theorem d_M_gain_37 : decode prog_13_method_55_code 37 = .ok (.goto 6, 3) := by decide +kernel
theorem d_M_gain_40 : decode prog_13_method_55_code 40 = .ok (.sipush (-10002), 3) := by decide +kernel
theorem d_M_gain_43 : decode prog_13_method_55_code 43 = .ok (.ireturn, 1) := by decide +kernel
theorem d_M_isRest_0 : decode prog_13_method_56_code 0 = .ok (.iconst 1, 1) := by decide +kernel
theorem d_M_isRest_1 : decode prog_13_method_56_code 1 = .ok (.istore 5, 2) := by decide +kernel
theorem d_M_isRest_3 : decode prog_13_method_56_code 3 = .ok (.iconst 0, 1) := by decide +kernel
theorem d_M_isRest_4 : decode prog_13_method_56_code 4 = .ok (.istore 6, 2) := by decide +kernel
theorem d_M_isRest_6 : decode prog_13_method_56_code 6 = .ok (.iload 6, 2) := by decide +kernel
theorem d_M_isRest_8 : decode prog_13_method_56_code 8 = .ok (.iconst 4, 1) := by decide +kernel
theorem d_M_isRest_9 : decode prog_13_method_56_code 9 = .ok (.if_icmp .ge 64, 3) := by decide +kernel
theorem d_M_isRest_12 : decode prog_13_method_56_code 12 = .ok (.iload 5, 2) := by decide +kernel
theorem d_M_isRest_14 : decode prog_13_method_56_code 14 = .ok (.ifCond .eq 50, 3) := by decide +kernel
theorem d_M_isRest_17 : decode prog_13_method_56_code 17 = .ok (.aload_n 0, 1) := by decide +kernel
theorem d_M_isRest_18 : decode prog_13_method_56_code 18 = .ok (.iload_n 1, 1) := by decide +kernel
theorem d_M_isRest_19 : decode prog_13_method_56_code 19 = .ok (.iload_n 2, 1) := by decide +kernel
theorem d_M_isRest_20 : decode prog_13_method_56_code 20 = .ok (.iload 6, 2) := by decide +kernel
theorem d_M_isRest_22 : decode prog_13_method_56_code 22 = .ok (.iload 4, 2) := by decide +kernel
theorem d_M_isRest_24 : decode prog_13_method_56_code 24 = .ok (.invokevirtual 235, 3) := by decide +kernel
theorem d_M_isRest_27 : decode prog_13_method_56_code 27 = .ok (.aload_n 0, 1) := by decide +kernel
theorem d_M_isRest_28 : decode prog_13_method_56_code 28 = .ok (.iload_n 1, 1) := by decide +kernel
theorem d_M_isRest_29 : decode prog_13_method_56_code 29 = .ok (.iload_n 2, 1) := by decide +kernel
theorem d_M_isRest_30 : decode prog_13_method_56_code 30 = .ok (.iload_n 3, 1) := by decide +kernel
theorem d_M_isRest_31 : decode prog_13_method_56_code 31 = .ok (.iload 4, 2) := by decide +kernel
theorem d_M_isRest_33 : decode prog_13_method_56_code 33 = .ok (.invokevirtual 235, 3) := by decide +kernel
theorem d_M_isRest_36 : decode prog_13_method_56_code 36 = .ok (.if_icmp .gt 28, 3) := by decide +kernel
theorem d_M_isRest_39 : decode prog_13_method_56_code 39 = .ok (.aload_n 0, 1) := by decide +kernel
theorem d_M_isRest_40 : decode prog_13_method_56_code 40 = .ok (.iload_n 2, 1) := by decide +kernel
theorem d_M_isRest_41 : decode prog_13_method_56_code 41 = .ok (.iload_n 1, 1) := by decide +kernel
theorem d_M_isRest_42 : decode prog_13_method_56_code 42 = .ok (.iload 6, 2) := by decide +kernel
theorem d_M_isRest_44 : decode prog_13_method_56_code 44 = .ok (.iload_n 3, 1) := by decide +kernel
theorem d_M_isRest_45 : decode prog_13_method_56_code 45 = .ok (.invokevirtual 235, 3) := by decide +kernel
theorem d_M_isRest_48 : decode prog_13_method_56_code 48 = .ok (.aload_n 0, 1) := by decide +kernel
theorem d_M_isRest_49 : decode prog_13_method_56_code 49 = .ok (.iload_n 2, 1) := by decide +kernel
theorem d_M_isRest_50 : decode prog_13_method_56_code 50 = .ok (.iload_n 1, 1) := by decide +kernel
theorem d_M_isRest_51 : decode prog_13_method_56_code 51 = .ok (.iload 4, 2) := by decide +kernel
theorem d_M_isRest_53 : decode prog_13_method_56_code 53 = .ok (.iload_n 3, 1) := by decide +kernel
theorem d_M_isRest_54 : decode prog_13_method_56_code 54 = .ok (.invokevirtual 235, 3) := by decide +kernel
theorem d_M_isRest_57 : decode prog_13_method_56_code 57 = .ok (.if_icmp .gt 7, 3) := by decide +kernel
theorem d_M_isRest_60 : decode prog_13_method_56_code 60 = .ok (.iconst 1, 1) := by decide +kernel
theorem d_M_isRest_61 : decode prog_13_method_56_code 61 = .ok (.goto 4, 3) := by decide +kernel
theorem d_M_isRest_64 : decode prog_13_method_56_code 64 = .ok (.iconst 0, 1) := by decide +kernel
theorem d_M_isRest_65 : decode prog_13_method_56_code 65 = .ok (.istore 5, 2) := by decide +kernel
theorem d_M_isRest_67 : decode prog_13_method_56_code 67 = .ok (.iinc 6 1, 3) := by decide +kernel
theorem d_M_isRest_70 : decode prog_13_method_56_code 70 = .ok (.goto (-64), 3) := by decide +kernel
theorem d_M_isRest_73 : decode prog_13_method_56_code 73 = .ok (.iload 5, 2) := by decide +kernel
theorem d_M_isRest_75 : decode prog_13_method_56_code 75 = .ok (.ireturn, 1) := by decide +kernel
theorem d_M_restsOf_0 : decode prog_13_method_57_code 0 = .ok (.iconst 0, 1) := by decide +kernel
theorem d_M_restsOf_1 : decode prog_13_method_57_code 1 = .ok (.istore 4, 2) := by decide +kernel
theorem d_M_restsOf_3 : decode prog_13_method_57_code 3 = .ok (.iconst 0, 1) := by decide +kernel
theorem d_M_restsOf_4 : decode prog_13_method_57_code 4 = .ok (.istore 5, 2) := by decide +kernel
theorem d_M_restsOf_6 : decode prog_13_method_57_code 6 = .ok (.iload 5, 2) := by decide +kernel
theorem d_M_restsOf_8 : decode prog_13_method_57_code 8 = .ok (.bipush 16, 2) := by decide +kernel
theorem d_M_restsOf_10 : decode prog_13_method_57_code 10 = .ok (.if_icmp .ge 38, 3) := by decide +kernel
theorem d_M_restsOf_13 : decode prog_13_method_57_code 13 = .ok (.aload_n 0, 1) := by decide +kernel
theorem d_M_restsOf_14 : decode prog_13_method_57_code 14 = .ok (.iload_n 1, 1) := by decide +kernel
theorem d_M_restsOf_15 : decode prog_13_method_57_code 15 = .ok (.iload_n 2, 1) := by decide +kernel
theorem d_M_restsOf_16 : decode prog_13_method_57_code 16 = .ok (.iload 5, 2) := by decide +kernel
theorem d_M_restsOf_18 : decode prog_13_method_57_code 18 = .ok (.iconst 4, 1) := by decide +kernel
theorem d_M_restsOf_19 : decode prog_13_method_57_code 19 = .ok (.idiv, 1) := by decide +kernel
theorem d_M_restsOf_20 : decode prog_13_method_57_code 20 = .ok (.iload 5, 2) := by decide +kernel
theorem d_M_restsOf_22 : decode prog_13_method_57_code 22 = .ok (.iconst 4, 1) := by decide +kernel
theorem d_M_restsOf_23 : decode prog_13_method_57_code 23 = .ok (.irem, 1) := by decide +kernel
theorem d_M_restsOf_24 : decode prog_13_method_57_code 24 = .ok (.invokevirtual 238, 3) := by decide +kernel
theorem d_M_restsOf_27 : decode prog_13_method_57_code 27 = .ok (.ifCond .eq 15, 3) := by decide +kernel
theorem d_M_restsOf_30 : decode prog_13_method_57_code 30 = .ok (.iload 4, 2) := by decide +kernel
theorem d_M_restsOf_32 : decode prog_13_method_57_code 32 = .ok (.iload_n 3, 1) := by decide +kernel
theorem d_M_restsOf_33 : decode prog_13_method_57_code 33 = .ok (.if_icmp .ne 6, 3) := by decide +kernel
theorem d_M_restsOf_36 : decode prog_13_method_57_code 36 = .ok (.iload 5, 2) := by decide +kernel
theorem d_M_restsOf_38 : decode prog_13_method_57_code 38 = .ok (.ireturn, 1) := by decide +kernel
theorem d_M_restsOf_39 : decode prog_13_method_57_code 39 = .ok (.iinc 4 1, 3) := by decide +kernel
theorem d_M_restsOf_42 : decode prog_13_method_57_code 42 = .ok (.iinc 5 1, 3) := by decide +kernel
theorem d_M_restsOf_45 : decode prog_13_method_57_code 45 = .ok (.goto (-39), 3) := by decide +kernel
theorem d_M_restsOf_48 : decode prog_13_method_57_code 48 = .ok (.iload_n 3, 1) := by decide +kernel
theorem d_M_restsOf_49 : decode prog_13_method_57_code 49 = .ok (.iconst (-1), 1) := by decide +kernel
theorem d_M_restsOf_50 : decode prog_13_method_57_code 50 = .ok (.if_icmp .ne 8, 3) := by decide +kernel
theorem d_M_restsOf_53 : decode prog_13_method_57_code 53 = .ok (.iload 4, 2) := by decide +kernel
theorem d_M_restsOf_55 : decode prog_13_method_57_code 55 = .ok (.goto 4, 3) := by decide +kernel
theorem d_M_restsOf_58 : decode prog_13_method_57_code 58 = .ok (.iconst (-1), 1) := by decide +kernel
theorem d_M_restsOf_59 : decode prog_13_method_57_code 59 = .ok (.ireturn, 1) := by decide +kernel
theorem d_M_rests_0 : decode prog_13_method_58_code 0 = .ok (.aload_n 0, 1) := by decide +kernel
theorem d_M_rests_1 : decode prog_13_method_58_code 1 = .ok (.invokevirtual 131, 3) := by decide +kernel
theorem d_M_rests_4 : decode prog_13_method_58_code 4 = .ok (.pop, 1) := by decide +kernel
theorem d_M_rests_5 : decode prog_13_method_58_code 5 = .ok (.iload_n 1, 1) := by decide +kernel
theorem d_M_rests_6 : decode prog_13_method_58_code 6 = .ok (.iload_n 2, 1) := by decide +kernel
theorem d_M_rests_7 : decode prog_13_method_58_code 7 = .ok (.invokestatic 223, 3) := by decide +kernel
theorem d_M_rests_10 : decode prog_13_method_58_code 10 = .ok (.ifCond .eq 18, 3) := by decide +kernel
theorem d_M_rests_13 : decode prog_13_method_58_code 13 = .ok (.iload_n 3, 1) := by decide +kernel
theorem d_M_rests_14 : decode prog_13_method_58_code 14 = .ok (.iconst (-1), 1) := by decide +kernel
theorem d_M_rests_15 : decode prog_13_method_58_code 15 = .ok (.if_icmp .lt 13, 3) := by decide +kernel
theorem d_M_rests_18 : decode prog_13_method_58_code 18 = .ok (.aload_n 0, 1) := by decide +kernel
theorem d_M_rests_19 : decode prog_13_method_58_code 19 = .ok (.iload_n 1, 1) := by decide +kernel
theorem d_M_rests_20 : decode prog_13_method_58_code 20 = .ok (.iload_n 2, 1) := by decide +kernel
theorem d_M_rests_21 : decode prog_13_method_58_code 21 = .ok (.iload_n 3, 1) := by decide +kernel
theorem d_M_rests_22 : decode prog_13_method_58_code 22 = .ok (.invokevirtual 242, 3) := by decide +kernel
theorem d_M_rests_25 : decode prog_13_method_58_code 25 = .ok (.goto 5, 3) := by decide +kernel
theorem d_M_rests_28 : decode prog_13_method_58_code 28 = .ok (.bipush (-2), 2) := by decide +kernel
theorem d_M_rests_30 : decode prog_13_method_58_code 30 = .ok (.ireturn, 1) := by decide +kernel
theorem d_M_apart_0 : decode prog_13_method_59_code 0 = .ok (.iconst 0, 1) := by decide +kernel
theorem d_M_apart_1 : decode prog_13_method_59_code 1 = .ok (.istore_n 3, 1) := by decide +kernel
theorem d_M_apart_2 : decode prog_13_method_59_code 2 = .ok (.iconst 0, 1) := by decide +kernel
theorem d_M_apart_3 : decode prog_13_method_59_code 3 = .ok (.istore 4, 2) := by decide +kernel
theorem d_M_apart_5 : decode prog_13_method_59_code 5 = .ok (.iload 4, 2) := by decide +kernel
theorem d_M_apart_7 : decode prog_13_method_59_code 7 = .ok (.aload_n 0, 1) := by decide +kernel
theorem d_M_apart_8 : decode prog_13_method_59_code 8 = .ok (.getfield 113, 3) := by decide +kernel
theorem d_M_apart_11 : decode prog_13_method_59_code 11 = .ok (.if_icmp .ge 43, 3) := by decide +kernel
theorem d_M_apart_14 : decode prog_13_method_59_code 14 = .ok (.iload_n 3, 1) := by decide +kernel
theorem d_M_apart_15 : decode prog_13_method_59_code 15 = .ok (.aload_n 0, 1) := by decide +kernel
theorem d_M_apart_16 : decode prog_13_method_59_code 16 = .ok (.iload 4, 2) := by decide +kernel
theorem d_M_apart_18 : decode prog_13_method_59_code 18 = .ok (.invokevirtual 188, 3) := by decide +kernel
theorem d_M_apart_21 : decode prog_13_method_59_code 21 = .ok (.ifCond .eq 24, 3) := by decide +kernel
theorem d_M_apart_24 : decode prog_13_method_59_code 24 = .ok (.aload_n 0, 1) := by decide +kernel
theorem d_M_apart_25 : decode prog_13_method_59_code 25 = .ok (.iload_n 1, 1) := by decide +kernel
theorem d_M_apart_26 : decode prog_13_method_59_code 26 = .ok (.iload 4, 2) := by decide +kernel
theorem d_M_apart_28 : decode prog_13_method_59_code 28 = .ok (.invokevirtual 176, 3) := by decide +kernel
theorem d_M_apart_31 : decode prog_13_method_59_code 31 = .ok (.aload_n 0, 1) := by decide +kernel
theorem d_M_apart_32 : decode prog_13_method_59_code 32 = .ok (.iload_n 2, 1) := by decide +kernel
theorem d_M_apart_33 : decode prog_13_method_59_code 33 = .ok (.iload 4, 2) := by decide +kernel
theorem d_M_apart_35 : decode prog_13_method_59_code 35 = .ok (.invokevirtual 176, 3) := by decide +kernel
theorem d_M_apart_38 : decode prog_13_method_59_code 38 = .ok (.isub, 1) := by decide +kernel
theorem d_M_apart_39 : decode prog_13_method_59_code 39 = .ok (.invokestatic 208, 3) := by decide +kernel
theorem d_M_apart_42 : decode prog_13_method_59_code 42 = .ok (.goto 4, 3) := by decide +kernel
theorem d_M_apart_45 : decode prog_13_method_59_code 45 = .ok (.iconst 0, 1) := by decide +kernel
theorem d_M_apart_46 : decode prog_13_method_59_code 46 = .ok (.iadd, 1) := by decide +kernel
theorem d_M_apart_47 : decode prog_13_method_59_code 47 = .ok (.istore_n 3, 1) := by decide +kernel
theorem d_M_apart_48 : decode prog_13_method_59_code 48 = .ok (.iinc 4 1, 3) := by decide +kernel
theorem d_M_apart_51 : decode prog_13_method_59_code 51 = .ok (.goto (-46), 3) := by decide +kernel
theorem d_M_apart_54 : decode prog_13_method_59_code 54 = .ok (.iload_n 3, 1) := by decide +kernel
theorem d_M_apart_55 : decode prog_13_method_59_code 55 = .ok (.ireturn, 1) := by decide +kernel
theorem d_M_first_0 : decode prog_13_method_60_code 0 = .ok (.iconst 0, 1) := by decide +kernel
theorem d_M_first_1 : decode prog_13_method_60_code 1 = .ok (.istore_n 1, 1) := by decide +kernel
theorem d_M_first_2 : decode prog_13_method_60_code 2 = .ok (.iload_n 0, 1) := by decide +kernel
theorem d_M_first_3 : decode prog_13_method_60_code 3 = .ok (.iload_n 1, 1) := by decide +kernel
theorem d_M_first_4 : decode prog_13_method_60_code 4 = .ok (.invokestatic 169, 3) := by decide +kernel
theorem d_M_first_7 : decode prog_13_method_60_code 7 = .ok (.ifCond .ne 9, 3) := by decide +kernel
theorem d_M_first_10 : decode prog_13_method_60_code 10 = .ok (.iinc 1 1, 3) := by decide +kernel
theorem d_M_first_13 : decode prog_13_method_60_code 13 = .ok (.goto (-11), 3) := by decide +kernel
theorem d_M_first_16 : decode prog_13_method_60_code 16 = .ok (.iload_n 1, 1) := by decide +kernel
theorem d_M_first_17 : decode prog_13_method_60_code 17 = .ok (.ireturn, 1) := by decide +kernel
theorem d_M_findPairs_0 : decode prog_13_method_61_code 0 = .ok (.iconst 0, 1) := by decide +kernel
theorem d_M_findPairs_1 : decode prog_13_method_61_code 1 = .ok (.istore_n 1, 1) := by decide +kernel
theorem d_M_findPairs_2 : decode prog_13_method_61_code 2 = .ok (.iload_n 1, 1) := by decide +kernel
theorem d_M_findPairs_3 : decode prog_13_method_61_code 3 = .ok (.bipush 64, 2) := by decide +kernel
theorem d_M_findPairs_5 : decode prog_13_method_61_code 5 = .ok (.if_icmp .ge 165, 3) := by decide +kernel
theorem d_M_findPairs_8 : decode prog_13_method_61_code 8 = .ok (.aload_n 0, 1) := by decide +kernel
theorem d_M_findPairs_9 : decode prog_13_method_61_code 9 = .ok (.getfield 58, 3) := by decide +kernel
theorem d_M_findPairs_12 : decode prog_13_method_61_code 12 = .ok (.iload_n 1, 1) := by decide +kernel
theorem d_M_findPairs_13 : decode prog_13_method_61_code 13 = .ok (.iload_n 1, 1) := by decide +kernel
theorem d_M_findPairs_14 : decode prog_13_method_61_code 14 = .ok (.ifCond .ne 7, 3) := by decide +kernel
theorem d_M_findPairs_17 : decode prog_13_method_61_code 17 = .ok (.iconst 0, 1) := by decide +kernel
theorem d_M_findPairs_18 : decode prog_13_method_61_code 18 = .ok (.goto 5, 3) := by decide +kernel
theorem d_M_findPairs_21 : decode prog_13_method_61_code 21 = .ok (.ldc 245, 2) := by decide +kernel
theorem d_M_findPairs_23 : decode prog_13_method_61_code 23 = .ok (.iastore, 1) := by decide +kernel
theorem d_M_findPairs_24 : decode prog_13_method_61_code 24 = .ok (.aload_n 0, 1) := by decide +kernel
theorem d_M_findPairs_25 : decode prog_13_method_61_code 25 = .ok (.getfield 61, 3) := by decide +kernel
theorem d_M_findPairs_28 : decode prog_13_method_61_code 28 = .ok (.iload_n 1, 1) := by decide +kernel
theorem d_M_findPairs_29 : decode prog_13_method_61_code 29 = .ok (.iconst (-1), 1) := by decide +kernel
theorem d_M_findPairs_30 : decode prog_13_method_61_code 30 = .ok (.iastore, 1) := by decide +kernel
theorem d_M_findPairs_31 : decode prog_13_method_61_code 31 = .ok (.iload_n 1, 1) := by decide +kernel
theorem d_M_findPairs_32 : decode prog_13_method_61_code 32 = .ok (.ifCond .le 132, 3) := by decide +kernel
theorem d_M_findPairs_35 : decode prog_13_method_61_code 35 = .ok (.iload_n 1, 1) := by decide +kernel
theorem d_M_findPairs_36 : decode prog_13_method_61_code 36 = .ok (.invokestatic 246, 3) := by decide +kernel
theorem d_M_findPairs_39 : decode prog_13_method_61_code 39 = .ok (.iconst 2, 1) := by decide +kernel
theorem d_M_findPairs_40 : decode prog_13_method_61_code 40 = .ok (.irem, 1) := by decide +kernel
theorem d_M_findPairs_41 : decode prog_13_method_61_code 41 = .ok (.ifCond .ne 123, 3) := by decide +kernel
theorem d_M_findPairs_44 : decode prog_13_method_61_code 44 = .ok (.iload_n 1, 1) := by decide +kernel
theorem d_M_findPairs_45 : decode prog_13_method_61_code 45 = .ok (.invokestatic 249, 3) := by decide +kernel
theorem d_M_findPairs_48 : decode prog_13_method_61_code 48 = .ok (.istore_n 2, 1) := by decide +kernel
theorem d_M_findPairs_49 : decode prog_13_method_61_code 49 = .ok (.iload_n 2, 1) := by decide +kernel
theorem d_M_findPairs_50 : decode prog_13_method_61_code 50 = .ok (.iconst 1, 1) := by decide +kernel
theorem d_M_findPairs_51 : decode prog_13_method_61_code 51 = .ok (.iadd, 1) := by decide +kernel
theorem d_M_findPairs_52 : decode prog_13_method_61_code 52 = .ok (.istore_n 3, 1) := by decide +kernel
theorem d_M_findPairs_53 : decode prog_13_method_61_code 53 = .ok (.iload_n 3, 1) := by decide +kernel
theorem d_M_findPairs_54 : decode prog_13_method_61_code 54 = .ok (.bipush 6, 2) := by decide +kernel
theorem d_M_findPairs_56 : decode prog_13_method_61_code 56 = .ok (.if_icmp .ge 108, 3) := by decide +kernel
theorem d_M_findPairs_59 : decode prog_13_method_61_code 59 = .ok (.iload_n 1, 1) := by decide +kernel
theorem d_M_findPairs_60 : decode prog_13_method_61_code 60 = .ok (.iconst 1, 1) := by decide +kernel
theorem d_M_findPairs_61 : decode prog_13_method_61_code 61 = .ok (.iload_n 2, 1) := by decide +kernel
theorem d_M_findPairs_62 : decode prog_13_method_61_code 62 = .ok (.ishl, 1) := by decide +kernel
theorem d_M_findPairs_63 : decode prog_13_method_61_code 63 = .ok (.iconst (-1), 1) := by decide +kernel
theorem d_M_findPairs_64 : decode prog_13_method_61_code 64 = .ok (.ixor, 1) := by decide +kernel
theorem d_M_findPairs_65 : decode prog_13_method_61_code 65 = .ok (.iand, 1) := by decide +kernel
theorem d_M_findPairs_66 : decode prog_13_method_61_code 66 = .ok (.iconst 1, 1) := by decide +kernel
theorem d_M_findPairs_67 : decode prog_13_method_61_code 67 = .ok (.iload_n 3, 1) := by decide +kernel
theorem d_M_findPairs_68 : decode prog_13_method_61_code 68 = .ok (.ishl, 1) := by decide +kernel
theorem d_M_findPairs_69 : decode prog_13_method_61_code 69 = .ok (.iconst (-1), 1) := by decide +kernel
theorem d_M_findPairs_70 : decode prog_13_method_61_code 70 = .ok (.ixor, 1) := by decide +kernel
theorem d_M_findPairs_71 : decode prog_13_method_61_code 71 = .ok (.iand, 1) := by decide +kernel
theorem d_M_findPairs_72 : decode prog_13_method_61_code 72 = .ok (.istore 4, 2) := by decide +kernel
theorem d_M_findPairs_74 : decode prog_13_method_61_code 74 = .ok (.iload_n 1, 1) := by decide +kernel
theorem d_M_findPairs_75 : decode prog_13_method_61_code 75 = .ok (.iload_n 3, 1) := by decide +kernel
theorem d_M_findPairs_76 : decode prog_13_method_61_code 76 = .ok (.invokestatic 169, 3) := by decide +kernel
theorem d_M_findPairs_79 : decode prog_13_method_61_code 79 = .ok (.ifCond .eq 20, 3) := by decide +kernel
theorem d_M_findPairs_82 : decode prog_13_method_61_code 82 = .ok (.aload_n 0, 1) := by decide +kernel
theorem d_M_findPairs_83 : decode prog_13_method_61_code 83 = .ok (.iload_n 2, 1) := by decide +kernel
theorem d_M_findPairs_84 : decode prog_13_method_61_code 84 = .ok (.iload_n 3, 1) := by decide +kernel
theorem d_M_findPairs_85 : decode prog_13_method_61_code 85 = .ok (.invokevirtual 252, 3) := by decide +kernel
theorem d_M_findPairs_88 : decode prog_13_method_61_code 88 = .ok (.aload_n 0, 1) := by decide +kernel
theorem d_M_findPairs_89 : decode prog_13_method_61_code 89 = .ok (.getfield 58, 3) := by decide +kernel
theorem d_M_findPairs_92 : decode prog_13_method_61_code 92 = .ok (.iload 4, 2) := by decide +kernel
theorem d_M_findPairs_94 : decode prog_13_method_61_code 94 = .ok (.iaload, 1) := by decide +kernel
theorem d_M_findPairs_95 : decode prog_13_method_61_code 95 = .ok (.iadd, 1) := by decide +kernel
theorem d_M_findPairs_96 : decode prog_13_method_61_code 96 = .ok (.goto 5, 3) := by decide +kernel
theorem d_M_findPairs_99 : decode prog_13_method_61_code 99 = .ok (.ldc 245, 2) := by decide +kernel
theorem d_M_findPairs_101 : decode prog_13_method_61_code 101 = .ok (.istore 5, 2) := by decide +kernel
theorem d_M_findPairs_103 : decode prog_13_method_61_code 103 = .ok (.aload_n 0, 1) := by decide +kernel
theorem d_M_findPairs_104 : decode prog_13_method_61_code 104 = .ok (.getfield 61, 3) := by decide +kernel
theorem d_M_findPairs_107 : decode prog_13_method_61_code 107 = .ok (.iload_n 1, 1) := by decide +kernel
theorem d_M_findPairs_108 : decode prog_13_method_61_code 108 = .ok (.iload 5, 2) := by decide +kernel
theorem d_M_findPairs_110 : decode prog_13_method_61_code 110 = .ok (.aload_n 0, 1) := by decide +kernel
theorem d_M_findPairs_111 : decode prog_13_method_61_code 111 = .ok (.getfield 58, 3) := by decide +kernel
theorem d_M_findPairs_114 : decode prog_13_method_61_code 114 = .ok (.iload_n 1, 1) := by decide +kernel
theorem d_M_findPairs_115 : decode prog_13_method_61_code 115 = .ok (.iaload, 1) := by decide +kernel
theorem d_M_findPairs_116 : decode prog_13_method_61_code 116 = .ok (.if_icmp .ge 7, 3) := by decide +kernel
theorem d_M_findPairs_119 : decode prog_13_method_61_code 119 = .ok (.iload_n 3, 1) := by decide +kernel
theorem d_M_findPairs_120 : decode prog_13_method_61_code 120 = .ok (.goto 9, 3) := by decide +kernel
theorem d_M_findPairs_123 : decode prog_13_method_61_code 123 = .ok (.aload_n 0, 1) := by decide +kernel
theorem d_M_findPairs_124 : decode prog_13_method_61_code 124 = .ok (.getfield 61, 3) := by decide +kernel
theorem d_M_findPairs_127 : decode prog_13_method_61_code 127 = .ok (.iload_n 1, 1) := by decide +kernel
theorem d_M_findPairs_128 : decode prog_13_method_61_code 128 = .ok (.iaload, 1) := by decide +kernel
theorem d_M_findPairs_129 : decode prog_13_method_61_code 129 = .ok (.iastore, 1) := by decide +kernel
theorem d_M_findPairs_130 : decode prog_13_method_61_code 130 = .ok (.aload_n 0, 1) := by decide +kernel
theorem d_M_findPairs_131 : decode prog_13_method_61_code 131 = .ok (.getfield 58, 3) := by decide +kernel
theorem d_M_findPairs_134 : decode prog_13_method_61_code 134 = .ok (.iload_n 1, 1) := by decide +kernel
theorem d_M_findPairs_135 : decode prog_13_method_61_code 135 = .ok (.iload 5, 2) := by decide +kernel
theorem d_M_findPairs_137 : decode prog_13_method_61_code 137 = .ok (.aload_n 0, 1) := by decide +kernel
theorem d_M_findPairs_138 : decode prog_13_method_61_code 138 = .ok (.getfield 58, 3) := by decide +kernel
theorem d_M_findPairs_141 : decode prog_13_method_61_code 141 = .ok (.iload_n 1, 1) := by decide +kernel
theorem d_M_findPairs_142 : decode prog_13_method_61_code 142 = .ok (.iaload, 1) := by decide +kernel
theorem d_M_findPairs_143 : decode prog_13_method_61_code 143 = .ok (.if_icmp .ge 8, 3) := by decide +kernel
theorem d_M_findPairs_146 : decode prog_13_method_61_code 146 = .ok (.iload 5, 2) := by decide +kernel
theorem d_M_findPairs_148 : decode prog_13_method_61_code 148 = .ok (.goto 9, 3) := by decide +kernel
theorem d_M_findPairs_151 : decode prog_13_method_61_code 151 = .ok (.aload_n 0, 1) := by decide +kernel
theorem d_M_findPairs_152 : decode prog_13_method_61_code 152 = .ok (.getfield 58, 3) := by decide +kernel
theorem d_M_findPairs_155 : decode prog_13_method_61_code 155 = .ok (.iload_n 1, 1) := by decide +kernel
theorem d_M_findPairs_156 : decode prog_13_method_61_code 156 = .ok (.iaload, 1) := by decide +kernel
theorem d_M_findPairs_157 : decode prog_13_method_61_code 157 = .ok (.iastore, 1) := by decide +kernel
theorem d_M_findPairs_158 : decode prog_13_method_61_code 158 = .ok (.iinc 3 1, 3) := by decide +kernel
theorem d_M_findPairs_161 : decode prog_13_method_61_code 161 = .ok (.goto (-108), 3) := by decide +kernel
theorem d_M_findPairs_164 : decode prog_13_method_61_code 164 = .ok (.iinc 1 1, 3) := by decide +kernel
theorem d_M_findPairs_167 : decode prog_13_method_61_code 167 = .ok (.goto (-165), 3) := by decide +kernel
theorem d_M_findPairs_170 : decode prog_13_method_61_code 170 = .ok (.return_, 1) := by decide +kernel
theorem d_M_pairsOf_0 : decode prog_13_method_62_code 0 = .ok (.aload_n 0, 1) := by decide +kernel
theorem d_M_pairsOf_1 : decode prog_13_method_62_code 1 = .ok (.invokevirtual 255, 3) := by decide +kernel
theorem d_M_pairsOf_4 : decode prog_13_method_62_code 4 = .ok (.iload_n 2, 1) := by decide +kernel
theorem d_M_pairsOf_5 : decode prog_13_method_62_code 5 = .ok (.iconst (-1), 1) := by decide +kernel
theorem d_M_pairsOf_6 : decode prog_13_method_62_code 6 = .ok (.if_icmp .ne 10, 3) := by decide +kernel
theorem d_M_pairsOf_9 : decode prog_13_method_62_code 9 = .ok (.aload_n 0, 1) := by decide +kernel
theorem d_M_pairsOf_10 : decode prog_13_method_62_code 10 = .ok (.getfield 58, 3) := by decide +kernel
theorem d_M_pairsOf_13 : decode prog_13_method_62_code 13 = .ok (.iload_n 1, 1) := by decide +kernel
theorem d_M_pairsOf_14 : decode prog_13_method_62_code 14 = .ok (.iaload, 1) := by decide +kernel
theorem d_M_pairsOf_15 : decode prog_13_method_62_code 15 = .ok (.ireturn, 1) := by decide +kernel
theorem d_M_pairsOf_16 : decode prog_13_method_62_code 16 = .ok (.iload_n 1, 1) := by decide +kernel
theorem d_M_pairsOf_17 : decode prog_13_method_62_code 17 = .ok (.istore_n 3, 1) := by decide +kernel
theorem d_M_pairsOf_18 : decode prog_13_method_62_code 18 = .ok (.iload_n 3, 1) := by decide +kernel
theorem d_M_pairsOf_19 : decode prog_13_method_62_code 19 = .ok (.invokestatic 249, 3) := by decide +kernel
theorem d_M_pairsOf_22 : decode prog_13_method_62_code 22 = .ok (.istore 4, 2) := by decide +kernel
theorem d_M_pairsOf_24 : decode prog_13_method_62_code 24 = .ok (.aload_n 0, 1) := by decide +kernel
theorem d_M_pairsOf_25 : decode prog_13_method_62_code 25 = .ok (.getfield 61, 3) := by decide +kernel
theorem d_M_pairsOf_28 : decode prog_13_method_62_code 28 = .ok (.iload_n 3, 1) := by decide +kernel
theorem d_M_pairsOf_29 : decode prog_13_method_62_code 29 = .ok (.iaload, 1) := by decide +kernel
theorem d_M_pairsOf_30 : decode prog_13_method_62_code 30 = .ok (.istore 5, 2) := by decide +kernel
theorem d_M_pairsOf_32 : decode prog_13_method_62_code 32 = .ok (.iload 4, 2) := by decide +kernel
theorem d_M_pairsOf_34 : decode prog_13_method_62_code 34 = .ok (.iload_n 2, 1) := by decide +kernel
theorem d_M_pairsOf_35 : decode prog_13_method_62_code 35 = .ok (.if_icmp .eq 9, 3) := by decide +kernel
theorem d_M_pairsOf_38 : decode prog_13_method_62_code 38 = .ok (.iload 5, 2) := by decide +kernel
theorem d_M_pairsOf_40 : decode prog_13_method_62_code 40 = .ok (.iload_n 2, 1) := by decide +kernel
theorem d_M_pairsOf_41 : decode prog_13_method_62_code 41 = .ok (.if_icmp .ne 17, 3) := by decide +kernel
theorem d_M_pairsOf_44 : decode prog_13_method_62_code 44 = .ok (.iload 4, 2) := by decide +kernel
theorem d_M_pairsOf_46 : decode prog_13_method_62_code 46 = .ok (.iload_n 2, 1) := by decide +kernel
theorem d_M_pairsOf_47 : decode prog_13_method_62_code 47 = .ok (.if_icmp .ne 8, 3) := by decide +kernel
theorem d_M_pairsOf_50 : decode prog_13_method_62_code 50 = .ok (.iload 5, 2) := by decide +kernel
theorem d_M_pairsOf_52 : decode prog_13_method_62_code 52 = .ok (.goto 5, 3) := by decide +kernel
theorem d_M_pairsOf_55 : decode prog_13_method_62_code 55 = .ok (.iload 4, 2) := by decide +kernel
theorem d_M_pairsOf_57 : decode prog_13_method_62_code 57 = .ok (.ireturn, 1) := by decide +kernel
theorem d_M_pairsOf_58 : decode prog_13_method_62_code 58 = .ok (.iload_n 3, 1) := by decide +kernel
theorem d_M_pairsOf_59 : decode prog_13_method_62_code 59 = .ok (.iconst 1, 1) := by decide +kernel
theorem d_M_pairsOf_60 : decode prog_13_method_62_code 60 = .ok (.iload 4, 2) := by decide +kernel
theorem d_M_pairsOf_62 : decode prog_13_method_62_code 62 = .ok (.ishl, 1) := by decide +kernel
theorem d_M_pairsOf_63 : decode prog_13_method_62_code 63 = .ok (.iconst (-1), 1) := by decide +kernel
theorem d_M_pairsOf_64 : decode prog_13_method_62_code 64 = .ok (.ixor, 1) := by decide +kernel
theorem d_M_pairsOf_65 : decode prog_13_method_62_code 65 = .ok (.iand, 1) := by decide +kernel
theorem d_M_pairsOf_66 : decode prog_13_method_62_code 66 = .ok (.iconst 1, 1) := by decide +kernel
theorem d_M_pairsOf_67 : decode prog_13_method_62_code 67 = .ok (.iload 5, 2) := by decide +kernel
theorem d_M_pairsOf_69 : decode prog_13_method_62_code 69 = .ok (.ishl, 1) := by decide +kernel
theorem d_M_pairsOf_70 : decode prog_13_method_62_code 70 = .ok (.iconst (-1), 1) := by decide +kernel
theorem d_M_pairsOf_71 : decode prog_13_method_62_code 71 = .ok (.ixor, 1) := by decide +kernel
theorem d_M_pairsOf_72 : decode prog_13_method_62_code 72 = .ok (.iand, 1) := by decide +kernel
theorem d_M_pairsOf_73 : decode prog_13_method_62_code 73 = .ok (.istore_n 3, 1) := by decide +kernel
theorem d_M_pairsOf_74 : decode prog_13_method_62_code 74 = .ok (.goto (-56), 3) := by decide +kernel
theorem d_M_pairs_0 : decode prog_13_method_63_code 0 = .ok (.aload_n 0, 1) := by decide +kernel
theorem d_M_pairs_1 : decode prog_13_method_63_code 1 = .ok (.invokevirtual 131, 3) := by decide +kernel
theorem d_M_pairs_4 : decode prog_13_method_63_code 4 = .ok (.pop, 1) := by decide +kernel
theorem d_M_pairs_5 : decode prog_13_method_63_code 5 = .ok (.iload_n 1, 1) := by decide +kernel
theorem d_M_pairs_6 : decode prog_13_method_63_code 6 = .ok (.invokestatic 198, 3) := by decide +kernel
theorem d_M_pairs_9 : decode prog_13_method_63_code 9 = .ok (.ifCond .eq 23, 3) := by decide +kernel
theorem d_M_pairs_12 : decode prog_13_method_63_code 12 = .ok (.iload_n 2, 1) := by decide +kernel
theorem d_M_pairs_13 : decode prog_13_method_63_code 13 = .ok (.iconst (-1), 1) := by decide +kernel
theorem d_M_pairs_14 : decode prog_13_method_63_code 14 = .ok (.if_icmp .eq 21, 3) := by decide +kernel
theorem d_M_pairs_17 : decode prog_13_method_63_code 17 = .ok (.iload_n 2, 1) := by decide +kernel
theorem d_M_pairs_18 : decode prog_13_method_63_code 18 = .ok (.invokestatic 149, 3) := by decide +kernel
theorem d_M_pairs_21 : decode prog_13_method_63_code 21 = .ok (.ifCond .eq 11, 3) := by decide +kernel
theorem d_M_pairs_24 : decode prog_13_method_63_code 24 = .ok (.iload_n 1, 1) := by decide +kernel
theorem d_M_pairs_25 : decode prog_13_method_63_code 25 = .ok (.iload_n 2, 1) := by decide +kernel
theorem d_M_pairs_26 : decode prog_13_method_63_code 26 = .ok (.invokestatic 169, 3) := by decide +kernel
theorem d_M_pairs_29 : decode prog_13_method_63_code 29 = .ok (.ifCond .ne 6, 3) := by decide +kernel
theorem d_M_pairs_32 : decode prog_13_method_63_code 32 = .ok (.bipush (-2), 2) := by decide +kernel
theorem d_M_pairs_34 : decode prog_13_method_63_code 34 = .ok (.ireturn, 1) := by decide +kernel
theorem d_M_pairs_35 : decode prog_13_method_63_code 35 = .ok (.iload_n 1, 1) := by decide +kernel
theorem d_M_pairs_36 : decode prog_13_method_63_code 36 = .ok (.invokestatic 246, 3) := by decide +kernel
theorem d_M_pairs_39 : decode prog_13_method_63_code 39 = .ok (.iconst 2, 1) := by decide +kernel
theorem d_M_pairs_40 : decode prog_13_method_63_code 40 = .ok (.irem, 1) := by decide +kernel
theorem d_M_pairs_41 : decode prog_13_method_63_code 41 = .ok (.iconst 1, 1) := by decide +kernel
theorem d_M_pairs_42 : decode prog_13_method_63_code 42 = .ok (.if_icmp .ne 8, 3) := by decide +kernel
theorem d_M_pairs_45 : decode prog_13_method_63_code 45 = .ok (.bipush (-3), 2) := by decide +kernel
theorem d_M_pairs_47 : decode prog_13_method_63_code 47 = .ok (.goto 9, 3) := by decide +kernel
theorem d_M_pairs_50 : decode prog_13_method_63_code 50 = .ok (.aload_n 0, 1) := by decide +kernel
theorem d_M_pairs_51 : decode prog_13_method_63_code 51 = .ok (.iload_n 1, 1) := by decide +kernel
theorem d_M_pairs_52 : decode prog_13_method_63_code 52 = .ok (.iload_n 2, 1) := by decide +kernel
theorem d_M_pairs_53 : decode prog_13_method_63_code 53 = .ok (.invokevirtual 258, 3) := by decide +kernel
theorem d_M_pairs_56 : decode prog_13_method_63_code 56 = .ok (.ireturn, 1) := by decide +kernel
theorem d_M_turn_0 : decode prog_13_method_64_code 0 = .ok (.iload_n 1, 1) := by decide +kernel
theorem d_M_turn_1 : decode prog_13_method_64_code 1 = .ok (.invokestatic 157, 3) := by decide +kernel
theorem d_M_turn_4 : decode prog_13_method_64_code 4 = .ok (.ifCond .eq 22, 3) := by decide +kernel
theorem d_M_turn_7 : decode prog_13_method_64_code 7 = .ok (.iload_n 2, 1) := by decide +kernel
theorem d_M_turn_8 : decode prog_13_method_64_code 8 = .ok (.invokestatic 198, 3) := by decide +kernel
theorem d_M_turn_11 : decode prog_13_method_64_code 11 = .ok (.ifCond .eq 15, 3) := by decide +kernel
theorem d_M_turn_14 : decode prog_13_method_64_code 14 = .ok (.iload_n 3, 1) := by decide +kernel
theorem d_M_turn_15 : decode prog_13_method_64_code 15 = .ok (.i2l, 1) := by decide +kernel
theorem d_M_turn_16 : decode prog_13_method_64_code 16 = .ok (.lconst 0, 1) := by decide +kernel
theorem d_M_turn_17 : decode prog_13_method_64_code 17 = .ok (.ldc2_w 167, 3) := by decide +kernel
theorem d_M_turn_20 : decode prog_13_method_64_code 20 = .ok (.invokestatic 76, 3) := by decide +kernel
theorem d_M_turn_23 : decode prog_13_method_64_code 23 = .ok (.ifCond .ne 6, 3) := by decide +kernel
theorem d_M_turn_26 : decode prog_13_method_64_code 26 = .ok (.bipush (-2), 2) := by decide +kernel
theorem d_M_turn_28 : decode prog_13_method_64_code 28 = .ok (.ireturn, 1) := by decide +kernel
theorem d_M_turn_29 : decode prog_13_method_64_code 29 = .ok (.aload_n 0, 1) := by decide +kernel
theorem d_M_turn_30 : decode prog_13_method_64_code 30 = .ok (.getfield 261, 3) := by decide +kernel
theorem d_M_turn_33 : decode prog_13_method_64_code 33 = .ok (.bipush 8, 2) := by decide +kernel
theorem d_M_turn_35 : decode prog_13_method_64_code 35 = .ok (.if_icmp .ne 6, 3) := by decide +kernel
theorem d_M_turn_38 : decode prog_13_method_64_code 38 = .ok (.bipush (-4), 2) := by decide +kernel
theorem d_M_turn_40 : decode prog_13_method_64_code 40 = .ok (.ireturn, 1) := by decide +kernel
theorem d_M_turn_41 : decode prog_13_method_64_code 41 = .ok (.aload_n 0, 1) := by decide +kernel
theorem d_M_turn_42 : decode prog_13_method_64_code 42 = .ok (.getfield 64, 3) := by decide +kernel
theorem d_M_turn_45 : decode prog_13_method_64_code 45 = .ok (.iconst 3, 1) := by decide +kernel
theorem d_M_turn_46 : decode prog_13_method_64_code 46 = .ok (.aload_n 0, 1) := by decide +kernel
theorem d_M_turn_47 : decode prog_13_method_64_code 47 = .ok (.getfield 261, 3) := by decide +kernel
theorem d_M_turn_50 : decode prog_13_method_64_code 50 = .ok (.imul, 1) := by decide +kernel
theorem d_M_turn_51 : decode prog_13_method_64_code 51 = .ok (.iload_n 1, 1) := by decide +kernel
theorem d_M_turn_52 : decode prog_13_method_64_code 52 = .ok (.iastore, 1) := by decide +kernel
theorem d_M_turn_53 : decode prog_13_method_64_code 53 = .ok (.aload_n 0, 1) := by decide +kernel
theorem d_M_turn_54 : decode prog_13_method_64_code 54 = .ok (.getfield 64, 3) := by decide +kernel
theorem d_M_turn_57 : decode prog_13_method_64_code 57 = .ok (.iconst 3, 1) := by decide +kernel
theorem d_M_turn_58 : decode prog_13_method_64_code 58 = .ok (.aload_n 0, 1) := by decide +kernel
theorem d_M_turn_59 : decode prog_13_method_64_code 59 = .ok (.getfield 261, 3) := by decide +kernel
theorem d_M_turn_62 : decode prog_13_method_64_code 62 = .ok (.imul, 1) := by decide +kernel
theorem d_M_turn_63 : decode prog_13_method_64_code 63 = .ok (.iconst 1, 1) := by decide +kernel
theorem d_M_turn_64 : decode prog_13_method_64_code 64 = .ok (.iadd, 1) := by decide +kernel
theorem d_M_turn_65 : decode prog_13_method_64_code 65 = .ok (.iload_n 2, 1) := by decide +kernel
theorem d_M_turn_66 : decode prog_13_method_64_code 66 = .ok (.iastore, 1) := by decide +kernel
theorem d_M_turn_67 : decode prog_13_method_64_code 67 = .ok (.aload_n 0, 1) := by decide +kernel
theorem d_M_turn_68 : decode prog_13_method_64_code 68 = .ok (.getfield 64, 3) := by decide +kernel
theorem d_M_turn_71 : decode prog_13_method_64_code 71 = .ok (.iconst 3, 1) := by decide +kernel
theorem d_M_turn_72 : decode prog_13_method_64_code 72 = .ok (.aload_n 0, 1) := by decide +kernel
theorem d_M_turn_73 : decode prog_13_method_64_code 73 = .ok (.getfield 261, 3) := by decide +kernel
theorem d_M_turn_76 : decode prog_13_method_64_code 76 = .ok (.imul, 1) := by decide +kernel
theorem d_M_turn_77 : decode prog_13_method_64_code 77 = .ok (.iconst 2, 1) := by decide +kernel
theorem d_M_turn_78 : decode prog_13_method_64_code 78 = .ok (.iadd, 1) := by decide +kernel
theorem d_M_turn_79 : decode prog_13_method_64_code 79 = .ok (.iload_n 3, 1) := by decide +kernel
theorem d_M_turn_80 : decode prog_13_method_64_code 80 = .ok (.iastore, 1) := by decide +kernel
theorem d_M_turn_81 : decode prog_13_method_64_code 81 = .ok (.aload_n 0, 1) := by decide +kernel
theorem d_M_turn_82 : decode prog_13_method_64_code 82 = .ok (.dup, 1) := by decide +kernel
theorem d_M_turn_83 : decode prog_13_method_64_code 83 = .ok (.getfield 261, 3) := by decide +kernel
theorem d_M_turn_86 : decode prog_13_method_64_code 86 = .ok (.iconst 1, 1) := by decide +kernel
theorem d_M_turn_87 : decode prog_13_method_64_code 87 = .ok (.iadd, 1) := by decide +kernel
theorem d_M_turn_88 : decode prog_13_method_64_code 88 = .ok (.putfield 261, 3) := by decide +kernel
theorem d_M_turn_91 : decode prog_13_method_64_code 91 = .ok (.aload_n 0, 1) := by decide +kernel
theorem d_M_turn_92 : decode prog_13_method_64_code 92 = .ok (.getfield 261, 3) := by decide +kernel
theorem d_M_turn_95 : decode prog_13_method_64_code 95 = .ok (.ireturn, 1) := by decide +kernel
theorem d_M_forget_0 : decode prog_13_method_65_code 0 = .ok (.aload_n 0, 1) := by decide +kernel
theorem d_M_forget_1 : decode prog_13_method_65_code 1 = .ok (.getfield 261, 3) := by decide +kernel
theorem d_M_forget_4 : decode prog_13_method_65_code 4 = .ok (.istore_n 1, 1) := by decide +kernel
theorem d_M_forget_5 : decode prog_13_method_65_code 5 = .ok (.aload_n 0, 1) := by decide +kernel
theorem d_M_forget_6 : decode prog_13_method_65_code 6 = .ok (.iconst 0, 1) := by decide +kernel
theorem d_M_forget_7 : decode prog_13_method_65_code 7 = .ok (.putfield 261, 3) := by decide +kernel
theorem d_M_forget_10 : decode prog_13_method_65_code 10 = .ok (.iload_n 1, 1) := by decide +kernel
theorem d_M_forget_11 : decode prog_13_method_65_code 11 = .ok (.ireturn, 1) := by decide +kernel
theorem d_M_pacesOf_0 : decode prog_13_method_66_code 0 = .ok (.iconst 0, 1) := by decide +kernel
theorem d_M_pacesOf_1 : decode prog_13_method_66_code 1 = .ok (.istore_n 3, 1) := by decide +kernel
theorem d_M_pacesOf_2 : decode prog_13_method_66_code 2 = .ok (.iconst 1, 1) := by decide +kernel
theorem d_M_pacesOf_3 : decode prog_13_method_66_code 3 = .ok (.istore 4, 2) := by decide +kernel
theorem d_M_pacesOf_5 : decode prog_13_method_66_code 5 = .ok (.iload 4, 2) := by decide +kernel
theorem d_M_pacesOf_7 : decode prog_13_method_66_code 7 = .ok (.bipush 10, 2) := by decide +kernel
theorem d_M_pacesOf_9 : decode prog_13_method_66_code 9 = .ok (.if_icmp .ge 168, 3) := by decide +kernel
theorem d_M_pacesOf_12 : decode prog_13_method_66_code 12 = .ok (.iconst 1, 1) := by decide +kernel
theorem d_M_pacesOf_13 : decode prog_13_method_66_code 13 = .ok (.istore 5, 2) := by decide +kernel
theorem d_M_pacesOf_15 : decode prog_13_method_66_code 15 = .ok (.iconst 0, 1) := by decide +kernel
theorem d_M_pacesOf_16 : decode prog_13_method_66_code 16 = .ok (.istore 6, 2) := by decide +kernel
theorem d_M_pacesOf_18 : decode prog_13_method_66_code 18 = .ok (.iload 6, 2) := by decide +kernel
theorem d_M_pacesOf_20 : decode prog_13_method_66_code 20 = .ok (.aload_n 0, 1) := by decide +kernel
theorem d_M_pacesOf_21 : decode prog_13_method_66_code 21 = .ok (.getfield 261, 3) := by decide +kernel
theorem d_M_pacesOf_24 : decode prog_13_method_66_code 24 = .ok (.if_icmp .ge 129, 3) := by decide +kernel
theorem d_M_pacesOf_27 : decode prog_13_method_66_code 27 = .ok (.aload_n 0, 1) := by decide +kernel
theorem d_M_pacesOf_28 : decode prog_13_method_66_code 28 = .ok (.getfield 64, 3) := by decide +kernel
theorem d_M_pacesOf_31 : decode prog_13_method_66_code 31 = .ok (.iconst 3, 1) := by decide +kernel
theorem d_M_pacesOf_32 : decode prog_13_method_66_code 32 = .ok (.iload 6, 2) := by decide +kernel
theorem d_M_pacesOf_34 : decode prog_13_method_66_code 34 = .ok (.imul, 1) := by decide +kernel
theorem d_M_pacesOf_35 : decode prog_13_method_66_code 35 = .ok (.iaload, 1) := by decide +kernel
theorem d_M_pacesOf_36 : decode prog_13_method_66_code 36 = .ok (.istore 7, 2) := by decide +kernel
theorem d_M_pacesOf_38 : decode prog_13_method_66_code 38 = .ok (.aload_n 0, 1) := by decide +kernel
theorem d_M_pacesOf_39 : decode prog_13_method_66_code 39 = .ok (.getfield 64, 3) := by decide +kernel
theorem d_M_pacesOf_42 : decode prog_13_method_66_code 42 = .ok (.iconst 3, 1) := by decide +kernel
theorem d_M_pacesOf_43 : decode prog_13_method_66_code 43 = .ok (.iload 6, 2) := by decide +kernel
theorem d_M_pacesOf_45 : decode prog_13_method_66_code 45 = .ok (.imul, 1) := by decide +kernel
theorem d_M_pacesOf_46 : decode prog_13_method_66_code 46 = .ok (.iconst 1, 1) := by decide +kernel
theorem d_M_pacesOf_47 : decode prog_13_method_66_code 47 = .ok (.iadd, 1) := by decide +kernel
theorem d_M_pacesOf_48 : decode prog_13_method_66_code 48 = .ok (.iaload, 1) := by decide +kernel
theorem d_M_pacesOf_49 : decode prog_13_method_66_code 49 = .ok (.istore 8, 2) := by decide +kernel
theorem d_M_pacesOf_51 : decode prog_13_method_66_code 51 = .ok (.iload 7, 2) := by decide +kernel
theorem d_M_pacesOf_53 : decode prog_13_method_66_code 53 = .ok (.aload_n 0, 1) := by decide +kernel
theorem d_M_pacesOf_54 : decode prog_13_method_66_code 54 = .ok (.getfield 113, 3) := by decide +kernel
theorem d_M_pacesOf_57 : decode prog_13_method_66_code 57 = .ok (.if_icmp .ge 90, 3) := by decide +kernel
theorem d_M_pacesOf_60 : decode prog_13_method_66_code 60 = .ok (.aload_n 0, 1) := by decide +kernel
theorem d_M_pacesOf_61 : decode prog_13_method_66_code 61 = .ok (.getfield 25, 3) := by decide +kernel
theorem d_M_pacesOf_64 : decode prog_13_method_66_code 64 = .ok (.iload 7, 2) := by decide +kernel
theorem d_M_pacesOf_66 : decode prog_13_method_66_code 66 = .ok (.iaload, 1) := by decide +kernel
theorem d_M_pacesOf_67 : decode prog_13_method_66_code 67 = .ok (.iload_n 2, 1) := by decide +kernel
theorem d_M_pacesOf_68 : decode prog_13_method_66_code 68 = .ok (.if_icmp .ne 79, 3) := by decide +kernel
theorem d_M_pacesOf_71 : decode prog_13_method_66_code 71 = .ok (.iload 8, 2) := by decide +kernel
theorem d_M_pacesOf_73 : decode prog_13_method_66_code 73 = .ok (.iload_n 1, 1) := by decide +kernel
theorem d_M_pacesOf_74 : decode prog_13_method_66_code 74 = .ok (.invokestatic 169, 3) := by decide +kernel
theorem d_M_pacesOf_77 : decode prog_13_method_66_code 77 = .ok (.ifCond .eq 70, 3) := by decide +kernel
theorem d_M_pacesOf_80 : decode prog_13_method_66_code 80 = .ok (.aload_n 0, 1) := by decide +kernel
theorem d_M_pacesOf_81 : decode prog_13_method_66_code 81 = .ok (.iload_n 1, 1) := by decide +kernel
theorem d_M_pacesOf_82 : decode prog_13_method_66_code 82 = .ok (.iload 7, 2) := by decide +kernel
theorem d_M_pacesOf_84 : decode prog_13_method_66_code 84 = .ok (.iload 4, 2) := by decide +kernel
theorem d_M_pacesOf_86 : decode prog_13_method_66_code 86 = .ok (.invokevirtual 173, 3) := by decide +kernel
theorem d_M_pacesOf_89 : decode prog_13_method_66_code 89 = .ok (.istore 9, 2) := by decide +kernel
theorem d_M_pacesOf_91 : decode prog_13_method_66_code 91 = .ok (.aload_n 0, 1) := by decide +kernel
theorem d_M_pacesOf_92 : decode prog_13_method_66_code 92 = .ok (.iload 8, 2) := by decide +kernel
theorem d_M_pacesOf_94 : decode prog_13_method_66_code 94 = .ok (.iconst 1, 1) := by decide +kernel
theorem d_M_pacesOf_95 : decode prog_13_method_66_code 95 = .ok (.iload_n 1, 1) := by decide +kernel
theorem d_M_pacesOf_96 : decode prog_13_method_66_code 96 = .ok (.ishl, 1) := by decide +kernel
theorem d_M_pacesOf_97 : decode prog_13_method_66_code 97 = .ok (.iconst (-1), 1) := by decide +kernel
theorem d_M_pacesOf_98 : decode prog_13_method_66_code 98 = .ok (.ixor, 1) := by decide +kernel
theorem d_M_pacesOf_99 : decode prog_13_method_66_code 99 = .ok (.iand, 1) := by decide +kernel
theorem d_M_pacesOf_100 : decode prog_13_method_66_code 100 = .ok (.iload 7, 2) := by decide +kernel
theorem d_M_pacesOf_102 : decode prog_13_method_66_code 102 = .ok (.invokevirtual 191, 3) := by decide +kernel
theorem d_M_pacesOf_105 : decode prog_13_method_66_code 105 = .ok (.istore 10, 2) := by decide +kernel
theorem d_M_pacesOf_107 : decode prog_13_method_66_code 107 = .ok (.iload 5, 2) := by decide +kernel
theorem d_M_pacesOf_109 : decode prog_13_method_66_code 109 = .ok (.ifCond .eq 35, 3) := by decide +kernel
theorem d_M_pacesOf_112 : decode prog_13_method_66_code 112 = .ok (.iload 9, 2) := by decide +kernel
theorem d_M_pacesOf_114 : decode prog_13_method_66_code 114 = .ok (.iload 10, 2) := by decide +kernel
theorem d_M_pacesOf_116 : decode prog_13_method_66_code 116 = .ok (.if_icmp .le 8, 3) := by decide +kernel
theorem d_M_pacesOf_119 : decode prog_13_method_66_code 119 = .ok (.iload 9, 2) := by decide +kernel
theorem d_M_pacesOf_121 : decode prog_13_method_66_code 121 = .ok (.goto 5, 3) := by decide +kernel
theorem d_M_pacesOf_124 : decode prog_13_method_66_code 124 = .ok (.iload 10, 2) := by decide +kernel
theorem d_M_pacesOf_126 : decode prog_13_method_66_code 126 = .ok (.aload_n 0, 1) := by decide +kernel
theorem d_M_pacesOf_127 : decode prog_13_method_66_code 127 = .ok (.getfield 64, 3) := by decide +kernel
theorem d_M_pacesOf_130 : decode prog_13_method_66_code 130 = .ok (.iconst 3, 1) := by decide +kernel
theorem d_M_pacesOf_131 : decode prog_13_method_66_code 131 = .ok (.iload 6, 2) := by decide +kernel
theorem d_M_pacesOf_133 : decode prog_13_method_66_code 133 = .ok (.imul, 1) := by decide +kernel
theorem d_M_pacesOf_134 : decode prog_13_method_66_code 134 = .ok (.iconst 2, 1) := by decide +kernel
theorem d_M_pacesOf_135 : decode prog_13_method_66_code 135 = .ok (.iadd, 1) := by decide +kernel
theorem d_M_pacesOf_136 : decode prog_13_method_66_code 136 = .ok (.iaload, 1) := by decide +kernel
theorem d_M_pacesOf_137 : decode prog_13_method_66_code 137 = .ok (.if_icmp .ne 7, 3) := by decide +kernel
theorem d_M_pacesOf_140 : decode prog_13_method_66_code 140 = .ok (.iconst 1, 1) := by decide +kernel
theorem d_M_pacesOf_141 : decode prog_13_method_66_code 141 = .ok (.goto 4, 3) := by decide +kernel
theorem d_M_pacesOf_144 : decode prog_13_method_66_code 144 = .ok (.iconst 0, 1) := by decide +kernel
theorem d_M_pacesOf_145 : decode prog_13_method_66_code 145 = .ok (.istore 5, 2) := by decide +kernel
theorem d_M_pacesOf_147 : decode prog_13_method_66_code 147 = .ok (.iinc 6 1, 3) := by decide +kernel
theorem d_M_pacesOf_150 : decode prog_13_method_66_code 150 = .ok (.goto (-132), 3) := by decide +kernel
theorem d_M_pacesOf_153 : decode prog_13_method_66_code 153 = .ok (.iload_n 3, 1) := by decide +kernel
theorem d_M_pacesOf_154 : decode prog_13_method_66_code 154 = .ok (.iload 5, 2) := by decide +kernel
theorem d_M_pacesOf_156 : decode prog_13_method_66_code 156 = .ok (.ifCond .eq 12, 3) := by decide +kernel
theorem d_M_pacesOf_159 : decode prog_13_method_66_code 159 = .ok (.iconst 1, 1) := by decide +kernel
theorem d_M_pacesOf_160 : decode prog_13_method_66_code 160 = .ok (.iload 4, 2) := by decide +kernel
theorem d_M_pacesOf_162 : decode prog_13_method_66_code 162 = .ok (.iconst 1, 1) := by decide +kernel
theorem d_M_pacesOf_163 : decode prog_13_method_66_code 163 = .ok (.isub, 1) := by decide +kernel
theorem d_M_pacesOf_164 : decode prog_13_method_66_code 164 = .ok (.ishl, 1) := by decide +kernel
theorem d_M_pacesOf_165 : decode prog_13_method_66_code 165 = .ok (.goto 4, 3) := by decide +kernel
theorem d_M_pacesOf_168 : decode prog_13_method_66_code 168 = .ok (.iconst 0, 1) := by decide +kernel
theorem d_M_pacesOf_169 : decode prog_13_method_66_code 169 = .ok (.ior, 1) := by decide +kernel
theorem d_M_pacesOf_170 : decode prog_13_method_66_code 170 = .ok (.istore_n 3, 1) := by decide +kernel
theorem d_M_pacesOf_171 : decode prog_13_method_66_code 171 = .ok (.iinc 4 1, 3) := by decide +kernel
theorem d_M_pacesOf_174 : decode prog_13_method_66_code 174 = .ok (.goto (-169), 3) := by decide +kernel
theorem d_M_pacesOf_177 : decode prog_13_method_66_code 177 = .ok (.iload_n 3, 1) := by decide +kernel
theorem d_M_pacesOf_178 : decode prog_13_method_66_code 178 = .ok (.ireturn, 1) := by decide +kernel
theorem d_M_paces_0 : decode prog_13_method_67_code 0 = .ok (.aload_n 0, 1) := by decide +kernel
theorem d_M_paces_1 : decode prog_13_method_67_code 1 = .ok (.invokevirtual 131, 3) := by decide +kernel
theorem d_M_paces_4 : decode prog_13_method_67_code 4 = .ok (.pop, 1) := by decide +kernel
theorem d_M_paces_5 : decode prog_13_method_67_code 5 = .ok (.iload_n 1, 1) := by decide +kernel
theorem d_M_paces_6 : decode prog_13_method_67_code 6 = .ok (.invokestatic 149, 3) := by decide +kernel
theorem d_M_paces_9 : decode prog_13_method_67_code 9 = .ok (.ifCond .eq 24, 3) := by decide +kernel
theorem d_M_paces_12 : decode prog_13_method_67_code 12 = .ok (.iload_n 2, 1) := by decide +kernel
theorem d_M_paces_13 : decode prog_13_method_67_code 13 = .ok (.i2l, 1) := by decide +kernel
theorem d_M_paces_14 : decode prog_13_method_67_code 14 = .ok (.lconst 0, 1) := by decide +kernel
theorem d_M_paces_15 : decode prog_13_method_67_code 15 = .ok (.ldc2_w 90, 3) := by decide +kernel
theorem d_M_paces_18 : decode prog_13_method_67_code 18 = .ok (.invokestatic 76, 3) := by decide +kernel
theorem d_M_paces_21 : decode prog_13_method_67_code 21 = .ok (.ifCond .eq 12, 3) := by decide +kernel
theorem d_M_paces_24 : decode prog_13_method_67_code 24 = .ok (.aload_n 0, 1) := by decide +kernel
theorem d_M_paces_25 : decode prog_13_method_67_code 25 = .ok (.iload_n 1, 1) := by decide +kernel
theorem d_M_paces_26 : decode prog_13_method_67_code 26 = .ok (.iload_n 2, 1) := by decide +kernel
theorem d_M_paces_27 : decode prog_13_method_67_code 27 = .ok (.invokevirtual 264, 3) := by decide +kernel
theorem d_M_paces_30 : decode prog_13_method_67_code 30 = .ok (.goto 5, 3) := by decide +kernel
theorem d_M_paces_33 : decode prog_13_method_67_code 33 = .ok (.bipush (-2), 2) := by decide +kernel
theorem d_M_paces_35 : decode prog_13_method_67_code 35 = .ok (.ireturn, 1) := by decide +kernel
theorem d_M_unlikeNow_0 : decode prog_13_method_68_code 0 = .ok (.iconst 0, 1) := by decide +kernel
theorem d_M_unlikeNow_1 : decode prog_13_method_68_code 1 = .ok (.istore_n 1, 1) := by decide +kernel
theorem d_M_unlikeNow_2 : decode prog_13_method_68_code 2 = .ok (.iconst 0, 1) := by decide +kernel
theorem d_M_unlikeNow_3 : decode prog_13_method_68_code 3 = .ok (.istore_n 2, 1) := by decide +kernel
theorem d_M_unlikeNow_4 : decode prog_13_method_68_code 4 = .ok (.iload_n 2, 1) := by decide +kernel
theorem d_M_unlikeNow_5 : decode prog_13_method_68_code 5 = .ok (.aload_n 0, 1) := by decide +kernel
theorem d_M_unlikeNow_6 : decode prog_13_method_68_code 6 = .ok (.getfield 261, 3) := by decide +kernel
theorem d_M_unlikeNow_9 : decode prog_13_method_68_code 9 = .ok (.if_icmp .ge 77, 3) := by decide +kernel
theorem d_M_unlikeNow_12 : decode prog_13_method_68_code 12 = .ok (.aload_n 0, 1) := by decide +kernel
theorem d_M_unlikeNow_13 : decode prog_13_method_68_code 13 = .ok (.getfield 64, 3) := by decide +kernel
theorem d_M_unlikeNow_16 : decode prog_13_method_68_code 16 = .ok (.iconst 3, 1) := by decide +kernel
theorem d_M_unlikeNow_17 : decode prog_13_method_68_code 17 = .ok (.iload_n 2, 1) := by decide +kernel
theorem d_M_unlikeNow_18 : decode prog_13_method_68_code 18 = .ok (.imul, 1) := by decide +kernel
theorem d_M_unlikeNow_19 : decode prog_13_method_68_code 19 = .ok (.iaload, 1) := by decide +kernel
theorem d_M_unlikeNow_20 : decode prog_13_method_68_code 20 = .ok (.aload_n 0, 1) := by decide +kernel
theorem d_M_unlikeNow_21 : decode prog_13_method_68_code 21 = .ok (.getfield 113, 3) := by decide +kernel
theorem d_M_unlikeNow_24 : decode prog_13_method_68_code 24 = .ok (.if_icmp .ge 42, 3) := by decide +kernel
theorem d_M_unlikeNow_27 : decode prog_13_method_68_code 27 = .ok (.aload_n 0, 1) := by decide +kernel
theorem d_M_unlikeNow_28 : decode prog_13_method_68_code 28 = .ok (.aload_n 0, 1) := by decide +kernel
theorem d_M_unlikeNow_29 : decode prog_13_method_68_code 29 = .ok (.getfield 64, 3) := by decide +kernel
theorem d_M_unlikeNow_32 : decode prog_13_method_68_code 32 = .ok (.iconst 3, 1) := by decide +kernel
theorem d_M_unlikeNow_33 : decode prog_13_method_68_code 33 = .ok (.iload_n 2, 1) := by decide +kernel
theorem d_M_unlikeNow_34 : decode prog_13_method_68_code 34 = .ok (.imul, 1) := by decide +kernel
theorem d_M_unlikeNow_35 : decode prog_13_method_68_code 35 = .ok (.iconst 1, 1) := by decide +kernel
theorem d_M_unlikeNow_36 : decode prog_13_method_68_code 36 = .ok (.iadd, 1) := by decide +kernel
theorem d_M_unlikeNow_37 : decode prog_13_method_68_code 37 = .ok (.iaload, 1) := by decide +kernel
theorem d_M_unlikeNow_38 : decode prog_13_method_68_code 38 = .ok (.aload_n 0, 1) := by decide +kernel
theorem d_M_unlikeNow_39 : decode prog_13_method_68_code 39 = .ok (.getfield 64, 3) := by decide +kernel
theorem d_M_unlikeNow_42 : decode prog_13_method_68_code 42 = .ok (.iconst 3, 1) := by decide +kernel
theorem d_M_unlikeNow_43 : decode prog_13_method_68_code 43 = .ok (.iload_n 2, 1) := by decide +kernel
theorem d_M_unlikeNow_44 : decode prog_13_method_68_code 44 = .ok (.imul, 1) := by decide +kernel
theorem d_M_unlikeNow_45 : decode prog_13_method_68_code 45 = .ok (.iaload, 1) := by decide +kernel
theorem d_M_unlikeNow_46 : decode prog_13_method_68_code 46 = .ok (.invokevirtual 191, 3) := by decide +kernel
theorem d_M_unlikeNow_49 : decode prog_13_method_68_code 49 = .ok (.aload_n 0, 1) := by decide +kernel
theorem d_M_unlikeNow_50 : decode prog_13_method_68_code 50 = .ok (.getfield 64, 3) := by decide +kernel
theorem d_M_unlikeNow_53 : decode prog_13_method_68_code 53 = .ok (.iconst 3, 1) := by decide +kernel
theorem d_M_unlikeNow_54 : decode prog_13_method_68_code 54 = .ok (.iload_n 2, 1) := by decide +kernel
theorem d_M_unlikeNow_55 : decode prog_13_method_68_code 55 = .ok (.imul, 1) := by decide +kernel
theorem d_M_unlikeNow_56 : decode prog_13_method_68_code 56 = .ok (.iconst 2, 1) := by decide +kernel
theorem d_M_unlikeNow_57 : decode prog_13_method_68_code 57 = .ok (.iadd, 1) := by decide +kernel
theorem d_M_unlikeNow_58 : decode prog_13_method_68_code 58 = .ok (.iaload, 1) := by decide +kernel
theorem d_M_unlikeNow_59 : decode prog_13_method_68_code 59 = .ok (.if_icmp .ne 7, 3) := by decide +kernel
theorem d_M_unlikeNow_62 : decode prog_13_method_68_code 62 = .ok (.iconst 1, 1) := by decide +kernel
theorem d_M_unlikeNow_63 : decode prog_13_method_68_code 63 = .ok (.goto 4, 3) := by decide +kernel
theorem d_M_unlikeNow_66 : decode prog_13_method_68_code 66 = .ok (.iconst 0, 1) := by decide +kernel
theorem d_M_unlikeNow_67 : decode prog_13_method_68_code 67 = .ok (.istore_n 3, 1) := by decide +kernel
theorem d_M_unlikeNow_68 : decode prog_13_method_68_code 68 = .ok (.iload_n 1, 1) := by decide +kernel
theorem d_M_unlikeNow_69 : decode prog_13_method_68_code 69 = .ok (.iload_n 3, 1) := by decide +kernel
theorem d_M_unlikeNow_70 : decode prog_13_method_68_code 70 = .ok (.ifCond .eq 7, 3) := by decide +kernel
theorem d_M_unlikeNow_73 : decode prog_13_method_68_code 73 = .ok (.iconst 0, 1) := by decide +kernel
theorem d_M_unlikeNow_74 : decode prog_13_method_68_code 74 = .ok (.goto 4, 3) := by decide +kernel
theorem d_M_unlikeNow_77 : decode prog_13_method_68_code 77 = .ok (.iconst 1, 1) := by decide +kernel
theorem d_M_unlikeNow_78 : decode prog_13_method_68_code 78 = .ok (.iadd, 1) := by decide +kernel
theorem d_M_unlikeNow_79 : decode prog_13_method_68_code 79 = .ok (.istore_n 1, 1) := by decide +kernel
theorem d_M_unlikeNow_80 : decode prog_13_method_68_code 80 = .ok (.iinc 2 1, 3) := by decide +kernel
theorem d_M_unlikeNow_83 : decode prog_13_method_68_code 83 = .ok (.goto (-79), 3) := by decide +kernel
theorem d_M_unlikeNow_86 : decode prog_13_method_68_code 86 = .ok (.iload_n 1, 1) := by decide +kernel
theorem d_M_unlikeNow_87 : decode prog_13_method_68_code 87 = .ok (.ireturn, 1) := by decide +kernel
theorem d_M_unlike_0 : decode prog_13_method_69_code 0 = .ok (.aload_n 0, 1) := by decide +kernel
theorem d_M_unlike_1 : decode prog_13_method_69_code 1 = .ok (.invokevirtual 131, 3) := by decide +kernel
theorem d_M_unlike_4 : decode prog_13_method_69_code 4 = .ok (.pop, 1) := by decide +kernel
theorem d_M_unlike_5 : decode prog_13_method_69_code 5 = .ok (.aload_n 0, 1) := by decide +kernel
theorem d_M_unlike_6 : decode prog_13_method_69_code 6 = .ok (.invokevirtual 267, 3) := by decide +kernel
theorem d_M_unlike_9 : decode prog_13_method_69_code 9 = .ok (.ireturn, 1) := by decide +kernel
theorem d_M_quarters_0 : decode prog_13_method_70_code 0 = .ok (.lconst 1, 1) := by decide +kernel
theorem d_M_quarters_1 : decode prog_13_method_70_code 1 = .ok (.lstore_n 3, 1) := by decide +kernel
theorem d_M_quarters_2 : decode prog_13_method_70_code 2 = .ok (.iconst 0, 1) := by decide +kernel
theorem d_M_quarters_3 : decode prog_13_method_70_code 3 = .ok (.istore 5, 2) := by decide +kernel
theorem d_M_quarters_5 : decode prog_13_method_70_code 5 = .ok (.iload 5, 2) := by decide +kernel
theorem d_M_quarters_7 : decode prog_13_method_70_code 7 = .ok (.bipush 6, 2) := by decide +kernel
theorem d_M_quarters_9 : decode prog_13_method_70_code 9 = .ok (.if_icmp .ge 55, 3) := by decide +kernel
theorem d_M_quarters_12 : decode prog_13_method_70_code 12 = .ok (.lload_n 3, 1) := by decide +kernel
theorem d_M_quarters_13 : decode prog_13_method_70_code 13 = .ok (.iload_n 1, 1) := by decide +kernel
theorem d_M_quarters_14 : decode prog_13_method_70_code 14 = .ok (.iload 5, 2) := by decide +kernel
theorem d_M_quarters_16 : decode prog_13_method_70_code 16 = .ok (.invokestatic 169, 3) := by decide +kernel
theorem d_M_quarters_19 : decode prog_13_method_70_code 19 = .ok (.ifCond .ne 7, 3) := by decide +kernel
theorem d_M_quarters_22 : decode prog_13_method_70_code 22 = .ok (.lconst 1, 1) := by decide +kernel
theorem d_M_quarters_23 : decode prog_13_method_70_code 23 = .ok (.goto 33, 3) := by decide +kernel
theorem d_M_quarters_26 : decode prog_13_method_70_code 26 = .ok (.iload_n 2, 1) := by decide +kernel
theorem d_M_quarters_27 : decode prog_13_method_70_code 27 = .ok (.iload 5, 2) := by decide +kernel
theorem d_M_quarters_29 : decode prog_13_method_70_code 29 = .ok (.invokestatic 169, 3) := by decide +kernel
theorem d_M_quarters_32 : decode prog_13_method_70_code 32 = .ok (.ifCond .eq 14, 3) := by decide +kernel
theorem d_M_quarters_35 : decode prog_13_method_70_code 35 = .ok (.aload_n 0, 1) := by decide +kernel
theorem d_M_quarters_36 : decode prog_13_method_70_code 36 = .ok (.getfield 43, 3) := by decide +kernel
theorem d_M_quarters_39 : decode prog_13_method_70_code 39 = .ok (.iload 5, 2) := by decide +kernel
theorem d_M_quarters_41 : decode prog_13_method_70_code 41 = .ok (.iaload, 1) := by decide +kernel
theorem d_M_quarters_42 : decode prog_13_method_70_code 42 = .ok (.i2l, 1) := by decide +kernel
theorem d_M_quarters_43 : decode prog_13_method_70_code 43 = .ok (.goto 13, 3) := by decide +kernel
theorem d_M_quarters_46 : decode prog_13_method_70_code 46 = .ok (.iconst 4, 1) := by decide +kernel
theorem d_M_quarters_47 : decode prog_13_method_70_code 47 = .ok (.aload_n 0, 1) := by decide +kernel
theorem d_M_quarters_48 : decode prog_13_method_70_code 48 = .ok (.getfield 43, 3) := by decide +kernel
theorem d_M_quarters_51 : decode prog_13_method_70_code 51 = .ok (.iload 5, 2) := by decide +kernel
theorem d_M_quarters_53 : decode prog_13_method_70_code 53 = .ok (.iaload, 1) := by decide +kernel
theorem d_M_quarters_54 : decode prog_13_method_70_code 54 = .ok (.isub, 1) := by decide +kernel
theorem d_M_quarters_55 : decode prog_13_method_70_code 55 = .ok (.i2l, 1) := by decide +kernel
theorem d_M_quarters_56 : decode prog_13_method_70_code 56 = .ok (.lmul, 1) := by decide +kernel
theorem d_M_quarters_57 : decode prog_13_method_70_code 57 = .ok (.lstore_n 3, 1) := by decide +kernel
theorem d_M_quarters_58 : decode prog_13_method_70_code 58 = .ok (.iinc 5 1, 3) := by decide +kernel
theorem d_M_quarters_61 : decode prog_13_method_70_code 61 = .ok (.goto (-56), 3) := by decide +kernel
theorem d_M_quarters_64 : decode prog_13_method_70_code 64 = .ok (.lload_n 3, 1) := by decide +kernel
theorem d_M_quarters_65 : decode prog_13_method_70_code 65 = .ok (.lreturn, 1) := by decide +kernel
theorem d_M_togetherSo_0 : decode prog_13_method_71_code 0 = .ok (.iconst 0, 1) := by decide +kernel
theorem d_M_togetherSo_1 : decode prog_13_method_71_code 1 = .ok (.istore 4, 2) := by decide +kernel
theorem d_M_togetherSo_3 : decode prog_13_method_71_code 3 = .ok (.iconst 0, 1) := by decide +kernel
theorem d_M_togetherSo_4 : decode prog_13_method_71_code 4 = .ok (.istore 5, 2) := by decide +kernel
theorem d_M_togetherSo_6 : decode prog_13_method_71_code 6 = .ok (.iload 5, 2) := by decide +kernel
theorem d_M_togetherSo_8 : decode prog_13_method_71_code 8 = .ok (.bipush 6, 2) := by decide +kernel
theorem d_M_togetherSo_10 : decode prog_13_method_71_code 10 = .ok (.if_icmp .ge 68, 3) := by decide +kernel
theorem d_M_togetherSo_13 : decode prog_13_method_71_code 13 = .ok (.iload_n 1, 1) := by decide +kernel
theorem d_M_togetherSo_14 : decode prog_13_method_71_code 14 = .ok (.iload 5, 2) := by decide +kernel
theorem d_M_togetherSo_16 : decode prog_13_method_71_code 16 = .ok (.invokestatic 169, 3) := by decide +kernel
theorem d_M_togetherSo_19 : decode prog_13_method_71_code 19 = .ok (.ifCond .ne 7, 3) := by decide +kernel
theorem d_M_togetherSo_22 : decode prog_13_method_71_code 22 = .ok (.iconst 0, 1) := by decide +kernel
theorem d_M_togetherSo_23 : decode prog_13_method_71_code 23 = .ok (.goto 31, 3) := by decide +kernel
theorem d_M_togetherSo_26 : decode prog_13_method_71_code 26 = .ok (.iload_n 2, 1) := by decide +kernel
theorem d_M_togetherSo_27 : decode prog_13_method_71_code 27 = .ok (.iload 5, 2) := by decide +kernel
theorem d_M_togetherSo_29 : decode prog_13_method_71_code 29 = .ok (.invokestatic 169, 3) := by decide +kernel
theorem d_M_togetherSo_32 : decode prog_13_method_71_code 32 = .ok (.ifCond .eq 15, 3) := by decide +kernel
theorem d_M_togetherSo_35 : decode prog_13_method_71_code 35 = .ok (.iconst 2, 1) := by decide +kernel
theorem d_M_togetherSo_36 : decode prog_13_method_71_code 36 = .ok (.aload_n 0, 1) := by decide +kernel
theorem d_M_togetherSo_37 : decode prog_13_method_71_code 37 = .ok (.iload 5, 2) := by decide +kernel
theorem d_M_togetherSo_39 : decode prog_13_method_71_code 39 = .ok (.iload_n 3, 1) := by decide +kernel
theorem d_M_togetherSo_40 : decode prog_13_method_71_code 40 = .ok (.invokevirtual 176, 3) := by decide +kernel
theorem d_M_togetherSo_43 : decode prog_13_method_71_code 43 = .ok (.imul, 1) := by decide +kernel
theorem d_M_togetherSo_44 : decode prog_13_method_71_code 44 = .ok (.goto 10, 3) := by decide +kernel
theorem d_M_togetherSo_47 : decode prog_13_method_71_code 47 = .ok (.aload_n 0, 1) := by decide +kernel
theorem d_M_togetherSo_48 : decode prog_13_method_71_code 48 = .ok (.iload 5, 2) := by decide +kernel
theorem d_M_togetherSo_50 : decode prog_13_method_71_code 50 = .ok (.iload_n 3, 1) := by decide +kernel
theorem d_M_togetherSo_51 : decode prog_13_method_71_code 51 = .ok (.invokevirtual 176, 3) := by decide +kernel
theorem d_M_togetherSo_54 : decode prog_13_method_71_code 54 = .ok (.istore 6, 2) := by decide +kernel
theorem d_M_togetherSo_56 : decode prog_13_method_71_code 56 = .ok (.iload 6, 2) := by decide +kernel
theorem d_M_togetherSo_58 : decode prog_13_method_71_code 58 = .ok (.iload 4, 2) := by decide +kernel
theorem d_M_togetherSo_60 : decode prog_13_method_71_code 60 = .ok (.if_icmp .le 8, 3) := by decide +kernel
theorem d_M_togetherSo_63 : decode prog_13_method_71_code 63 = .ok (.iload 6, 2) := by decide +kernel
theorem d_M_togetherSo_65 : decode prog_13_method_71_code 65 = .ok (.goto 5, 3) := by decide +kernel
theorem d_M_togetherSo_68 : decode prog_13_method_71_code 68 = .ok (.iload 4, 2) := by decide +kernel
theorem d_M_togetherSo_70 : decode prog_13_method_71_code 70 = .ok (.istore 4, 2) := by decide +kernel
theorem d_M_togetherSo_72 : decode prog_13_method_71_code 72 = .ok (.iinc 5 1, 3) := by decide +kernel
theorem d_M_togetherSo_75 : decode prog_13_method_71_code 75 = .ok (.goto (-69), 3) := by decide +kernel
theorem d_M_togetherSo_78 : decode prog_13_method_71_code 78 = .ok (.iload 4, 2) := by decide +kernel
theorem d_M_togetherSo_80 : decode prog_13_method_71_code 80 = .ok (.ireturn, 1) := by decide +kernel
theorem d_M_findMinutes_0 : decode prog_13_method_72_code 0 = .ok (.iconst 0, 1) := by decide +kernel
theorem d_M_findMinutes_1 : decode prog_13_method_72_code 1 = .ok (.istore_n 2, 1) := by decide +kernel
theorem d_M_findMinutes_2 : decode prog_13_method_72_code 2 = .ok (.iload_n 2, 1) := by decide +kernel
theorem d_M_findMinutes_3 : decode prog_13_method_72_code 3 = .ok (.sipush 3200, 3) := by decide +kernel
theorem d_M_findMinutes_6 : decode prog_13_method_72_code 6 = .ok (.if_icmp .ge 24, 3) := by decide +kernel
theorem d_M_findMinutes_9 : decode prog_13_method_72_code 9 = .ok (.aload_n 0, 1) := by decide +kernel
theorem d_M_findMinutes_10 : decode prog_13_method_72_code 10 = .ok (.getfield 67, 3) := by decide +kernel
theorem d_M_findMinutes_13 : decode prog_13_method_72_code 13 = .ok (.iload_n 2, 1) := by decide +kernel
theorem d_M_findMinutes_14 : decode prog_13_method_72_code 14 = .ok (.iload_n 2, 1) := by decide +kernel
theorem d_M_findMinutes_15 : decode prog_13_method_72_code 15 = .ok (.ifCond .ne 7, 3) := by decide +kernel
theorem d_M_findMinutes_18 : decode prog_13_method_72_code 18 = .ok (.lconst 1, 1) := by decide +kernel
theorem d_M_findMinutes_19 : decode prog_13_method_72_code 19 = .ok (.goto 4, 3) := by decide +kernel
theorem d_M_findMinutes_22 : decode prog_13_method_72_code 22 = .ok (.lconst 0, 1) := by decide +kernel
theorem d_M_findMinutes_23 : decode prog_13_method_72_code 23 = .ok (.lastore, 1) := by decide +kernel
theorem d_M_findMinutes_24 : decode prog_13_method_72_code 24 = .ok (.iinc 2 1, 3) := by decide +kernel
theorem d_M_findMinutes_27 : decode prog_13_method_72_code 27 = .ok (.goto (-25), 3) := by decide +kernel
theorem d_M_findMinutes_30 : decode prog_13_method_72_code 30 = .ok (.aload_n 0, 1) := by decide +kernel
theorem d_M_findMinutes_31 : decode prog_13_method_72_code 31 = .ok (.lconst 1, 1) := by decide +kernel
theorem d_M_findMinutes_32 : decode prog_13_method_72_code 32 = .ok (.putfield 270, 3) := by decide +kernel
theorem d_M_findMinutes_35 : decode prog_13_method_72_code 35 = .ok (.iconst 0, 1) := by decide +kernel
theorem d_M_findMinutes_36 : decode prog_13_method_72_code 36 = .ok (.istore_n 2, 1) := by decide +kernel
theorem d_M_findMinutes_37 : decode prog_13_method_72_code 37 = .ok (.iload_n 2, 1) := by decide +kernel
theorem d_M_findMinutes_38 : decode prog_13_method_72_code 38 = .ok (.aload_n 0, 1) := by decide +kernel
theorem d_M_findMinutes_39 : decode prog_13_method_72_code 39 = .ok (.getfield 113, 3) := by decide +kernel
theorem d_M_findMinutes_42 : decode prog_13_method_72_code 42 = .ok (.if_icmp .ge 174, 3) := by decide +kernel
theorem d_M_findMinutes_45 : decode prog_13_method_72_code 45 = .ok (.aload_n 0, 1) := by decide +kernel
theorem d_M_findMinutes_46 : decode prog_13_method_72_code 46 = .ok (.iload_n 2, 1) := by decide +kernel
theorem d_M_findMinutes_47 : decode prog_13_method_72_code 47 = .ok (.invokevirtual 188, 3) := by decide +kernel
theorem d_M_findMinutes_50 : decode prog_13_method_72_code 50 = .ok (.ifCond .eq 160, 3) := by decide +kernel
theorem d_M_findMinutes_53 : decode prog_13_method_72_code 53 = .ok (.iconst 0, 1) := by decide +kernel
theorem d_M_findMinutes_54 : decode prog_13_method_72_code 54 = .ok (.istore_n 3, 1) := by decide +kernel
theorem d_M_findMinutes_55 : decode prog_13_method_72_code 55 = .ok (.iload_n 3, 1) := by decide +kernel
theorem d_M_findMinutes_56 : decode prog_13_method_72_code 56 = .ok (.sipush 3200, 3) := by decide +kernel
theorem d_M_findMinutes_59 : decode prog_13_method_72_code 59 = .ok (.if_icmp .ge 16, 3) := by decide +kernel
theorem d_M_findMinutes_62 : decode prog_13_method_72_code 62 = .ok (.aload_n 0, 1) := by decide +kernel
theorem d_M_findMinutes_63 : decode prog_13_method_72_code 63 = .ok (.getfield 71, 3) := by decide +kernel
theorem d_M_findMinutes_66 : decode prog_13_method_72_code 66 = .ok (.iload_n 3, 1) := by decide +kernel
theorem d_M_findMinutes_67 : decode prog_13_method_72_code 67 = .ok (.lconst 0, 1) := by decide +kernel
theorem d_M_findMinutes_68 : decode prog_13_method_72_code 68 = .ok (.lastore, 1) := by decide +kernel
theorem d_M_findMinutes_69 : decode prog_13_method_72_code 69 = .ok (.iinc 3 1, 3) := by decide +kernel
theorem d_M_findMinutes_72 : decode prog_13_method_72_code 72 = .ok (.goto (-17), 3) := by decide +kernel
theorem d_M_findMinutes_75 : decode prog_13_method_72_code 75 = .ok (.iconst 0, 1) := by decide +kernel
theorem d_M_findMinutes_76 : decode prog_13_method_72_code 76 = .ok (.istore_n 3, 1) := by decide +kernel
theorem d_M_findMinutes_77 : decode prog_13_method_72_code 77 = .ok (.iload_n 3, 1) := by decide +kernel
theorem d_M_findMinutes_78 : decode prog_13_method_72_code 78 = .ok (.bipush 64, 2) := by decide +kernel
theorem d_M_findMinutes_80 : decode prog_13_method_72_code 80 = .ok (.if_icmp .ge 88, 3) := by decide +kernel
theorem d_M_findMinutes_83 : decode prog_13_method_72_code 83 = .ok (.iload_n 3, 1) := by decide +kernel
theorem d_M_findMinutes_84 : decode prog_13_method_72_code 84 = .ok (.iload_n 1, 1) := by decide +kernel
theorem d_M_findMinutes_85 : decode prog_13_method_72_code 85 = .ok (.iconst (-1), 1) := by decide +kernel
theorem d_M_findMinutes_86 : decode prog_13_method_72_code 86 = .ok (.ixor, 1) := by decide +kernel
theorem d_M_findMinutes_87 : decode prog_13_method_72_code 87 = .ok (.iand, 1) := by decide +kernel
theorem d_M_findMinutes_88 : decode prog_13_method_72_code 88 = .ok (.ifCond .ne 12, 3) := by decide +kernel
theorem d_M_findMinutes_91 : decode prog_13_method_72_code 91 = .ok (.aload_n 0, 1) := by decide +kernel
theorem d_M_findMinutes_92 : decode prog_13_method_72_code 92 = .ok (.iload_n 1, 1) := by decide +kernel
theorem d_M_findMinutes_93 : decode prog_13_method_72_code 93 = .ok (.iload_n 3, 1) := by decide +kernel
theorem d_M_findMinutes_94 : decode prog_13_method_72_code 94 = .ok (.invokevirtual 274, 3) := by decide +kernel
theorem d_M_findMinutes_97 : decode prog_13_method_72_code 97 = .ok (.goto 4, 3) := by decide +kernel
theorem d_M_findMinutes_100 : decode prog_13_method_72_code 100 = .ok (.lconst 0, 1) := by decide +kernel
theorem d_M_findMinutes_101 : decode prog_13_method_72_code 101 = .ok (.lstore 4, 2) := by decide +kernel
theorem d_M_findMinutes_103 : decode prog_13_method_72_code 103 = .ok (.aload_n 0, 1) := by decide +kernel
theorem d_M_findMinutes_104 : decode prog_13_method_72_code 104 = .ok (.iload_n 1, 1) := by decide +kernel
theorem d_M_findMinutes_105 : decode prog_13_method_72_code 105 = .ok (.iload_n 3, 1) := by decide +kernel
theorem d_M_findMinutes_106 : decode prog_13_method_72_code 106 = .ok (.iload_n 2, 1) := by decide +kernel
theorem d_M_findMinutes_107 : decode prog_13_method_72_code 107 = .ok (.invokevirtual 278, 3) := by decide +kernel
theorem d_M_findMinutes_110 : decode prog_13_method_72_code 110 = .ok (.istore 6, 2) := by decide +kernel
theorem d_M_findMinutes_112 : decode prog_13_method_72_code 112 = .ok (.iconst 0, 1) := by decide +kernel
theorem d_M_findMinutes_113 : decode prog_13_method_72_code 113 = .ok (.istore 7, 2) := by decide +kernel
theorem d_M_findMinutes_115 : decode prog_13_method_72_code 115 = .ok (.iload 7, 2) := by decide +kernel
theorem d_M_findMinutes_117 : decode prog_13_method_72_code 117 = .ok (.iload 6, 2) := by decide +kernel
theorem d_M_findMinutes_119 : decode prog_13_method_72_code 119 = .ok (.iadd, 1) := by decide +kernel
theorem d_M_findMinutes_120 : decode prog_13_method_72_code 120 = .ok (.sipush 3200, 3) := by decide +kernel
theorem d_M_findMinutes_123 : decode prog_13_method_72_code 123 = .ok (.if_icmp .ge 39, 3) := by decide +kernel
theorem d_M_findMinutes_126 : decode prog_13_method_72_code 126 = .ok (.lload 4, 2) := by decide +kernel
theorem d_M_findMinutes_128 : decode prog_13_method_72_code 128 = .ok (.lconst 0, 1) := by decide +kernel
theorem d_M_findMinutes_129 : decode prog_13_method_72_code 129 = .ok (.lcmp, 1) := by decide +kernel
theorem d_M_findMinutes_130 : decode prog_13_method_72_code 130 = .ok (.ifCond .le 32, 3) := by decide +kernel
theorem d_M_findMinutes_133 : decode prog_13_method_72_code 133 = .ok (.aload_n 0, 1) := by decide +kernel
theorem d_M_findMinutes_134 : decode prog_13_method_72_code 134 = .ok (.getfield 71, 3) := by decide +kernel
theorem d_M_findMinutes_137 : decode prog_13_method_72_code 137 = .ok (.iload 7, 2) := by decide +kernel
theorem d_M_findMinutes_139 : decode prog_13_method_72_code 139 = .ok (.iload 6, 2) := by decide +kernel
theorem d_M_findMinutes_141 : decode prog_13_method_72_code 141 = .ok (.iadd, 1) := by decide +kernel
theorem d_M_findMinutes_142 : decode prog_13_method_72_code 142 = .ok (.dup2, 1) := by decide +kernel
theorem d_M_findMinutes_143 : decode prog_13_method_72_code 143 = .ok (.laload, 1) := by decide +kernel
theorem d_M_findMinutes_144 : decode prog_13_method_72_code 144 = .ok (.aload_n 0, 1) := by decide +kernel
theorem d_M_findMinutes_145 : decode prog_13_method_72_code 145 = .ok (.getfield 67, 3) := by decide +kernel
theorem d_M_findMinutes_148 : decode prog_13_method_72_code 148 = .ok (.iload 7, 2) := by decide +kernel
theorem d_M_findMinutes_150 : decode prog_13_method_72_code 150 = .ok (.laload, 1) := by decide +kernel
theorem d_M_findMinutes_151 : decode prog_13_method_72_code 151 = .ok (.lload 4, 2) := by decide +kernel
theorem d_M_findMinutes_153 : decode prog_13_method_72_code 153 = .ok (.lmul, 1) := by decide +kernel
theorem d_M_findMinutes_154 : decode prog_13_method_72_code 154 = .ok (.ladd, 1) := by decide +kernel
theorem d_M_findMinutes_155 : decode prog_13_method_72_code 155 = .ok (.lastore, 1) := by decide +kernel
theorem d_M_findMinutes_156 : decode prog_13_method_72_code 156 = .ok (.iinc 7 1, 3) := by decide +kernel
theorem d_M_findMinutes_159 : decode prog_13_method_72_code 159 = .ok (.goto (-44), 3) := by decide +kernel
theorem d_M_findMinutes_162 : decode prog_13_method_72_code 162 = .ok (.iinc 3 1, 3) := by decide +kernel
theorem d_M_findMinutes_165 : decode prog_13_method_72_code 165 = .ok (.goto (-88), 3) := by decide +kernel
theorem d_M_findMinutes_168 : decode prog_13_method_72_code 168 = .ok (.iconst 0, 1) := by decide +kernel
theorem d_M_findMinutes_169 : decode prog_13_method_72_code 169 = .ok (.istore_n 3, 1) := by decide +kernel
theorem d_M_findMinutes_170 : decode prog_13_method_72_code 170 = .ok (.iload_n 3, 1) := by decide +kernel
theorem d_M_findMinutes_171 : decode prog_13_method_72_code 171 = .ok (.sipush 3200, 3) := by decide +kernel
theorem d_M_findMinutes_174 : decode prog_13_method_72_code 174 = .ok (.if_icmp .ge 21, 3) := by decide +kernel
theorem d_M_findMinutes_177 : decode prog_13_method_72_code 177 = .ok (.aload_n 0, 1) := by decide +kernel
theorem d_M_findMinutes_178 : decode prog_13_method_72_code 178 = .ok (.getfield 67, 3) := by decide +kernel
theorem d_M_findMinutes_181 : decode prog_13_method_72_code 181 = .ok (.iload_n 3, 1) := by decide +kernel
theorem d_M_findMinutes_182 : decode prog_13_method_72_code 182 = .ok (.aload_n 0, 1) := by decide +kernel
theorem d_M_findMinutes_183 : decode prog_13_method_72_code 183 = .ok (.getfield 71, 3) := by decide +kernel
theorem d_M_findMinutes_186 : decode prog_13_method_72_code 186 = .ok (.iload_n 3, 1) := by decide +kernel
theorem d_M_findMinutes_187 : decode prog_13_method_72_code 187 = .ok (.laload, 1) := by decide +kernel
theorem d_M_findMinutes_188 : decode prog_13_method_72_code 188 = .ok (.lastore, 1) := by decide +kernel
theorem d_M_findMinutes_189 : decode prog_13_method_72_code 189 = .ok (.iinc 3 1, 3) := by decide +kernel
theorem d_M_findMinutes_192 : decode prog_13_method_72_code 192 = .ok (.goto (-22), 3) := by decide +kernel
theorem d_M_findMinutes_195 : decode prog_13_method_72_code 195 = .ok (.aload_n 0, 1) := by decide +kernel
theorem d_M_findMinutes_196 : decode prog_13_method_72_code 196 = .ok (.dup, 1) := by decide +kernel
theorem d_M_findMinutes_197 : decode prog_13_method_72_code 197 = .ok (.getfield 270, 3) := by decide +kernel
theorem d_M_findMinutes_200 : decode prog_13_method_72_code 200 = .ok (.iconst 2, 1) := by decide +kernel
theorem d_M_findMinutes_201 : decode prog_13_method_72_code 201 = .ok (.iload_n 1, 1) := by decide +kernel
theorem d_M_findMinutes_202 : decode prog_13_method_72_code 202 = .ok (.invokestatic 246, 3) := by decide +kernel
theorem d_M_findMinutes_205 : decode prog_13_method_72_code 205 = .ok (.imul, 1) := by decide +kernel
theorem d_M_findMinutes_206 : decode prog_13_method_72_code 206 = .ok (.lshl, 1) := by decide +kernel
theorem d_M_findMinutes_207 : decode prog_13_method_72_code 207 = .ok (.putfield 270, 3) := by decide +kernel
theorem d_M_findMinutes_210 : decode prog_13_method_72_code 210 = .ok (.iinc 2 1, 3) := by decide +kernel
theorem d_M_findMinutes_213 : decode prog_13_method_72_code 213 = .ok (.goto (-176), 3) := by decide +kernel
theorem d_M_findMinutes_216 : decode prog_13_method_72_code 216 = .ok (.return_, 1) := by decide +kernel
theorem d_M_part_0 : decode prog_13_method_73_code 0 = .ok (.lload_n 0, 1) := by decide +kernel
theorem d_M_part_1 : decode prog_13_method_73_code 1 = .ok (.lstore 5, 2) := by decide +kernel
theorem d_M_part_3 : decode prog_13_method_73_code 3 = .ok (.lload_n 2, 1) := by decide +kernel
theorem d_M_part_4 : decode prog_13_method_73_code 4 = .ok (.lstore 7, 2) := by decide +kernel
theorem d_M_part_6 : decode prog_13_method_73_code 6 = .ok (.lload 7, 2) := by decide +kernel
theorem d_M_part_8 : decode prog_13_method_73_code 8 = .ok (.lconst 0, 1) := by decide +kernel
theorem d_M_part_9 : decode prog_13_method_73_code 9 = .ok (.lcmp, 1) := by decide +kernel
theorem d_M_part_10 : decode prog_13_method_73_code 10 = .ok (.ifCond .eq 21, 3) := by decide +kernel
theorem d_M_part_13 : decode prog_13_method_73_code 13 = .ok (.lload 5, 2) := by decide +kernel
theorem d_M_part_15 : decode prog_13_method_73_code 15 = .ok (.lload 7, 2) := by decide +kernel
theorem d_M_part_17 : decode prog_13_method_73_code 17 = .ok (.lrem, 1) := by decide +kernel
theorem d_M_part_18 : decode prog_13_method_73_code 18 = .ok (.lstore 9, 2) := by decide +kernel
theorem d_M_part_20 : decode prog_13_method_73_code 20 = .ok (.lload 7, 2) := by decide +kernel
theorem d_M_part_22 : decode prog_13_method_73_code 22 = .ok (.lstore 5, 2) := by decide +kernel
theorem d_M_part_24 : decode prog_13_method_73_code 24 = .ok (.lload 9, 2) := by decide +kernel
theorem d_M_part_26 : decode prog_13_method_73_code 26 = .ok (.lstore 7, 2) := by decide +kernel
theorem d_M_part_28 : decode prog_13_method_73_code 28 = .ok (.goto (-22), 3) := by decide +kernel
theorem d_M_part_31 : decode prog_13_method_73_code 31 = .ok (.iload 4, 2) := by decide +kernel
theorem d_M_part_33 : decode prog_13_method_73_code 33 = .ok (.ifCond .ne 7, 3) := by decide +kernel
theorem d_M_part_36 : decode prog_13_method_73_code 36 = .ok (.lload_n 0, 1) := by decide +kernel
theorem d_M_part_37 : decode prog_13_method_73_code 37 = .ok (.goto 4, 3) := by decide +kernel
theorem d_M_part_40 : decode prog_13_method_73_code 40 = .ok (.lload_n 2, 1) := by decide +kernel
theorem d_M_part_41 : decode prog_13_method_73_code 41 = .ok (.lload 5, 2) := by decide +kernel
theorem d_M_part_43 : decode prog_13_method_73_code 43 = .ok (.ldiv, 1) := by decide +kernel
theorem d_M_part_44 : decode prog_13_method_73_code 44 = .ok (.lreturn, 1) := by decide +kernel
theorem d_M_doneOf_0 : decode prog_13_method_74_code 0 = .ok (.aload_n 0, 1) := by decide +kernel
theorem d_M_doneOf_1 : decode prog_13_method_74_code 1 = .ok (.iload_n 1, 1) := by decide +kernel
theorem d_M_doneOf_2 : decode prog_13_method_74_code 2 = .ok (.invokevirtual 281, 3) := by decide +kernel
theorem d_M_doneOf_5 : decode prog_13_method_74_code 5 = .ok (.lconst 0, 1) := by decide +kernel
theorem d_M_doneOf_6 : decode prog_13_method_74_code 6 = .ok (.lstore 4, 2) := by decide +kernel
theorem d_M_doneOf_8 : decode prog_13_method_74_code 8 = .ok (.iconst 0, 1) := by decide +kernel
theorem d_M_doneOf_9 : decode prog_13_method_74_code 9 = .ok (.istore 6, 2) := by decide +kernel
theorem d_M_doneOf_11 : decode prog_13_method_74_code 11 = .ok (.iload 6, 2) := by decide +kernel
theorem d_M_doneOf_13 : decode prog_13_method_74_code 13 = .ok (.sipush 3200, 3) := by decide +kernel
theorem d_M_doneOf_16 : decode prog_13_method_74_code 16 = .ok (.if_icmp .ge 27, 3) := by decide +kernel
theorem d_M_doneOf_19 : decode prog_13_method_74_code 19 = .ok (.iload 6, 2) := by decide +kernel
theorem d_M_doneOf_21 : decode prog_13_method_74_code 21 = .ok (.iload_n 2, 1) := by decide +kernel
theorem d_M_doneOf_22 : decode prog_13_method_74_code 22 = .ok (.if_icmp .gt 21, 3) := by decide +kernel
theorem d_M_doneOf_25 : decode prog_13_method_74_code 25 = .ok (.lload 4, 2) := by decide +kernel
theorem d_M_doneOf_27 : decode prog_13_method_74_code 27 = .ok (.aload_n 0, 1) := by decide +kernel
theorem d_M_doneOf_28 : decode prog_13_method_74_code 28 = .ok (.getfield 67, 3) := by decide +kernel
theorem d_M_doneOf_31 : decode prog_13_method_74_code 31 = .ok (.iload 6, 2) := by decide +kernel
theorem d_M_doneOf_33 : decode prog_13_method_74_code 33 = .ok (.laload, 1) := by decide +kernel
theorem d_M_doneOf_34 : decode prog_13_method_74_code 34 = .ok (.ladd, 1) := by decide +kernel
theorem d_M_doneOf_35 : decode prog_13_method_74_code 35 = .ok (.lstore 4, 2) := by decide +kernel
theorem d_M_doneOf_37 : decode prog_13_method_74_code 37 = .ok (.iinc 6 1, 3) := by decide +kernel
theorem d_M_doneOf_40 : decode prog_13_method_74_code 40 = .ok (.goto (-29), 3) := by decide +kernel
theorem d_M_doneOf_43 : decode prog_13_method_74_code 43 = .ok (.lload 4, 2) := by decide +kernel
theorem d_M_doneOf_45 : decode prog_13_method_74_code 45 = .ok (.aload_n 0, 1) := by decide +kernel
theorem d_M_doneOf_46 : decode prog_13_method_74_code 46 = .ok (.getfield 270, 3) := by decide +kernel
theorem d_M_doneOf_49 : decode prog_13_method_74_code 49 = .ok (.iload_n 3, 1) := by decide +kernel
theorem d_M_doneOf_50 : decode prog_13_method_74_code 50 = .ok (.invokestatic 285, 3) := by decide +kernel
theorem d_M_doneOf_53 : decode prog_13_method_74_code 53 = .ok (.lreturn, 1) := by decide +kernel
theorem d_M_done_0 : decode prog_13_method_75_code 0 = .ok (.aload_n 0, 1) := by decide +kernel
theorem d_M_done_1 : decode prog_13_method_75_code 1 = .ok (.invokevirtual 131, 3) := by decide +kernel
theorem d_M_done_4 : decode prog_13_method_75_code 4 = .ok (.pop, 1) := by decide +kernel
theorem d_M_done_5 : decode prog_13_method_75_code 5 = .ok (.iload_n 1, 1) := by decide +kernel
theorem d_M_done_6 : decode prog_13_method_75_code 6 = .ok (.invokestatic 198, 3) := by decide +kernel
theorem d_M_done_9 : decode prog_13_method_75_code 9 = .ok (.ifCond .eq 22, 3) := by decide +kernel
theorem d_M_done_12 : decode prog_13_method_75_code 12 = .ok (.iload_n 2, 1) := by decide +kernel
theorem d_M_done_13 : decode prog_13_method_75_code 13 = .ok (.i2l, 1) := by decide +kernel
theorem d_M_done_14 : decode prog_13_method_75_code 14 = .ok (.lconst 0, 1) := by decide +kernel
theorem d_M_done_15 : decode prog_13_method_75_code 15 = .ok (.ldc2_w 289, 3) := by decide +kernel
theorem d_M_done_18 : decode prog_13_method_75_code 18 = .ok (.invokestatic 76, 3) := by decide +kernel
theorem d_M_done_21 : decode prog_13_method_75_code 21 = .ok (.ifCond .eq 10, 3) := by decide +kernel
theorem d_M_done_24 : decode prog_13_method_75_code 24 = .ok (.iload_n 3, 1) := by decide +kernel
theorem d_M_done_25 : decode prog_13_method_75_code 25 = .ok (.invokestatic 160, 3) := by decide +kernel
theorem d_M_done_28 : decode prog_13_method_75_code 28 = .ok (.ifCond .ne 9, 3) := by decide +kernel
theorem d_M_done_31 : decode prog_13_method_75_code 31 = .ok (.bipush (-2), 2) := by decide +kernel
theorem d_M_done_33 : decode prog_13_method_75_code 33 = .ok (.invokestatic 291, 3) := by decide +kernel
theorem d_M_done_36 : decode prog_13_method_75_code 36 = .ok (.lreturn, 1) := by decide +kernel
theorem d_M_done_37 : decode prog_13_method_75_code 37 = .ok (.iload_n 1, 1) := by decide +kernel
theorem d_M_done_38 : decode prog_13_method_75_code 38 = .ok (.invokestatic 246, 3) := by decide +kernel
theorem d_M_done_41 : decode prog_13_method_75_code 41 = .ok (.iconst 3, 1) := by decide +kernel
theorem d_M_done_42 : decode prog_13_method_75_code 42 = .ok (.if_icmp .le 11, 3) := by decide +kernel
theorem d_M_done_45 : decode prog_13_method_75_code 45 = .ok (.bipush (-4), 2) := by decide +kernel
theorem d_M_done_47 : decode prog_13_method_75_code 47 = .ok (.invokestatic 291, 3) := by decide +kernel
theorem d_M_done_50 : decode prog_13_method_75_code 50 = .ok (.goto 10, 3) := by decide +kernel
theorem d_M_done_53 : decode prog_13_method_75_code 53 = .ok (.aload_n 0, 1) := by decide +kernel
theorem d_M_done_54 : decode prog_13_method_75_code 54 = .ok (.iload_n 1, 1) := by decide +kernel
theorem d_M_done_55 : decode prog_13_method_75_code 55 = .ok (.iload_n 2, 1) := by decide +kernel
theorem d_M_done_56 : decode prog_13_method_75_code 56 = .ok (.iload_n 3, 1) := by decide +kernel
theorem d_M_done_57 : decode prog_13_method_75_code 57 = .ok (.invokevirtual 295, 3) := by decide +kernel
theorem d_M_done_60 : decode prog_13_method_75_code 60 = .ok (.lreturn, 1) := by decide +kernel
theorem d_M_meanOf_0 : decode prog_13_method_76_code 0 = .ok (.lconst 0, 1) := by decide +kernel
theorem d_M_meanOf_1 : decode prog_13_method_76_code 1 = .ok (.lstore_n 3, 1) := by decide +kernel
theorem d_M_meanOf_2 : decode prog_13_method_76_code 2 = .ok (.iconst 0, 1) := by decide +kernel
theorem d_M_meanOf_3 : decode prog_13_method_76_code 3 = .ok (.istore 5, 2) := by decide +kernel
theorem d_M_meanOf_5 : decode prog_13_method_76_code 5 = .ok (.iload 5, 2) := by decide +kernel
theorem d_M_meanOf_7 : decode prog_13_method_76_code 7 = .ok (.aload_n 0, 1) := by decide +kernel
theorem d_M_meanOf_8 : decode prog_13_method_76_code 8 = .ok (.getfield 113, 3) := by decide +kernel
theorem d_M_meanOf_11 : decode prog_13_method_76_code 11 = .ok (.if_icmp .ge 68, 3) := by decide +kernel
theorem d_M_meanOf_14 : decode prog_13_method_76_code 14 = .ok (.iconst 0, 1) := by decide +kernel
theorem d_M_meanOf_15 : decode prog_13_method_76_code 15 = .ok (.istore 6, 2) := by decide +kernel
theorem d_M_meanOf_17 : decode prog_13_method_76_code 17 = .ok (.iload 6, 2) := by decide +kernel
theorem d_M_meanOf_19 : decode prog_13_method_76_code 19 = .ok (.bipush 64, 2) := by decide +kernel
theorem d_M_meanOf_21 : decode prog_13_method_76_code 21 = .ok (.if_icmp .ge 52, 3) := by decide +kernel
theorem d_M_meanOf_24 : decode prog_13_method_76_code 24 = .ok (.aload_n 0, 1) := by decide +kernel
theorem d_M_meanOf_25 : decode prog_13_method_76_code 25 = .ok (.iload 5, 2) := by decide +kernel
theorem d_M_meanOf_27 : decode prog_13_method_76_code 27 = .ok (.invokevirtual 188, 3) := by decide +kernel
theorem d_M_meanOf_30 : decode prog_13_method_76_code 30 = .ok (.ifCond .eq 43, 3) := by decide +kernel
theorem d_M_meanOf_33 : decode prog_13_method_76_code 33 = .ok (.lload_n 3, 1) := by decide +kernel
theorem d_M_meanOf_34 : decode prog_13_method_76_code 34 = .ok (.iload 6, 2) := by decide +kernel
theorem d_M_meanOf_36 : decode prog_13_method_76_code 36 = .ok (.iload_n 1, 1) := by decide +kernel
theorem d_M_meanOf_37 : decode prog_13_method_76_code 37 = .ok (.iconst (-1), 1) := by decide +kernel
theorem d_M_meanOf_38 : decode prog_13_method_76_code 38 = .ok (.ixor, 1) := by decide +kernel
theorem d_M_meanOf_39 : decode prog_13_method_76_code 39 = .ok (.iand, 1) := by decide +kernel
theorem d_M_meanOf_40 : decode prog_13_method_76_code 40 = .ok (.ifCond .ne 24, 3) := by decide +kernel
theorem d_M_meanOf_43 : decode prog_13_method_76_code 43 = .ok (.aload_n 0, 1) := by decide +kernel
theorem d_M_meanOf_44 : decode prog_13_method_76_code 44 = .ok (.iload_n 1, 1) := by decide +kernel
theorem d_M_meanOf_45 : decode prog_13_method_76_code 45 = .ok (.iload 6, 2) := by decide +kernel
theorem d_M_meanOf_47 : decode prog_13_method_76_code 47 = .ok (.invokevirtual 274, 3) := by decide +kernel
theorem d_M_meanOf_50 : decode prog_13_method_76_code 50 = .ok (.aload_n 0, 1) := by decide +kernel
theorem d_M_meanOf_51 : decode prog_13_method_76_code 51 = .ok (.iload_n 1, 1) := by decide +kernel
theorem d_M_meanOf_52 : decode prog_13_method_76_code 52 = .ok (.iload 6, 2) := by decide +kernel
theorem d_M_meanOf_54 : decode prog_13_method_76_code 54 = .ok (.iload 5, 2) := by decide +kernel
theorem d_M_meanOf_56 : decode prog_13_method_76_code 56 = .ok (.invokevirtual 278, 3) := by decide +kernel
theorem d_M_meanOf_59 : decode prog_13_method_76_code 59 = .ok (.i2l, 1) := by decide +kernel
theorem d_M_meanOf_60 : decode prog_13_method_76_code 60 = .ok (.lmul, 1) := by decide +kernel
theorem d_M_meanOf_61 : decode prog_13_method_76_code 61 = .ok (.goto 4, 3) := by decide +kernel
theorem d_M_meanOf_64 : decode prog_13_method_76_code 64 = .ok (.lconst 0, 1) := by decide +kernel
theorem d_M_meanOf_65 : decode prog_13_method_76_code 65 = .ok (.ladd, 1) := by decide +kernel
theorem d_M_meanOf_66 : decode prog_13_method_76_code 66 = .ok (.lstore_n 3, 1) := by decide +kernel
theorem d_M_meanOf_67 : decode prog_13_method_76_code 67 = .ok (.iinc 6 1, 3) := by decide +kernel
theorem d_M_meanOf_70 : decode prog_13_method_76_code 70 = .ok (.goto (-53), 3) := by decide +kernel
theorem d_M_meanOf_73 : decode prog_13_method_76_code 73 = .ok (.iinc 5 1, 3) := by decide +kernel
theorem d_M_meanOf_76 : decode prog_13_method_76_code 76 = .ok (.goto (-71), 3) := by decide +kernel
theorem d_M_meanOf_79 : decode prog_13_method_76_code 79 = .ok (.lload_n 3, 1) := by decide +kernel
theorem d_M_meanOf_80 : decode prog_13_method_76_code 80 = .ok (.lconst 1, 1) := by decide +kernel
theorem d_M_meanOf_81 : decode prog_13_method_76_code 81 = .ok (.iconst 2, 1) := by decide +kernel
theorem d_M_meanOf_82 : decode prog_13_method_76_code 82 = .ok (.iload_n 1, 1) := by decide +kernel
theorem d_M_meanOf_83 : decode prog_13_method_76_code 83 = .ok (.invokestatic 246, 3) := by decide +kernel
theorem d_M_meanOf_86 : decode prog_13_method_76_code 86 = .ok (.imul, 1) := by decide +kernel
theorem d_M_meanOf_87 : decode prog_13_method_76_code 87 = .ok (.lshl, 1) := by decide +kernel
theorem d_M_meanOf_88 : decode prog_13_method_76_code 88 = .ok (.iload_n 2, 1) := by decide +kernel
theorem d_M_meanOf_89 : decode prog_13_method_76_code 89 = .ok (.invokestatic 285, 3) := by decide +kernel
theorem d_M_meanOf_92 : decode prog_13_method_76_code 92 = .ok (.lreturn, 1) := by decide +kernel
theorem d_M_mean_0 : decode prog_13_method_77_code 0 = .ok (.aload_n 0, 1) := by decide +kernel
theorem d_M_mean_1 : decode prog_13_method_77_code 1 = .ok (.invokevirtual 131, 3) := by decide +kernel
theorem d_M_mean_4 : decode prog_13_method_77_code 4 = .ok (.pop, 1) := by decide +kernel
theorem d_M_mean_5 : decode prog_13_method_77_code 5 = .ok (.iload_n 1, 1) := by decide +kernel
theorem d_M_mean_6 : decode prog_13_method_77_code 6 = .ok (.invokestatic 198, 3) := by decide +kernel
theorem d_M_mean_9 : decode prog_13_method_77_code 9 = .ok (.ifCond .eq 10, 3) := by decide +kernel
theorem d_M_mean_12 : decode prog_13_method_77_code 12 = .ok (.iload_n 2, 1) := by decide +kernel
theorem d_M_mean_13 : decode prog_13_method_77_code 13 = .ok (.invokestatic 160, 3) := by decide +kernel
theorem d_M_mean_16 : decode prog_13_method_77_code 16 = .ok (.ifCond .ne 9, 3) := by decide +kernel
theorem d_M_mean_19 : decode prog_13_method_77_code 19 = .ok (.bipush (-2), 2) := by decide +kernel
theorem d_M_mean_21 : decode prog_13_method_77_code 21 = .ok (.invokestatic 291, 3) := by decide +kernel
theorem d_M_mean_24 : decode prog_13_method_77_code 24 = .ok (.lreturn, 1) := by decide +kernel
theorem d_M_mean_25 : decode prog_13_method_77_code 25 = .ok (.iload_n 1, 1) := by decide +kernel
theorem d_M_mean_26 : decode prog_13_method_77_code 26 = .ok (.invokestatic 246, 3) := by decide +kernel
theorem d_M_mean_29 : decode prog_13_method_77_code 29 = .ok (.iconst 3, 1) := by decide +kernel
theorem d_M_mean_30 : decode prog_13_method_77_code 30 = .ok (.if_icmp .le 11, 3) := by decide +kernel
theorem d_M_mean_33 : decode prog_13_method_77_code 33 = .ok (.bipush (-4), 2) := by decide +kernel
theorem d_M_mean_35 : decode prog_13_method_77_code 35 = .ok (.invokestatic 291, 3) := by decide +kernel
theorem d_M_mean_38 : decode prog_13_method_77_code 38 = .ok (.goto 9, 3) := by decide +kernel
theorem d_M_mean_41 : decode prog_13_method_77_code 41 = .ok (.aload_n 0, 1) := by decide +kernel
theorem d_M_mean_42 : decode prog_13_method_77_code 42 = .ok (.iload_n 1, 1) := by decide +kernel
theorem d_M_mean_43 : decode prog_13_method_77_code 43 = .ok (.iload_n 2, 1) := by decide +kernel
theorem d_M_mean_44 : decode prog_13_method_77_code 44 = .ok (.invokevirtual 299, 3) := by decide +kernel
theorem d_M_mean_47 : decode prog_13_method_77_code 47 = .ok (.lreturn, 1) := by decide +kernel
theorem d_M_write_0 : decode prog_13_method_78_code 0 = .ok (.iload_n 1, 1) := by decide +kernel
theorem d_M_write_1 : decode prog_13_method_78_code 1 = .ok (.invokestatic 149, 3) := by decide +kernel
theorem d_M_write_4 : decode prog_13_method_78_code 4 = .ok (.ifCond .eq 10, 3) := by decide +kernel
theorem d_M_write_7 : decode prog_13_method_78_code 7 = .ok (.iload_n 2, 1) := by decide +kernel
theorem d_M_write_8 : decode prog_13_method_78_code 8 = .ok (.invokestatic 86, 3) := by decide +kernel
theorem d_M_write_11 : decode prog_13_method_78_code 11 = .ok (.ifCond .ne 6, 3) := by decide +kernel
theorem d_M_write_14 : decode prog_13_method_78_code 14 = .ok (.bipush (-2), 2) := by decide +kernel
theorem d_M_write_16 : decode prog_13_method_78_code 16 = .ok (.ireturn, 1) := by decide +kernel
theorem d_M_write_17 : decode prog_13_method_78_code 17 = .ok (.aload_n 0, 1) := by decide +kernel
theorem d_M_write_18 : decode prog_13_method_78_code 18 = .ok (.getfield 7, 3) := by decide +kernel
theorem d_M_write_21 : decode prog_13_method_78_code 21 = .ok (.iload_n 2, 1) := by decide +kernel
theorem d_M_write_22 : decode prog_13_method_78_code 22 = .ok (.iaload, 1) := by decide +kernel
theorem d_M_write_23 : decode prog_13_method_78_code 23 = .ok (.ifCond .ge 9, 3) := by decide +kernel
theorem d_M_write_26 : decode prog_13_method_78_code 26 = .ok (.aload_n 0, 1) := by decide +kernel
theorem d_M_write_27 : decode prog_13_method_78_code 27 = .ok (.iconst 1, 1) := by decide +kernel
theorem d_M_write_28 : decode prog_13_method_78_code 28 = .ok (.invokevirtual 92, 3) := by decide +kernel
theorem d_M_write_31 : decode prog_13_method_78_code 31 = .ok (.ireturn, 1) := by decide +kernel
theorem d_M_write_32 : decode prog_13_method_78_code 32 = .ok (.aload_n 0, 1) := by decide +kernel
theorem d_M_write_33 : decode prog_13_method_78_code 33 = .ok (.invokevirtual 131, 3) := by decide +kernel
theorem d_M_write_36 : decode prog_13_method_78_code 36 = .ok (.pop, 1) := by decide +kernel
theorem d_M_write_37 : decode prog_13_method_78_code 37 = .ok (.aload_n 0, 1) := by decide +kernel
theorem d_M_write_38 : decode prog_13_method_78_code 38 = .ok (.getfield 13, 3) := by decide +kernel
theorem d_M_write_41 : decode prog_13_method_78_code 41 = .ok (.iload_n 2, 1) := by decide +kernel
theorem d_M_write_42 : decode prog_13_method_78_code 42 = .ok (.iaload, 1) := by decide +kernel
theorem d_M_write_43 : decode prog_13_method_78_code 43 = .ok (.aload_n 0, 1) := by decide +kernel
theorem d_M_write_44 : decode prog_13_method_78_code 44 = .ok (.getfield 113, 3) := by decide +kernel
theorem d_M_write_47 : decode prog_13_method_78_code 47 = .ok (.if_icmp .ge 12, 3) := by decide +kernel
theorem d_M_write_50 : decode prog_13_method_78_code 50 = .ok (.aload_n 0, 1) := by decide +kernel
theorem d_M_write_51 : decode prog_13_method_78_code 51 = .ok (.getfield 13, 3) := by decide +kernel
theorem d_M_write_54 : decode prog_13_method_78_code 54 = .ok (.iload_n 2, 1) := by decide +kernel
theorem d_M_write_55 : decode prog_13_method_78_code 55 = .ok (.iaload, 1) := by decide +kernel
theorem d_M_write_56 : decode prog_13_method_78_code 56 = .ok (.goto 7, 3) := by decide +kernel
theorem d_M_write_59 : decode prog_13_method_78_code 59 = .ok (.aload_n 0, 1) := by decide +kernel
theorem d_M_write_60 : decode prog_13_method_78_code 60 = .ok (.getfield 113, 3) := by decide +kernel
theorem d_M_write_63 : decode prog_13_method_78_code 63 = .ok (.istore_n 3, 1) := by decide +kernel
theorem d_M_write_64 : decode prog_13_method_78_code 64 = .ok (.iconst 0, 1) := by decide +kernel
theorem d_M_write_65 : decode prog_13_method_78_code 65 = .ok (.istore 4, 2) := by decide +kernel
theorem d_M_write_67 : decode prog_13_method_78_code 67 = .ok (.iload 4, 2) := by decide +kernel
theorem d_M_write_69 : decode prog_13_method_78_code 69 = .ok (.iload_n 3, 1) := by decide +kernel
theorem d_M_write_70 : decode prog_13_method_78_code 70 = .ok (.if_icmp .ge 37, 3) := by decide +kernel
theorem d_M_write_73 : decode prog_13_method_78_code 73 = .ok (.aload_n 0, 1) := by decide +kernel
theorem d_M_write_74 : decode prog_13_method_78_code 74 = .ok (.getfield 16, 3) := by decide +kernel
theorem d_M_write_77 : decode prog_13_method_78_code 77 = .ok (.bipush 60, 2) := by decide +kernel
theorem d_M_write_79 : decode prog_13_method_78_code 79 = .ok (.iload_n 2, 1) := by decide +kernel
theorem d_M_write_80 : decode prog_13_method_78_code 80 = .ok (.imul, 1) := by decide +kernel
theorem d_M_write_81 : decode prog_13_method_78_code 81 = .ok (.iload 4, 2) := by decide +kernel
theorem d_M_write_83 : decode prog_13_method_78_code 83 = .ok (.iadd, 1) := by decide +kernel
theorem d_M_write_84 : decode prog_13_method_78_code 84 = .ok (.aload_n 0, 1) := by decide +kernel
theorem d_M_write_85 : decode prog_13_method_78_code 85 = .ok (.getfield 7, 3) := by decide +kernel
theorem d_M_write_88 : decode prog_13_method_78_code 88 = .ok (.iload_n 2, 1) := by decide +kernel
theorem d_M_write_89 : decode prog_13_method_78_code 89 = .ok (.iaload, 1) := by decide +kernel
theorem d_M_write_90 : decode prog_13_method_78_code 90 = .ok (.aload_n 0, 1) := by decide +kernel
theorem d_M_write_91 : decode prog_13_method_78_code 91 = .ok (.iload_n 1, 1) := by decide +kernel
theorem d_M_write_92 : decode prog_13_method_78_code 92 = .ok (.iload 4, 2) := by decide +kernel
theorem d_M_write_94 : decode prog_13_method_78_code 94 = .ok (.invokevirtual 176, 3) := by decide +kernel
theorem d_M_write_97 : decode prog_13_method_78_code 97 = .ok (.invokestatic 100, 3) := by decide +kernel
theorem d_M_write_100 : decode prog_13_method_78_code 100 = .ok (.iastore, 1) := by decide +kernel
theorem d_M_write_101 : decode prog_13_method_78_code 101 = .ok (.iinc 4 1, 3) := by decide +kernel
theorem d_M_write_104 : decode prog_13_method_78_code 104 = .ok (.goto (-37), 3) := by decide +kernel
theorem d_M_write_107 : decode prog_13_method_78_code 107 = .ok (.iload_n 3, 1) := by decide +kernel
theorem d_M_write_108 : decode prog_13_method_78_code 108 = .ok (.ireturn, 1) := by decide +kernel
theorem d_M_count_0 : decode prog_13_method_79_code 0 = .ok (.iconst 0, 1) := by decide +kernel
theorem d_M_count_1 : decode prog_13_method_79_code 1 = .ok (.istore_n 2, 1) := by decide +kernel
theorem d_M_count_2 : decode prog_13_method_79_code 2 = .ok (.aload_n 0, 1) := by decide +kernel
theorem d_M_count_3 : decode prog_13_method_79_code 3 = .ok (.invokevirtual 131, 3) := by decide +kernel
theorem d_M_count_6 : decode prog_13_method_79_code 6 = .ok (.pop, 1) := by decide +kernel
theorem d_M_count_7 : decode prog_13_method_79_code 7 = .ok (.iload_n 1, 1) := by decide +kernel
theorem d_M_count_8 : decode prog_13_method_79_code 8 = .ok (.tableswitch 163 0 8 #[52, 57, 62, 89, 106, 143, 148, 148, 158], 52) := by decide +kernel
theorem d_M_count_60 : decode prog_13_method_79_code 60 = .ok (.aload_n 0, 1) := by decide +kernel
theorem d_M_count_61 : decode prog_13_method_79_code 61 = .ok (.getfield 113, 3) := by decide +kernel
theorem d_M_count_64 : decode prog_13_method_79_code 64 = .ok (.ireturn, 1) := by decide +kernel
theorem d_M_count_65 : decode prog_13_method_79_code 65 = .ok (.aload_n 0, 1) := by decide +kernel
theorem d_M_count_66 : decode prog_13_method_79_code 66 = .ok (.getfield 107, 3) := by decide +kernel
theorem d_M_count_69 : decode prog_13_method_79_code 69 = .ok (.ireturn, 1) := by decide +kernel
theorem d_M_count_70 : decode prog_13_method_79_code 70 = .ok (.iconst 0, 1) := by decide +kernel
theorem d_M_count_71 : decode prog_13_method_79_code 71 = .ok (.istore_n 3, 1) := by decide +kernel
theorem d_M_count_72 : decode prog_13_method_79_code 72 = .ok (.iload_n 3, 1) := by decide +kernel
theorem d_M_count_73 : decode prog_13_method_79_code 73 = .ok (.aload_n 0, 1) := by decide +kernel
theorem d_M_count_74 : decode prog_13_method_79_code 74 = .ok (.getfield 113, 3) := by decide +kernel
theorem d_M_count_77 : decode prog_13_method_79_code 77 = .ok (.if_icmp .ge 18, 3) := by decide +kernel
theorem d_M_count_80 : decode prog_13_method_79_code 80 = .ok (.iload_n 2, 1) := by decide +kernel
theorem d_M_count_81 : decode prog_13_method_79_code 81 = .ok (.aload_n 0, 1) := by decide +kernel
theorem d_M_count_82 : decode prog_13_method_79_code 82 = .ok (.getfield 28, 3) := by decide +kernel
theorem d_M_count_85 : decode prog_13_method_79_code 85 = .ok (.iload_n 3, 1) := by decide +kernel
theorem d_M_count_86 : decode prog_13_method_79_code 86 = .ok (.iaload, 1) := by decide +kernel
theorem d_M_count_87 : decode prog_13_method_79_code 87 = .ok (.iadd, 1) := by decide +kernel
theorem d_M_count_88 : decode prog_13_method_79_code 88 = .ok (.istore_n 2, 1) := by decide +kernel
theorem d_M_count_89 : decode prog_13_method_79_code 89 = .ok (.iinc 3 1, 3) := by decide +kernel
theorem d_M_count_92 : decode prog_13_method_79_code 92 = .ok (.goto (-20), 3) := by decide +kernel
theorem d_M_count_95 : decode prog_13_method_79_code 95 = .ok (.iload_n 2, 1) := by decide +kernel
theorem d_M_count_96 : decode prog_13_method_79_code 96 = .ok (.ireturn, 1) := by decide +kernel
theorem d_M_count_97 : decode prog_13_method_79_code 97 = .ok (.aload_n 0, 1) := by decide +kernel
theorem d_M_count_98 : decode prog_13_method_79_code 98 = .ok (.getfield 140, 3) := by decide +kernel
theorem d_M_count_101 : decode prog_13_method_79_code 101 = .ok (.iconst 1, 1) := by decide +kernel
theorem d_M_count_102 : decode prog_13_method_79_code 102 = .ok (.aload_n 0, 1) := by decide +kernel
theorem d_M_count_103 : decode prog_13_method_79_code 103 = .ok (.getfield 113, 3) := by decide +kernel
theorem d_M_count_106 : decode prog_13_method_79_code 106 = .ok (.ishl, 1) := by decide +kernel
theorem d_M_count_107 : decode prog_13_method_79_code 107 = .ok (.iconst 1, 1) := by decide +kernel
theorem d_M_count_108 : decode prog_13_method_79_code 108 = .ok (.isub, 1) := by decide +kernel
theorem d_M_count_109 : decode prog_13_method_79_code 109 = .ok (.iand, 1) := by decide +kernel
theorem d_M_count_110 : decode prog_13_method_79_code 110 = .ok (.invokestatic 246, 3) := by decide +kernel
theorem d_M_count_113 : decode prog_13_method_79_code 113 = .ok (.ireturn, 1) := by decide +kernel
theorem d_M_count_114 : decode prog_13_method_79_code 114 = .ok (.iconst 0, 1) := by decide +kernel
theorem d_M_count_115 : decode prog_13_method_79_code 115 = .ok (.istore_n 3, 1) := by decide +kernel
theorem d_M_count_116 : decode prog_13_method_79_code 116 = .ok (.iload_n 3, 1) := by decide +kernel
theorem d_M_count_117 : decode prog_13_method_79_code 117 = .ok (.bipush 6, 2) := by decide +kernel
theorem d_M_count_119 : decode prog_13_method_79_code 119 = .ok (.if_icmp .ge 30, 3) := by decide +kernel
theorem d_M_count_122 : decode prog_13_method_79_code 122 = .ok (.iload_n 2, 1) := by decide +kernel
theorem d_M_count_123 : decode prog_13_method_79_code 123 = .ok (.aload_n 0, 1) := by decide +kernel
theorem d_M_count_124 : decode prog_13_method_79_code 124 = .ok (.getfield 34, 3) := by decide +kernel
theorem d_M_count_127 : decode prog_13_method_79_code 127 = .ok (.iload_n 3, 1) := by decide +kernel
theorem d_M_count_128 : decode prog_13_method_79_code 128 = .ok (.iaload, 1) := by decide +kernel
theorem d_M_count_129 : decode prog_13_method_79_code 129 = .ok (.iconst 1, 1) := by decide +kernel
theorem d_M_count_130 : decode prog_13_method_79_code 130 = .ok (.aload_n 0, 1) := by decide +kernel
theorem d_M_count_131 : decode prog_13_method_79_code 131 = .ok (.getfield 113, 3) := by decide +kernel
theorem d_M_count_134 : decode prog_13_method_79_code 134 = .ok (.ishl, 1) := by decide +kernel
theorem d_M_count_135 : decode prog_13_method_79_code 135 = .ok (.iconst 1, 1) := by decide +kernel
theorem d_M_count_136 : decode prog_13_method_79_code 136 = .ok (.isub, 1) := by decide +kernel
theorem d_M_count_137 : decode prog_13_method_79_code 137 = .ok (.iand, 1) := by decide +kernel
theorem d_M_count_138 : decode prog_13_method_79_code 138 = .ok (.invokestatic 246, 3) := by decide +kernel
theorem d_M_count_141 : decode prog_13_method_79_code 141 = .ok (.iadd, 1) := by decide +kernel
theorem d_M_count_142 : decode prog_13_method_79_code 142 = .ok (.istore_n 2, 1) := by decide +kernel
theorem d_M_count_143 : decode prog_13_method_79_code 143 = .ok (.iinc 3 1, 3) := by decide +kernel
theorem d_M_count_146 : decode prog_13_method_79_code 146 = .ok (.goto (-30), 3) := by decide +kernel
theorem d_M_count_149 : decode prog_13_method_79_code 149 = .ok (.iload_n 2, 1) := by decide +kernel
theorem d_M_count_150 : decode prog_13_method_79_code 150 = .ok (.ireturn, 1) := by decide +kernel
theorem d_M_count_151 : decode prog_13_method_79_code 151 = .ok (.aload_n 0, 1) := by decide +kernel
theorem d_M_count_152 : decode prog_13_method_79_code 152 = .ok (.getfield 261, 3) := by decide +kernel
theorem d_M_count_155 : decode prog_13_method_79_code 155 = .ok (.ireturn, 1) := by decide +kernel
theorem d_M_count_156 : decode prog_13_method_79_code 156 = .ok (.aload_n 0, 1) := by decide +kernel
theorem d_M_count_157 : decode prog_13_method_79_code 157 = .ok (.getfield 46, 3) := by decide +kernel
theorem d_M_count_160 : decode prog_13_method_79_code 160 = .ok (.iload_n 1, 1) := by decide +kernel
theorem d_M_count_161 : decode prog_13_method_79_code 161 = .ok (.bipush 6, 2) := by decide +kernel
theorem d_M_count_163 : decode prog_13_method_79_code 163 = .ok (.isub, 1) := by decide +kernel
theorem d_M_count_164 : decode prog_13_method_79_code 164 = .ok (.iaload, 1) := by decide +kernel
theorem d_M_count_165 : decode prog_13_method_79_code 165 = .ok (.ireturn, 1) := by decide +kernel
theorem d_M_count_166 : decode prog_13_method_79_code 166 = .ok (.aload_n 0, 1) := by decide +kernel
theorem d_M_count_167 : decode prog_13_method_79_code 167 = .ok (.getfield 80, 3) := by decide +kernel
theorem d_M_count_170 : decode prog_13_method_79_code 170 = .ok (.ireturn, 1) := by decide +kernel
theorem d_M_count_171 : decode prog_13_method_79_code 171 = .ok (.bipush (-2), 2) := by decide +kernel
theorem d_M_count_173 : decode prog_13_method_79_code 173 = .ok (.ireturn, 1) := by decide +kernel
theorem d_M_digest_0 : decode prog_13_method_80_code 0 = .ok (.ldc2_w 302, 3) := by decide +kernel
theorem d_M_digest_3 : decode prog_13_method_80_code 3 = .ok (.lstore_n 1, 1) := by decide +kernel
theorem d_M_digest_4 : decode prog_13_method_80_code 4 = .ok (.iconst 0, 1) := by decide +kernel
theorem d_M_digest_5 : decode prog_13_method_80_code 5 = .ok (.istore_n 3, 1) := by decide +kernel
theorem d_M_digest_6 : decode prog_13_method_80_code 6 = .ok (.iload_n 3, 1) := by decide +kernel
theorem d_M_digest_7 : decode prog_13_method_80_code 7 = .ok (.bipush 8, 2) := by decide +kernel
theorem d_M_digest_9 : decode prog_13_method_80_code 9 = .ok (.if_icmp .ge 22, 3) := by decide +kernel
theorem d_M_digest_12 : decode prog_13_method_80_code 12 = .ok (.ldc2_w 304, 3) := by decide +kernel
theorem d_M_digest_15 : decode prog_13_method_80_code 15 = .ok (.lload_n 1, 1) := by decide +kernel
theorem d_M_digest_16 : decode prog_13_method_80_code 16 = .ok (.lmul, 1) := by decide +kernel
theorem d_M_digest_17 : decode prog_13_method_80_code 17 = .ok (.aload_n 0, 1) := by decide +kernel
theorem d_M_digest_18 : decode prog_13_method_80_code 18 = .ok (.iload_n 3, 1) := by decide +kernel
theorem d_M_digest_19 : decode prog_13_method_80_code 19 = .ok (.invokevirtual 306, 3) := by decide +kernel
theorem d_M_digest_22 : decode prog_13_method_80_code 22 = .ok (.i2l, 1) := by decide +kernel
theorem d_M_digest_23 : decode prog_13_method_80_code 23 = .ok (.ladd, 1) := by decide +kernel
theorem d_M_digest_24 : decode prog_13_method_80_code 24 = .ok (.lstore_n 1, 1) := by decide +kernel
theorem d_M_digest_25 : decode prog_13_method_80_code 25 = .ok (.iinc 3 1, 3) := by decide +kernel
theorem d_M_digest_28 : decode prog_13_method_80_code 28 = .ok (.goto (-22), 3) := by decide +kernel
theorem d_M_digest_31 : decode prog_13_method_80_code 31 = .ok (.ldc2_w 304, 3) := by decide +kernel
theorem d_M_digest_34 : decode prog_13_method_80_code 34 = .ok (.lload_n 1, 1) := by decide +kernel
theorem d_M_digest_35 : decode prog_13_method_80_code 35 = .ok (.lmul, 1) := by decide +kernel
theorem d_M_digest_36 : decode prog_13_method_80_code 36 = .ok (.aload_n 0, 1) := by decide +kernel
theorem d_M_digest_37 : decode prog_13_method_80_code 37 = .ok (.invokevirtual 131, 3) := by decide +kernel
theorem d_M_digest_40 : decode prog_13_method_80_code 40 = .ok (.i2l, 1) := by decide +kernel
theorem d_M_digest_41 : decode prog_13_method_80_code 41 = .ok (.ladd, 1) := by decide +kernel
theorem d_M_digest_42 : decode prog_13_method_80_code 42 = .ok (.lstore_n 1, 1) := by decide +kernel
theorem d_M_digest_43 : decode prog_13_method_80_code 43 = .ok (.aload_n 0, 1) := by decide +kernel
theorem d_M_digest_44 : decode prog_13_method_80_code 44 = .ok (.iconst 0, 1) := by decide +kernel
theorem d_M_digest_45 : decode prog_13_method_80_code 45 = .ok (.iconst 1, 1) := by decide +kernel
theorem d_M_digest_46 : decode prog_13_method_80_code 46 = .ok (.invokevirtual 226, 3) := by decide +kernel
theorem d_M_digest_49 : decode prog_13_method_80_code 49 = .ok (.iconst 0, 1) := by decide +kernel
theorem d_M_digest_50 : decode prog_13_method_80_code 50 = .ok (.istore_n 3, 1) := by decide +kernel
theorem d_M_digest_51 : decode prog_13_method_80_code 51 = .ok (.iload_n 3, 1) := by decide +kernel
theorem d_M_digest_52 : decode prog_13_method_80_code 52 = .ok (.aload_n 0, 1) := by decide +kernel
theorem d_M_digest_53 : decode prog_13_method_80_code 53 = .ok (.getfield 113, 3) := by decide +kernel
theorem d_M_digest_56 : decode prog_13_method_80_code 56 = .ok (.if_icmp .ge 147, 3) := by decide +kernel
theorem d_M_digest_59 : decode prog_13_method_80_code 59 = .ok (.iconst 0, 1) := by decide +kernel
theorem d_M_digest_60 : decode prog_13_method_80_code 60 = .ok (.istore 4, 2) := by decide +kernel
theorem d_M_digest_62 : decode prog_13_method_80_code 62 = .ok (.iload 4, 2) := by decide +kernel
theorem d_M_digest_64 : decode prog_13_method_80_code 64 = .ok (.iconst 3, 1) := by decide +kernel
theorem d_M_digest_65 : decode prog_13_method_80_code 65 = .ok (.if_icmp .ge 24, 3) := by decide +kernel
theorem d_M_digest_68 : decode prog_13_method_80_code 68 = .ok (.ldc2_w 304, 3) := by decide +kernel
theorem d_M_digest_71 : decode prog_13_method_80_code 71 = .ok (.lload_n 1, 1) := by decide +kernel
theorem d_M_digest_72 : decode prog_13_method_80_code 72 = .ok (.lmul, 1) := by decide +kernel
theorem d_M_digest_73 : decode prog_13_method_80_code 73 = .ok (.aload_n 0, 1) := by decide +kernel
theorem d_M_digest_74 : decode prog_13_method_80_code 74 = .ok (.iload_n 3, 1) := by decide +kernel
theorem d_M_digest_75 : decode prog_13_method_80_code 75 = .ok (.iload 4, 2) := by decide +kernel
theorem d_M_digest_77 : decode prog_13_method_80_code 77 = .ok (.invokevirtual 146, 3) := by decide +kernel
theorem d_M_digest_80 : decode prog_13_method_80_code 80 = .ok (.i2l, 1) := by decide +kernel
theorem d_M_digest_81 : decode prog_13_method_80_code 81 = .ok (.ladd, 1) := by decide +kernel
theorem d_M_digest_82 : decode prog_13_method_80_code 82 = .ok (.lstore_n 1, 1) := by decide +kernel
theorem d_M_digest_83 : decode prog_13_method_80_code 83 = .ok (.iinc 4 1, 3) := by decide +kernel
theorem d_M_digest_86 : decode prog_13_method_80_code 86 = .ok (.goto (-24), 3) := by decide +kernel
theorem d_M_digest_89 : decode prog_13_method_80_code 89 = .ok (.iconst 0, 1) := by decide +kernel
theorem d_M_digest_90 : decode prog_13_method_80_code 90 = .ok (.istore 4, 2) := by decide +kernel
theorem d_M_digest_92 : decode prog_13_method_80_code 92 = .ok (.iload 4, 2) := by decide +kernel
theorem d_M_digest_94 : decode prog_13_method_80_code 94 = .ok (.bipush 6, 2) := by decide +kernel
theorem d_M_digest_96 : decode prog_13_method_80_code 96 = .ok (.if_icmp .ge 24, 3) := by decide +kernel
theorem d_M_digest_99 : decode prog_13_method_80_code 99 = .ok (.ldc2_w 304, 3) := by decide +kernel
theorem d_M_digest_102 : decode prog_13_method_80_code 102 = .ok (.lload_n 1, 1) := by decide +kernel
theorem d_M_digest_103 : decode prog_13_method_80_code 103 = .ok (.lmul, 1) := by decide +kernel
theorem d_M_digest_104 : decode prog_13_method_80_code 104 = .ok (.aload_n 0, 1) := by decide +kernel
theorem d_M_digest_105 : decode prog_13_method_80_code 105 = .ok (.iload 4, 2) := by decide +kernel
theorem d_M_digest_107 : decode prog_13_method_80_code 107 = .ok (.iload_n 3, 1) := by decide +kernel
theorem d_M_digest_108 : decode prog_13_method_80_code 108 = .ok (.invokevirtual 176, 3) := by decide +kernel
theorem d_M_digest_111 : decode prog_13_method_80_code 111 = .ok (.i2l, 1) := by decide +kernel
theorem d_M_digest_112 : decode prog_13_method_80_code 112 = .ok (.ladd, 1) := by decide +kernel
theorem d_M_digest_113 : decode prog_13_method_80_code 113 = .ok (.lstore_n 1, 1) := by decide +kernel
theorem d_M_digest_114 : decode prog_13_method_80_code 114 = .ok (.iinc 4 1, 3) := by decide +kernel
theorem d_M_digest_117 : decode prog_13_method_80_code 117 = .ok (.goto (-25), 3) := by decide +kernel
theorem d_M_digest_120 : decode prog_13_method_80_code 120 = .ok (.iconst 0, 1) := by decide +kernel
theorem d_M_digest_121 : decode prog_13_method_80_code 121 = .ok (.istore 4, 2) := by decide +kernel
theorem d_M_digest_123 : decode prog_13_method_80_code 123 = .ok (.iload 4, 2) := by decide +kernel
theorem d_M_digest_125 : decode prog_13_method_80_code 125 = .ok (.iconst 3, 1) := by decide +kernel
theorem d_M_digest_126 : decode prog_13_method_80_code 126 = .ok (.if_icmp .ge 25, 3) := by decide +kernel
theorem d_M_digest_129 : decode prog_13_method_80_code 129 = .ok (.ldc2_w 304, 3) := by decide +kernel
theorem d_M_digest_132 : decode prog_13_method_80_code 132 = .ok (.lload_n 1, 1) := by decide +kernel
theorem d_M_digest_133 : decode prog_13_method_80_code 133 = .ok (.lmul, 1) := by decide +kernel
theorem d_M_digest_134 : decode prog_13_method_80_code 134 = .ok (.aload_n 0, 1) := by decide +kernel
theorem d_M_digest_135 : decode prog_13_method_80_code 135 = .ok (.iconst 3, 1) := by decide +kernel
theorem d_M_digest_136 : decode prog_13_method_80_code 136 = .ok (.iload_n 3, 1) := by decide +kernel
theorem d_M_digest_137 : decode prog_13_method_80_code 137 = .ok (.iload 4, 2) := by decide +kernel
theorem d_M_digest_139 : decode prog_13_method_80_code 139 = .ok (.invokevirtual 201, 3) := by decide +kernel
theorem d_M_digest_142 : decode prog_13_method_80_code 142 = .ok (.i2l, 1) := by decide +kernel
theorem d_M_digest_143 : decode prog_13_method_80_code 143 = .ok (.ladd, 1) := by decide +kernel
theorem d_M_digest_144 : decode prog_13_method_80_code 144 = .ok (.lstore_n 1, 1) := by decide +kernel
theorem d_M_digest_145 : decode prog_13_method_80_code 145 = .ok (.iinc 4 1, 3) := by decide +kernel
theorem d_M_digest_148 : decode prog_13_method_80_code 148 = .ok (.goto (-25), 3) := by decide +kernel
theorem d_M_digest_151 : decode prog_13_method_80_code 151 = .ok (.ldc2_w 304, 3) := by decide +kernel
theorem d_M_digest_154 : decode prog_13_method_80_code 154 = .ok (.lload_n 1, 1) := by decide +kernel
theorem d_M_digest_155 : decode prog_13_method_80_code 155 = .ok (.lmul, 1) := by decide +kernel
theorem d_M_digest_156 : decode prog_13_method_80_code 156 = .ok (.aload_n 0, 1) := by decide +kernel
theorem d_M_digest_157 : decode prog_13_method_80_code 157 = .ok (.iconst 3, 1) := by decide +kernel
theorem d_M_digest_158 : decode prog_13_method_80_code 158 = .ok (.iload_n 3, 1) := by decide +kernel
theorem d_M_digest_159 : decode prog_13_method_80_code 159 = .ok (.iconst 1, 1) := by decide +kernel
theorem d_M_digest_160 : decode prog_13_method_80_code 160 = .ok (.iconst 0, 1) := by decide +kernel
theorem d_M_digest_161 : decode prog_13_method_80_code 161 = .ok (.invokevirtual 204, 3) := by decide +kernel
theorem d_M_digest_164 : decode prog_13_method_80_code 164 = .ok (.i2l, 1) := by decide +kernel
theorem d_M_digest_165 : decode prog_13_method_80_code 165 = .ok (.ladd, 1) := by decide +kernel
theorem d_M_digest_166 : decode prog_13_method_80_code 166 = .ok (.lstore_n 1, 1) := by decide +kernel
theorem d_M_digest_167 : decode prog_13_method_80_code 167 = .ok (.ldc2_w 304, 3) := by decide +kernel
theorem d_M_digest_170 : decode prog_13_method_80_code 170 = .ok (.lload_n 1, 1) := by decide +kernel
theorem d_M_digest_171 : decode prog_13_method_80_code 171 = .ok (.lmul, 1) := by decide +kernel
theorem d_M_digest_172 : decode prog_13_method_80_code 172 = .ok (.aload_n 0, 1) := by decide +kernel
theorem d_M_digest_173 : decode prog_13_method_80_code 173 = .ok (.iconst 3, 1) := by decide +kernel
theorem d_M_digest_174 : decode prog_13_method_80_code 174 = .ok (.iload_n 3, 1) := by decide +kernel
theorem d_M_digest_175 : decode prog_13_method_80_code 175 = .ok (.iconst 1, 1) := by decide +kernel
theorem d_M_digest_176 : decode prog_13_method_80_code 176 = .ok (.iconst 1, 1) := by decide +kernel
theorem d_M_digest_177 : decode prog_13_method_80_code 177 = .ok (.invokevirtual 204, 3) := by decide +kernel
theorem d_M_digest_180 : decode prog_13_method_80_code 180 = .ok (.i2l, 1) := by decide +kernel
theorem d_M_digest_181 : decode prog_13_method_80_code 181 = .ok (.ladd, 1) := by decide +kernel
theorem d_M_digest_182 : decode prog_13_method_80_code 182 = .ok (.lstore_n 1, 1) := by decide +kernel
theorem d_M_digest_183 : decode prog_13_method_80_code 183 = .ok (.ldc2_w 304, 3) := by decide +kernel
theorem d_M_digest_186 : decode prog_13_method_80_code 186 = .ok (.lload_n 1, 1) := by decide +kernel
theorem d_M_digest_187 : decode prog_13_method_80_code 187 = .ok (.lmul, 1) := by decide +kernel
theorem d_M_digest_188 : decode prog_13_method_80_code 188 = .ok (.aload_n 0, 1) := by decide +kernel
theorem d_M_digest_189 : decode prog_13_method_80_code 189 = .ok (.getfield 55, 3) := by decide +kernel
theorem d_M_digest_192 : decode prog_13_method_80_code 192 = .ok (.iload_n 3, 1) := by decide +kernel
theorem d_M_digest_193 : decode prog_13_method_80_code 193 = .ok (.iaload, 1) := by decide +kernel
theorem d_M_digest_194 : decode prog_13_method_80_code 194 = .ok (.i2l, 1) := by decide +kernel
theorem d_M_digest_195 : decode prog_13_method_80_code 195 = .ok (.ladd, 1) := by decide +kernel
theorem d_M_digest_196 : decode prog_13_method_80_code 196 = .ok (.lstore_n 1, 1) := by decide +kernel
theorem d_M_digest_197 : decode prog_13_method_80_code 197 = .ok (.iinc 3 1, 3) := by decide +kernel
theorem d_M_digest_200 : decode prog_13_method_80_code 200 = .ok (.goto (-149), 3) := by decide +kernel
theorem d_M_digest_203 : decode prog_13_method_80_code 203 = .ok (.iconst 0, 1) := by decide +kernel
theorem d_M_digest_204 : decode prog_13_method_80_code 204 = .ok (.istore_n 3, 1) := by decide +kernel
theorem d_M_digest_205 : decode prog_13_method_80_code 205 = .ok (.iload_n 3, 1) := by decide +kernel
theorem d_M_digest_206 : decode prog_13_method_80_code 206 = .ok (.iconst 3, 1) := by decide +kernel
theorem d_M_digest_207 : decode prog_13_method_80_code 207 = .ok (.if_icmp .ge 22, 3) := by decide +kernel
theorem d_M_digest_210 : decode prog_13_method_80_code 210 = .ok (.ldc2_w 304, 3) := by decide +kernel
theorem d_M_digest_213 : decode prog_13_method_80_code 213 = .ok (.lload_n 1, 1) := by decide +kernel
theorem d_M_digest_214 : decode prog_13_method_80_code 214 = .ok (.lmul, 1) := by decide +kernel
theorem d_M_digest_215 : decode prog_13_method_80_code 215 = .ok (.aload_n 0, 1) := by decide +kernel
theorem d_M_digest_216 : decode prog_13_method_80_code 216 = .ok (.iload_n 3, 1) := by decide +kernel
theorem d_M_digest_217 : decode prog_13_method_80_code 217 = .ok (.invokevirtual 229, 3) := by decide +kernel
theorem d_M_digest_220 : decode prog_13_method_80_code 220 = .ok (.i2l, 1) := by decide +kernel
theorem d_M_digest_221 : decode prog_13_method_80_code 221 = .ok (.ladd, 1) := by decide +kernel
theorem d_M_digest_222 : decode prog_13_method_80_code 222 = .ok (.lstore_n 1, 1) := by decide +kernel
theorem d_M_digest_223 : decode prog_13_method_80_code 223 = .ok (.iinc 3 1, 3) := by decide +kernel
theorem d_M_digest_226 : decode prog_13_method_80_code 226 = .ok (.goto (-21), 3) := by decide +kernel
theorem d_M_digest_229 : decode prog_13_method_80_code 229 = .ok (.aload_n 0, 1) := by decide +kernel
theorem d_M_digest_230 : decode prog_13_method_80_code 230 = .ok (.iconst 4, 1) := by decide +kernel
theorem d_M_digest_231 : decode prog_13_method_80_code 231 = .ok (.iconst 5, 1) := by decide +kernel
theorem d_M_digest_232 : decode prog_13_method_80_code 232 = .ok (.invokevirtual 226, 3) := by decide +kernel
theorem d_M_digest_235 : decode prog_13_method_80_code 235 = .ok (.iconst 0, 1) := by decide +kernel
theorem d_M_digest_236 : decode prog_13_method_80_code 236 = .ok (.istore_n 3, 1) := by decide +kernel
theorem d_M_digest_237 : decode prog_13_method_80_code 237 = .ok (.iload_n 3, 1) := by decide +kernel
theorem d_M_digest_238 : decode prog_13_method_80_code 238 = .ok (.iconst 3, 1) := by decide +kernel
theorem d_M_digest_239 : decode prog_13_method_80_code 239 = .ok (.if_icmp .ge 22, 3) := by decide +kernel
theorem d_M_digest_242 : decode prog_13_method_80_code 242 = .ok (.ldc2_w 304, 3) := by decide +kernel
theorem d_M_digest_245 : decode prog_13_method_80_code 245 = .ok (.lload_n 1, 1) := by decide +kernel
theorem d_M_digest_246 : decode prog_13_method_80_code 246 = .ok (.lmul, 1) := by decide +kernel
theorem d_M_digest_247 : decode prog_13_method_80_code 247 = .ok (.aload_n 0, 1) := by decide +kernel
theorem d_M_digest_248 : decode prog_13_method_80_code 248 = .ok (.iload_n 3, 1) := by decide +kernel
theorem d_M_digest_249 : decode prog_13_method_80_code 249 = .ok (.invokevirtual 229, 3) := by decide +kernel
theorem d_M_digest_252 : decode prog_13_method_80_code 252 = .ok (.i2l, 1) := by decide +kernel
theorem d_M_digest_253 : decode prog_13_method_80_code 253 = .ok (.ladd, 1) := by decide +kernel
theorem d_M_digest_254 : decode prog_13_method_80_code 254 = .ok (.lstore_n 1, 1) := by decide +kernel
theorem d_M_digest_255 : decode prog_13_method_80_code 255 = .ok (.iinc 3 1, 3) := by decide +kernel
theorem d_M_digest_258 : decode prog_13_method_80_code 258 = .ok (.goto (-21), 3) := by decide +kernel
theorem d_M_digest_261 : decode prog_13_method_80_code 261 = .ok (.ldc2_w 304, 3) := by decide +kernel
theorem d_M_digest_264 : decode prog_13_method_80_code 264 = .ok (.lload_n 1, 1) := by decide +kernel
theorem d_M_digest_265 : decode prog_13_method_80_code 265 = .ok (.lmul, 1) := by decide +kernel
theorem d_M_digest_266 : decode prog_13_method_80_code 266 = .ok (.aload_n 0, 1) := by decide +kernel
theorem d_M_digest_267 : decode prog_13_method_80_code 267 = .ok (.iconst 0, 1) := by decide +kernel
theorem d_M_digest_268 : decode prog_13_method_80_code 268 = .ok (.iconst 1, 1) := by decide +kernel
theorem d_M_digest_269 : decode prog_13_method_80_code 269 = .ok (.iconst (-1), 1) := by decide +kernel
theorem d_M_digest_270 : decode prog_13_method_80_code 270 = .ok (.invokevirtual 242, 3) := by decide +kernel
theorem d_M_digest_273 : decode prog_13_method_80_code 273 = .ok (.i2l, 1) := by decide +kernel
theorem d_M_digest_274 : decode prog_13_method_80_code 274 = .ok (.ladd, 1) := by decide +kernel
theorem d_M_digest_275 : decode prog_13_method_80_code 275 = .ok (.lstore_n 1, 1) := by decide +kernel
theorem d_M_digest_276 : decode prog_13_method_80_code 276 = .ok (.ldc2_w 304, 3) := by decide +kernel
theorem d_M_digest_279 : decode prog_13_method_80_code 279 = .ok (.lload_n 1, 1) := by decide +kernel
theorem d_M_digest_280 : decode prog_13_method_80_code 280 = .ok (.lmul, 1) := by decide +kernel
theorem d_M_digest_281 : decode prog_13_method_80_code 281 = .ok (.aload_n 0, 1) := by decide +kernel
theorem d_M_digest_282 : decode prog_13_method_80_code 282 = .ok (.iconst 0, 1) := by decide +kernel
theorem d_M_digest_283 : decode prog_13_method_80_code 283 = .ok (.iconst 1, 1) := by decide +kernel
theorem d_M_digest_284 : decode prog_13_method_80_code 284 = .ok (.iconst 0, 1) := by decide +kernel
theorem d_M_digest_285 : decode prog_13_method_80_code 285 = .ok (.invokevirtual 242, 3) := by decide +kernel
theorem d_M_digest_288 : decode prog_13_method_80_code 288 = .ok (.i2l, 1) := by decide +kernel
theorem d_M_digest_289 : decode prog_13_method_80_code 289 = .ok (.ladd, 1) := by decide +kernel
theorem d_M_digest_290 : decode prog_13_method_80_code 290 = .ok (.lstore_n 1, 1) := by decide +kernel
theorem d_M_digest_291 : decode prog_13_method_80_code 291 = .ok (.ldc2_w 304, 3) := by decide +kernel
theorem d_M_digest_294 : decode prog_13_method_80_code 294 = .ok (.lload_n 1, 1) := by decide +kernel
theorem d_M_digest_295 : decode prog_13_method_80_code 295 = .ok (.lmul, 1) := by decide +kernel
theorem d_M_digest_296 : decode prog_13_method_80_code 296 = .ok (.aload_n 0, 1) := by decide +kernel
theorem d_M_digest_297 : decode prog_13_method_80_code 297 = .ok (.iconst 0, 1) := by decide +kernel
theorem d_M_digest_298 : decode prog_13_method_80_code 298 = .ok (.iconst 1, 1) := by decide +kernel
theorem d_M_digest_299 : decode prog_13_method_80_code 299 = .ok (.iconst 2, 1) := by decide +kernel
theorem d_M_digest_300 : decode prog_13_method_80_code 300 = .ok (.iconst 1, 1) := by decide +kernel
theorem d_M_digest_301 : decode prog_13_method_80_code 301 = .ok (.invokevirtual 235, 3) := by decide +kernel
theorem d_M_digest_304 : decode prog_13_method_80_code 304 = .ok (.i2l, 1) := by decide +kernel
theorem d_M_digest_305 : decode prog_13_method_80_code 305 = .ok (.ladd, 1) := by decide +kernel
theorem d_M_digest_306 : decode prog_13_method_80_code 306 = .ok (.lstore_n 1, 1) := by decide +kernel
theorem d_M_digest_307 : decode prog_13_method_80_code 307 = .ok (.ldc2_w 304, 3) := by decide +kernel
theorem d_M_digest_310 : decode prog_13_method_80_code 310 = .ok (.lload_n 1, 1) := by decide +kernel
theorem d_M_digest_311 : decode prog_13_method_80_code 311 = .ok (.lmul, 1) := by decide +kernel
theorem d_M_digest_312 : decode prog_13_method_80_code 312 = .ok (.aload_n 0, 1) := by decide +kernel
theorem d_M_digest_313 : decode prog_13_method_80_code 313 = .ok (.iconst 1, 1) := by decide +kernel
theorem d_M_digest_314 : decode prog_13_method_80_code 314 = .ok (.iconst 0, 1) := by decide +kernel
theorem d_M_digest_315 : decode prog_13_method_80_code 315 = .ok (.iconst 1, 1) := by decide +kernel
theorem d_M_digest_316 : decode prog_13_method_80_code 316 = .ok (.iconst 2, 1) := by decide +kernel
theorem d_M_digest_317 : decode prog_13_method_80_code 317 = .ok (.invokevirtual 235, 3) := by decide +kernel
theorem d_M_digest_320 : decode prog_13_method_80_code 320 = .ok (.i2l, 1) := by decide +kernel
theorem d_M_digest_321 : decode prog_13_method_80_code 321 = .ok (.ladd, 1) := by decide +kernel
theorem d_M_digest_322 : decode prog_13_method_80_code 322 = .ok (.lstore_n 1, 1) := by decide +kernel
theorem d_M_digest_323 : decode prog_13_method_80_code 323 = .ok (.ldc2_w 304, 3) := by decide +kernel
theorem d_M_digest_326 : decode prog_13_method_80_code 326 = .ok (.lload_n 1, 1) := by decide +kernel
theorem d_M_digest_327 : decode prog_13_method_80_code 327 = .ok (.lmul, 1) := by decide +kernel
theorem d_M_digest_328 : decode prog_13_method_80_code 328 = .ok (.aload_n 0, 1) := by decide +kernel
theorem d_M_digest_329 : decode prog_13_method_80_code 329 = .ok (.bipush 63, 2) := by decide +kernel
theorem d_M_digest_331 : decode prog_13_method_80_code 331 = .ok (.iconst (-1), 1) := by decide +kernel
theorem d_M_digest_332 : decode prog_13_method_80_code 332 = .ok (.invokevirtual 258, 3) := by decide +kernel
theorem d_M_digest_335 : decode prog_13_method_80_code 335 = .ok (.i2l, 1) := by decide +kernel
theorem d_M_digest_336 : decode prog_13_method_80_code 336 = .ok (.ladd, 1) := by decide +kernel
theorem d_M_digest_337 : decode prog_13_method_80_code 337 = .ok (.lstore_n 1, 1) := by decide +kernel
theorem d_M_digest_338 : decode prog_13_method_80_code 338 = .ok (.iconst 0, 1) := by decide +kernel
theorem d_M_digest_339 : decode prog_13_method_80_code 339 = .ok (.istore_n 3, 1) := by decide +kernel
theorem d_M_digest_340 : decode prog_13_method_80_code 340 = .ok (.iload_n 3, 1) := by decide +kernel
theorem d_M_digest_341 : decode prog_13_method_80_code 341 = .ok (.bipush 6, 2) := by decide +kernel
theorem d_M_digest_343 : decode prog_13_method_80_code 343 = .ok (.if_icmp .ge 54, 3) := by decide +kernel
theorem d_M_digest_346 : decode prog_13_method_80_code 346 = .ok (.ldc2_w 304, 3) := by decide +kernel
theorem d_M_digest_349 : decode prog_13_method_80_code 349 = .ok (.lload_n 1, 1) := by decide +kernel
theorem d_M_digest_350 : decode prog_13_method_80_code 350 = .ok (.lmul, 1) := by decide +kernel
theorem d_M_digest_351 : decode prog_13_method_80_code 351 = .ok (.aload_n 0, 1) := by decide +kernel
theorem d_M_digest_352 : decode prog_13_method_80_code 352 = .ok (.bipush 63, 2) := by decide +kernel
theorem d_M_digest_354 : decode prog_13_method_80_code 354 = .ok (.iload_n 3, 1) := by decide +kernel
theorem d_M_digest_355 : decode prog_13_method_80_code 355 = .ok (.invokevirtual 258, 3) := by decide +kernel
theorem d_M_digest_358 : decode prog_13_method_80_code 358 = .ok (.i2l, 1) := by decide +kernel
theorem d_M_digest_359 : decode prog_13_method_80_code 359 = .ok (.ladd, 1) := by decide +kernel
theorem d_M_digest_360 : decode prog_13_method_80_code 360 = .ok (.lstore_n 1, 1) := by decide +kernel
theorem d_M_digest_361 : decode prog_13_method_80_code 361 = .ok (.iconst 0, 1) := by decide +kernel
theorem d_M_digest_362 : decode prog_13_method_80_code 362 = .ok (.istore 4, 2) := by decide +kernel
theorem d_M_digest_364 : decode prog_13_method_80_code 364 = .ok (.iload 4, 2) := by decide +kernel
theorem d_M_digest_366 : decode prog_13_method_80_code 366 = .ok (.iconst 3, 1) := by decide +kernel
theorem d_M_digest_367 : decode prog_13_method_80_code 367 = .ok (.if_icmp .ge 24, 3) := by decide +kernel
theorem d_M_digest_370 : decode prog_13_method_80_code 370 = .ok (.ldc2_w 304, 3) := by decide +kernel
theorem d_M_digest_373 : decode prog_13_method_80_code 373 = .ok (.lload_n 1, 1) := by decide +kernel
theorem d_M_digest_374 : decode prog_13_method_80_code 374 = .ok (.lmul, 1) := by decide +kernel
theorem d_M_digest_375 : decode prog_13_method_80_code 375 = .ok (.aload_n 0, 1) := by decide +kernel
theorem d_M_digest_376 : decode prog_13_method_80_code 376 = .ok (.iload_n 3, 1) := by decide +kernel
theorem d_M_digest_377 : decode prog_13_method_80_code 377 = .ok (.iload 4, 2) := by decide +kernel
theorem d_M_digest_379 : decode prog_13_method_80_code 379 = .ok (.invokevirtual 264, 3) := by decide +kernel
theorem d_M_digest_382 : decode prog_13_method_80_code 382 = .ok (.i2l, 1) := by decide +kernel
theorem d_M_digest_383 : decode prog_13_method_80_code 383 = .ok (.ladd, 1) := by decide +kernel
theorem d_M_digest_384 : decode prog_13_method_80_code 384 = .ok (.lstore_n 1, 1) := by decide +kernel
theorem d_M_digest_385 : decode prog_13_method_80_code 385 = .ok (.iinc 4 1, 3) := by decide +kernel
theorem d_M_digest_388 : decode prog_13_method_80_code 388 = .ok (.goto (-24), 3) := by decide +kernel
theorem d_M_digest_391 : decode prog_13_method_80_code 391 = .ok (.iinc 3 1, 3) := by decide +kernel
theorem d_M_digest_394 : decode prog_13_method_80_code 394 = .ok (.goto (-54), 3) := by decide +kernel
theorem d_M_digest_397 : decode prog_13_method_80_code 397 = .ok (.ldc2_w 304, 3) := by decide +kernel
theorem d_M_digest_400 : decode prog_13_method_80_code 400 = .ok (.lload_n 1, 1) := by decide +kernel
theorem d_M_digest_401 : decode prog_13_method_80_code 401 = .ok (.lmul, 1) := by decide +kernel
theorem d_M_digest_402 : decode prog_13_method_80_code 402 = .ok (.aload_n 0, 1) := by decide +kernel
theorem d_M_digest_403 : decode prog_13_method_80_code 403 = .ok (.invokevirtual 267, 3) := by decide +kernel
theorem d_M_digest_406 : decode prog_13_method_80_code 406 = .ok (.i2l, 1) := by decide +kernel
theorem d_M_digest_407 : decode prog_13_method_80_code 407 = .ok (.ladd, 1) := by decide +kernel
theorem d_M_digest_408 : decode prog_13_method_80_code 408 = .ok (.lstore_n 1, 1) := by decide +kernel
theorem d_M_digest_409 : decode prog_13_method_80_code 409 = .ok (.iconst 0, 1) := by decide +kernel
theorem d_M_digest_410 : decode prog_13_method_80_code 410 = .ok (.istore_n 3, 1) := by decide +kernel
theorem d_M_digest_411 : decode prog_13_method_80_code 411 = .ok (.iload_n 3, 1) := by decide +kernel
theorem d_M_digest_412 : decode prog_13_method_80_code 412 = .ok (.iconst 2, 1) := by decide +kernel
theorem d_M_digest_413 : decode prog_13_method_80_code 413 = .ok (.if_icmp .ge 25, 3) := by decide +kernel
theorem d_M_digest_416 : decode prog_13_method_80_code 416 = .ok (.ldc2_w 304, 3) := by decide +kernel
theorem d_M_digest_419 : decode prog_13_method_80_code 419 = .ok (.lload_n 1, 1) := by decide +kernel
theorem d_M_digest_420 : decode prog_13_method_80_code 420 = .ok (.lmul, 1) := by decide +kernel
theorem d_M_digest_421 : decode prog_13_method_80_code 421 = .ok (.aload_n 0, 1) := by decide +kernel
theorem d_M_digest_422 : decode prog_13_method_80_code 422 = .ok (.bipush 7, 2) := by decide +kernel
theorem d_M_digest_424 : decode prog_13_method_80_code 424 = .ok (.bipush 60, 2) := by decide +kernel
theorem d_M_digest_426 : decode prog_13_method_80_code 426 = .ok (.iload_n 3, 1) := by decide +kernel
theorem d_M_digest_427 : decode prog_13_method_80_code 427 = .ok (.invokevirtual 295, 3) := by decide +kernel
theorem d_M_digest_430 : decode prog_13_method_80_code 430 = .ok (.ladd, 1) := by decide +kernel
theorem d_M_digest_431 : decode prog_13_method_80_code 431 = .ok (.lstore_n 1, 1) := by decide +kernel
theorem d_M_digest_432 : decode prog_13_method_80_code 432 = .ok (.iinc 3 1, 3) := by decide +kernel
theorem d_M_digest_435 : decode prog_13_method_80_code 435 = .ok (.goto (-24), 3) := by decide +kernel
theorem d_M_digest_438 : decode prog_13_method_80_code 438 = .ok (.iconst 0, 1) := by decide +kernel
theorem d_M_digest_439 : decode prog_13_method_80_code 439 = .ok (.istore_n 3, 1) := by decide +kernel
theorem d_M_digest_440 : decode prog_13_method_80_code 440 = .ok (.iload_n 3, 1) := by decide +kernel
theorem d_M_digest_441 : decode prog_13_method_80_code 441 = .ok (.iconst 2, 1) := by decide +kernel
theorem d_M_digest_442 : decode prog_13_method_80_code 442 = .ok (.if_icmp .ge 23, 3) := by decide +kernel
theorem d_M_digest_445 : decode prog_13_method_80_code 445 = .ok (.ldc2_w 304, 3) := by decide +kernel
theorem d_M_digest_448 : decode prog_13_method_80_code 448 = .ok (.lload_n 1, 1) := by decide +kernel
theorem d_M_digest_449 : decode prog_13_method_80_code 449 = .ok (.lmul, 1) := by decide +kernel
theorem d_M_digest_450 : decode prog_13_method_80_code 450 = .ok (.aload_n 0, 1) := by decide +kernel
theorem d_M_digest_451 : decode prog_13_method_80_code 451 = .ok (.bipush 7, 2) := by decide +kernel
theorem d_M_digest_453 : decode prog_13_method_80_code 453 = .ok (.iload_n 3, 1) := by decide +kernel
theorem d_M_digest_454 : decode prog_13_method_80_code 454 = .ok (.invokevirtual 299, 3) := by decide +kernel
theorem d_M_digest_457 : decode prog_13_method_80_code 457 = .ok (.ladd, 1) := by decide +kernel
theorem d_M_digest_458 : decode prog_13_method_80_code 458 = .ok (.lstore_n 1, 1) := by decide +kernel
theorem d_M_digest_459 : decode prog_13_method_80_code 459 = .ok (.iinc 3 1, 3) := by decide +kernel
theorem d_M_digest_462 : decode prog_13_method_80_code 462 = .ok (.goto (-22), 3) := by decide +kernel
theorem d_M_digest_465 : decode prog_13_method_80_code 465 = .ok (.lload_n 1, 1) := by decide +kernel
theorem d_M_digest_466 : decode prog_13_method_80_code 466 = .ok (.lreturn, 1) := by decide +kernel
