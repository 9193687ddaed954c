-- what the bytes decode to (by program: wip/gen/gen_meth.py)
theorem d_O_type_0 : decode prog_1_method_2_code 0 = .ok (.iload_n 1, 1) := by decide +kernel
theorem d_O_type_1 : decode prog_1_method_2_code 1 = .ok (.iconst 0, 1) := by decide +kernel
theorem d_O_type_2 : decode prog_1_method_2_code 2 = .ok (.sipush 255, 3) := by decide +kernel
theorem d_O_type_5 : decode prog_1_method_2_code 5 = .ok (.invokestatic 86, 3) := by decide +kernel
theorem d_O_type_8 : decode prog_1_method_2_code 8 = .ok (.ifCond .ne 6, 3) := by decide +kernel
theorem d_O_type_11 : decode prog_1_method_2_code 11 = .ok (.bipush (-2), 2) := by decide +kernel
theorem d_O_type_13 : decode prog_1_method_2_code 13 = .ok (.ireturn, 1) := by decide +kernel
theorem d_O_type_14 : decode prog_1_method_2_code 14 = .ok (.aload_n 0, 1) := by decide +kernel
theorem d_O_type_15 : decode prog_1_method_2_code 15 = .ok (.getfield 10, 3) := by decide +kernel
theorem d_O_type_18 : decode prog_1_method_2_code 18 = .ok (.iload_n 1, 1) := by decide +kernel
theorem d_O_type_19 : decode prog_1_method_2_code 19 = .ok (.invokevirtual 90, 3) := by decide +kernel
theorem d_O_type_22 : decode prog_1_method_2_code 22 = .ok (.ifCond .eq 13, 3) := by decide +kernel
theorem d_O_type_25 : decode prog_1_method_2_code 25 = .ok (.aload_n 0, 1) := by decide +kernel
theorem d_O_type_26 : decode prog_1_method_2_code 26 = .ok (.getfield 10, 3) := by decide +kernel
theorem d_O_type_29 : decode prog_1_method_2_code 29 = .ok (.invokevirtual 94, 3) := by decide +kernel
theorem d_O_type_32 : decode prog_1_method_2_code 32 = .ok (.goto 5, 3) := by decide +kernel
theorem d_O_type_35 : decode prog_1_method_2_code 35 = .ok (.bipush (-4), 2) := by decide +kernel
theorem d_O_type_37 : decode prog_1_method_2_code 37 = .ok (.ireturn, 1) := by decide +kernel
theorem d_O_wipe_0 : decode prog_1_method_3_code 0 = .ok (.aload_n 0, 1) := by decide +kernel
theorem d_O_wipe_1 : decode prog_1_method_3_code 1 = .ok (.getfield 10, 3) := by decide +kernel
theorem d_O_wipe_4 : decode prog_1_method_3_code 4 = .ok (.invokevirtual 94, 3) := by decide +kernel
theorem d_O_wipe_7 : decode prog_1_method_3_code 7 = .ok (.istore_n 1, 1) := by decide +kernel
theorem d_O_wipe_8 : decode prog_1_method_3_code 8 = .ok (.aload_n 0, 1) := by decide +kernel
theorem d_O_wipe_9 : decode prog_1_method_3_code 9 = .ok (.getfield 10, 3) := by decide +kernel
theorem d_O_wipe_12 : decode prog_1_method_3_code 12 = .ok (.invokevirtual 98, 3) := by decide +kernel
theorem d_O_wipe_15 : decode prog_1_method_3_code 15 = .ok (.iload_n 1, 1) := by decide +kernel
theorem d_O_wipe_16 : decode prog_1_method_3_code 16 = .ok (.ireturn, 1) := by decide +kernel
theorem d_O_fault_0 : decode prog_1_method_4_code 0 = .ok (.aload_n 0, 1) := by decide +kernel
theorem d_O_fault_1 : decode prog_1_method_4_code 1 = .ok (.getfield 10, 3) := by decide +kernel
theorem d_O_fault_4 : decode prog_1_method_4_code 4 = .ok (.invokevirtual 101, 3) := by decide +kernel
theorem d_O_fault_7 : decode prog_1_method_4_code 7 = .ok (.ireturn, 1) := by decide +kernel
theorem d_O_chapter_0 : decode prog_1_method_5_code 0 = .ok (.aload_n 0, 1) := by decide +kernel
theorem d_O_chapter_1 : decode prog_1_method_5_code 1 = .ok (.iload_n 1, 1) := by decide +kernel
theorem d_O_chapter_2 : decode prog_1_method_5_code 2 = .ok (.invokevirtual 104, 3) := by decide +kernel
theorem d_O_chapter_5 : decode prog_1_method_5_code 5 = .ok (.ifCond .eq 12, 3) := by decide +kernel
theorem d_O_chapter_8 : decode prog_1_method_5_code 8 = .ok (.iload_n 2, 1) := by decide +kernel
theorem d_O_chapter_9 : decode prog_1_method_5_code 9 = .ok (.iconst 0, 1) := by decide +kernel
theorem d_O_chapter_10 : decode prog_1_method_5_code 10 = .ok (.iconst 2, 1) := by decide +kernel
theorem d_O_chapter_11 : decode prog_1_method_5_code 11 = .ok (.invokestatic 86, 3) := by decide +kernel
theorem d_O_chapter_14 : decode prog_1_method_5_code 14 = .ok (.ifCond .ne 6, 3) := by decide +kernel
theorem d_O_chapter_17 : decode prog_1_method_5_code 17 = .ok (.bipush (-2), 2) := by decide +kernel
theorem d_O_chapter_19 : decode prog_1_method_5_code 19 = .ok (.ireturn, 1) := by decide +kernel
theorem d_O_chapter_20 : decode prog_1_method_5_code 20 = .ok (.iload_n 2, 1) := by decide +kernel
theorem d_O_chapter_21 : decode prog_1_method_5_code 21 = .ok (.ifCond .ne 12, 3) := by decide +kernel
theorem d_O_chapter_24 : decode prog_1_method_5_code 24 = .ok (.aload_n 0, 1) := by decide +kernel
theorem d_O_chapter_25 : decode prog_1_method_5_code 25 = .ok (.getfield 10, 3) := by decide +kernel
theorem d_O_chapter_28 : decode prog_1_method_5_code 28 = .ok (.iload_n 1, 1) := by decide +kernel
theorem d_O_chapter_29 : decode prog_1_method_5_code 29 = .ok (.invokevirtual 107, 3) := by decide +kernel
theorem d_O_chapter_32 : decode prog_1_method_5_code 32 = .ok (.ireturn, 1) := by decide +kernel
theorem d_O_chapter_33 : decode prog_1_method_5_code 33 = .ok (.iload_n 2, 1) := by decide +kernel
theorem d_O_chapter_34 : decode prog_1_method_5_code 34 = .ok (.iconst 1, 1) := by decide +kernel
theorem d_O_chapter_35 : decode prog_1_method_5_code 35 = .ok (.if_icmp .ne 14, 3) := by decide +kernel
theorem d_O_chapter_38 : decode prog_1_method_5_code 38 = .ok (.aload_n 0, 1) := by decide +kernel
theorem d_O_chapter_39 : decode prog_1_method_5_code 39 = .ok (.getfield 10, 3) := by decide +kernel
theorem d_O_chapter_42 : decode prog_1_method_5_code 42 = .ok (.iload_n 1, 1) := by decide +kernel
theorem d_O_chapter_43 : decode prog_1_method_5_code 43 = .ok (.invokevirtual 111, 3) := by decide +kernel
theorem d_O_chapter_46 : decode prog_1_method_5_code 46 = .ok (.goto 14, 3) := by decide +kernel
theorem d_O_chapter_49 : decode prog_1_method_5_code 49 = .ok (.aload_n 0, 1) := by decide +kernel
theorem d_O_chapter_50 : decode prog_1_method_5_code 50 = .ok (.getfield 21, 3) := by decide +kernel
theorem d_O_chapter_53 : decode prog_1_method_5_code 53 = .ok (.iload_n 1, 1) := by decide +kernel
theorem d_O_chapter_54 : decode prog_1_method_5_code 54 = .ok (.invokevirtual 114, 3) := by decide +kernel
theorem d_O_chapter_57 : decode prog_1_method_5_code 57 = .ok (.invokestatic 117, 3) := by decide +kernel
theorem d_O_chapter_60 : decode prog_1_method_5_code 60 = .ok (.ireturn, 1) := by decide +kernel
theorem d_O_pace_0 : decode prog_1_method_6_code 0 = .ok (.iload_n 1, 1) := by decide +kernel
theorem d_O_pace_1 : decode prog_1_method_6_code 1 = .ok (.invokestatic 121, 3) := by decide +kernel
theorem d_O_pace_4 : decode prog_1_method_6_code 4 = .ok (.ifCond .eq 20, 3) := by decide +kernel
theorem d_O_pace_7 : decode prog_1_method_6_code 7 = .ok (.iload_n 2, 1) := by decide +kernel
theorem d_O_pace_8 : decode prog_1_method_6_code 8 = .ok (.invokestatic 124, 3) := by decide +kernel
theorem d_O_pace_11 : decode prog_1_method_6_code 11 = .ok (.ifCond .eq 13, 3) := by decide +kernel
theorem d_O_pace_14 : decode prog_1_method_6_code 14 = .ok (.iload_n 3, 1) := by decide +kernel
theorem d_O_pace_15 : decode prog_1_method_6_code 15 = .ok (.iconst 1, 1) := by decide +kernel
theorem d_O_pace_16 : decode prog_1_method_6_code 16 = .ok (.bipush 9, 2) := by decide +kernel
theorem d_O_pace_18 : decode prog_1_method_6_code 18 = .ok (.invokestatic 86, 3) := by decide +kernel
theorem d_O_pace_21 : decode prog_1_method_6_code 21 = .ok (.ifCond .ne 6, 3) := by decide +kernel
theorem d_O_pace_24 : decode prog_1_method_6_code 24 = .ok (.bipush (-2), 2) := by decide +kernel
theorem d_O_pace_26 : decode prog_1_method_6_code 26 = .ok (.ireturn, 1) := by decide +kernel
theorem d_O_pace_27 : decode prog_1_method_6_code 27 = .ok (.aload_n 0, 1) := by decide +kernel
theorem d_O_pace_28 : decode prog_1_method_6_code 28 = .ok (.getfield 21, 3) := by decide +kernel
theorem d_O_pace_31 : decode prog_1_method_6_code 31 = .ok (.iload_n 1, 1) := by decide +kernel
theorem d_O_pace_32 : decode prog_1_method_6_code 32 = .ok (.invokevirtual 127, 3) := by decide +kernel
theorem d_O_pace_35 : decode prog_1_method_6_code 35 = .ok (.iload_n 2, 1) := by decide +kernel
theorem d_O_pace_36 : decode prog_1_method_6_code 36 = .ok (.iload_n 3, 1) := by decide +kernel
theorem d_O_pace_37 : decode prog_1_method_6_code 37 = .ok (.invokevirtual 131, 3) := by decide +kernel
theorem d_O_pace_40 : decode prog_1_method_6_code 40 = .ok (.ireturn, 1) := by decide +kernel
theorem d_O_read_0 : decode prog_1_method_7_code 0 = .ok (.iload_n 1, 1) := by decide +kernel
theorem d_O_read_1 : decode prog_1_method_7_code 1 = .ok (.invokestatic 137, 3) := by decide +kernel
theorem d_O_read_4 : decode prog_1_method_7_code 4 = .ok (.ifCond .eq 10, 3) := by decide +kernel
theorem d_O_read_7 : decode prog_1_method_7_code 7 = .ok (.iload_n 2, 1) := by decide +kernel
theorem d_O_read_8 : decode prog_1_method_7_code 8 = .ok (.invokestatic 121, 3) := by decide +kernel
theorem d_O_read_11 : decode prog_1_method_7_code 11 = .ok (.ifCond .ne 6, 3) := by decide +kernel
theorem d_O_read_14 : decode prog_1_method_7_code 14 = .ok (.bipush (-2), 2) := by decide +kernel
theorem d_O_read_16 : decode prog_1_method_7_code 16 = .ok (.ireturn, 1) := by decide +kernel
theorem d_O_read_17 : decode prog_1_method_7_code 17 = .ok (.aload_n 0, 1) := by decide +kernel
theorem d_O_read_18 : decode prog_1_method_7_code 18 = .ok (.getfield 71, 3) := by decide +kernel
theorem d_O_read_21 : decode prog_1_method_7_code 21 = .ok (.iload_n 1, 1) := by decide +kernel
theorem d_O_read_22 : decode prog_1_method_7_code 22 = .ok (.aaload, 1) := by decide +kernel
theorem d_O_read_23 : decode prog_1_method_7_code 23 = .ok (.astore_n 3, 1) := by decide +kernel
theorem d_O_read_24 : decode prog_1_method_7_code 24 = .ok (.aload_n 3, 1) := by decide +kernel
theorem d_O_read_25 : decode prog_1_method_7_code 25 = .ok (.invokevirtual 140, 3) := by decide +kernel
theorem d_O_read_28 : decode prog_1_method_7_code 28 = .ok (.ifCond .eq 9, 3) := by decide +kernel
theorem d_O_read_31 : decode prog_1_method_7_code 31 = .ok (.aload_n 0, 1) := by decide +kernel
theorem d_O_read_32 : decode prog_1_method_7_code 32 = .ok (.iconst 1, 1) := by decide +kernel
theorem d_O_read_33 : decode prog_1_method_7_code 33 = .ok (.invokevirtual 144, 3) := by decide +kernel
theorem d_O_read_36 : decode prog_1_method_7_code 36 = .ok (.ireturn, 1) := by decide +kernel
theorem d_O_read_37 : decode prog_1_method_7_code 37 = .ok (.iconst 3, 1) := by decide +kernel
theorem d_O_read_38 : decode prog_1_method_7_code 38 = .ok (.aload_n 3, 1) := by decide +kernel
theorem d_O_read_39 : decode prog_1_method_7_code 39 = .ok (.invokevirtual 147, 3) := by decide +kernel
theorem d_O_read_42 : decode prog_1_method_7_code 42 = .ok (.invokestatic 148, 3) := by decide +kernel
theorem d_O_read_45 : decode prog_1_method_7_code 45 = .ok (.istore 4, 2) := by decide +kernel
theorem d_O_read_47 : decode prog_1_method_7_code 47 = .ok (.iconst 0, 1) := by decide +kernel
theorem d_O_read_48 : decode prog_1_method_7_code 48 = .ok (.istore 5, 2) := by decide +kernel
theorem d_O_read_50 : decode prog_1_method_7_code 50 = .ok (.iload 5, 2) := by decide +kernel
theorem d_O_read_52 : decode prog_1_method_7_code 52 = .ok (.iload 4, 2) := by decide +kernel
theorem d_O_read_54 : decode prog_1_method_7_code 54 = .ok (.if_icmp .ge 44, 3) := by decide +kernel
theorem d_O_read_57 : decode prog_1_method_7_code 57 = .ok (.aload_n 3, 1) := by decide +kernel
theorem d_O_read_58 : decode prog_1_method_7_code 58 = .ok (.iload 5, 2) := by decide +kernel
theorem d_O_read_60 : decode prog_1_method_7_code 60 = .ok (.invokevirtual 153, 3) := by decide +kernel
theorem d_O_read_63 : decode prog_1_method_7_code 63 = .ok (.iconst 1, 1) := by decide +kernel
theorem d_O_read_64 : decode prog_1_method_7_code 64 = .ok (.bipush 9, 2) := by decide +kernel
theorem d_O_read_66 : decode prog_1_method_7_code 66 = .ok (.invokestatic 86, 3) := by decide +kernel
theorem d_O_read_69 : decode prog_1_method_7_code 69 = .ok (.ifCond .eq 29, 3) := by decide +kernel
theorem d_O_read_72 : decode prog_1_method_7_code 72 = .ok (.aload_n 0, 1) := by decide +kernel
theorem d_O_read_73 : decode prog_1_method_7_code 73 = .ok (.getfield 21, 3) := by decide +kernel
theorem d_O_read_76 : decode prog_1_method_7_code 76 = .ok (.iload_n 2, 1) := by decide +kernel
theorem d_O_read_77 : decode prog_1_method_7_code 77 = .ok (.invokevirtual 127, 3) := by decide +kernel
theorem d_O_read_80 : decode prog_1_method_7_code 80 = .ok (.iload 5, 2) := by decide +kernel
theorem d_O_read_82 : decode prog_1_method_7_code 82 = .ok (.aload_n 3, 1) := by decide +kernel
theorem d_O_read_83 : decode prog_1_method_7_code 83 = .ok (.iload 5, 2) := by decide +kernel
theorem d_O_read_85 : decode prog_1_method_7_code 85 = .ok (.invokevirtual 153, 3) := by decide +kernel
theorem d_O_read_88 : decode prog_1_method_7_code 88 = .ok (.invokevirtual 131, 3) := by decide +kernel
theorem d_O_read_91 : decode prog_1_method_7_code 91 = .ok (.pop, 1) := by decide +kernel
theorem d_O_read_92 : decode prog_1_method_7_code 92 = .ok (.iinc 5 1, 3) := by decide +kernel
theorem d_O_read_95 : decode prog_1_method_7_code 95 = .ok (.goto (-45), 3) := by decide +kernel
theorem d_O_read_98 : decode prog_1_method_7_code 98 = .ok (.iload 5, 2) := by decide +kernel
theorem d_O_read_100 : decode prog_1_method_7_code 100 = .ok (.ireturn, 1) := by decide +kernel
theorem d_O_like_0 : decode prog_1_method_8_code 0 = .ok (.iload_n 1, 1) := by decide +kernel
theorem d_O_like_1 : decode prog_1_method_8_code 1 = .ok (.invokestatic 121, 3) := by decide +kernel
theorem d_O_like_4 : decode prog_1_method_8_code 4 = .ok (.ifCond .eq 22, 3) := by decide +kernel
theorem d_O_like_7 : decode prog_1_method_8_code 7 = .ok (.iload_n 2, 1) := by decide +kernel
theorem d_O_like_8 : decode prog_1_method_8_code 8 = .ok (.iconst 0, 1) := by decide +kernel
theorem d_O_like_9 : decode prog_1_method_8_code 9 = .ok (.bipush 7, 2) := by decide +kernel
theorem d_O_like_11 : decode prog_1_method_8_code 11 = .ok (.invokestatic 86, 3) := by decide +kernel
theorem d_O_like_14 : decode prog_1_method_8_code 14 = .ok (.ifCond .eq 12, 3) := by decide +kernel
theorem d_O_like_17 : decode prog_1_method_8_code 17 = .ok (.iload_n 3, 1) := by decide +kernel
theorem d_O_like_18 : decode prog_1_method_8_code 18 = .ok (.iconst 0, 1) := by decide +kernel
theorem d_O_like_19 : decode prog_1_method_8_code 19 = .ok (.iconst 1, 1) := by decide +kernel
theorem d_O_like_20 : decode prog_1_method_8_code 20 = .ok (.invokestatic 86, 3) := by decide +kernel
theorem d_O_like_23 : decode prog_1_method_8_code 23 = .ok (.ifCond .ne 6, 3) := by decide +kernel
theorem d_O_like_26 : decode prog_1_method_8_code 26 = .ok (.bipush (-2), 2) := by decide +kernel
theorem d_O_like_28 : decode prog_1_method_8_code 28 = .ok (.ireturn, 1) := by decide +kernel
theorem d_O_like_29 : decode prog_1_method_8_code 29 = .ok (.aload_n 0, 1) := by decide +kernel
theorem d_O_like_30 : decode prog_1_method_8_code 30 = .ok (.getfield 21, 3) := by decide +kernel
theorem d_O_like_33 : decode prog_1_method_8_code 33 = .ok (.iload_n 1, 1) := by decide +kernel
theorem d_O_like_34 : decode prog_1_method_8_code 34 = .ok (.invokevirtual 127, 3) := by decide +kernel
theorem d_O_like_37 : decode prog_1_method_8_code 37 = .ok (.iload_n 2, 1) := by decide +kernel
theorem d_O_like_38 : decode prog_1_method_8_code 38 = .ok (.iload_n 3, 1) := by decide +kernel
theorem d_O_like_39 : decode prog_1_method_8_code 39 = .ok (.iconst 1, 1) := by decide +kernel
theorem d_O_like_40 : decode prog_1_method_8_code 40 = .ok (.if_icmp .ne 7, 3) := by decide +kernel
theorem d_O_like_43 : decode prog_1_method_8_code 43 = .ok (.iconst 1, 1) := by decide +kernel
theorem d_O_like_44 : decode prog_1_method_8_code 44 = .ok (.goto 4, 3) := by decide +kernel
theorem d_O_like_47 : decode prog_1_method_8_code 47 = .ok (.iconst 0, 1) := by decide +kernel
theorem d_O_like_48 : decode prog_1_method_8_code 48 = .ok (.invokevirtual 156, 3) := by decide +kernel
theorem d_O_like_51 : decode prog_1_method_8_code 51 = .ok (.invokestatic 117, 3) := by decide +kernel
theorem d_O_like_54 : decode prog_1_method_8_code 54 = .ok (.ireturn, 1) := by decide +kernel
theorem d_O_skip_0 : decode prog_1_method_9_code 0 = .ok (.iload_n 1, 1) := by decide +kernel
theorem d_O_skip_1 : decode prog_1_method_9_code 1 = .ok (.iconst 0, 1) := by decide +kernel
theorem d_O_skip_2 : decode prog_1_method_9_code 2 = .ok (.bipush 7, 2) := by decide +kernel
theorem d_O_skip_4 : decode prog_1_method_9_code 4 = .ok (.invokestatic 86, 3) := by decide +kernel
theorem d_O_skip_7 : decode prog_1_method_9_code 7 = .ok (.ifCond .eq 12, 3) := by decide +kernel
theorem d_O_skip_10 : decode prog_1_method_9_code 10 = .ok (.iload_n 2, 1) := by decide +kernel
theorem d_O_skip_11 : decode prog_1_method_9_code 11 = .ok (.iconst 0, 1) := by decide +kernel
theorem d_O_skip_12 : decode prog_1_method_9_code 12 = .ok (.iconst 1, 1) := by decide +kernel
theorem d_O_skip_13 : decode prog_1_method_9_code 13 = .ok (.invokestatic 86, 3) := by decide +kernel
theorem d_O_skip_16 : decode prog_1_method_9_code 16 = .ok (.ifCond .ne 6, 3) := by decide +kernel
theorem d_O_skip_19 : decode prog_1_method_9_code 19 = .ok (.bipush (-2), 2) := by decide +kernel
theorem d_O_skip_21 : decode prog_1_method_9_code 21 = .ok (.ireturn, 1) := by decide +kernel
theorem d_O_skip_22 : decode prog_1_method_9_code 22 = .ok (.aload_n 0, 1) := by decide +kernel
theorem d_O_skip_23 : decode prog_1_method_9_code 23 = .ok (.getfield 21, 3) := by decide +kernel
theorem d_O_skip_26 : decode prog_1_method_9_code 26 = .ok (.iload_n 1, 1) := by decide +kernel
theorem d_O_skip_27 : decode prog_1_method_9_code 27 = .ok (.iload_n 2, 1) := by decide +kernel
theorem d_O_skip_28 : decode prog_1_method_9_code 28 = .ok (.iconst 1, 1) := by decide +kernel
theorem d_O_skip_29 : decode prog_1_method_9_code 29 = .ok (.if_icmp .ne 7, 3) := by decide +kernel
theorem d_O_skip_32 : decode prog_1_method_9_code 32 = .ok (.iconst 1, 1) := by decide +kernel
theorem d_O_skip_33 : decode prog_1_method_9_code 33 = .ok (.goto 4, 3) := by decide +kernel
theorem d_O_skip_36 : decode prog_1_method_9_code 36 = .ok (.iconst 0, 1) := by decide +kernel
theorem d_O_skip_37 : decode prog_1_method_9_code 37 = .ok (.invokevirtual 160, 3) := by decide +kernel
theorem d_O_skip_40 : decode prog_1_method_9_code 40 = .ok (.invokestatic 117, 3) := by decide +kernel
theorem d_O_skip_43 : decode prog_1_method_9_code 43 = .ok (.ireturn, 1) := by decide +kernel
theorem d_O_reader_0 : decode prog_1_method_10_code 0 = .ok (.iload_n 1, 1) := by decide +kernel
theorem d_O_reader_1 : decode prog_1_method_10_code 1 = .ok (.invokestatic 121, 3) := by decide +kernel
theorem d_O_reader_4 : decode prog_1_method_10_code 4 = .ok (.ifCond .eq 24, 3) := by decide +kernel
theorem d_O_reader_7 : decode prog_1_method_10_code 7 = .ok (.iload_n 2, 1) := by decide +kernel
theorem d_O_reader_8 : decode prog_1_method_10_code 8 = .ok (.iconst 0, 1) := by decide +kernel
theorem d_O_reader_9 : decode prog_1_method_10_code 9 = .ok (.iconst 2, 1) := by decide +kernel
theorem d_O_reader_10 : decode prog_1_method_10_code 10 = .ok (.invokestatic 86, 3) := by decide +kernel
theorem d_O_reader_13 : decode prog_1_method_10_code 13 = .ok (.ifCond .eq 15, 3) := by decide +kernel
theorem d_O_reader_16 : decode prog_1_method_10_code 16 = .ok (.iload_n 3, 1) := by decide +kernel
theorem d_O_reader_17 : decode prog_1_method_10_code 17 = .ok (.iconst 0, 1) := by decide +kernel
theorem d_O_reader_18 : decode prog_1_method_10_code 18 = .ok (.iload_n 2, 1) := by decide +kernel
theorem d_O_reader_19 : decode prog_1_method_10_code 19 = .ok (.invokestatic 163, 3) := by decide +kernel
theorem d_O_reader_22 : decode prog_1_method_10_code 22 = .ok (.invokestatic 86, 3) := by decide +kernel
theorem d_O_reader_25 : decode prog_1_method_10_code 25 = .ok (.ifCond .ne 6, 3) := by decide +kernel
theorem d_O_reader_28 : decode prog_1_method_10_code 28 = .ok (.bipush (-2), 2) := by decide +kernel
theorem d_O_reader_30 : decode prog_1_method_10_code 30 = .ok (.ireturn, 1) := by decide +kernel
theorem d_O_reader_31 : decode prog_1_method_10_code 31 = .ok (.aload_n 0, 1) := by decide +kernel
theorem d_O_reader_32 : decode prog_1_method_10_code 32 = .ok (.getfield 21, 3) := by decide +kernel
theorem d_O_reader_35 : decode prog_1_method_10_code 35 = .ok (.iload_n 1, 1) := by decide +kernel
theorem d_O_reader_36 : decode prog_1_method_10_code 36 = .ok (.invokevirtual 127, 3) := by decide +kernel
theorem d_O_reader_39 : decode prog_1_method_10_code 39 = .ok (.iload_n 2, 1) := by decide +kernel
theorem d_O_reader_40 : decode prog_1_method_10_code 40 = .ok (.iload_n 3, 1) := by decide +kernel
theorem d_O_reader_41 : decode prog_1_method_10_code 41 = .ok (.invokevirtual 166, 3) := by decide +kernel
theorem d_O_reader_44 : decode prog_1_method_10_code 44 = .ok (.ireturn, 1) := by decide +kernel
theorem d_O_set_0 : decode prog_1_method_11_code 0 = .ok (.iload_n 1, 1) := by decide +kernel
theorem d_O_set_1 : decode prog_1_method_11_code 1 = .ok (.iconst 0, 1) := by decide +kernel
theorem d_O_set_2 : decode prog_1_method_11_code 2 = .ok (.iconst 1, 1) := by decide +kernel
theorem d_O_set_3 : decode prog_1_method_11_code 3 = .ok (.invokestatic 86, 3) := by decide +kernel
theorem d_O_set_6 : decode prog_1_method_11_code 6 = .ok (.ifCond .eq 14, 3) := by decide +kernel
theorem d_O_set_9 : decode prog_1_method_11_code 9 = .ok (.iload_n 2, 1) := by decide +kernel
theorem d_O_set_10 : decode prog_1_method_11_code 10 = .ok (.iconst 0, 1) := by decide +kernel
theorem d_O_set_11 : decode prog_1_method_11_code 11 = .ok (.sipush 999, 3) := by decide +kernel
theorem d_O_set_14 : decode prog_1_method_11_code 14 = .ok (.invokestatic 86, 3) := by decide +kernel
theorem d_O_set_17 : decode prog_1_method_11_code 17 = .ok (.ifCond .ne 6, 3) := by decide +kernel
theorem d_O_set_20 : decode prog_1_method_11_code 20 = .ok (.bipush (-2), 2) := by decide +kernel
theorem d_O_set_22 : decode prog_1_method_11_code 22 = .ok (.ireturn, 1) := by decide +kernel
theorem d_O_set_23 : decode prog_1_method_11_code 23 = .ok (.iload_n 1, 1) := by decide +kernel
theorem d_O_set_24 : decode prog_1_method_11_code 24 = .ok (.ifCond .ne 10, 3) := by decide +kernel
theorem d_O_set_27 : decode prog_1_method_11_code 27 = .ok (.aload_n 0, 1) := by decide +kernel
theorem d_O_set_28 : decode prog_1_method_11_code 28 = .ok (.getfield 76, 3) := by decide +kernel
theorem d_O_set_31 : decode prog_1_method_11_code 31 = .ok (.goto 7, 3) := by decide +kernel
theorem d_O_set_34 : decode prog_1_method_11_code 34 = .ok (.aload_n 0, 1) := by decide +kernel
theorem d_O_set_35 : decode prog_1_method_11_code 35 = .ok (.getfield 80, 3) := by decide +kernel
theorem d_O_set_38 : decode prog_1_method_11_code 38 = .ok (.istore_n 3, 1) := by decide +kernel
theorem d_O_set_39 : decode prog_1_method_11_code 39 = .ok (.iload_n 1, 1) := by decide +kernel
theorem d_O_set_40 : decode prog_1_method_11_code 40 = .ok (.ifCond .ne 11, 3) := by decide +kernel
theorem d_O_set_43 : decode prog_1_method_11_code 43 = .ok (.aload_n 0, 1) := by decide +kernel
theorem d_O_set_44 : decode prog_1_method_11_code 44 = .ok (.iload_n 2, 1) := by decide +kernel
theorem d_O_set_45 : decode prog_1_method_11_code 45 = .ok (.putfield 76, 3) := by decide +kernel
theorem d_O_set_48 : decode prog_1_method_11_code 48 = .ok (.goto 8, 3) := by decide +kernel
theorem d_O_set_51 : decode prog_1_method_11_code 51 = .ok (.aload_n 0, 1) := by decide +kernel
theorem d_O_set_52 : decode prog_1_method_11_code 52 = .ok (.iload_n 2, 1) := by decide +kernel
theorem d_O_set_53 : decode prog_1_method_11_code 53 = .ok (.putfield 80, 3) := by decide +kernel
theorem d_O_set_56 : decode prog_1_method_11_code 56 = .ok (.iload_n 3, 1) := by decide +kernel
theorem d_O_set_57 : decode prog_1_method_11_code 57 = .ok (.ireturn, 1) := by decide +kernel
theorem d_O_time_0 : decode prog_1_method_12_code 0 = .ok (.iload_n 1, 1) := by decide +kernel
theorem d_O_time_1 : decode prog_1_method_12_code 1 = .ok (.invokestatic 121, 3) := by decide +kernel
theorem d_O_time_4 : decode prog_1_method_12_code 4 = .ok (.ifCond .eq 11, 3) := by decide +kernel
theorem d_O_time_7 : decode prog_1_method_12_code 7 = .ok (.aload_n 0, 1) := by decide +kernel
theorem d_O_time_8 : decode prog_1_method_12_code 8 = .ok (.iload_n 2, 1) := by decide +kernel
theorem d_O_time_9 : decode prog_1_method_12_code 9 = .ok (.invokevirtual 104, 3) := by decide +kernel
theorem d_O_time_12 : decode prog_1_method_12_code 12 = .ok (.ifCond .ne 6, 3) := by decide +kernel
theorem d_O_time_15 : decode prog_1_method_12_code 15 = .ok (.bipush (-2), 2) := by decide +kernel
theorem d_O_time_17 : decode prog_1_method_12_code 17 = .ok (.ireturn, 1) := by decide +kernel
theorem d_O_time_18 : decode prog_1_method_12_code 18 = .ok (.aload_n 0, 1) := by decide +kernel
theorem d_O_time_19 : decode prog_1_method_12_code 19 = .ok (.getfield 21, 3) := by decide +kernel
theorem d_O_time_22 : decode prog_1_method_12_code 22 = .ok (.iload_n 1, 1) := by decide +kernel
theorem d_O_time_23 : decode prog_1_method_12_code 23 = .ok (.iload_n 2, 1) := by decide +kernel
theorem d_O_time_24 : decode prog_1_method_12_code 24 = .ok (.invokevirtual 169, 3) := by decide +kernel
theorem d_O_time_27 : decode prog_1_method_12_code 27 = .ok (.ireturn, 1) := by decide +kernel
theorem d_O_evening_0 : decode prog_1_method_13_code 0 = .ok (.iload_n 1, 1) := by decide +kernel
theorem d_O_evening_1 : decode prog_1_method_13_code 1 = .ok (.invokestatic 172, 3) := by decide +kernel
theorem d_O_evening_4 : decode prog_1_method_13_code 4 = .ok (.ifCond .eq 20, 3) := by decide +kernel
theorem d_O_evening_7 : decode prog_1_method_13_code 7 = .ok (.aload_n 0, 1) := by decide +kernel
theorem d_O_evening_8 : decode prog_1_method_13_code 8 = .ok (.iload_n 2, 1) := by decide +kernel
theorem d_O_evening_9 : decode prog_1_method_13_code 9 = .ok (.invokevirtual 104, 3) := by decide +kernel
theorem d_O_evening_12 : decode prog_1_method_13_code 12 = .ok (.ifCond .eq 12, 3) := by decide +kernel
theorem d_O_evening_15 : decode prog_1_method_13_code 15 = .ok (.iload_n 3, 1) := by decide +kernel
theorem d_O_evening_16 : decode prog_1_method_13_code 16 = .ok (.iconst 0, 1) := by decide +kernel
theorem d_O_evening_17 : decode prog_1_method_13_code 17 = .ok (.iconst 2, 1) := by decide +kernel
theorem d_O_evening_18 : decode prog_1_method_13_code 18 = .ok (.invokestatic 86, 3) := by decide +kernel
theorem d_O_evening_21 : decode prog_1_method_13_code 21 = .ok (.ifCond .ne 6, 3) := by decide +kernel
theorem d_O_evening_24 : decode prog_1_method_13_code 24 = .ok (.bipush (-2), 2) := by decide +kernel
theorem d_O_evening_26 : decode prog_1_method_13_code 26 = .ok (.ireturn, 1) := by decide +kernel
theorem d_O_evening_27 : decode prog_1_method_13_code 27 = .ok (.aload_n 0, 1) := by decide +kernel
theorem d_O_evening_28 : decode prog_1_method_13_code 28 = .ok (.getfield 30, 3) := by decide +kernel
theorem d_O_evening_31 : decode prog_1_method_13_code 31 = .ok (.iload_n 1, 1) := by decide +kernel
theorem d_O_evening_32 : decode prog_1_method_13_code 32 = .ok (.iload_n 2, 1) := by decide +kernel
theorem d_O_evening_33 : decode prog_1_method_13_code 33 = .ok (.aload_n 0, 1) := by decide +kernel
theorem d_O_evening_34 : decode prog_1_method_13_code 34 = .ok (.getfield 76, 3) := by decide +kernel
theorem d_O_evening_37 : decode prog_1_method_13_code 37 = .ok (.invokevirtual 175, 3) := by decide +kernel
theorem d_O_evening_40 : decode prog_1_method_13_code 40 = .ok (.iload_n 3, 1) := by decide +kernel
theorem d_O_evening_41 : decode prog_1_method_13_code 41 = .ok (.ifCond .ne 11, 3) := by decide +kernel
theorem d_O_evening_44 : decode prog_1_method_13_code 44 = .ok (.aload_n 0, 1) := by decide +kernel
theorem d_O_evening_45 : decode prog_1_method_13_code 45 = .ok (.getfield 30, 3) := by decide +kernel
theorem d_O_evening_48 : decode prog_1_method_13_code 48 = .ok (.invokevirtual 179, 3) := by decide +kernel
theorem d_O_evening_51 : decode prog_1_method_13_code 51 = .ok (.ireturn, 1) := by decide +kernel
theorem d_O_evening_52 : decode prog_1_method_13_code 52 = .ok (.iload_n 3, 1) := by decide +kernel
theorem d_O_evening_53 : decode prog_1_method_13_code 53 = .ok (.iconst 1, 1) := by decide +kernel
theorem d_O_evening_54 : decode prog_1_method_13_code 54 = .ok (.if_icmp .ne 13, 3) := by decide +kernel
theorem d_O_evening_57 : decode prog_1_method_13_code 57 = .ok (.aload_n 0, 1) := by decide +kernel
theorem d_O_evening_58 : decode prog_1_method_13_code 58 = .ok (.getfield 30, 3) := by decide +kernel
theorem d_O_evening_61 : decode prog_1_method_13_code 61 = .ok (.invokevirtual 182, 3) := by decide +kernel
theorem d_O_evening_64 : decode prog_1_method_13_code 64 = .ok (.goto 10, 3) := by decide +kernel
theorem d_O_evening_67 : decode prog_1_method_13_code 67 = .ok (.aload_n 0, 1) := by decide +kernel
theorem d_O_evening_68 : decode prog_1_method_13_code 68 = .ok (.getfield 30, 3) := by decide +kernel
theorem d_O_evening_71 : decode prog_1_method_13_code 71 = .ok (.invokevirtual 185, 3) := by decide +kernel
theorem d_O_evening_74 : decode prog_1_method_13_code 74 = .ok (.ireturn, 1) := by decide +kernel
theorem d_O_waited_0 : decode prog_1_method_14_code 0 = .ok (.iload_n 1, 1) := by decide +kernel
theorem d_O_waited_1 : decode prog_1_method_14_code 1 = .ok (.invokestatic 172, 3) := by decide +kernel
theorem d_O_waited_4 : decode prog_1_method_14_code 4 = .ok (.ifCond .eq 21, 3) := by decide +kernel
theorem d_O_waited_7 : decode prog_1_method_14_code 7 = .ok (.aload_n 0, 1) := by decide +kernel
theorem d_O_waited_8 : decode prog_1_method_14_code 8 = .ok (.iload_n 2, 1) := by decide +kernel
theorem d_O_waited_9 : decode prog_1_method_14_code 9 = .ok (.invokevirtual 104, 3) := by decide +kernel
theorem d_O_waited_12 : decode prog_1_method_14_code 12 = .ok (.ifCond .eq 13, 3) := by decide +kernel
theorem d_O_waited_15 : decode prog_1_method_14_code 15 = .ok (.iload 4, 2) := by decide +kernel
theorem d_O_waited_17 : decode prog_1_method_14_code 17 = .ok (.iconst 0, 1) := by decide +kernel
theorem d_O_waited_18 : decode prog_1_method_14_code 18 = .ok (.iconst 1, 1) := by decide +kernel
theorem d_O_waited_19 : decode prog_1_method_14_code 19 = .ok (.invokestatic 86, 3) := by decide +kernel
theorem d_O_waited_22 : decode prog_1_method_14_code 22 = .ok (.ifCond .ne 6, 3) := by decide +kernel
theorem d_O_waited_25 : decode prog_1_method_14_code 25 = .ok (.bipush (-2), 2) := by decide +kernel
theorem d_O_waited_27 : decode prog_1_method_14_code 27 = .ok (.ireturn, 1) := by decide +kernel
theorem d_O_waited_28 : decode prog_1_method_14_code 28 = .ok (.iload_n 3, 1) := by decide +kernel
theorem d_O_waited_29 : decode prog_1_method_14_code 29 = .ok (.invokestatic 121, 3) := by decide +kernel
theorem d_O_waited_32 : decode prog_1_method_14_code 32 = .ok (.ifCond .eq 11, 3) := by decide +kernel
theorem d_O_waited_35 : decode prog_1_method_14_code 35 = .ok (.iload_n 1, 1) := by decide +kernel
theorem d_O_waited_36 : decode prog_1_method_14_code 36 = .ok (.iload_n 3, 1) := by decide +kernel
theorem d_O_waited_37 : decode prog_1_method_14_code 37 = .ok (.invokestatic 188, 3) := by decide +kernel
theorem d_O_waited_40 : decode prog_1_method_14_code 40 = .ok (.ifCond .ne 6, 3) := by decide +kernel
theorem d_O_waited_43 : decode prog_1_method_14_code 43 = .ok (.bipush (-2), 2) := by decide +kernel
theorem d_O_waited_45 : decode prog_1_method_14_code 45 = .ok (.ireturn, 1) := by decide +kernel
theorem d_O_waited_46 : decode prog_1_method_14_code 46 = .ok (.aload_n 0, 1) := by decide +kernel
theorem d_O_waited_47 : decode prog_1_method_14_code 47 = .ok (.getfield 30, 3) := by decide +kernel
theorem d_O_waited_50 : decode prog_1_method_14_code 50 = .ok (.iload_n 1, 1) := by decide +kernel
theorem d_O_waited_51 : decode prog_1_method_14_code 51 = .ok (.iload_n 2, 1) := by decide +kernel
theorem d_O_waited_52 : decode prog_1_method_14_code 52 = .ok (.aload_n 0, 1) := by decide +kernel
theorem d_O_waited_53 : decode prog_1_method_14_code 53 = .ok (.getfield 76, 3) := by decide +kernel
theorem d_O_waited_56 : decode prog_1_method_14_code 56 = .ok (.invokevirtual 175, 3) := by decide +kernel
theorem d_O_waited_59 : decode prog_1_method_14_code 59 = .ok (.iload 4, 2) := by decide +kernel
theorem d_O_waited_61 : decode prog_1_method_14_code 61 = .ok (.ifCond .ne 14, 3) := by decide +kernel
theorem d_O_waited_64 : decode prog_1_method_14_code 64 = .ok (.aload_n 0, 1) := by decide +kernel
theorem d_O_waited_65 : decode prog_1_method_14_code 65 = .ok (.getfield 30, 3) := by decide +kernel
theorem d_O_waited_68 : decode prog_1_method_14_code 68 = .ok (.iload_n 3, 1) := by decide +kernel
theorem d_O_waited_69 : decode prog_1_method_14_code 69 = .ok (.invokevirtual 192, 3) := by decide +kernel
theorem d_O_waited_72 : decode prog_1_method_14_code 72 = .ok (.goto 11, 3) := by decide +kernel
theorem d_O_waited_75 : decode prog_1_method_14_code 75 = .ok (.aload_n 0, 1) := by decide +kernel
theorem d_O_waited_76 : decode prog_1_method_14_code 76 = .ok (.getfield 30, 3) := by decide +kernel
theorem d_O_waited_79 : decode prog_1_method_14_code 79 = .ok (.iload_n 3, 1) := by decide +kernel
theorem d_O_waited_80 : decode prog_1_method_14_code 80 = .ok (.invokevirtual 195, 3) := by decide +kernel
theorem d_O_waited_83 : decode prog_1_method_14_code 83 = .ok (.ireturn, 1) := by decide +kernel
theorem d_O_best_0 : decode prog_1_method_15_code 0 = .ok (.iload_n 1, 1) := by decide +kernel
theorem d_O_best_1 : decode prog_1_method_15_code 1 = .ok (.iload_n 2, 1) := by decide +kernel
theorem d_O_best_2 : decode prog_1_method_15_code 2 = .ok (.invokestatic 198, 3) := by decide +kernel
theorem d_O_best_5 : decode prog_1_method_15_code 5 = .ok (.ifCond .eq 12, 3) := by decide +kernel
theorem d_O_best_8 : decode prog_1_method_15_code 8 = .ok (.iload_n 3, 1) := by decide +kernel
theorem d_O_best_9 : decode prog_1_method_15_code 9 = .ok (.iconst 0, 1) := by decide +kernel
theorem d_O_best_10 : decode prog_1_method_15_code 10 = .ok (.iconst 2, 1) := by decide +kernel
theorem d_O_best_11 : decode prog_1_method_15_code 11 = .ok (.invokestatic 86, 3) := by decide +kernel
theorem d_O_best_14 : decode prog_1_method_15_code 14 = .ok (.ifCond .ne 6, 3) := by decide +kernel
theorem d_O_best_17 : decode prog_1_method_15_code 17 = .ok (.bipush (-2), 2) := by decide +kernel
theorem d_O_best_19 : decode prog_1_method_15_code 19 = .ok (.ireturn, 1) := by decide +kernel
theorem d_O_best_20 : decode prog_1_method_15_code 20 = .ok (.aload_n 0, 1) := by decide +kernel
theorem d_O_best_21 : decode prog_1_method_15_code 21 = .ok (.getfield 37, 3) := by decide +kernel
theorem d_O_best_24 : decode prog_1_method_15_code 24 = .ok (.iload_n 1, 1) := by decide +kernel
theorem d_O_best_25 : decode prog_1_method_15_code 25 = .ok (.iload_n 2, 1) := by decide +kernel
theorem d_O_best_26 : decode prog_1_method_15_code 26 = .ok (.aload_n 0, 1) := by decide +kernel
theorem d_O_best_27 : decode prog_1_method_15_code 27 = .ok (.getfield 76, 3) := by decide +kernel
theorem d_O_best_30 : decode prog_1_method_15_code 30 = .ok (.aload_n 0, 1) := by decide +kernel
theorem d_O_best_31 : decode prog_1_method_15_code 31 = .ok (.getfield 80, 3) := by decide +kernel
theorem d_O_best_34 : decode prog_1_method_15_code 34 = .ok (.invokevirtual 201, 3) := by decide +kernel
theorem d_O_best_37 : decode prog_1_method_15_code 37 = .ok (.iload_n 3, 1) := by decide +kernel
theorem d_O_best_38 : decode prog_1_method_15_code 38 = .ok (.ifCond .ne 11, 3) := by decide +kernel
theorem d_O_best_41 : decode prog_1_method_15_code 41 = .ok (.aload_n 0, 1) := by decide +kernel
theorem d_O_best_42 : decode prog_1_method_15_code 42 = .ok (.getfield 37, 3) := by decide +kernel
theorem d_O_best_45 : decode prog_1_method_15_code 45 = .ok (.invokevirtual 205, 3) := by decide +kernel
theorem d_O_best_48 : decode prog_1_method_15_code 48 = .ok (.ireturn, 1) := by decide +kernel
theorem d_O_best_49 : decode prog_1_method_15_code 49 = .ok (.iload_n 3, 1) := by decide +kernel
theorem d_O_best_50 : decode prog_1_method_15_code 50 = .ok (.iconst 1, 1) := by decide +kernel
theorem d_O_best_51 : decode prog_1_method_15_code 51 = .ok (.if_icmp .ne 13, 3) := by decide +kernel
theorem d_O_best_54 : decode prog_1_method_15_code 54 = .ok (.aload_n 0, 1) := by decide +kernel
theorem d_O_best_55 : decode prog_1_method_15_code 55 = .ok (.getfield 37, 3) := by decide +kernel
theorem d_O_best_58 : decode prog_1_method_15_code 58 = .ok (.invokevirtual 208, 3) := by decide +kernel
theorem d_O_best_61 : decode prog_1_method_15_code 61 = .ok (.goto 10, 3) := by decide +kernel
theorem d_O_best_64 : decode prog_1_method_15_code 64 = .ok (.aload_n 0, 1) := by decide +kernel
theorem d_O_best_65 : decode prog_1_method_15_code 65 = .ok (.getfield 37, 3) := by decide +kernel
theorem d_O_best_68 : decode prog_1_method_15_code 68 = .ok (.invokevirtual 211, 3) := by decide +kernel
theorem d_O_best_71 : decode prog_1_method_15_code 71 = .ok (.ireturn, 1) := by decide +kernel
theorem d_O_how_0 : decode prog_1_method_16_code 0 = .ok (.iload_n 1, 1) := by decide +kernel
theorem d_O_how_1 : decode prog_1_method_16_code 1 = .ok (.iload_n 2, 1) := by decide +kernel
theorem d_O_how_2 : decode prog_1_method_16_code 2 = .ok (.invokestatic 198, 3) := by decide +kernel
theorem d_O_how_5 : decode prog_1_method_16_code 5 = .ok (.ifCond .eq 11, 3) := by decide +kernel
theorem d_O_how_8 : decode prog_1_method_16_code 8 = .ok (.aload_n 0, 1) := by decide +kernel
theorem d_O_how_9 : decode prog_1_method_16_code 9 = .ok (.iload_n 3, 1) := by decide +kernel
theorem d_O_how_10 : decode prog_1_method_16_code 10 = .ok (.invokevirtual 104, 3) := by decide +kernel
theorem d_O_how_13 : decode prog_1_method_16_code 13 = .ok (.ifCond .ne 6, 3) := by decide +kernel
theorem d_O_how_16 : decode prog_1_method_16_code 16 = .ok (.bipush (-2), 2) := by decide +kernel
theorem d_O_how_18 : decode prog_1_method_16_code 18 = .ok (.ireturn, 1) := by decide +kernel
theorem d_O_how_19 : decode prog_1_method_16_code 19 = .ok (.aload_n 0, 1) := by decide +kernel
theorem d_O_how_20 : decode prog_1_method_16_code 20 = .ok (.getfield 37, 3) := by decide +kernel
theorem d_O_how_23 : decode prog_1_method_16_code 23 = .ok (.iload_n 1, 1) := by decide +kernel
theorem d_O_how_24 : decode prog_1_method_16_code 24 = .ok (.iload_n 2, 1) := by decide +kernel
theorem d_O_how_25 : decode prog_1_method_16_code 25 = .ok (.aload_n 0, 1) := by decide +kernel
theorem d_O_how_26 : decode prog_1_method_16_code 26 = .ok (.getfield 76, 3) := by decide +kernel
theorem d_O_how_29 : decode prog_1_method_16_code 29 = .ok (.aload_n 0, 1) := by decide +kernel
theorem d_O_how_30 : decode prog_1_method_16_code 30 = .ok (.getfield 80, 3) := by decide +kernel
theorem d_O_how_33 : decode prog_1_method_16_code 33 = .ok (.invokevirtual 201, 3) := by decide +kernel
theorem d_O_how_36 : decode prog_1_method_16_code 36 = .ok (.aload_n 0, 1) := by decide +kernel
theorem d_O_how_37 : decode prog_1_method_16_code 37 = .ok (.getfield 37, 3) := by decide +kernel
theorem d_O_how_40 : decode prog_1_method_16_code 40 = .ok (.iload_n 3, 1) := by decide +kernel
theorem d_O_how_41 : decode prog_1_method_16_code 41 = .ok (.invokevirtual 213, 3) := by decide +kernel
theorem d_O_how_44 : decode prog_1_method_16_code 44 = .ok (.ireturn, 1) := by decide +kernel
theorem d_O_gain_0 : decode prog_1_method_17_code 0 = .ok (.iload_n 1, 1) := by decide +kernel
theorem d_O_gain_1 : decode prog_1_method_17_code 1 = .ok (.iload_n 2, 1) := by decide +kernel
theorem d_O_gain_2 : decode prog_1_method_17_code 2 = .ok (.invokestatic 198, 3) := by decide +kernel
theorem d_O_gain_5 : decode prog_1_method_17_code 5 = .ok (.ifCond .eq 22, 3) := by decide +kernel
theorem d_O_gain_8 : decode prog_1_method_17_code 8 = .ok (.iload_n 3, 1) := by decide +kernel
theorem d_O_gain_9 : decode prog_1_method_17_code 9 = .ok (.iconst 0, 1) := by decide +kernel
theorem d_O_gain_10 : decode prog_1_method_17_code 10 = .ok (.iconst 3, 1) := by decide +kernel
theorem d_O_gain_11 : decode prog_1_method_17_code 11 = .ok (.invokestatic 86, 3) := by decide +kernel
theorem d_O_gain_14 : decode prog_1_method_17_code 14 = .ok (.ifCond .eq 13, 3) := by decide +kernel
theorem d_O_gain_17 : decode prog_1_method_17_code 17 = .ok (.iload 4, 2) := by decide +kernel
theorem d_O_gain_19 : decode prog_1_method_17_code 19 = .ok (.iconst 0, 1) := by decide +kernel
theorem d_O_gain_20 : decode prog_1_method_17_code 20 = .ok (.iconst 3, 1) := by decide +kernel
theorem d_O_gain_21 : decode prog_1_method_17_code 21 = .ok (.invokestatic 86, 3) := by decide +kernel
theorem d_O_gain_24 : decode prog_1_method_17_code 24 = .ok (.ifCond .ne 7, 3) := by decide +kernel
theorem d_O_gain_27 : decode prog_1_method_17_code 27 = .ok (.sipush (-10002), 3) := by decide +kernel
theorem d_O_gain_30 : decode prog_1_method_17_code 30 = .ok (.ireturn, 1) := by decide +kernel
theorem d_O_gain_31 : decode prog_1_method_17_code 31 = .ok (.aload_n 0, 1) := by decide +kernel
theorem d_O_gain_32 : decode prog_1_method_17_code 32 = .ok (.getfield 44, 3) := by decide +kernel
theorem d_O_gain_35 : decode prog_1_method_17_code 35 = .ok (.iload_n 1, 1) := by decide +kernel
theorem d_O_gain_36 : decode prog_1_method_17_code 36 = .ok (.iload_n 2, 1) := by decide +kernel
theorem d_O_gain_37 : decode prog_1_method_17_code 37 = .ok (.iload_n 3, 1) := by decide +kernel
theorem d_O_gain_38 : decode prog_1_method_17_code 38 = .ok (.iload 4, 2) := by decide +kernel
theorem d_O_gain_40 : decode prog_1_method_17_code 40 = .ok (.invokevirtual 216, 3) := by decide +kernel
theorem d_O_gain_43 : decode prog_1_method_17_code 43 = .ok (.ireturn, 1) := by decide +kernel
theorem d_O_rests_0 : decode prog_1_method_18_code 0 = .ok (.iload_n 1, 1) := by decide +kernel
theorem d_O_rests_1 : decode prog_1_method_18_code 1 = .ok (.iload_n 2, 1) := by decide +kernel
theorem d_O_rests_2 : decode prog_1_method_18_code 2 = .ok (.invokestatic 198, 3) := by decide +kernel
theorem d_O_rests_5 : decode prog_1_method_18_code 5 = .ok (.ifCond .eq 8, 3) := by decide +kernel
theorem d_O_rests_8 : decode prog_1_method_18_code 8 = .ok (.iload_n 3, 1) := by decide +kernel
theorem d_O_rests_9 : decode prog_1_method_18_code 9 = .ok (.iconst (-1), 1) := by decide +kernel
theorem d_O_rests_10 : decode prog_1_method_18_code 10 = .ok (.if_icmp .ge 6, 3) := by decide +kernel
theorem d_O_rests_13 : decode prog_1_method_18_code 13 = .ok (.bipush (-2), 2) := by decide +kernel
theorem d_O_rests_15 : decode prog_1_method_18_code 15 = .ok (.ireturn, 1) := by decide +kernel
theorem d_O_rests_16 : decode prog_1_method_18_code 16 = .ok (.aload_n 0, 1) := by decide +kernel
theorem d_O_rests_17 : decode prog_1_method_18_code 17 = .ok (.getfield 44, 3) := by decide +kernel
theorem d_O_rests_20 : decode prog_1_method_18_code 20 = .ok (.iload_n 1, 1) := by decide +kernel
theorem d_O_rests_21 : decode prog_1_method_18_code 21 = .ok (.iload_n 2, 1) := by decide +kernel
theorem d_O_rests_22 : decode prog_1_method_18_code 22 = .ok (.invokevirtual 220, 3) := by decide +kernel
theorem d_O_rests_25 : decode prog_1_method_18_code 25 = .ok (.iload_n 3, 1) := by decide +kernel
theorem d_O_rests_26 : decode prog_1_method_18_code 26 = .ok (.iconst (-1), 1) := by decide +kernel
theorem d_O_rests_27 : decode prog_1_method_18_code 27 = .ok (.if_icmp .ne 13, 3) := by decide +kernel
theorem d_O_rests_30 : decode prog_1_method_18_code 30 = .ok (.aload_n 0, 1) := by decide +kernel
theorem d_O_rests_31 : decode prog_1_method_18_code 31 = .ok (.getfield 44, 3) := by decide +kernel
theorem d_O_rests_34 : decode prog_1_method_18_code 34 = .ok (.invokevirtual 224, 3) := by decide +kernel
theorem d_O_rests_37 : decode prog_1_method_18_code 37 = .ok (.goto 11, 3) := by decide +kernel
theorem d_O_rests_40 : decode prog_1_method_18_code 40 = .ok (.aload_n 0, 1) := by decide +kernel
theorem d_O_rests_41 : decode prog_1_method_18_code 41 = .ok (.getfield 44, 3) := by decide +kernel
theorem d_O_rests_44 : decode prog_1_method_18_code 44 = .ok (.iload_n 3, 1) := by decide +kernel
theorem d_O_rests_45 : decode prog_1_method_18_code 45 = .ok (.invokevirtual 227, 3) := by decide +kernel
theorem d_O_rests_48 : decode prog_1_method_18_code 48 = .ok (.ireturn, 1) := by decide +kernel
theorem d_O_pairs_0 : decode prog_1_method_19_code 0 = .ok (.iload_n 1, 1) := by decide +kernel
theorem d_O_pairs_1 : decode prog_1_method_19_code 1 = .ok (.invokestatic 172, 3) := by decide +kernel
theorem d_O_pairs_4 : decode prog_1_method_19_code 4 = .ok (.ifCond .ne 6, 3) := by decide +kernel
theorem d_O_pairs_7 : decode prog_1_method_19_code 7 = .ok (.bipush (-2), 2) := by decide +kernel
theorem d_O_pairs_9 : decode prog_1_method_19_code 9 = .ok (.ireturn, 1) := by decide +kernel
theorem d_O_pairs_10 : decode prog_1_method_19_code 10 = .ok (.iload_n 2, 1) := by decide +kernel
theorem d_O_pairs_11 : decode prog_1_method_19_code 11 = .ok (.iconst (-1), 1) := by decide +kernel
theorem d_O_pairs_12 : decode prog_1_method_19_code 12 = .ok (.if_icmp .eq 21, 3) := by decide +kernel
theorem d_O_pairs_15 : decode prog_1_method_19_code 15 = .ok (.iload_n 2, 1) := by decide +kernel
theorem d_O_pairs_16 : decode prog_1_method_19_code 16 = .ok (.invokestatic 121, 3) := by decide +kernel
theorem d_O_pairs_19 : decode prog_1_method_19_code 19 = .ok (.ifCond .eq 11, 3) := by decide +kernel
theorem d_O_pairs_22 : decode prog_1_method_19_code 22 = .ok (.iload_n 1, 1) := by decide +kernel
theorem d_O_pairs_23 : decode prog_1_method_19_code 23 = .ok (.iload_n 2, 1) := by decide +kernel
theorem d_O_pairs_24 : decode prog_1_method_19_code 24 = .ok (.invokestatic 188, 3) := by decide +kernel
theorem d_O_pairs_27 : decode prog_1_method_19_code 27 = .ok (.ifCond .ne 6, 3) := by decide +kernel
theorem d_O_pairs_30 : decode prog_1_method_19_code 30 = .ok (.bipush (-2), 2) := by decide +kernel
theorem d_O_pairs_32 : decode prog_1_method_19_code 32 = .ok (.ireturn, 1) := by decide +kernel
theorem d_O_pairs_33 : decode prog_1_method_19_code 33 = .ok (.iload_n 1, 1) := by decide +kernel
theorem d_O_pairs_34 : decode prog_1_method_19_code 34 = .ok (.invokestatic 230, 3) := by decide +kernel
theorem d_O_pairs_37 : decode prog_1_method_19_code 37 = .ok (.iconst 2, 1) := by decide +kernel
theorem d_O_pairs_38 : decode prog_1_method_19_code 38 = .ok (.irem, 1) := by decide +kernel
theorem d_O_pairs_39 : decode prog_1_method_19_code 39 = .ok (.ifCond .eq 6, 3) := by decide +kernel
theorem d_O_pairs_42 : decode prog_1_method_19_code 42 = .ok (.bipush (-3), 2) := by decide +kernel
theorem d_O_pairs_44 : decode prog_1_method_19_code 44 = .ok (.ireturn, 1) := by decide +kernel
theorem d_O_pairs_45 : decode prog_1_method_19_code 45 = .ok (.aload_n 0, 1) := by decide +kernel
theorem d_O_pairs_46 : decode prog_1_method_19_code 46 = .ok (.getfield 51, 3) := by decide +kernel
theorem d_O_pairs_49 : decode prog_1_method_19_code 49 = .ok (.iload_n 1, 1) := by decide +kernel
theorem d_O_pairs_50 : decode prog_1_method_19_code 50 = .ok (.invokevirtual 235, 3) := by decide +kernel
theorem d_O_pairs_53 : decode prog_1_method_19_code 53 = .ok (.iload_n 2, 1) := by decide +kernel
theorem d_O_pairs_54 : decode prog_1_method_19_code 54 = .ok (.iconst (-1), 1) := by decide +kernel
theorem d_O_pairs_55 : decode prog_1_method_19_code 55 = .ok (.if_icmp .ne 13, 3) := by decide +kernel
theorem d_O_pairs_58 : decode prog_1_method_19_code 58 = .ok (.aload_n 0, 1) := by decide +kernel
theorem d_O_pairs_59 : decode prog_1_method_19_code 59 = .ok (.getfield 51, 3) := by decide +kernel
theorem d_O_pairs_62 : decode prog_1_method_19_code 62 = .ok (.invokevirtual 239, 3) := by decide +kernel
theorem d_O_pairs_65 : decode prog_1_method_19_code 65 = .ok (.goto 11, 3) := by decide +kernel
theorem d_O_pairs_68 : decode prog_1_method_19_code 68 = .ok (.aload_n 0, 1) := by decide +kernel
theorem d_O_pairs_69 : decode prog_1_method_19_code 69 = .ok (.getfield 51, 3) := by decide +kernel
theorem d_O_pairs_72 : decode prog_1_method_19_code 72 = .ok (.iload_n 2, 1) := by decide +kernel
theorem d_O_pairs_73 : decode prog_1_method_19_code 73 = .ok (.invokevirtual 240, 3) := by decide +kernel
theorem d_O_pairs_76 : decode prog_1_method_19_code 76 = .ok (.ireturn, 1) := by decide +kernel
theorem d_O_turn_0 : decode prog_1_method_20_code 0 = .ok (.iload_n 1, 1) := by decide +kernel
theorem d_O_turn_1 : decode prog_1_method_20_code 1 = .ok (.iconst 0, 1) := by decide +kernel
theorem d_O_turn_2 : decode prog_1_method_20_code 2 = .ok (.bipush 7, 2) := by decide +kernel
theorem d_O_turn_4 : decode prog_1_method_20_code 4 = .ok (.invokestatic 86, 3) := by decide +kernel
theorem d_O_turn_7 : decode prog_1_method_20_code 7 = .ok (.ifCond .eq 21, 3) := by decide +kernel
theorem d_O_turn_10 : decode prog_1_method_20_code 10 = .ok (.iload_n 2, 1) := by decide +kernel
theorem d_O_turn_11 : decode prog_1_method_20_code 11 = .ok (.invokestatic 172, 3) := by decide +kernel
theorem d_O_turn_14 : decode prog_1_method_20_code 14 = .ok (.ifCond .eq 14, 3) := by decide +kernel
theorem d_O_turn_17 : decode prog_1_method_20_code 17 = .ok (.iload_n 3, 1) := by decide +kernel
theorem d_O_turn_18 : decode prog_1_method_20_code 18 = .ok (.iconst 0, 1) := by decide +kernel
theorem d_O_turn_19 : decode prog_1_method_20_code 19 = .ok (.sipush 999, 3) := by decide +kernel
theorem d_O_turn_22 : decode prog_1_method_20_code 22 = .ok (.invokestatic 86, 3) := by decide +kernel
theorem d_O_turn_25 : decode prog_1_method_20_code 25 = .ok (.ifCond .ne 6, 3) := by decide +kernel
theorem d_O_turn_28 : decode prog_1_method_20_code 28 = .ok (.bipush (-2), 2) := by decide +kernel
theorem d_O_turn_30 : decode prog_1_method_20_code 30 = .ok (.ireturn, 1) := by decide +kernel
theorem d_O_turn_31 : decode prog_1_method_20_code 31 = .ok (.aload_n 0, 1) := by decide +kernel
theorem d_O_turn_32 : decode prog_1_method_20_code 32 = .ok (.getfield 58, 3) := by decide +kernel
theorem d_O_turn_35 : decode prog_1_method_20_code 35 = .ok (.iload_n 1, 1) := by decide +kernel
theorem d_O_turn_36 : decode prog_1_method_20_code 36 = .ok (.iload_n 2, 1) := by decide +kernel
theorem d_O_turn_37 : decode prog_1_method_20_code 37 = .ok (.iload_n 3, 1) := by decide +kernel
theorem d_O_turn_38 : decode prog_1_method_20_code 38 = .ok (.invokevirtual 243, 3) := by decide +kernel
theorem d_O_turn_41 : decode prog_1_method_20_code 41 = .ok (.ifCond .eq 13, 3) := by decide +kernel
theorem d_O_turn_44 : decode prog_1_method_20_code 44 = .ok (.aload_n 0, 1) := by decide +kernel
theorem d_O_turn_45 : decode prog_1_method_20_code 45 = .ok (.getfield 58, 3) := by decide +kernel
theorem d_O_turn_48 : decode prog_1_method_20_code 48 = .ok (.invokevirtual 245, 3) := by decide +kernel
theorem d_O_turn_51 : decode prog_1_method_20_code 51 = .ok (.goto 5, 3) := by decide +kernel
theorem d_O_turn_54 : decode prog_1_method_20_code 54 = .ok (.bipush (-4), 2) := by decide +kernel
theorem d_O_turn_56 : decode prog_1_method_20_code 56 = .ok (.ireturn, 1) := by decide +kernel
theorem d_O_forget_0 : decode prog_1_method_21_code 0 = .ok (.aload_n 0, 1) := by decide +kernel
theorem d_O_forget_1 : decode prog_1_method_21_code 1 = .ok (.getfield 58, 3) := by decide +kernel
theorem d_O_forget_4 : decode prog_1_method_21_code 4 = .ok (.invokevirtual 245, 3) := by decide +kernel
theorem d_O_forget_7 : decode prog_1_method_21_code 7 = .ok (.istore_n 1, 1) := by decide +kernel
theorem d_O_forget_8 : decode prog_1_method_21_code 8 = .ok (.aload_n 0, 1) := by decide +kernel
theorem d_O_forget_9 : decode prog_1_method_21_code 9 = .ok (.getfield 58, 3) := by decide +kernel
theorem d_O_forget_12 : decode prog_1_method_21_code 12 = .ok (.invokevirtual 246, 3) := by decide +kernel
theorem d_O_forget_15 : decode prog_1_method_21_code 15 = .ok (.iload_n 1, 1) := by decide +kernel
theorem d_O_forget_16 : decode prog_1_method_21_code 16 = .ok (.ireturn, 1) := by decide +kernel
theorem d_O_paces_0 : decode prog_1_method_22_code 0 = .ok (.iload_n 1, 1) := by decide +kernel
theorem d_O_paces_1 : decode prog_1_method_22_code 1 = .ok (.invokestatic 121, 3) := by decide +kernel
theorem d_O_paces_4 : decode prog_1_method_22_code 4 = .ok (.ifCond .eq 10, 3) := by decide +kernel
theorem d_O_paces_7 : decode prog_1_method_22_code 7 = .ok (.iload_n 2, 1) := by decide +kernel
theorem d_O_paces_8 : decode prog_1_method_22_code 8 = .ok (.invokestatic 124, 3) := by decide +kernel
theorem d_O_paces_11 : decode prog_1_method_22_code 11 = .ok (.ifCond .ne 6, 3) := by decide +kernel
theorem d_O_paces_14 : decode prog_1_method_22_code 14 = .ok (.bipush (-2), 2) := by decide +kernel
theorem d_O_paces_16 : decode prog_1_method_22_code 16 = .ok (.ireturn, 1) := by decide +kernel
theorem d_O_paces_17 : decode prog_1_method_22_code 17 = .ok (.aload_n 0, 1) := by decide +kernel
theorem d_O_paces_18 : decode prog_1_method_22_code 18 = .ok (.getfield 58, 3) := by decide +kernel
theorem d_O_paces_21 : decode prog_1_method_22_code 21 = .ok (.iload_n 1, 1) := by decide +kernel
theorem d_O_paces_22 : decode prog_1_method_22_code 22 = .ok (.iload_n 2, 1) := by decide +kernel
theorem d_O_paces_23 : decode prog_1_method_22_code 23 = .ok (.invokevirtual 247, 3) := by decide +kernel
theorem d_O_paces_26 : decode prog_1_method_22_code 26 = .ok (.ireturn, 1) := by decide +kernel
theorem d_O_unlike_0 : decode prog_1_method_23_code 0 = .ok (.aload_n 0, 1) := by decide +kernel
theorem d_O_unlike_1 : decode prog_1_method_23_code 1 = .ok (.getfield 58, 3) := by decide +kernel
theorem d_O_unlike_4 : decode prog_1_method_23_code 4 = .ok (.invokevirtual 250, 3) := by decide +kernel
theorem d_O_unlike_7 : decode prog_1_method_23_code 7 = .ok (.ireturn, 1) := by decide +kernel
theorem d_O_done_0 : decode prog_1_method_24_code 0 = .ok (.iload_n 1, 1) := by decide +kernel
theorem d_O_done_1 : decode prog_1_method_24_code 1 = .ok (.invokestatic 172, 3) := by decide +kernel
theorem d_O_done_4 : decode prog_1_method_24_code 4 = .ok (.ifCond .eq 23, 3) := by decide +kernel
theorem d_O_done_7 : decode prog_1_method_24_code 7 = .ok (.iload_n 2, 1) := by decide +kernel
theorem d_O_done_8 : decode prog_1_method_24_code 8 = .ok (.iconst 0, 1) := by decide +kernel
theorem d_O_done_9 : decode prog_1_method_24_code 9 = .ok (.sipush 9999, 3) := by decide +kernel
theorem d_O_done_12 : decode prog_1_method_24_code 12 = .ok (.invokestatic 86, 3) := by decide +kernel
theorem d_O_done_15 : decode prog_1_method_24_code 15 = .ok (.ifCond .eq 12, 3) := by decide +kernel
theorem d_O_done_18 : decode prog_1_method_24_code 18 = .ok (.iload_n 3, 1) := by decide +kernel
theorem d_O_done_19 : decode prog_1_method_24_code 19 = .ok (.iconst 0, 1) := by decide +kernel
theorem d_O_done_20 : decode prog_1_method_24_code 20 = .ok (.iconst 1, 1) := by decide +kernel
theorem d_O_done_21 : decode prog_1_method_24_code 21 = .ok (.invokestatic 86, 3) := by decide +kernel
theorem d_O_done_24 : decode prog_1_method_24_code 24 = .ok (.ifCond .ne 9, 3) := by decide +kernel
theorem d_O_done_27 : decode prog_1_method_24_code 27 = .ok (.bipush (-2), 2) := by decide +kernel
theorem d_O_done_29 : decode prog_1_method_24_code 29 = .ok (.invokestatic 253, 3) := by decide +kernel
theorem d_O_done_32 : decode prog_1_method_24_code 32 = .ok (.lreturn, 1) := by decide +kernel
theorem d_O_done_33 : decode prog_1_method_24_code 33 = .ok (.iload_n 1, 1) := by decide +kernel
theorem d_O_done_34 : decode prog_1_method_24_code 34 = .ok (.invokestatic 230, 3) := by decide +kernel
theorem d_O_done_37 : decode prog_1_method_24_code 37 = .ok (.iconst 3, 1) := by decide +kernel
theorem d_O_done_38 : decode prog_1_method_24_code 38 = .ok (.if_icmp .le 9, 3) := by decide +kernel
theorem d_O_done_41 : decode prog_1_method_24_code 41 = .ok (.bipush (-4), 2) := by decide +kernel
theorem d_O_done_43 : decode prog_1_method_24_code 43 = .ok (.invokestatic 253, 3) := by decide +kernel
theorem d_O_done_46 : decode prog_1_method_24_code 46 = .ok (.lreturn, 1) := by decide +kernel
theorem d_O_done_47 : decode prog_1_method_24_code 47 = .ok (.aload_n 0, 1) := by decide +kernel
theorem d_O_done_48 : decode prog_1_method_24_code 48 = .ok (.getfield 65, 3) := by decide +kernel
theorem d_O_done_51 : decode prog_1_method_24_code 51 = .ok (.iload_n 1, 1) := by decide +kernel
theorem d_O_done_52 : decode prog_1_method_24_code 52 = .ok (.iload_n 2, 1) := by decide +kernel
theorem d_O_done_53 : decode prog_1_method_24_code 53 = .ok (.invokevirtual 257, 3) := by decide +kernel
theorem d_O_done_56 : decode prog_1_method_24_code 56 = .ok (.iload_n 3, 1) := by decide +kernel
theorem d_O_done_57 : decode prog_1_method_24_code 57 = .ok (.ifCond .ne 13, 3) := by decide +kernel
theorem d_O_done_60 : decode prog_1_method_24_code 60 = .ok (.aload_n 0, 1) := by decide +kernel
theorem d_O_done_61 : decode prog_1_method_24_code 61 = .ok (.getfield 65, 3) := by decide +kernel
theorem d_O_done_64 : decode prog_1_method_24_code 64 = .ok (.invokevirtual 260, 3) := by decide +kernel
theorem d_O_done_67 : decode prog_1_method_24_code 67 = .ok (.goto 10, 3) := by decide +kernel
theorem d_O_done_70 : decode prog_1_method_24_code 70 = .ok (.aload_n 0, 1) := by decide +kernel
theorem d_O_done_71 : decode prog_1_method_24_code 71 = .ok (.getfield 65, 3) := by decide +kernel
theorem d_O_done_74 : decode prog_1_method_24_code 74 = .ok (.invokevirtual 264, 3) := by decide +kernel
theorem d_O_done_77 : decode prog_1_method_24_code 77 = .ok (.lreturn, 1) := by decide +kernel
theorem d_O_mean_0 : decode prog_1_method_25_code 0 = .ok (.iload_n 1, 1) := by decide +kernel
theorem d_O_mean_1 : decode prog_1_method_25_code 1 = .ok (.invokestatic 172, 3) := by decide +kernel
theorem d_O_mean_4 : decode prog_1_method_25_code 4 = .ok (.ifCond .eq 12, 3) := by decide +kernel
theorem d_O_mean_7 : decode prog_1_method_25_code 7 = .ok (.iload_n 2, 1) := by decide +kernel
theorem d_O_mean_8 : decode prog_1_method_25_code 8 = .ok (.iconst 0, 1) := by decide +kernel
theorem d_O_mean_9 : decode prog_1_method_25_code 9 = .ok (.iconst 1, 1) := by decide +kernel
theorem d_O_mean_10 : decode prog_1_method_25_code 10 = .ok (.invokestatic 86, 3) := by decide +kernel
theorem d_O_mean_13 : decode prog_1_method_25_code 13 = .ok (.ifCond .ne 9, 3) := by decide +kernel
theorem d_O_mean_16 : decode prog_1_method_25_code 16 = .ok (.bipush (-2), 2) := by decide +kernel
theorem d_O_mean_18 : decode prog_1_method_25_code 18 = .ok (.invokestatic 253, 3) := by decide +kernel
theorem d_O_mean_21 : decode prog_1_method_25_code 21 = .ok (.lreturn, 1) := by decide +kernel
theorem d_O_mean_22 : decode prog_1_method_25_code 22 = .ok (.iload_n 1, 1) := by decide +kernel
theorem d_O_mean_23 : decode prog_1_method_25_code 23 = .ok (.invokestatic 230, 3) := by decide +kernel
theorem d_O_mean_26 : decode prog_1_method_25_code 26 = .ok (.iconst 3, 1) := by decide +kernel
theorem d_O_mean_27 : decode prog_1_method_25_code 27 = .ok (.if_icmp .le 9, 3) := by decide +kernel
theorem d_O_mean_30 : decode prog_1_method_25_code 30 = .ok (.bipush (-4), 2) := by decide +kernel
theorem d_O_mean_32 : decode prog_1_method_25_code 32 = .ok (.invokestatic 253, 3) := by decide +kernel
theorem d_O_mean_35 : decode prog_1_method_25_code 35 = .ok (.lreturn, 1) := by decide +kernel
theorem d_O_mean_36 : decode prog_1_method_25_code 36 = .ok (.aload_n 0, 1) := by decide +kernel
theorem d_O_mean_37 : decode prog_1_method_25_code 37 = .ok (.getfield 65, 3) := by decide +kernel
theorem d_O_mean_40 : decode prog_1_method_25_code 40 = .ok (.iload_n 1, 1) := by decide +kernel
theorem d_O_mean_41 : decode prog_1_method_25_code 41 = .ok (.invokevirtual 267, 3) := by decide +kernel
theorem d_O_mean_44 : decode prog_1_method_25_code 44 = .ok (.iload_n 2, 1) := by decide +kernel
theorem d_O_mean_45 : decode prog_1_method_25_code 45 = .ok (.ifCond .ne 13, 3) := by decide +kernel
theorem d_O_mean_48 : decode prog_1_method_25_code 48 = .ok (.aload_n 0, 1) := by decide +kernel
theorem d_O_mean_49 : decode prog_1_method_25_code 49 = .ok (.getfield 65, 3) := by decide +kernel
theorem d_O_mean_52 : decode prog_1_method_25_code 52 = .ok (.invokevirtual 260, 3) := by decide +kernel
theorem d_O_mean_55 : decode prog_1_method_25_code 55 = .ok (.goto 10, 3) := by decide +kernel
theorem d_O_mean_58 : decode prog_1_method_25_code 58 = .ok (.aload_n 0, 1) := by decide +kernel
theorem d_O_mean_59 : decode prog_1_method_25_code 59 = .ok (.getfield 65, 3) := by decide +kernel
theorem d_O_mean_62 : decode prog_1_method_25_code 62 = .ok (.invokevirtual 264, 3) := by decide +kernel
theorem d_O_mean_65 : decode prog_1_method_25_code 65 = .ok (.lreturn, 1) := by decide +kernel
theorem d_O_sheet_0 : decode prog_1_method_26_code 0 = .ok (.iload_n 1, 1) := by decide +kernel
theorem d_O_sheet_1 : decode prog_1_method_26_code 1 = .ok (.invokestatic 137, 3) := by decide +kernel
theorem d_O_sheet_4 : decode prog_1_method_26_code 4 = .ok (.ifCond .eq 16, 3) := by decide +kernel
theorem d_O_sheet_7 : decode prog_1_method_26_code 7 = .ok (.iload_n 2, 1) := by decide +kernel
theorem d_O_sheet_8 : decode prog_1_method_26_code 8 = .ok (.invokestatic 270, 3) := by decide +kernel
theorem d_O_sheet_11 : decode prog_1_method_26_code 11 = .ok (.ifCond .eq 9, 3) := by decide +kernel
theorem d_O_sheet_14 : decode prog_1_method_26_code 14 = .ok (.iload_n 3, 1) := by decide +kernel
theorem d_O_sheet_15 : decode prog_1_method_26_code 15 = .ok (.bipush 60, 2) := by decide +kernel
theorem d_O_sheet_17 : decode prog_1_method_26_code 17 = .ok (.if_icmp .le 6, 3) := by decide +kernel
theorem d_O_sheet_20 : decode prog_1_method_26_code 20 = .ok (.bipush (-2), 2) := by decide +kernel
theorem d_O_sheet_22 : decode prog_1_method_26_code 22 = .ok (.ireturn, 1) := by decide +kernel
theorem d_O_sheet_23 : decode prog_1_method_26_code 23 = .ok (.iload_n 3, 1) := by decide +kernel
theorem d_O_sheet_24 : decode prog_1_method_26_code 24 = .ok (.ifCond .ge 9, 3) := by decide +kernel
theorem d_O_sheet_27 : decode prog_1_method_26_code 27 = .ok (.aload_n 0, 1) := by decide +kernel
theorem d_O_sheet_28 : decode prog_1_method_26_code 28 = .ok (.iconst 5, 1) := by decide +kernel
theorem d_O_sheet_29 : decode prog_1_method_26_code 29 = .ok (.invokevirtual 144, 3) := by decide +kernel
theorem d_O_sheet_32 : decode prog_1_method_26_code 32 = .ok (.ireturn, 1) := by decide +kernel
theorem d_O_sheet_33 : decode prog_1_method_26_code 33 = .ok (.aload_n 0, 1) := by decide +kernel
theorem d_O_sheet_34 : decode prog_1_method_26_code 34 = .ok (.getfield 71, 3) := by decide +kernel
theorem d_O_sheet_37 : decode prog_1_method_26_code 37 = .ok (.iload_n 1, 1) := by decide +kernel
theorem d_O_sheet_38 : decode prog_1_method_26_code 38 = .ok (.aaload, 1) := by decide +kernel
theorem d_O_sheet_39 : decode prog_1_method_26_code 39 = .ok (.iload_n 2, 1) := by decide +kernel
theorem d_O_sheet_40 : decode prog_1_method_26_code 40 = .ok (.iload_n 3, 1) := by decide +kernel
theorem d_O_sheet_41 : decode prog_1_method_26_code 41 = .ok (.invokevirtual 273, 3) := by decide +kernel
theorem d_O_sheet_44 : decode prog_1_method_26_code 44 = .ok (.iload_n 3, 1) := by decide +kernel
theorem d_O_sheet_45 : decode prog_1_method_26_code 45 = .ok (.ireturn, 1) := by decide +kernel
theorem d_O_lose_0 : decode prog_1_method_27_code 0 = .ok (.iload_n 1, 1) := by decide +kernel
theorem d_O_lose_1 : decode prog_1_method_27_code 1 = .ok (.invokestatic 137, 3) := by decide +kernel
theorem d_O_lose_4 : decode prog_1_method_27_code 4 = .ok (.ifCond .ne 6, 3) := by decide +kernel
theorem d_O_lose_7 : decode prog_1_method_27_code 7 = .ok (.bipush (-2), 2) := by decide +kernel
theorem d_O_lose_9 : decode prog_1_method_27_code 9 = .ok (.ireturn, 1) := by decide +kernel
theorem d_O_lose_10 : decode prog_1_method_27_code 10 = .ok (.aload_n 0, 1) := by decide +kernel
theorem d_O_lose_11 : decode prog_1_method_27_code 11 = .ok (.getfield 71, 3) := by decide +kernel
theorem d_O_lose_14 : decode prog_1_method_27_code 14 = .ok (.iload_n 1, 1) := by decide +kernel
theorem d_O_lose_15 : decode prog_1_method_27_code 15 = .ok (.aaload, 1) := by decide +kernel
theorem d_O_lose_16 : decode prog_1_method_27_code 16 = .ok (.invokevirtual 140, 3) := by decide +kernel
theorem d_O_lose_19 : decode prog_1_method_27_code 19 = .ok (.ifCond .eq 9, 3) := by decide +kernel
theorem d_O_lose_22 : decode prog_1_method_27_code 22 = .ok (.aload_n 0, 1) := by decide +kernel
theorem d_O_lose_23 : decode prog_1_method_27_code 23 = .ok (.iconst 1, 1) := by decide +kernel
theorem d_O_lose_24 : decode prog_1_method_27_code 24 = .ok (.invokevirtual 144, 3) := by decide +kernel
theorem d_O_lose_27 : decode prog_1_method_27_code 27 = .ok (.ireturn, 1) := by decide +kernel
theorem d_O_lose_28 : decode prog_1_method_27_code 28 = .ok (.aload_n 0, 1) := by decide +kernel
theorem d_O_lose_29 : decode prog_1_method_27_code 29 = .ok (.getfield 71, 3) := by decide +kernel
theorem d_O_lose_32 : decode prog_1_method_27_code 32 = .ok (.iload_n 1, 1) := by decide +kernel
theorem d_O_lose_33 : decode prog_1_method_27_code 33 = .ok (.aaload, 1) := by decide +kernel
theorem d_O_lose_34 : decode prog_1_method_27_code 34 = .ok (.invokevirtual 147, 3) := by decide +kernel
theorem d_O_lose_37 : decode prog_1_method_27_code 37 = .ok (.istore_n 2, 1) := by decide +kernel
theorem d_O_lose_38 : decode prog_1_method_27_code 38 = .ok (.aload_n 0, 1) := by decide +kernel
theorem d_O_lose_39 : decode prog_1_method_27_code 39 = .ok (.getfield 71, 3) := by decide +kernel
theorem d_O_lose_42 : decode prog_1_method_27_code 42 = .ok (.iload_n 1, 1) := by decide +kernel
theorem d_O_lose_43 : decode prog_1_method_27_code 43 = .ok (.aaload, 1) := by decide +kernel
theorem d_O_lose_44 : decode prog_1_method_27_code 44 = .ok (.invokevirtual 276, 3) := by decide +kernel
theorem d_O_lose_47 : decode prog_1_method_27_code 47 = .ok (.iload_n 2, 1) := by decide +kernel
theorem d_O_lose_48 : decode prog_1_method_27_code 48 = .ok (.ireturn, 1) := by decide +kernel
theorem d_O_lay_0 : decode prog_1_method_28_code 0 = .ok (.iload_n 1, 1) := by decide +kernel
theorem d_O_lay_1 : decode prog_1_method_28_code 1 = .ok (.invokestatic 137, 3) := by decide +kernel
theorem d_O_lay_4 : decode prog_1_method_28_code 4 = .ok (.ifCond .eq 10, 3) := by decide +kernel
theorem d_O_lay_7 : decode prog_1_method_28_code 7 = .ok (.iload_n 2, 1) := by decide +kernel
theorem d_O_lay_8 : decode prog_1_method_28_code 8 = .ok (.invokestatic 270, 3) := by decide +kernel
theorem d_O_lay_11 : decode prog_1_method_28_code 11 = .ok (.ifCond .ne 6, 3) := by decide +kernel
theorem d_O_lay_14 : decode prog_1_method_28_code 14 = .ok (.bipush (-2), 2) := by decide +kernel
theorem d_O_lay_16 : decode prog_1_method_28_code 16 = .ok (.ireturn, 1) := by decide +kernel
theorem d_O_lay_17 : decode prog_1_method_28_code 17 = .ok (.aload_n 0, 1) := by decide +kernel
theorem d_O_lay_18 : decode prog_1_method_28_code 18 = .ok (.getfield 71, 3) := by decide +kernel
theorem d_O_lay_21 : decode prog_1_method_28_code 21 = .ok (.iload_n 1, 1) := by decide +kernel
theorem d_O_lay_22 : decode prog_1_method_28_code 22 = .ok (.aaload, 1) := by decide +kernel
theorem d_O_lay_23 : decode prog_1_method_28_code 23 = .ok (.iload_n 2, 1) := by decide +kernel
theorem d_O_lay_24 : decode prog_1_method_28_code 24 = .ok (.iload_n 3, 1) := by decide +kernel
theorem d_O_lay_25 : decode prog_1_method_28_code 25 = .ok (.invokestatic 279, 3) := by decide +kernel
theorem d_O_lay_28 : decode prog_1_method_28_code 28 = .ok (.istore 5, 2) := by decide +kernel
theorem d_O_lay_30 : decode prog_1_method_28_code 30 = .ok (.iload 5, 2) := by decide +kernel
theorem d_O_lay_32 : decode prog_1_method_28_code 32 = .ok (.ifCond .eq 10, 3) := by decide +kernel
theorem d_O_lay_35 : decode prog_1_method_28_code 35 = .ok (.aload_n 0, 1) := by decide +kernel
theorem d_O_lay_36 : decode prog_1_method_28_code 36 = .ok (.iload 5, 2) := by decide +kernel
theorem d_O_lay_38 : decode prog_1_method_28_code 38 = .ok (.invokevirtual 144, 3) := by decide +kernel
theorem d_O_lay_41 : decode prog_1_method_28_code 41 = .ok (.ireturn, 1) := by decide +kernel
theorem d_O_lay_42 : decode prog_1_method_28_code 42 = .ok (.aload_n 0, 1) := by decide +kernel
theorem d_O_lay_43 : decode prog_1_method_28_code 43 = .ok (.getfield 71, 3) := by decide +kernel
theorem d_O_lay_46 : decode prog_1_method_28_code 46 = .ok (.iload_n 1, 1) := by decide +kernel
theorem d_O_lay_47 : decode prog_1_method_28_code 47 = .ok (.aaload, 1) := by decide +kernel
theorem d_O_lay_48 : decode prog_1_method_28_code 48 = .ok (.iload_n 3, 1) := by decide +kernel
theorem d_O_lay_49 : decode prog_1_method_28_code 49 = .ok (.iload 4, 2) := by decide +kernel
theorem d_O_lay_51 : decode prog_1_method_28_code 51 = .ok (.invokevirtual 283, 3) := by decide +kernel
theorem d_O_lay_54 : decode prog_1_method_28_code 54 = .ok (.iconst 1, 1) := by decide +kernel
theorem d_O_lay_55 : decode prog_1_method_28_code 55 = .ok (.ireturn, 1) := by decide +kernel
theorem d_O_get_0 : decode prog_1_method_29_code 0 = .ok (.iload_n 1, 1) := by decide +kernel
theorem d_O_get_1 : decode prog_1_method_29_code 1 = .ok (.invokestatic 137, 3) := by decide +kernel
theorem d_O_get_4 : decode prog_1_method_29_code 4 = .ok (.ifCond .eq 10, 3) := by decide +kernel
theorem d_O_get_7 : decode prog_1_method_29_code 7 = .ok (.iload_n 2, 1) := by decide +kernel
theorem d_O_get_8 : decode prog_1_method_29_code 8 = .ok (.invokestatic 270, 3) := by decide +kernel
theorem d_O_get_11 : decode prog_1_method_29_code 11 = .ok (.ifCond .ne 7, 3) := by decide +kernel
theorem d_O_get_14 : decode prog_1_method_29_code 14 = .ok (.ldc_w 286, 3) := by decide +kernel
theorem d_O_get_17 : decode prog_1_method_29_code 17 = .ok (.ireturn, 1) := by decide +kernel
theorem d_O_get_18 : decode prog_1_method_29_code 18 = .ok (.aload_n 0, 1) := by decide +kernel
theorem d_O_get_19 : decode prog_1_method_29_code 19 = .ok (.getfield 71, 3) := by decide +kernel
theorem d_O_get_22 : decode prog_1_method_29_code 22 = .ok (.iload_n 1, 1) := by decide +kernel
theorem d_O_get_23 : decode prog_1_method_29_code 23 = .ok (.aaload, 1) := by decide +kernel
theorem d_O_get_24 : decode prog_1_method_29_code 24 = .ok (.iload_n 2, 1) := by decide +kernel
theorem d_O_get_25 : decode prog_1_method_29_code 25 = .ok (.iload_n 3, 1) := by decide +kernel
theorem d_O_get_26 : decode prog_1_method_29_code 26 = .ok (.invokestatic 279, 3) := by decide +kernel
theorem d_O_get_29 : decode prog_1_method_29_code 29 = .ok (.istore 4, 2) := by decide +kernel
theorem d_O_get_31 : decode prog_1_method_29_code 31 = .ok (.iload 4, 2) := by decide +kernel
theorem d_O_get_33 : decode prog_1_method_29_code 33 = .ok (.ifCond .eq 13, 3) := by decide +kernel
theorem d_O_get_36 : decode prog_1_method_29_code 36 = .ok (.aload_n 0, 1) := by decide +kernel
theorem d_O_get_37 : decode prog_1_method_29_code 37 = .ok (.iload 4, 2) := by decide +kernel
theorem d_O_get_39 : decode prog_1_method_29_code 39 = .ok (.putfield 83, 3) := by decide +kernel
theorem d_O_get_42 : decode prog_1_method_29_code 42 = .ok (.ldc_w 286, 3) := by decide +kernel
theorem d_O_get_45 : decode prog_1_method_29_code 45 = .ok (.ireturn, 1) := by decide +kernel
theorem d_O_get_46 : decode prog_1_method_29_code 46 = .ok (.aload_n 0, 1) := by decide +kernel
theorem d_O_get_47 : decode prog_1_method_29_code 47 = .ok (.getfield 71, 3) := by decide +kernel
theorem d_O_get_50 : decode prog_1_method_29_code 50 = .ok (.iload_n 1, 1) := by decide +kernel
theorem d_O_get_51 : decode prog_1_method_29_code 51 = .ok (.aaload, 1) := by decide +kernel
theorem d_O_get_52 : decode prog_1_method_29_code 52 = .ok (.iload_n 3, 1) := by decide +kernel
theorem d_O_get_53 : decode prog_1_method_29_code 53 = .ok (.invokevirtual 153, 3) := by decide +kernel
theorem d_O_get_56 : decode prog_1_method_29_code 56 = .ok (.ireturn, 1) := by decide +kernel
theorem d_O_copy_0 : decode prog_1_method_30_code 0 = .ok (.iload_n 1, 1) := by decide +kernel
theorem d_O_copy_1 : decode prog_1_method_30_code 1 = .ok (.invokestatic 137, 3) := by decide +kernel
theorem d_O_copy_4 : decode prog_1_method_30_code 4 = .ok (.ifCond .eq 10, 3) := by decide +kernel
theorem d_O_copy_7 : decode prog_1_method_30_code 7 = .ok (.iload_n 3, 1) := by decide +kernel
theorem d_O_copy_8 : decode prog_1_method_30_code 8 = .ok (.invokestatic 137, 3) := by decide +kernel
theorem d_O_copy_11 : decode prog_1_method_30_code 11 = .ok (.ifCond .ne 6, 3) := by decide +kernel
theorem d_O_copy_14 : decode prog_1_method_30_code 14 = .ok (.bipush (-2), 2) := by decide +kernel
theorem d_O_copy_16 : decode prog_1_method_30_code 16 = .ok (.ireturn, 1) := by decide +kernel
theorem d_O_copy_17 : decode prog_1_method_30_code 17 = .ok (.aload_n 0, 1) := by decide +kernel
theorem d_O_copy_18 : decode prog_1_method_30_code 18 = .ok (.getfield 71, 3) := by decide +kernel
theorem d_O_copy_21 : decode prog_1_method_30_code 21 = .ok (.iload_n 1, 1) := by decide +kernel
theorem d_O_copy_22 : decode prog_1_method_30_code 22 = .ok (.aaload, 1) := by decide +kernel
theorem d_O_copy_23 : decode prog_1_method_30_code 23 = .ok (.astore 6, 2) := by decide +kernel
theorem d_O_copy_25 : decode prog_1_method_30_code 25 = .ok (.aload_n 0, 1) := by decide +kernel
theorem d_O_copy_26 : decode prog_1_method_30_code 26 = .ok (.getfield 71, 3) := by decide +kernel
theorem d_O_copy_29 : decode prog_1_method_30_code 29 = .ok (.iload_n 3, 1) := by decide +kernel
theorem d_O_copy_30 : decode prog_1_method_30_code 30 = .ok (.aaload, 1) := by decide +kernel
theorem d_O_copy_31 : decode prog_1_method_30_code 31 = .ok (.astore 7, 2) := by decide +kernel
theorem d_O_copy_33 : decode prog_1_method_30_code 33 = .ok (.aload 6, 2) := by decide +kernel
theorem d_O_copy_35 : decode prog_1_method_30_code 35 = .ok (.invokevirtual 140, 3) := by decide +kernel
theorem d_O_copy_38 : decode prog_1_method_30_code 38 = .ok (.ifCond .ne 11, 3) := by decide +kernel
theorem d_O_copy_41 : decode prog_1_method_30_code 41 = .ok (.aload 7, 2) := by decide +kernel
theorem d_O_copy_43 : decode prog_1_method_30_code 43 = .ok (.invokevirtual 140, 3) := by decide +kernel
theorem d_O_copy_46 : decode prog_1_method_30_code 46 = .ok (.ifCond .eq 9, 3) := by decide +kernel
theorem d_O_copy_49 : decode prog_1_method_30_code 49 = .ok (.aload_n 0, 1) := by decide +kernel
theorem d_O_copy_50 : decode prog_1_method_30_code 50 = .ok (.iconst 1, 1) := by decide +kernel
theorem d_O_copy_51 : decode prog_1_method_30_code 51 = .ok (.invokevirtual 144, 3) := by decide +kernel
theorem d_O_copy_54 : decode prog_1_method_30_code 54 = .ok (.ireturn, 1) := by decide +kernel
theorem d_O_copy_55 : decode prog_1_method_30_code 55 = .ok (.aload 6, 2) := by decide +kernel
theorem d_O_copy_57 : decode prog_1_method_30_code 57 = .ok (.invokevirtual 287, 3) := by decide +kernel
theorem d_O_copy_60 : decode prog_1_method_30_code 60 = .ok (.aload 7, 2) := by decide +kernel
theorem d_O_copy_62 : decode prog_1_method_30_code 62 = .ok (.invokevirtual 287, 3) := by decide +kernel
theorem d_O_copy_65 : decode prog_1_method_30_code 65 = .ok (.if_icmp .eq 9, 3) := by decide +kernel
theorem d_O_copy_68 : decode prog_1_method_30_code 68 = .ok (.aload_n 0, 1) := by decide +kernel
theorem d_O_copy_69 : decode prog_1_method_30_code 69 = .ok (.iconst 4, 1) := by decide +kernel
theorem d_O_copy_70 : decode prog_1_method_30_code 70 = .ok (.invokevirtual 144, 3) := by decide +kernel
theorem d_O_copy_73 : decode prog_1_method_30_code 73 = .ok (.ireturn, 1) := by decide +kernel
theorem d_O_copy_74 : decode prog_1_method_30_code 74 = .ok (.aload 6, 2) := by decide +kernel
theorem d_O_copy_76 : decode prog_1_method_30_code 76 = .ok (.iload_n 2, 1) := by decide +kernel
theorem d_O_copy_77 : decode prog_1_method_30_code 77 = .ok (.iload 5, 2) := by decide +kernel
theorem d_O_copy_79 : decode prog_1_method_30_code 79 = .ok (.invokevirtual 290, 3) := by decide +kernel
theorem d_O_copy_82 : decode prog_1_method_30_code 82 = .ok (.ifCond .eq 15, 3) := by decide +kernel
theorem d_O_copy_85 : decode prog_1_method_30_code 85 = .ok (.aload 7, 2) := by decide +kernel
theorem d_O_copy_87 : decode prog_1_method_30_code 87 = .ok (.iload 4, 2) := by decide +kernel
theorem d_O_copy_89 : decode prog_1_method_30_code 89 = .ok (.iload 5, 2) := by decide +kernel
theorem d_O_copy_91 : decode prog_1_method_30_code 91 = .ok (.invokevirtual 290, 3) := by decide +kernel
theorem d_O_copy_94 : decode prog_1_method_30_code 94 = .ok (.ifCond .ne 9, 3) := by decide +kernel
theorem d_O_copy_97 : decode prog_1_method_30_code 97 = .ok (.aload_n 0, 1) := by decide +kernel
theorem d_O_copy_98 : decode prog_1_method_30_code 98 = .ok (.iconst 2, 1) := by decide +kernel
theorem d_O_copy_99 : decode prog_1_method_30_code 99 = .ok (.invokevirtual 144, 3) := by decide +kernel
theorem d_O_copy_102 : decode prog_1_method_30_code 102 = .ok (.ireturn, 1) := by decide +kernel
theorem d_O_copy_103 : decode prog_1_method_30_code 103 = .ok (.aload 7, 2) := by decide +kernel
theorem d_O_copy_105 : decode prog_1_method_30_code 105 = .ok (.aload 6, 2) := by decide +kernel
theorem d_O_copy_107 : decode prog_1_method_30_code 107 = .ok (.iload_n 2, 1) := by decide +kernel
theorem d_O_copy_108 : decode prog_1_method_30_code 108 = .ok (.iload 4, 2) := by decide +kernel
theorem d_O_copy_110 : decode prog_1_method_30_code 110 = .ok (.iload 5, 2) := by decide +kernel
theorem d_O_copy_112 : decode prog_1_method_30_code 112 = .ok (.invokevirtual 293, 3) := by decide +kernel
theorem d_O_copy_115 : decode prog_1_method_30_code 115 = .ok (.iconst 1, 1) := by decide +kernel
theorem d_O_copy_116 : decode prog_1_method_30_code 116 = .ok (.ireturn, 1) := by decide +kernel
theorem d_O_write_0 : decode prog_1_method_31_code 0 = .ok (.iload_n 1, 1) := by decide +kernel
theorem d_O_write_1 : decode prog_1_method_31_code 1 = .ok (.invokestatic 121, 3) := by decide +kernel
theorem d_O_write_4 : decode prog_1_method_31_code 4 = .ok (.ifCond .eq 10, 3) := by decide +kernel
theorem d_O_write_7 : decode prog_1_method_31_code 7 = .ok (.iload_n 2, 1) := by decide +kernel
theorem d_O_write_8 : decode prog_1_method_31_code 8 = .ok (.invokestatic 137, 3) := by decide +kernel
theorem d_O_write_11 : decode prog_1_method_31_code 11 = .ok (.ifCond .ne 6, 3) := by decide +kernel
theorem d_O_write_14 : decode prog_1_method_31_code 14 = .ok (.bipush (-2), 2) := by decide +kernel
theorem d_O_write_16 : decode prog_1_method_31_code 16 = .ok (.ireturn, 1) := by decide +kernel
theorem d_O_write_17 : decode prog_1_method_31_code 17 = .ok (.aload_n 0, 1) := by decide +kernel
theorem d_O_write_18 : decode prog_1_method_31_code 18 = .ok (.getfield 71, 3) := by decide +kernel
theorem d_O_write_21 : decode prog_1_method_31_code 21 = .ok (.iload_n 2, 1) := by decide +kernel
theorem d_O_write_22 : decode prog_1_method_31_code 22 = .ok (.aaload, 1) := by decide +kernel
theorem d_O_write_23 : decode prog_1_method_31_code 23 = .ok (.astore_n 3, 1) := by decide +kernel
theorem d_O_write_24 : decode prog_1_method_31_code 24 = .ok (.aload_n 3, 1) := by decide +kernel
theorem d_O_write_25 : decode prog_1_method_31_code 25 = .ok (.invokevirtual 140, 3) := by decide +kernel
theorem d_O_write_28 : decode prog_1_method_31_code 28 = .ok (.ifCond .eq 9, 3) := by decide +kernel
theorem d_O_write_31 : decode prog_1_method_31_code 31 = .ok (.aload_n 0, 1) := by decide +kernel
theorem d_O_write_32 : decode prog_1_method_31_code 32 = .ok (.iconst 1, 1) := by decide +kernel
theorem d_O_write_33 : decode prog_1_method_31_code 33 = .ok (.invokevirtual 144, 3) := by decide +kernel
theorem d_O_write_36 : decode prog_1_method_31_code 36 = .ok (.ireturn, 1) := by decide +kernel
theorem d_O_write_37 : decode prog_1_method_31_code 37 = .ok (.aload_n 0, 1) := by decide +kernel
theorem d_O_write_38 : decode prog_1_method_31_code 38 = .ok (.getfield 10, 3) := by decide +kernel
theorem d_O_write_41 : decode prog_1_method_31_code 41 = .ok (.invokevirtual 297, 3) := by decide +kernel
theorem d_O_write_44 : decode prog_1_method_31_code 44 = .ok (.aload_n 3, 1) := by decide +kernel
theorem d_O_write_45 : decode prog_1_method_31_code 45 = .ok (.invokevirtual 147, 3) := by decide +kernel
theorem d_O_write_48 : decode prog_1_method_31_code 48 = .ok (.invokestatic 148, 3) := by decide +kernel
theorem d_O_write_51 : decode prog_1_method_31_code 51 = .ok (.istore 4, 2) := by decide +kernel
theorem d_O_write_53 : decode prog_1_method_31_code 53 = .ok (.iconst 0, 1) := by decide +kernel
theorem d_O_write_54 : decode prog_1_method_31_code 54 = .ok (.istore 5, 2) := by decide +kernel
theorem d_O_write_56 : decode prog_1_method_31_code 56 = .ok (.iload 5, 2) := by decide +kernel
theorem d_O_write_58 : decode prog_1_method_31_code 58 = .ok (.iload 4, 2) := by decide +kernel
theorem d_O_write_60 : decode prog_1_method_31_code 60 = .ok (.if_icmp .ge 25, 3) := by decide +kernel
theorem d_O_write_63 : decode prog_1_method_31_code 63 = .ok (.aload_n 3, 1) := by decide +kernel
theorem d_O_write_64 : decode prog_1_method_31_code 64 = .ok (.iload 5, 2) := by decide +kernel
theorem d_O_write_66 : decode prog_1_method_31_code 66 = .ok (.aload_n 0, 1) := by decide +kernel
theorem d_O_write_67 : decode prog_1_method_31_code 67 = .ok (.getfield 21, 3) := by decide +kernel
theorem d_O_write_70 : decode prog_1_method_31_code 70 = .ok (.iload_n 1, 1) := by decide +kernel
theorem d_O_write_71 : decode prog_1_method_31_code 71 = .ok (.iload 5, 2) := by decide +kernel
theorem d_O_write_73 : decode prog_1_method_31_code 73 = .ok (.invokevirtual 169, 3) := by decide +kernel
theorem d_O_write_76 : decode prog_1_method_31_code 76 = .ok (.invokevirtual 283, 3) := by decide +kernel
theorem d_O_write_79 : decode prog_1_method_31_code 79 = .ok (.iinc 5 1, 3) := by decide +kernel
theorem d_O_write_82 : decode prog_1_method_31_code 82 = .ok (.goto (-26), 3) := by decide +kernel
theorem d_O_write_85 : decode prog_1_method_31_code 85 = .ok (.iload 4, 2) := by decide +kernel
theorem d_O_write_87 : decode prog_1_method_31_code 87 = .ok (.ireturn, 1) := by decide +kernel
theorem d_O_count_0 : decode prog_1_method_32_code 0 = .ok (.iload_n 1, 1) := by decide +kernel
theorem d_O_count_1 : decode prog_1_method_32_code 1 = .ok (.tableswitch 114 0 8 #[51, 59, 67, 75, 83, 91, 99, 104, 109], 51) := by decide +kernel
theorem d_O_count_52 : decode prog_1_method_32_code 52 = .ok (.aload_n 0, 1) := by decide +kernel
theorem d_O_count_53 : decode prog_1_method_32_code 53 = .ok (.getfield 10, 3) := by decide +kernel
theorem d_O_count_56 : decode prog_1_method_32_code 56 = .ok (.invokevirtual 297, 3) := by decide +kernel
theorem d_O_count_59 : decode prog_1_method_32_code 59 = .ok (.ireturn, 1) := by decide +kernel
theorem d_O_count_60 : decode prog_1_method_32_code 60 = .ok (.aload_n 0, 1) := by decide +kernel
theorem d_O_count_61 : decode prog_1_method_32_code 61 = .ok (.getfield 10, 3) := by decide +kernel
theorem d_O_count_64 : decode prog_1_method_32_code 64 = .ok (.invokevirtual 94, 3) := by decide +kernel
theorem d_O_count_67 : decode prog_1_method_32_code 67 = .ok (.ireturn, 1) := by decide +kernel
theorem d_O_count_68 : decode prog_1_method_32_code 68 = .ok (.aload_n 0, 1) := by decide +kernel
theorem d_O_count_69 : decode prog_1_method_32_code 69 = .ok (.getfield 10, 3) := by decide +kernel
theorem d_O_count_72 : decode prog_1_method_32_code 72 = .ok (.invokevirtual 298, 3) := by decide +kernel
theorem d_O_count_75 : decode prog_1_method_32_code 75 = .ok (.ireturn, 1) := by decide +kernel
theorem d_O_count_76 : decode prog_1_method_32_code 76 = .ok (.aload_n 0, 1) := by decide +kernel
theorem d_O_count_77 : decode prog_1_method_32_code 77 = .ok (.getfield 21, 3) := by decide +kernel
theorem d_O_count_80 : decode prog_1_method_32_code 80 = .ok (.invokevirtual 301, 3) := by decide +kernel
theorem d_O_count_83 : decode prog_1_method_32_code 83 = .ok (.ireturn, 1) := by decide +kernel
theorem d_O_count_84 : decode prog_1_method_32_code 84 = .ok (.aload_n 0, 1) := by decide +kernel
theorem d_O_count_85 : decode prog_1_method_32_code 85 = .ok (.getfield 21, 3) := by decide +kernel
theorem d_O_count_88 : decode prog_1_method_32_code 88 = .ok (.invokevirtual 304, 3) := by decide +kernel
theorem d_O_count_91 : decode prog_1_method_32_code 91 = .ok (.ireturn, 1) := by decide +kernel
theorem d_O_count_92 : decode prog_1_method_32_code 92 = .ok (.aload_n 0, 1) := by decide +kernel
theorem d_O_count_93 : decode prog_1_method_32_code 93 = .ok (.getfield 58, 3) := by decide +kernel
theorem d_O_count_96 : decode prog_1_method_32_code 96 = .ok (.invokevirtual 245, 3) := by decide +kernel
theorem d_O_count_99 : decode prog_1_method_32_code 99 = .ok (.ireturn, 1) := by decide +kernel
theorem d_O_count_100 : decode prog_1_method_32_code 100 = .ok (.aload_n 0, 1) := by decide +kernel
theorem d_O_count_101 : decode prog_1_method_32_code 101 = .ok (.getfield 76, 3) := by decide +kernel
theorem d_O_count_104 : decode prog_1_method_32_code 104 = .ok (.ireturn, 1) := by decide +kernel
theorem d_O_count_105 : decode prog_1_method_32_code 105 = .ok (.aload_n 0, 1) := by decide +kernel
theorem d_O_count_106 : decode prog_1_method_32_code 106 = .ok (.getfield 80, 3) := by decide +kernel
theorem d_O_count_109 : decode prog_1_method_32_code 109 = .ok (.ireturn, 1) := by decide +kernel
theorem d_O_count_110 : decode prog_1_method_32_code 110 = .ok (.aload_n 0, 1) := by decide +kernel
theorem d_O_count_111 : decode prog_1_method_32_code 111 = .ok (.getfield 83, 3) := by decide +kernel
theorem d_O_count_114 : decode prog_1_method_32_code 114 = .ok (.ireturn, 1) := by decide +kernel
theorem d_O_count_115 : decode prog_1_method_32_code 115 = .ok (.bipush (-2), 2) := by decide +kernel
theorem d_O_count_117 : decode prog_1_method_32_code 117 = .ok (.ireturn, 1) := by decide +kernel
theorem d_O_digest_0 : decode prog_1_method_33_code 0 = .ok (.ldc2_w 307, 3) := by decide +kernel
theorem d_O_digest_3 : decode prog_1_method_33_code 3 = .ok (.lstore_n 1, 1) := by decide +kernel
theorem d_O_digest_4 : decode prog_1_method_33_code 4 = .ok (.iconst 0, 1) := by decide +kernel
theorem d_O_digest_5 : decode prog_1_method_33_code 5 = .ok (.istore_n 3, 1) := by decide +kernel
theorem d_O_digest_6 : decode prog_1_method_33_code 6 = .ok (.iload_n 3, 1) := by decide +kernel
theorem d_O_digest_7 : decode prog_1_method_33_code 7 = .ok (.bipush 7, 2) := by decide +kernel
theorem d_O_digest_9 : decode prog_1_method_33_code 9 = .ok (.if_icmp .gt 20, 3) := by decide +kernel
theorem d_O_digest_12 : decode prog_1_method_33_code 12 = .ok (.lload_n 1, 1) := by decide +kernel
theorem d_O_digest_13 : decode prog_1_method_33_code 13 = .ok (.aload_n 0, 1) := by decide +kernel
theorem d_O_digest_14 : decode prog_1_method_33_code 14 = .ok (.iload_n 3, 1) := by decide +kernel
theorem d_O_digest_15 : decode prog_1_method_33_code 15 = .ok (.invokevirtual 309, 3) := by decide +kernel
theorem d_O_digest_18 : decode prog_1_method_33_code 18 = .ok (.i2l, 1) := by decide +kernel
theorem d_O_digest_19 : decode prog_1_method_33_code 19 = .ok (.invokestatic 312, 3) := by decide +kernel
theorem d_O_digest_22 : decode prog_1_method_33_code 22 = .ok (.lstore_n 1, 1) := by decide +kernel
theorem d_O_digest_23 : decode prog_1_method_33_code 23 = .ok (.iinc 3 1, 3) := by decide +kernel
theorem d_O_digest_26 : decode prog_1_method_33_code 26 = .ok (.goto (-20), 3) := by decide +kernel
theorem d_O_digest_29 : decode prog_1_method_33_code 29 = .ok (.lload_n 1, 1) := by decide +kernel
theorem d_O_digest_30 : decode prog_1_method_33_code 30 = .ok (.aload_n 0, 1) := by decide +kernel
theorem d_O_digest_31 : decode prog_1_method_33_code 31 = .ok (.invokevirtual 316, 3) := by decide +kernel
theorem d_O_digest_34 : decode prog_1_method_33_code 34 = .ok (.i2l, 1) := by decide +kernel
theorem d_O_digest_35 : decode prog_1_method_33_code 35 = .ok (.invokestatic 312, 3) := by decide +kernel
theorem d_O_digest_38 : decode prog_1_method_33_code 38 = .ok (.lstore_n 1, 1) := by decide +kernel
theorem d_O_digest_39 : decode prog_1_method_33_code 39 = .ok (.aload_n 0, 1) := by decide +kernel
theorem d_O_digest_40 : decode prog_1_method_33_code 40 = .ok (.getfield 37, 3) := by decide +kernel
theorem d_O_digest_43 : decode prog_1_method_33_code 43 = .ok (.iconst 0, 1) := by decide +kernel
theorem d_O_digest_44 : decode prog_1_method_33_code 44 = .ok (.iconst 1, 1) := by decide +kernel
theorem d_O_digest_45 : decode prog_1_method_33_code 45 = .ok (.aload_n 0, 1) := by decide +kernel
theorem d_O_digest_46 : decode prog_1_method_33_code 46 = .ok (.getfield 76, 3) := by decide +kernel
theorem d_O_digest_49 : decode prog_1_method_33_code 49 = .ok (.aload_n 0, 1) := by decide +kernel
theorem d_O_digest_50 : decode prog_1_method_33_code 50 = .ok (.getfield 80, 3) := by decide +kernel
theorem d_O_digest_53 : decode prog_1_method_33_code 53 = .ok (.invokevirtual 201, 3) := by decide +kernel
theorem d_O_digest_56 : decode prog_1_method_33_code 56 = .ok (.iconst 0, 1) := by decide +kernel
theorem d_O_digest_57 : decode prog_1_method_33_code 57 = .ok (.istore_n 3, 1) := by decide +kernel
theorem d_O_digest_58 : decode prog_1_method_33_code 58 = .ok (.iload_n 3, 1) := by decide +kernel
theorem d_O_digest_59 : decode prog_1_method_33_code 59 = .ok (.aload_n 0, 1) := by decide +kernel
theorem d_O_digest_60 : decode prog_1_method_33_code 60 = .ok (.getfield 10, 3) := by decide +kernel
theorem d_O_digest_63 : decode prog_1_method_33_code 63 = .ok (.invokevirtual 297, 3) := by decide +kernel
theorem d_O_digest_66 : decode prog_1_method_33_code 66 = .ok (.if_icmp .ge 16, 3) := by decide +kernel
theorem d_O_digest_69 : decode prog_1_method_33_code 69 = .ok (.aload_n 0, 1) := by decide +kernel
theorem d_O_digest_70 : decode prog_1_method_33_code 70 = .ok (.lload_n 1, 1) := by decide +kernel
theorem d_O_digest_71 : decode prog_1_method_33_code 71 = .ok (.iload_n 3, 1) := by decide +kernel
theorem d_O_digest_72 : decode prog_1_method_33_code 72 = .ok (.invokevirtual 319, 3) := by decide +kernel
theorem d_O_digest_75 : decode prog_1_method_33_code 75 = .ok (.lstore_n 1, 1) := by decide +kernel
theorem d_O_digest_76 : decode prog_1_method_33_code 76 = .ok (.iinc 3 1, 3) := by decide +kernel
theorem d_O_digest_79 : decode prog_1_method_33_code 79 = .ok (.goto (-21), 3) := by decide +kernel
theorem d_O_digest_82 : decode prog_1_method_33_code 82 = .ok (.aload_n 0, 1) := by decide +kernel
theorem d_O_digest_83 : decode prog_1_method_33_code 83 = .ok (.lload_n 1, 1) := by decide +kernel
theorem d_O_digest_84 : decode prog_1_method_33_code 84 = .ok (.invokevirtual 323, 3) := by decide +kernel
theorem d_O_digest_87 : decode prog_1_method_33_code 87 = .ok (.lstore_n 1, 1) := by decide +kernel
theorem d_O_digest_88 : decode prog_1_method_33_code 88 = .ok (.aload_n 0, 1) := by decide +kernel
theorem d_O_digest_89 : decode prog_1_method_33_code 89 = .ok (.getfield 37, 3) := by decide +kernel
theorem d_O_digest_92 : decode prog_1_method_33_code 92 = .ok (.iconst 4, 1) := by decide +kernel
theorem d_O_digest_93 : decode prog_1_method_33_code 93 = .ok (.iconst 5, 1) := by decide +kernel
theorem d_O_digest_94 : decode prog_1_method_33_code 94 = .ok (.aload_n 0, 1) := by decide +kernel
theorem d_O_digest_95 : decode prog_1_method_33_code 95 = .ok (.getfield 76, 3) := by decide +kernel
theorem d_O_digest_98 : decode prog_1_method_33_code 98 = .ok (.aload_n 0, 1) := by decide +kernel
theorem d_O_digest_99 : decode prog_1_method_33_code 99 = .ok (.getfield 80, 3) := by decide +kernel
theorem d_O_digest_102 : decode prog_1_method_33_code 102 = .ok (.invokevirtual 201, 3) := by decide +kernel
theorem d_O_digest_105 : decode prog_1_method_33_code 105 = .ok (.aload_n 0, 1) := by decide +kernel
theorem d_O_digest_106 : decode prog_1_method_33_code 106 = .ok (.lload_n 1, 1) := by decide +kernel
theorem d_O_digest_107 : decode prog_1_method_33_code 107 = .ok (.invokevirtual 323, 3) := by decide +kernel
theorem d_O_digest_110 : decode prog_1_method_33_code 110 = .ok (.lstore_n 1, 1) := by decide +kernel
theorem d_O_digest_111 : decode prog_1_method_33_code 111 = .ok (.aload_n 0, 1) := by decide +kernel
theorem d_O_digest_112 : decode prog_1_method_33_code 112 = .ok (.lload_n 1, 1) := by decide +kernel
theorem d_O_digest_113 : decode prog_1_method_33_code 113 = .ok (.invokevirtual 327, 3) := by decide +kernel
theorem d_O_digest_116 : decode prog_1_method_33_code 116 = .ok (.lstore_n 1, 1) := by decide +kernel
theorem d_O_digest_117 : decode prog_1_method_33_code 117 = .ok (.aload_n 0, 1) := by decide +kernel
theorem d_O_digest_118 : decode prog_1_method_33_code 118 = .ok (.lload_n 1, 1) := by decide +kernel
theorem d_O_digest_119 : decode prog_1_method_33_code 119 = .ok (.invokevirtual 330, 3) := by decide +kernel
theorem d_O_digest_122 : decode prog_1_method_33_code 122 = .ok (.lstore_n 1, 1) := by decide +kernel
theorem d_O_digest_123 : decode prog_1_method_33_code 123 = .ok (.lload_n 1, 1) := by decide +kernel
theorem d_O_digest_124 : decode prog_1_method_33_code 124 = .ok (.aload_n 0, 1) := by decide +kernel
theorem d_O_digest_125 : decode prog_1_method_33_code 125 = .ok (.invokevirtual 333, 3) := by decide +kernel
theorem d_O_digest_128 : decode prog_1_method_33_code 128 = .ok (.i2l, 1) := by decide +kernel
theorem d_O_digest_129 : decode prog_1_method_33_code 129 = .ok (.invokestatic 312, 3) := by decide +kernel
theorem d_O_digest_132 : decode prog_1_method_33_code 132 = .ok (.lstore_n 1, 1) := by decide +kernel
theorem d_O_digest_133 : decode prog_1_method_33_code 133 = .ok (.aload_n 0, 1) := by decide +kernel
theorem d_O_digest_134 : decode prog_1_method_33_code 134 = .ok (.lload_n 1, 1) := by decide +kernel
theorem d_O_digest_135 : decode prog_1_method_33_code 135 = .ok (.invokevirtual 336, 3) := by decide +kernel
theorem d_O_digest_138 : decode prog_1_method_33_code 138 = .ok (.lreturn, 1) := by decide +kernel
theorem d_O_mix_0 : decode prog_1_method_34_code 0 = .ok (.ldc2_w 339, 3) := by decide +kernel
theorem d_O_mix_3 : decode prog_1_method_34_code 3 = .ok (.lload_n 0, 1) := by decide +kernel
theorem d_O_mix_4 : decode prog_1_method_34_code 4 = .ok (.lmul, 1) := by decide +kernel
theorem d_O_mix_5 : decode prog_1_method_34_code 5 = .ok (.lload_n 2, 1) := by decide +kernel
theorem d_O_mix_6 : decode prog_1_method_34_code 6 = .ok (.ladd, 1) := by decide +kernel
theorem d_O_mix_7 : decode prog_1_method_34_code 7 = .ok (.lreturn, 1) := by decide +kernel
theorem d_O_mixChapter_0 : decode prog_1_method_35_code 0 = .ok (.lload_n 1, 1) := by decide +kernel
theorem d_O_mixChapter_1 : decode prog_1_method_35_code 1 = .ok (.lstore 4, 2) := by decide +kernel
theorem d_O_mixChapter_3 : decode prog_1_method_35_code 3 = .ok (.iconst 0, 1) := by decide +kernel
theorem d_O_mixChapter_4 : decode prog_1_method_35_code 4 = .ok (.istore 6, 2) := by decide +kernel
theorem d_O_mixChapter_6 : decode prog_1_method_35_code 6 = .ok (.iload 6, 2) := by decide +kernel
theorem d_O_mixChapter_8 : decode prog_1_method_35_code 8 = .ok (.iconst 2, 1) := by decide +kernel
theorem d_O_mixChapter_9 : decode prog_1_method_35_code 9 = .ok (.if_icmp .gt 24, 3) := by decide +kernel
theorem d_O_mixChapter_12 : decode prog_1_method_35_code 12 = .ok (.lload 4, 2) := by decide +kernel
theorem d_O_mixChapter_14 : decode prog_1_method_35_code 14 = .ok (.aload_n 0, 1) := by decide +kernel
theorem d_O_mixChapter_15 : decode prog_1_method_35_code 15 = .ok (.iload_n 3, 1) := by decide +kernel
theorem d_O_mixChapter_16 : decode prog_1_method_35_code 16 = .ok (.iload 6, 2) := by decide +kernel
theorem d_O_mixChapter_18 : decode prog_1_method_35_code 18 = .ok (.invokevirtual 341, 3) := by decide +kernel
theorem d_O_mixChapter_21 : decode prog_1_method_35_code 21 = .ok (.i2l, 1) := by decide +kernel
theorem d_O_mixChapter_22 : decode prog_1_method_35_code 22 = .ok (.invokestatic 312, 3) := by decide +kernel
theorem d_O_mixChapter_25 : decode prog_1_method_35_code 25 = .ok (.lstore 4, 2) := by decide +kernel
theorem d_O_mixChapter_27 : decode prog_1_method_35_code 27 = .ok (.iinc 6 1, 3) := by decide +kernel
theorem d_O_mixChapter_30 : decode prog_1_method_35_code 30 = .ok (.goto (-24), 3) := by decide +kernel
theorem d_O_mixChapter_33 : decode prog_1_method_35_code 33 = .ok (.iconst 0, 1) := by decide +kernel
theorem d_O_mixChapter_34 : decode prog_1_method_35_code 34 = .ok (.istore 6, 2) := by decide +kernel
theorem d_O_mixChapter_36 : decode prog_1_method_35_code 36 = .ok (.iload 6, 2) := by decide +kernel
theorem d_O_mixChapter_38 : decode prog_1_method_35_code 38 = .ok (.bipush 6, 2) := by decide +kernel
theorem d_O_mixChapter_40 : decode prog_1_method_35_code 40 = .ok (.if_icmp .ge 27, 3) := by decide +kernel
theorem d_O_mixChapter_43 : decode prog_1_method_35_code 43 = .ok (.lload 4, 2) := by decide +kernel
theorem d_O_mixChapter_45 : decode prog_1_method_35_code 45 = .ok (.aload_n 0, 1) := by decide +kernel
theorem d_O_mixChapter_46 : decode prog_1_method_35_code 46 = .ok (.getfield 21, 3) := by decide +kernel
theorem d_O_mixChapter_49 : decode prog_1_method_35_code 49 = .ok (.iload 6, 2) := by decide +kernel
theorem d_O_mixChapter_51 : decode prog_1_method_35_code 51 = .ok (.iload_n 3, 1) := by decide +kernel
theorem d_O_mixChapter_52 : decode prog_1_method_35_code 52 = .ok (.invokevirtual 169, 3) := by decide +kernel
theorem d_O_mixChapter_55 : decode prog_1_method_35_code 55 = .ok (.i2l, 1) := by decide +kernel
theorem d_O_mixChapter_56 : decode prog_1_method_35_code 56 = .ok (.invokestatic 312, 3) := by decide +kernel
theorem d_O_mixChapter_59 : decode prog_1_method_35_code 59 = .ok (.lstore 4, 2) := by decide +kernel
theorem d_O_mixChapter_61 : decode prog_1_method_35_code 61 = .ok (.iinc 6 1, 3) := by decide +kernel
theorem d_O_mixChapter_64 : decode prog_1_method_35_code 64 = .ok (.goto (-28), 3) := by decide +kernel
theorem d_O_mixChapter_67 : decode prog_1_method_35_code 67 = .ok (.aload_n 0, 1) := by decide +kernel
theorem d_O_mixChapter_68 : decode prog_1_method_35_code 68 = .ok (.getfield 30, 3) := by decide +kernel
theorem d_O_mixChapter_71 : decode prog_1_method_35_code 71 = .ok (.iconst 3, 1) := by decide +kernel
theorem d_O_mixChapter_72 : decode prog_1_method_35_code 72 = .ok (.iload_n 3, 1) := by decide +kernel
theorem d_O_mixChapter_73 : decode prog_1_method_35_code 73 = .ok (.aload_n 0, 1) := by decide +kernel
theorem d_O_mixChapter_74 : decode prog_1_method_35_code 74 = .ok (.getfield 76, 3) := by decide +kernel
theorem d_O_mixChapter_77 : decode prog_1_method_35_code 77 = .ok (.invokevirtual 175, 3) := by decide +kernel
theorem d_O_mixChapter_80 : decode prog_1_method_35_code 80 = .ok (.lload 4, 2) := by decide +kernel
theorem d_O_mixChapter_82 : decode prog_1_method_35_code 82 = .ok (.aload_n 0, 1) := by decide +kernel
theorem d_O_mixChapter_83 : decode prog_1_method_35_code 83 = .ok (.getfield 30, 3) := by decide +kernel
theorem d_O_mixChapter_86 : decode prog_1_method_35_code 86 = .ok (.invokevirtual 179, 3) := by decide +kernel
theorem d_O_mixChapter_89 : decode prog_1_method_35_code 89 = .ok (.i2l, 1) := by decide +kernel
theorem d_O_mixChapter_90 : decode prog_1_method_35_code 90 = .ok (.invokestatic 312, 3) := by decide +kernel
theorem d_O_mixChapter_93 : decode prog_1_method_35_code 93 = .ok (.lstore 4, 2) := by decide +kernel
theorem d_O_mixChapter_95 : decode prog_1_method_35_code 95 = .ok (.lload 4, 2) := by decide +kernel
theorem d_O_mixChapter_97 : decode prog_1_method_35_code 97 = .ok (.aload_n 0, 1) := by decide +kernel
theorem d_O_mixChapter_98 : decode prog_1_method_35_code 98 = .ok (.getfield 30, 3) := by decide +kernel
theorem d_O_mixChapter_101 : decode prog_1_method_35_code 101 = .ok (.invokevirtual 182, 3) := by decide +kernel
theorem d_O_mixChapter_104 : decode prog_1_method_35_code 104 = .ok (.i2l, 1) := by decide +kernel
theorem d_O_mixChapter_105 : decode prog_1_method_35_code 105 = .ok (.invokestatic 312, 3) := by decide +kernel
theorem d_O_mixChapter_108 : decode prog_1_method_35_code 108 = .ok (.lstore 4, 2) := by decide +kernel
theorem d_O_mixChapter_110 : decode prog_1_method_35_code 110 = .ok (.lload 4, 2) := by decide +kernel
theorem d_O_mixChapter_112 : decode prog_1_method_35_code 112 = .ok (.aload_n 0, 1) := by decide +kernel
theorem d_O_mixChapter_113 : decode prog_1_method_35_code 113 = .ok (.getfield 30, 3) := by decide +kernel
theorem d_O_mixChapter_116 : decode prog_1_method_35_code 116 = .ok (.invokevirtual 185, 3) := by decide +kernel
theorem d_O_mixChapter_119 : decode prog_1_method_35_code 119 = .ok (.i2l, 1) := by decide +kernel
theorem d_O_mixChapter_120 : decode prog_1_method_35_code 120 = .ok (.invokestatic 312, 3) := by decide +kernel
theorem d_O_mixChapter_123 : decode prog_1_method_35_code 123 = .ok (.lstore 4, 2) := by decide +kernel
theorem d_O_mixChapter_125 : decode prog_1_method_35_code 125 = .ok (.lload 4, 2) := by decide +kernel
theorem d_O_mixChapter_127 : decode prog_1_method_35_code 127 = .ok (.aload_n 0, 1) := by decide +kernel
theorem d_O_mixChapter_128 : decode prog_1_method_35_code 128 = .ok (.getfield 30, 3) := by decide +kernel
theorem d_O_mixChapter_131 : decode prog_1_method_35_code 131 = .ok (.iconst 1, 1) := by decide +kernel
theorem d_O_mixChapter_132 : decode prog_1_method_35_code 132 = .ok (.invokevirtual 192, 3) := by decide +kernel
theorem d_O_mixChapter_135 : decode prog_1_method_35_code 135 = .ok (.i2l, 1) := by decide +kernel
theorem d_O_mixChapter_136 : decode prog_1_method_35_code 136 = .ok (.invokestatic 312, 3) := by decide +kernel
theorem d_O_mixChapter_139 : decode prog_1_method_35_code 139 = .ok (.lstore 4, 2) := by decide +kernel
theorem d_O_mixChapter_141 : decode prog_1_method_35_code 141 = .ok (.lload 4, 2) := by decide +kernel
theorem d_O_mixChapter_143 : decode prog_1_method_35_code 143 = .ok (.aload_n 0, 1) := by decide +kernel
theorem d_O_mixChapter_144 : decode prog_1_method_35_code 144 = .ok (.getfield 30, 3) := by decide +kernel
theorem d_O_mixChapter_147 : decode prog_1_method_35_code 147 = .ok (.iconst 1, 1) := by decide +kernel
theorem d_O_mixChapter_148 : decode prog_1_method_35_code 148 = .ok (.invokevirtual 195, 3) := by decide +kernel
theorem d_O_mixChapter_151 : decode prog_1_method_35_code 151 = .ok (.i2l, 1) := by decide +kernel
theorem d_O_mixChapter_152 : decode prog_1_method_35_code 152 = .ok (.invokestatic 312, 3) := by decide +kernel
theorem d_O_mixChapter_155 : decode prog_1_method_35_code 155 = .ok (.lstore 4, 2) := by decide +kernel
theorem d_O_mixChapter_157 : decode prog_1_method_35_code 157 = .ok (.lload 4, 2) := by decide +kernel
theorem d_O_mixChapter_159 : decode prog_1_method_35_code 159 = .ok (.aload_n 0, 1) := by decide +kernel
theorem d_O_mixChapter_160 : decode prog_1_method_35_code 160 = .ok (.getfield 37, 3) := by decide +kernel
theorem d_O_mixChapter_163 : decode prog_1_method_35_code 163 = .ok (.iload_n 3, 1) := by decide +kernel
theorem d_O_mixChapter_164 : decode prog_1_method_35_code 164 = .ok (.invokevirtual 213, 3) := by decide +kernel
theorem d_O_mixChapter_167 : decode prog_1_method_35_code 167 = .ok (.i2l, 1) := by decide +kernel
theorem d_O_mixChapter_168 : decode prog_1_method_35_code 168 = .ok (.invokestatic 312, 3) := by decide +kernel
theorem d_O_mixChapter_171 : decode prog_1_method_35_code 171 = .ok (.lreturn, 1) := by decide +kernel
theorem d_O_mixPlan_0 : decode prog_1_method_36_code 0 = .ok (.lload_n 1, 1) := by decide +kernel
theorem d_O_mixPlan_1 : decode prog_1_method_36_code 1 = .ok (.aload_n 0, 1) := by decide +kernel
theorem d_O_mixPlan_2 : decode prog_1_method_36_code 2 = .ok (.getfield 37, 3) := by decide +kernel
theorem d_O_mixPlan_5 : decode prog_1_method_36_code 5 = .ok (.invokevirtual 205, 3) := by decide +kernel
theorem d_O_mixPlan_8 : decode prog_1_method_36_code 8 = .ok (.i2l, 1) := by decide +kernel
theorem d_O_mixPlan_9 : decode prog_1_method_36_code 9 = .ok (.invokestatic 312, 3) := by decide +kernel
theorem d_O_mixPlan_12 : decode prog_1_method_36_code 12 = .ok (.lstore_n 3, 1) := by decide +kernel
theorem d_O_mixPlan_13 : decode prog_1_method_36_code 13 = .ok (.lload_n 3, 1) := by decide +kernel
theorem d_O_mixPlan_14 : decode prog_1_method_36_code 14 = .ok (.aload_n 0, 1) := by decide +kernel
theorem d_O_mixPlan_15 : decode prog_1_method_36_code 15 = .ok (.getfield 37, 3) := by decide +kernel
theorem d_O_mixPlan_18 : decode prog_1_method_36_code 18 = .ok (.invokevirtual 208, 3) := by decide +kernel
theorem d_O_mixPlan_21 : decode prog_1_method_36_code 21 = .ok (.i2l, 1) := by decide +kernel
theorem d_O_mixPlan_22 : decode prog_1_method_36_code 22 = .ok (.invokestatic 312, 3) := by decide +kernel
theorem d_O_mixPlan_25 : decode prog_1_method_36_code 25 = .ok (.lstore_n 3, 1) := by decide +kernel
theorem d_O_mixPlan_26 : decode prog_1_method_36_code 26 = .ok (.lload_n 3, 1) := by decide +kernel
theorem d_O_mixPlan_27 : decode prog_1_method_36_code 27 = .ok (.aload_n 0, 1) := by decide +kernel
theorem d_O_mixPlan_28 : decode prog_1_method_36_code 28 = .ok (.getfield 37, 3) := by decide +kernel
theorem d_O_mixPlan_31 : decode prog_1_method_36_code 31 = .ok (.invokevirtual 211, 3) := by decide +kernel
theorem d_O_mixPlan_34 : decode prog_1_method_36_code 34 = .ok (.i2l, 1) := by decide +kernel
theorem d_O_mixPlan_35 : decode prog_1_method_36_code 35 = .ok (.invokestatic 312, 3) := by decide +kernel
theorem d_O_mixPlan_38 : decode prog_1_method_36_code 38 = .ok (.lreturn, 1) := by decide +kernel
theorem d_O_mixSeeming_0 : decode prog_1_method_37_code 0 = .ok (.aload_n 0, 1) := by decide +kernel
theorem d_O_mixSeeming_1 : decode prog_1_method_37_code 1 = .ok (.getfield 44, 3) := by decide +kernel
theorem d_O_mixSeeming_4 : decode prog_1_method_37_code 4 = .ok (.iconst 0, 1) := by decide +kernel
theorem d_O_mixSeeming_5 : decode prog_1_method_37_code 5 = .ok (.iconst 1, 1) := by decide +kernel
theorem d_O_mixSeeming_6 : decode prog_1_method_37_code 6 = .ok (.invokevirtual 220, 3) := by decide +kernel
theorem d_O_mixSeeming_9 : decode prog_1_method_37_code 9 = .ok (.lload_n 1, 1) := by decide +kernel
theorem d_O_mixSeeming_10 : decode prog_1_method_37_code 10 = .ok (.aload_n 0, 1) := by decide +kernel
theorem d_O_mixSeeming_11 : decode prog_1_method_37_code 11 = .ok (.getfield 44, 3) := by decide +kernel
theorem d_O_mixSeeming_14 : decode prog_1_method_37_code 14 = .ok (.invokevirtual 224, 3) := by decide +kernel
theorem d_O_mixSeeming_17 : decode prog_1_method_37_code 17 = .ok (.i2l, 1) := by decide +kernel
theorem d_O_mixSeeming_18 : decode prog_1_method_37_code 18 = .ok (.invokestatic 312, 3) := by decide +kernel
theorem d_O_mixSeeming_21 : decode prog_1_method_37_code 21 = .ok (.lstore_n 3, 1) := by decide +kernel
theorem d_O_mixSeeming_22 : decode prog_1_method_37_code 22 = .ok (.lload_n 3, 1) := by decide +kernel
theorem d_O_mixSeeming_23 : decode prog_1_method_37_code 23 = .ok (.aload_n 0, 1) := by decide +kernel
theorem d_O_mixSeeming_24 : decode prog_1_method_37_code 24 = .ok (.getfield 44, 3) := by decide +kernel
theorem d_O_mixSeeming_27 : decode prog_1_method_37_code 27 = .ok (.iconst 0, 1) := by decide +kernel
theorem d_O_mixSeeming_28 : decode prog_1_method_37_code 28 = .ok (.invokevirtual 227, 3) := by decide +kernel
theorem d_O_mixSeeming_31 : decode prog_1_method_37_code 31 = .ok (.i2l, 1) := by decide +kernel
theorem d_O_mixSeeming_32 : decode prog_1_method_37_code 32 = .ok (.invokestatic 312, 3) := by decide +kernel
theorem d_O_mixSeeming_35 : decode prog_1_method_37_code 35 = .ok (.lstore_n 3, 1) := by decide +kernel
theorem d_O_mixSeeming_36 : decode prog_1_method_37_code 36 = .ok (.lload_n 3, 1) := by decide +kernel
theorem d_O_mixSeeming_37 : decode prog_1_method_37_code 37 = .ok (.aload_n 0, 1) := by decide +kernel
theorem d_O_mixSeeming_38 : decode prog_1_method_37_code 38 = .ok (.getfield 44, 3) := by decide +kernel
theorem d_O_mixSeeming_41 : decode prog_1_method_37_code 41 = .ok (.iconst 0, 1) := by decide +kernel
theorem d_O_mixSeeming_42 : decode prog_1_method_37_code 42 = .ok (.iconst 1, 1) := by decide +kernel
theorem d_O_mixSeeming_43 : decode prog_1_method_37_code 43 = .ok (.iconst 2, 1) := by decide +kernel
theorem d_O_mixSeeming_44 : decode prog_1_method_37_code 44 = .ok (.iconst 1, 1) := by decide +kernel
theorem d_O_mixSeeming_45 : decode prog_1_method_37_code 45 = .ok (.invokevirtual 216, 3) := by decide +kernel
theorem d_O_mixSeeming_48 : decode prog_1_method_37_code 48 = .ok (.i2l, 1) := by decide +kernel
theorem d_O_mixSeeming_49 : decode prog_1_method_37_code 49 = .ok (.invokestatic 312, 3) := by decide +kernel
theorem d_O_mixSeeming_52 : decode prog_1_method_37_code 52 = .ok (.lstore_n 3, 1) := by decide +kernel
theorem d_O_mixSeeming_53 : decode prog_1_method_37_code 53 = .ok (.lload_n 3, 1) := by decide +kernel
theorem d_O_mixSeeming_54 : decode prog_1_method_37_code 54 = .ok (.aload_n 0, 1) := by decide +kernel
theorem d_O_mixSeeming_55 : decode prog_1_method_37_code 55 = .ok (.getfield 44, 3) := by decide +kernel
theorem d_O_mixSeeming_58 : decode prog_1_method_37_code 58 = .ok (.iconst 1, 1) := by decide +kernel
theorem d_O_mixSeeming_59 : decode prog_1_method_37_code 59 = .ok (.iconst 0, 1) := by decide +kernel
theorem d_O_mixSeeming_60 : decode prog_1_method_37_code 60 = .ok (.iconst 1, 1) := by decide +kernel
theorem d_O_mixSeeming_61 : decode prog_1_method_37_code 61 = .ok (.iconst 2, 1) := by decide +kernel
theorem d_O_mixSeeming_62 : decode prog_1_method_37_code 62 = .ok (.invokevirtual 216, 3) := by decide +kernel
theorem d_O_mixSeeming_65 : decode prog_1_method_37_code 65 = .ok (.i2l, 1) := by decide +kernel
theorem d_O_mixSeeming_66 : decode prog_1_method_37_code 66 = .ok (.invokestatic 312, 3) := by decide +kernel
theorem d_O_mixSeeming_69 : decode prog_1_method_37_code 69 = .ok (.lreturn, 1) := by decide +kernel
theorem d_O_mixSeats_0 : decode prog_1_method_38_code 0 = .ok (.aload_n 0, 1) := by decide +kernel
theorem d_O_mixSeats_1 : decode prog_1_method_38_code 1 = .ok (.getfield 51, 3) := by decide +kernel
theorem d_O_mixSeats_4 : decode prog_1_method_38_code 4 = .ok (.bipush 63, 2) := by decide +kernel
theorem d_O_mixSeats_6 : decode prog_1_method_38_code 6 = .ok (.invokevirtual 235, 3) := by decide +kernel
theorem d_O_mixSeats_9 : decode prog_1_method_38_code 9 = .ok (.lload_n 1, 1) := by decide +kernel
theorem d_O_mixSeats_10 : decode prog_1_method_38_code 10 = .ok (.aload_n 0, 1) := by decide +kernel
theorem d_O_mixSeats_11 : decode prog_1_method_38_code 11 = .ok (.getfield 51, 3) := by decide +kernel
theorem d_O_mixSeats_14 : decode prog_1_method_38_code 14 = .ok (.invokevirtual 239, 3) := by decide +kernel
theorem d_O_mixSeats_17 : decode prog_1_method_38_code 17 = .ok (.i2l, 1) := by decide +kernel
theorem d_O_mixSeats_18 : decode prog_1_method_38_code 18 = .ok (.invokestatic 312, 3) := by decide +kernel
theorem d_O_mixSeats_21 : decode prog_1_method_38_code 21 = .ok (.lstore_n 3, 1) := by decide +kernel
theorem d_O_mixSeats_22 : decode prog_1_method_38_code 22 = .ok (.iconst 0, 1) := by decide +kernel
theorem d_O_mixSeats_23 : decode prog_1_method_38_code 23 = .ok (.istore 5, 2) := by decide +kernel
theorem d_O_mixSeats_25 : decode prog_1_method_38_code 25 = .ok (.iload 5, 2) := by decide +kernel
theorem d_O_mixSeats_27 : decode prog_1_method_38_code 27 = .ok (.bipush 6, 2) := by decide +kernel
theorem d_O_mixSeats_29 : decode prog_1_method_38_code 29 = .ok (.if_icmp .ge 56, 3) := by decide +kernel
theorem d_O_mixSeats_32 : decode prog_1_method_38_code 32 = .ok (.lload_n 3, 1) := by decide +kernel
theorem d_O_mixSeats_33 : decode prog_1_method_38_code 33 = .ok (.aload_n 0, 1) := by decide +kernel
theorem d_O_mixSeats_34 : decode prog_1_method_38_code 34 = .ok (.getfield 51, 3) := by decide +kernel
theorem d_O_mixSeats_37 : decode prog_1_method_38_code 37 = .ok (.iload 5, 2) := by decide +kernel
theorem d_O_mixSeats_39 : decode prog_1_method_38_code 39 = .ok (.invokevirtual 240, 3) := by decide +kernel
theorem d_O_mixSeats_42 : decode prog_1_method_38_code 42 = .ok (.i2l, 1) := by decide +kernel
theorem d_O_mixSeats_43 : decode prog_1_method_38_code 43 = .ok (.invokestatic 312, 3) := by decide +kernel
theorem d_O_mixSeats_46 : decode prog_1_method_38_code 46 = .ok (.lstore_n 3, 1) := by decide +kernel
theorem d_O_mixSeats_47 : decode prog_1_method_38_code 47 = .ok (.iconst 0, 1) := by decide +kernel
theorem d_O_mixSeats_48 : decode prog_1_method_38_code 48 = .ok (.istore 6, 2) := by decide +kernel
theorem d_O_mixSeats_50 : decode prog_1_method_38_code 50 = .ok (.iload 6, 2) := by decide +kernel
theorem d_O_mixSeats_52 : decode prog_1_method_38_code 52 = .ok (.iconst 3, 1) := by decide +kernel
theorem d_O_mixSeats_53 : decode prog_1_method_38_code 53 = .ok (.if_icmp .ge 26, 3) := by decide +kernel
theorem d_O_mixSeats_56 : decode prog_1_method_38_code 56 = .ok (.lload_n 3, 1) := by decide +kernel
theorem d_O_mixSeats_57 : decode prog_1_method_38_code 57 = .ok (.aload_n 0, 1) := by decide +kernel
theorem d_O_mixSeats_58 : decode prog_1_method_38_code 58 = .ok (.getfield 58, 3) := by decide +kernel
theorem d_O_mixSeats_61 : decode prog_1_method_38_code 61 = .ok (.iload 5, 2) := by decide +kernel
theorem d_O_mixSeats_63 : decode prog_1_method_38_code 63 = .ok (.iload 6, 2) := by decide +kernel
theorem d_O_mixSeats_65 : decode prog_1_method_38_code 65 = .ok (.invokevirtual 247, 3) := by decide +kernel
theorem d_O_mixSeats_68 : decode prog_1_method_38_code 68 = .ok (.i2l, 1) := by decide +kernel
theorem d_O_mixSeats_69 : decode prog_1_method_38_code 69 = .ok (.invokestatic 312, 3) := by decide +kernel
theorem d_O_mixSeats_72 : decode prog_1_method_38_code 72 = .ok (.lstore_n 3, 1) := by decide +kernel
theorem d_O_mixSeats_73 : decode prog_1_method_38_code 73 = .ok (.iinc 6 1, 3) := by decide +kernel
theorem d_O_mixSeats_76 : decode prog_1_method_38_code 76 = .ok (.goto (-26), 3) := by decide +kernel
theorem d_O_mixSeats_79 : decode prog_1_method_38_code 79 = .ok (.iinc 5 1, 3) := by decide +kernel
theorem d_O_mixSeats_82 : decode prog_1_method_38_code 82 = .ok (.goto (-57), 3) := by decide +kernel
theorem d_O_mixSeats_85 : decode prog_1_method_38_code 85 = .ok (.lload_n 3, 1) := by decide +kernel
theorem d_O_mixSeats_86 : decode prog_1_method_38_code 86 = .ok (.lreturn, 1) := by decide +kernel
theorem d_O_mixMoods_0 : decode prog_1_method_39_code 0 = .ok (.aload_n 0, 1) := by decide +kernel
theorem d_O_mixMoods_1 : decode prog_1_method_39_code 1 = .ok (.getfield 65, 3) := by decide +kernel
theorem d_O_mixMoods_4 : decode prog_1_method_39_code 4 = .ok (.bipush 7, 2) := by decide +kernel
theorem d_O_mixMoods_6 : decode prog_1_method_39_code 6 = .ok (.bipush 60, 2) := by decide +kernel
theorem d_O_mixMoods_8 : decode prog_1_method_39_code 8 = .ok (.invokevirtual 257, 3) := by decide +kernel
theorem d_O_mixMoods_11 : decode prog_1_method_39_code 11 = .ok (.lload_n 1, 1) := by decide +kernel
theorem d_O_mixMoods_12 : decode prog_1_method_39_code 12 = .ok (.aload_n 0, 1) := by decide +kernel
theorem d_O_mixMoods_13 : decode prog_1_method_39_code 13 = .ok (.getfield 65, 3) := by decide +kernel
theorem d_O_mixMoods_16 : decode prog_1_method_39_code 16 = .ok (.invokevirtual 260, 3) := by decide +kernel
theorem d_O_mixMoods_19 : decode prog_1_method_39_code 19 = .ok (.invokestatic 312, 3) := by decide +kernel
theorem d_O_mixMoods_22 : decode prog_1_method_39_code 22 = .ok (.lstore_n 3, 1) := by decide +kernel
theorem d_O_mixMoods_23 : decode prog_1_method_39_code 23 = .ok (.lload_n 3, 1) := by decide +kernel
theorem d_O_mixMoods_24 : decode prog_1_method_39_code 24 = .ok (.aload_n 0, 1) := by decide +kernel
theorem d_O_mixMoods_25 : decode prog_1_method_39_code 25 = .ok (.getfield 65, 3) := by decide +kernel
theorem d_O_mixMoods_28 : decode prog_1_method_39_code 28 = .ok (.invokevirtual 264, 3) := by decide +kernel
theorem d_O_mixMoods_31 : decode prog_1_method_39_code 31 = .ok (.invokestatic 312, 3) := by decide +kernel
theorem d_O_mixMoods_34 : decode prog_1_method_39_code 34 = .ok (.lstore_n 3, 1) := by decide +kernel
theorem d_O_mixMoods_35 : decode prog_1_method_39_code 35 = .ok (.aload_n 0, 1) := by decide +kernel
theorem d_O_mixMoods_36 : decode prog_1_method_39_code 36 = .ok (.getfield 65, 3) := by decide +kernel
theorem d_O_mixMoods_39 : decode prog_1_method_39_code 39 = .ok (.bipush 7, 2) := by decide +kernel
theorem d_O_mixMoods_41 : decode prog_1_method_39_code 41 = .ok (.invokevirtual 267, 3) := by decide +kernel
theorem d_O_mixMoods_44 : decode prog_1_method_39_code 44 = .ok (.lload_n 3, 1) := by decide +kernel
theorem d_O_mixMoods_45 : decode prog_1_method_39_code 45 = .ok (.aload_n 0, 1) := by decide +kernel
theorem d_O_mixMoods_46 : decode prog_1_method_39_code 46 = .ok (.getfield 65, 3) := by decide +kernel
theorem d_O_mixMoods_49 : decode prog_1_method_39_code 49 = .ok (.invokevirtual 260, 3) := by decide +kernel
theorem d_O_mixMoods_52 : decode prog_1_method_39_code 52 = .ok (.invokestatic 312, 3) := by decide +kernel
theorem d_O_mixMoods_55 : decode prog_1_method_39_code 55 = .ok (.lstore_n 3, 1) := by decide +kernel
theorem d_O_mixMoods_56 : decode prog_1_method_39_code 56 = .ok (.lload_n 3, 1) := by decide +kernel
theorem d_O_mixMoods_57 : decode prog_1_method_39_code 57 = .ok (.aload_n 0, 1) := by decide +kernel
theorem d_O_mixMoods_58 : decode prog_1_method_39_code 58 = .ok (.getfield 65, 3) := by decide +kernel
theorem d_O_mixMoods_61 : decode prog_1_method_39_code 61 = .ok (.invokevirtual 264, 3) := by decide +kernel
theorem d_O_mixMoods_64 : decode prog_1_method_39_code 64 = .ok (.invokestatic 312, 3) := by decide +kernel
theorem d_O_mixMoods_67 : decode prog_1_method_39_code 67 = .ok (.lreturn, 1) := by decide +kernel
theorem d_O_within_0 : decode prog_1_method_40_code 0 = .ok (.iload_n 0, 1) := by decide +kernel
theorem d_O_within_1 : decode prog_1_method_40_code 1 = .ok (.iload_n 1, 1) := by decide +kernel
theorem d_O_within_2 : decode prog_1_method_40_code 2 = .ok (.if_icmp .lt 12, 3) := by decide +kernel
theorem d_O_within_5 : decode prog_1_method_40_code 5 = .ok (.iload_n 0, 1) := by decide +kernel
theorem d_O_within_6 : decode prog_1_method_40_code 6 = .ok (.iload_n 2, 1) := by decide +kernel
theorem d_O_within_7 : decode prog_1_method_40_code 7 = .ok (.if_icmp .gt 7, 3) := by decide +kernel
theorem d_O_within_10 : decode prog_1_method_40_code 10 = .ok (.iconst 1, 1) := by decide +kernel
theorem d_O_within_11 : decode prog_1_method_40_code 11 = .ok (.goto 4, 3) := by decide +kernel
theorem d_O_within_14 : decode prog_1_method_40_code 14 = .ok (.iconst 0, 1) := by decide +kernel
theorem d_O_within_15 : decode prog_1_method_40_code 15 = .ok (.ireturn, 1) := by decide +kernel
theorem d_O_isReader_0 : decode prog_1_method_41_code 0 = .ok (.iload_n 0, 1) := by decide +kernel
theorem d_O_isReader_1 : decode prog_1_method_41_code 1 = .ok (.iconst 0, 1) := by decide +kernel
theorem d_O_isReader_2 : decode prog_1_method_41_code 2 = .ok (.iconst 5, 1) := by decide +kernel
theorem d_O_isReader_3 : decode prog_1_method_41_code 3 = .ok (.invokestatic 86, 3) := by decide +kernel
theorem d_O_isReader_6 : decode prog_1_method_41_code 6 = .ok (.ireturn, 1) := by decide +kernel
theorem d_O_areTwo_0 : decode prog_1_method_42_code 0 = .ok (.iload_n 0, 1) := by decide +kernel
theorem d_O_areTwo_1 : decode prog_1_method_42_code 1 = .ok (.invokestatic 121, 3) := by decide +kernel
theorem d_O_areTwo_4 : decode prog_1_method_42_code 4 = .ok (.ifCond .eq 19, 3) := by decide +kernel
theorem d_O_areTwo_7 : decode prog_1_method_42_code 7 = .ok (.iload_n 1, 1) := by decide +kernel
theorem d_O_areTwo_8 : decode prog_1_method_42_code 8 = .ok (.invokestatic 121, 3) := by decide +kernel
theorem d_O_areTwo_11 : decode prog_1_method_42_code 11 = .ok (.ifCond .eq 12, 3) := by decide +kernel
theorem d_O_areTwo_14 : decode prog_1_method_42_code 14 = .ok (.iload_n 0, 1) := by decide +kernel
theorem d_O_areTwo_15 : decode prog_1_method_42_code 15 = .ok (.iload_n 1, 1) := by decide +kernel
theorem d_O_areTwo_16 : decode prog_1_method_42_code 16 = .ok (.if_icmp .eq 7, 3) := by decide +kernel
theorem d_O_areTwo_19 : decode prog_1_method_42_code 19 = .ok (.iconst 1, 1) := by decide +kernel
theorem d_O_areTwo_20 : decode prog_1_method_42_code 20 = .ok (.goto 4, 3) := by decide +kernel
theorem d_O_areTwo_23 : decode prog_1_method_42_code 23 = .ok (.iconst 0, 1) := by decide +kernel
theorem d_O_areTwo_24 : decode prog_1_method_42_code 24 = .ok (.ireturn, 1) := by decide +kernel
theorem d_O_isCompany_0 : decode prog_1_method_43_code 0 = .ok (.iload_n 0, 1) := by decide +kernel
theorem d_O_isCompany_1 : decode prog_1_method_43_code 1 = .ok (.iconst 1, 1) := by decide +kernel
theorem d_O_isCompany_2 : decode prog_1_method_43_code 2 = .ok (.bipush 63, 2) := by decide +kernel
theorem d_O_isCompany_4 : decode prog_1_method_43_code 4 = .ok (.invokestatic 86, 3) := by decide +kernel
theorem d_O_isCompany_7 : decode prog_1_method_43_code 7 = .ok (.ireturn, 1) := by decide +kernel
theorem d_O_holds_0 : decode prog_1_method_44_code 0 = .ok (.iload_n 0, 1) := by decide +kernel
theorem d_O_holds_1 : decode prog_1_method_44_code 1 = .ok (.iload_n 1, 1) := by decide +kernel
theorem d_O_holds_2 : decode prog_1_method_44_code 2 = .ok (.ishr, 1) := by decide +kernel
theorem d_O_holds_3 : decode prog_1_method_44_code 3 = .ok (.iconst 1, 1) := by decide +kernel
theorem d_O_holds_4 : decode prog_1_method_44_code 4 = .ok (.iand, 1) := by decide +kernel
theorem d_O_holds_5 : decode prog_1_method_44_code 5 = .ok (.iconst 1, 1) := by decide +kernel
theorem d_O_holds_6 : decode prog_1_method_44_code 6 = .ok (.if_icmp .ne 7, 3) := by decide +kernel
theorem d_O_holds_9 : decode prog_1_method_44_code 9 = .ok (.iconst 1, 1) := by decide +kernel
theorem d_O_holds_10 : decode prog_1_method_44_code 10 = .ok (.goto 4, 3) := by decide +kernel
theorem d_O_holds_13 : decode prog_1_method_44_code 13 = .ok (.iconst 0, 1) := by decide +kernel
theorem d_O_holds_14 : decode prog_1_method_44_code 14 = .ok (.ireturn, 1) := by decide +kernel
theorem d_O_isKind_0 : decode prog_1_method_45_code 0 = .ok (.iload_n 0, 1) := by decide +kernel
theorem d_O_isKind_1 : decode prog_1_method_45_code 1 = .ok (.iconst 0, 1) := by decide +kernel
theorem d_O_isKind_2 : decode prog_1_method_45_code 2 = .ok (.iconst 2, 1) := by decide +kernel
theorem d_O_isKind_3 : decode prog_1_method_45_code 3 = .ok (.invokestatic 86, 3) := by decide +kernel
theorem d_O_isKind_6 : decode prog_1_method_45_code 6 = .ok (.ireturn, 1) := by decide +kernel
theorem d_O_isSheet_0 : decode prog_1_method_46_code 0 = .ok (.iload_n 0, 1) := by decide +kernel
theorem d_O_isSheet_1 : decode prog_1_method_46_code 1 = .ok (.iconst 0, 1) := by decide +kernel
theorem d_O_isSheet_2 : decode prog_1_method_46_code 2 = .ok (.iconst 3, 1) := by decide +kernel
theorem d_O_isSheet_3 : decode prog_1_method_46_code 3 = .ok (.invokestatic 86, 3) := by decide +kernel
theorem d_O_isSheet_6 : decode prog_1_method_46_code 6 = .ok (.ireturn, 1) := by decide +kernel
theorem d_O_isForm_0 : decode prog_1_method_47_code 0 = .ok (.iload_n 0, 1) := by decide +kernel
theorem d_O_isForm_1 : decode prog_1_method_47_code 1 = .ok (.iconst 0, 1) := by decide +kernel
theorem d_O_isForm_2 : decode prog_1_method_47_code 2 = .ok (.iconst 2, 1) := by decide +kernel
theorem d_O_isForm_3 : decode prog_1_method_47_code 3 = .ok (.invokestatic 86, 3) := by decide +kernel
theorem d_O_isForm_6 : decode prog_1_method_47_code 6 = .ok (.ireturn, 1) := by decide +kernel
theorem d_O_isChapter_0 : decode prog_1_method_48_code 0 = .ok (.iload_n 1, 1) := by decide +kernel
theorem d_O_isChapter_1 : decode prog_1_method_48_code 1 = .ok (.iconst 0, 1) := by decide +kernel
theorem d_O_isChapter_2 : decode prog_1_method_48_code 2 = .ok (.aload_n 0, 1) := by decide +kernel
theorem d_O_isChapter_3 : decode prog_1_method_48_code 3 = .ok (.getfield 10, 3) := by decide +kernel
theorem d_O_isChapter_6 : decode prog_1_method_48_code 6 = .ok (.invokevirtual 297, 3) := by decide +kernel
theorem d_O_isChapter_9 : decode prog_1_method_48_code 9 = .ok (.iconst 1, 1) := by decide +kernel
theorem d_O_isChapter_10 : decode prog_1_method_48_code 10 = .ok (.isub, 1) := by decide +kernel
theorem d_O_isChapter_11 : decode prog_1_method_48_code 11 = .ok (.invokestatic 86, 3) := by decide +kernel
theorem d_O_isChapter_14 : decode prog_1_method_48_code 14 = .ok (.ireturn, 1) := by decide +kernel
theorem d_O_mostOfTrait_0 : decode prog_1_method_49_code 0 = .ok (.iload_n 0, 1) := by decide +kernel
theorem d_O_mostOfTrait_1 : decode prog_1_method_49_code 1 = .ok (.ifCond .ne 6, 3) := by decide +kernel
theorem d_O_mostOfTrait_4 : decode prog_1_method_49_code 4 = .ok (.bipush 99, 2) := by decide +kernel
theorem d_O_mostOfTrait_6 : decode prog_1_method_49_code 6 = .ok (.ireturn, 1) := by decide +kernel
theorem d_O_mostOfTrait_7 : decode prog_1_method_49_code 7 = .ok (.iload_n 0, 1) := by decide +kernel
theorem d_O_mostOfTrait_8 : decode prog_1_method_49_code 8 = .ok (.iconst 1, 1) := by decide +kernel
theorem d_O_mostOfTrait_9 : decode prog_1_method_49_code 9 = .ok (.if_icmp .ne 8, 3) := by decide +kernel
theorem d_O_mostOfTrait_12 : decode prog_1_method_49_code 12 = .ok (.bipush 9, 2) := by decide +kernel
theorem d_O_mostOfTrait_14 : decode prog_1_method_49_code 14 = .ok (.goto 4, 3) := by decide +kernel
theorem d_O_mostOfTrait_17 : decode prog_1_method_49_code 17 = .ok (.iconst 4, 1) := by decide +kernel
theorem d_O_mostOfTrait_18 : decode prog_1_method_49_code 18 = .ok (.ireturn, 1) := by decide +kernel
theorem d_O_asNumber_0 : decode prog_1_method_50_code 0 = .ok (.iload_n 0, 1) := by decide +kernel
theorem d_O_asNumber_1 : decode prog_1_method_50_code 1 = .ok (.ifCond .eq 7, 3) := by decide +kernel
theorem d_O_asNumber_4 : decode prog_1_method_50_code 4 = .ok (.iconst 1, 1) := by decide +kernel
theorem d_O_asNumber_5 : decode prog_1_method_50_code 5 = .ok (.goto 4, 3) := by decide +kernel
theorem d_O_asNumber_8 : decode prog_1_method_50_code 8 = .ok (.iconst 0, 1) := by decide +kernel
theorem d_O_asNumber_9 : decode prog_1_method_50_code 9 = .ok (.ireturn, 1) := by decide +kernel
theorem d_O_refusedLong_0 : decode prog_1_method_51_code 0 = .ok (.ldc2_w 346, 3) := by decide +kernel
theorem d_O_refusedLong_3 : decode prog_1_method_51_code 3 = .ok (.iload_n 0, 1) := by decide +kernel
theorem d_O_refusedLong_4 : decode prog_1_method_51_code 4 = .ok (.i2l, 1) := by decide +kernel
theorem d_O_refusedLong_5 : decode prog_1_method_51_code 5 = .ok (.lsub, 1) := by decide +kernel
theorem d_O_refusedLong_6 : decode prog_1_method_51_code 6 = .ok (.lreturn, 1) := by decide +kernel
theorem d_O_found_0 : decode prog_1_method_52_code 0 = .ok (.aload_n 0, 1) := by decide +kernel
theorem d_O_found_1 : decode prog_1_method_52_code 1 = .ok (.iload_n 1, 1) := by decide +kernel
theorem d_O_found_2 : decode prog_1_method_52_code 2 = .ok (.putfield 83, 3) := by decide +kernel
theorem d_O_found_5 : decode prog_1_method_52_code 5 = .ok (.bipush (-10), 2) := by decide +kernel
theorem d_O_found_7 : decode prog_1_method_52_code 7 = .ok (.iload_n 1, 1) := by decide +kernel
theorem d_O_found_8 : decode prog_1_method_52_code 8 = .ok (.isub, 1) := by decide +kernel
theorem d_O_found_9 : decode prog_1_method_52_code 9 = .ok (.ireturn, 1) := by decide +kernel
theorem d_O_findingAt_0 : decode prog_1_method_53_code 0 = .ok (.aload_n 0, 1) := by decide +kernel
theorem d_O_findingAt_1 : decode prog_1_method_53_code 1 = .ok (.invokevirtual 140, 3) := by decide +kernel
theorem d_O_findingAt_4 : decode prog_1_method_53_code 4 = .ok (.ifCond .eq 5, 3) := by decide +kernel
theorem d_O_findingAt_7 : decode prog_1_method_53_code 7 = .ok (.iconst 1, 1) := by decide +kernel
theorem d_O_findingAt_8 : decode prog_1_method_53_code 8 = .ok (.ireturn, 1) := by decide +kernel
theorem d_O_findingAt_9 : decode prog_1_method_53_code 9 = .ok (.aload_n 0, 1) := by decide +kernel
theorem d_O_findingAt_10 : decode prog_1_method_53_code 10 = .ok (.invokevirtual 287, 3) := by decide +kernel
theorem d_O_findingAt_13 : decode prog_1_method_53_code 13 = .ok (.iload_n 1, 1) := by decide +kernel
theorem d_O_findingAt_14 : decode prog_1_method_53_code 14 = .ok (.if_icmp .eq 5, 3) := by decide +kernel
theorem d_O_findingAt_17 : decode prog_1_method_53_code 17 = .ok (.iconst 3, 1) := by decide +kernel
theorem d_O_findingAt_18 : decode prog_1_method_53_code 18 = .ok (.ireturn, 1) := by decide +kernel
theorem d_O_findingAt_19 : decode prog_1_method_53_code 19 = .ok (.aload_n 0, 1) := by decide +kernel
theorem d_O_findingAt_20 : decode prog_1_method_53_code 20 = .ok (.iload_n 2, 1) := by decide +kernel
theorem d_O_findingAt_21 : decode prog_1_method_53_code 21 = .ok (.iconst 1, 1) := by decide +kernel
theorem d_O_findingAt_22 : decode prog_1_method_53_code 22 = .ok (.invokevirtual 290, 3) := by decide +kernel
theorem d_O_findingAt_25 : decode prog_1_method_53_code 25 = .ok (.ifCond .eq 7, 3) := by decide +kernel
theorem d_O_findingAt_28 : decode prog_1_method_53_code 28 = .ok (.iconst 0, 1) := by decide +kernel
theorem d_O_findingAt_29 : decode prog_1_method_53_code 29 = .ok (.goto 4, 3) := by decide +kernel
theorem d_O_findingAt_32 : decode prog_1_method_53_code 32 = .ok (.iconst 2, 1) := by decide +kernel
theorem d_O_findingAt_33 : decode prog_1_method_53_code 33 = .ok (.ireturn, 1) := by decide +kernel
