theorem dX1_init_0 : decode cX1_init 0 = .ok (.aload_n 0, 1) := by decide +kernel
theorem dX1_init_1 : decode cX1_init 1 = .ok (.invokespecial 1, 3) := by decide +kernel
theorem dX1_init_4 : decode cX1_init 4 = .ok (.aload_n 0, 1) := by decide +kernel
theorem dX1_init_5 : decode cX1_init 5 = .ok (.sipush 3840, 3) := by decide +kernel
theorem dX1_init_8 : decode cX1_init 8 = .ok (.newarray .boolean, 2) := by decide +kernel
theorem dX1_init_10 : decode cX1_init 10 = .ok (.putfield 7, 3) := by decide +kernel
theorem dX1_init_13 : decode cX1_init 13 = .ok (.aload_n 0, 1) := by decide +kernel
theorem dX1_init_14 : decode cX1_init 14 = .ok (.sipush 1280, 3) := by decide +kernel
theorem dX1_init_17 : decode cX1_init 17 = .ok (.newarray .boolean, 2) := by decide +kernel
theorem dX1_init_19 : decode cX1_init 19 = .ok (.putfield 13, 3) := by decide +kernel
theorem dX1_init_22 : decode cX1_init 22 = .ok (.aload_n 0, 1) := by decide +kernel
theorem dX1_init_23 : decode cX1_init 23 = .ok (.sipush 11520, 3) := by decide +kernel
theorem dX1_init_26 : decode cX1_init 26 = .ok (.newarray .boolean, 2) := by decide +kernel
theorem dX1_init_28 : decode cX1_init 28 = .ok (.putfield 16, 3) := by decide +kernel
theorem dX1_init_31 : decode cX1_init 31 = .ok (.aload_n 0, 1) := by decide +kernel
theorem dX1_init_32 : decode cX1_init 32 = .ok (.iconst (-1), 1) := by decide +kernel
theorem dX1_init_33 : decode cX1_init 33 = .ok (.putfield 19, 3) := by decide +kernel
theorem dX1_init_36 : decode cX1_init 36 = .ok (.aload_n 0, 1) := by decide +kernel
theorem dX1_init_37 : decode cX1_init 37 = .ok (.bipush 8, 2) := by decide +kernel
theorem dX1_init_39 : decode cX1_init 39 = .ok (.newarray .int, 2) := by decide +kernel
theorem dX1_init_41 : decode cX1_init 41 = .ok (.putfield 23, 3) := by decide +kernel
theorem dX1_init_44 : decode cX1_init 44 = .ok (.aload_n 0, 1) := by decide +kernel
theorem dX1_init_45 : decode cX1_init 45 = .ok (.bipush 8, 2) := by decide +kernel
theorem dX1_init_47 : decode cX1_init 47 = .ok (.newarray .int, 2) := by decide +kernel
theorem dX1_init_49 : decode cX1_init 49 = .ok (.putfield 27, 3) := by decide +kernel
theorem dX1_init_52 : decode cX1_init 52 = .ok (.aload_n 0, 1) := by decide +kernel
theorem dX1_init_53 : decode cX1_init 53 = .ok (.bipush 8, 2) := by decide +kernel
theorem dX1_init_55 : decode cX1_init 55 = .ok (.newarray .int, 2) := by decide +kernel
theorem dX1_init_57 : decode cX1_init 57 = .ok (.putfield 30, 3) := by decide +kernel
theorem dX1_init_60 : decode cX1_init 60 = .ok (.return_, 1) := by decide +kernel
theorem dX1_thrown_0 : decode cX1_thrown 0 = .ok (.aload_n 0, 1) := by decide +kernel
theorem dX1_thrown_1 : decode cX1_thrown 1 = .ok (.getfield 33, 3) := by decide +kernel
theorem dX1_thrown_4 : decode cX1_thrown 4 = .ok (.ireturn, 1) := by decide +kernel
theorem dX1_size_0 : decode cX1_size 0 = .ok (.iload_n 0, 1) := by decide +kernel
theorem dX1_size_1 : decode cX1_size 1 = .ok (.iconst 1, 1) := by decide +kernel
theorem dX1_size_2 : decode cX1_size 2 = .ok (.iand, 1) := by decide +kernel
theorem dX1_size_3 : decode cX1_size 3 = .ok (.iload_n 0, 1) := by decide +kernel
theorem dX1_size_4 : decode cX1_size 4 = .ok (.iconst 1, 1) := by decide +kernel
theorem dX1_size_5 : decode cX1_size 5 = .ok (.ishr, 1) := by decide +kernel
theorem dX1_size_6 : decode cX1_size 6 = .ok (.iconst 1, 1) := by decide +kernel
theorem dX1_size_7 : decode cX1_size 7 = .ok (.iand, 1) := by decide +kernel
theorem dX1_size_8 : decode cX1_size 8 = .ok (.iadd, 1) := by decide +kernel
theorem dX1_size_9 : decode cX1_size 9 = .ok (.iload_n 0, 1) := by decide +kernel
theorem dX1_size_10 : decode cX1_size 10 = .ok (.iconst 2, 1) := by decide +kernel
theorem dX1_size_11 : decode cX1_size 11 = .ok (.ishr, 1) := by decide +kernel
theorem dX1_size_12 : decode cX1_size 12 = .ok (.iconst 1, 1) := by decide +kernel
theorem dX1_size_13 : decode cX1_size 13 = .ok (.iand, 1) := by decide +kernel
theorem dX1_size_14 : decode cX1_size 14 = .ok (.iadd, 1) := by decide +kernel
theorem dX1_size_15 : decode cX1_size 15 = .ok (.ireturn, 1) := by decide +kernel
theorem dX1_single_0 : decode cX1_single 0 = .ok (.iload_n 0, 1) := by decide +kernel
theorem dX1_single_1 : decode cX1_single 1 = .ok (.ifCond .ne 7, 3) := by decide +kernel
theorem dX1_single_4 : decode cX1_single 4 = .ok (.iconst 0, 1) := by decide +kernel
theorem dX1_single_5 : decode cX1_single 5 = .ok (.goto 22, 3) := by decide +kernel
theorem dX1_single_8 : decode cX1_single 8 = .ok (.iload_n 0, 1) := by decide +kernel
theorem dX1_single_9 : decode cX1_single 9 = .ok (.iconst 1, 1) := by decide +kernel
theorem dX1_single_10 : decode cX1_single 10 = .ok (.if_icmp .ne 7, 3) := by decide +kernel
theorem dX1_single_13 : decode cX1_single 13 = .ok (.iconst 1, 1) := by decide +kernel
theorem dX1_single_14 : decode cX1_single 14 = .ok (.goto 13, 3) := by decide +kernel
theorem dX1_single_17 : decode cX1_single 17 = .ok (.iload_n 0, 1) := by decide +kernel
theorem dX1_single_18 : decode cX1_single 18 = .ok (.iconst 2, 1) := by decide +kernel
theorem dX1_single_19 : decode cX1_single 19 = .ok (.if_icmp .ne 7, 3) := by decide +kernel
theorem dX1_single_22 : decode cX1_single 22 = .ok (.iconst 2, 1) := by decide +kernel
theorem dX1_single_23 : decode cX1_single 23 = .ok (.goto 4, 3) := by decide +kernel
theorem dX1_single_26 : decode cX1_single 26 = .ok (.iconst 3, 1) := by decide +kernel
theorem dX1_single_27 : decode cX1_single 27 = .ok (.ireturn, 1) := by decide +kernel
theorem dX1_meaning_0 : decode cX1_meaning 0 = .ok (.iload_n 0, 1) := by decide +kernel
theorem dX1_meaning_1 : decode cX1_meaning 1 = .ok (.invokestatic 36, 3) := by decide +kernel
theorem dX1_meaning_4 : decode cX1_meaning 4 = .ok (.iconst 2, 1) := by decide +kernel
theorem dX1_meaning_5 : decode cX1_meaning 5 = .ok (.if_icmp .ge 10, 3) := by decide +kernel
theorem dX1_meaning_8 : decode cX1_meaning 8 = .ok (.iload_n 0, 1) := by decide +kernel
theorem dX1_meaning_9 : decode cX1_meaning 9 = .ok (.invokestatic 40, 3) := by decide +kernel
theorem dX1_meaning_12 : decode cX1_meaning 12 = .ok (.goto 10, 3) := by decide +kernel
theorem dX1_meaning_15 : decode cX1_meaning 15 = .ok (.bipush 7, 2) := by decide +kernel
theorem dX1_meaning_17 : decode cX1_meaning 17 = .ok (.iload_n 0, 1) := by decide +kernel
theorem dX1_meaning_18 : decode cX1_meaning 18 = .ok (.isub, 1) := by decide +kernel
theorem dX1_meaning_19 : decode cX1_meaning 19 = .ok (.invokestatic 40, 3) := by decide +kernel
theorem dX1_meaning_22 : decode cX1_meaning 22 = .ok (.ireturn, 1) := by decide +kernel
theorem dX1_pattern_0 : decode cX1_pattern 0 = .ok (.iconst 0, 1) := by decide +kernel
theorem dX1_pattern_1 : decode cX1_pattern 1 = .ok (.istore_n 3, 1) := by decide +kernel
theorem dX1_pattern_2 : decode cX1_pattern 2 = .ok (.iconst 0, 1) := by decide +kernel
theorem dX1_pattern_3 : decode cX1_pattern 3 = .ok (.istore 4, 2) := by decide +kernel
theorem dX1_pattern_5 : decode cX1_pattern 5 = .ok (.iload 4, 2) := by decide +kernel
theorem dX1_pattern_7 : decode cX1_pattern 7 = .ok (.iconst 3, 1) := by decide +kernel
theorem dX1_pattern_8 : decode cX1_pattern 8 = .ok (.if_icmp .ge 39, 3) := by decide +kernel
theorem dX1_pattern_11 : decode cX1_pattern 11 = .ok (.iload_n 3, 1) := by decide +kernel
theorem dX1_pattern_12 : decode cX1_pattern 12 = .ok (.aload_n 0, 1) := by decide +kernel
theorem dX1_pattern_13 : decode cX1_pattern 13 = .ok (.getfield 7, 3) := by decide +kernel
theorem dX1_pattern_16 : decode cX1_pattern 16 = .ok (.bipush 24, 2) := by decide +kernel
theorem dX1_pattern_18 : decode cX1_pattern 18 = .ok (.iload_n 1, 1) := by decide +kernel
theorem dX1_pattern_19 : decode cX1_pattern 19 = .ok (.imul, 1) := by decide +kernel
theorem dX1_pattern_20 : decode cX1_pattern 20 = .ok (.iconst 3, 1) := by decide +kernel
theorem dX1_pattern_21 : decode cX1_pattern 21 = .ok (.iload_n 2, 1) := by decide +kernel
theorem dX1_pattern_22 : decode cX1_pattern 22 = .ok (.imul, 1) := by decide +kernel
theorem dX1_pattern_23 : decode cX1_pattern 23 = .ok (.iadd, 1) := by decide +kernel
theorem dX1_pattern_24 : decode cX1_pattern 24 = .ok (.iload 4, 2) := by decide +kernel
theorem dX1_pattern_26 : decode cX1_pattern 26 = .ok (.iadd, 1) := by decide +kernel
theorem dX1_pattern_27 : decode cX1_pattern 27 = .ok (.baload, 1) := by decide +kernel
theorem dX1_pattern_28 : decode cX1_pattern 28 = .ok (.ifCond .eq 10, 3) := by decide +kernel
theorem dX1_pattern_31 : decode cX1_pattern 31 = .ok (.iconst 1, 1) := by decide +kernel
theorem dX1_pattern_32 : decode cX1_pattern 32 = .ok (.iload 4, 2) := by decide +kernel
theorem dX1_pattern_34 : decode cX1_pattern 34 = .ok (.ishl, 1) := by decide +kernel
theorem dX1_pattern_35 : decode cX1_pattern 35 = .ok (.goto 4, 3) := by decide +kernel
theorem dX1_pattern_38 : decode cX1_pattern 38 = .ok (.iconst 0, 1) := by decide +kernel
theorem dX1_pattern_39 : decode cX1_pattern 39 = .ok (.iadd, 1) := by decide +kernel
theorem dX1_pattern_40 : decode cX1_pattern 40 = .ok (.istore_n 3, 1) := by decide +kernel
theorem dX1_pattern_41 : decode cX1_pattern 41 = .ok (.iinc 4 1, 3) := by decide +kernel
theorem dX1_pattern_44 : decode cX1_pattern 44 = .ok (.goto (-39), 3) := by decide +kernel
theorem dX1_pattern_47 : decode cX1_pattern 47 = .ok (.iload_n 3, 1) := by decide +kernel
theorem dX1_pattern_48 : decode cX1_pattern 48 = .ok (.ireturn, 1) := by decide +kernel
theorem dX1_better_0 : decode cX1_better 0 = .ok (.iconst (-1), 1) := by decide +kernel
theorem dX1_better_1 : decode cX1_better 1 = .ok (.istore_n 3, 1) := by decide +kernel
theorem dX1_better_2 : decode cX1_better 2 = .ok (.iconst 0, 1) := by decide +kernel
theorem dX1_better_3 : decode cX1_better 3 = .ok (.istore 4, 2) := by decide +kernel
theorem dX1_better_5 : decode cX1_better 5 = .ok (.iload 4, 2) := by decide +kernel
theorem dX1_better_7 : decode cX1_better 7 = .ok (.bipush 8, 2) := by decide +kernel
theorem dX1_better_9 : decode cX1_better 9 = .ok (.if_icmp .ge 57, 3) := by decide +kernel
theorem dX1_better_12 : decode cX1_better 12 = .ok (.iload 4, 2) := by decide +kernel
theorem dX1_better_14 : decode cX1_better 14 = .ok (.iload_n 1, 1) := by decide +kernel
theorem dX1_better_15 : decode cX1_better 15 = .ok (.iand, 1) := by decide +kernel
theorem dX1_better_16 : decode cX1_better 16 = .ok (.iload_n 1, 1) := by decide +kernel
theorem dX1_better_17 : decode cX1_better 17 = .ok (.if_icmp .ne 16, 3) := by decide +kernel
theorem dX1_better_20 : decode cX1_better 20 = .ok (.iload 4, 2) := by decide +kernel
theorem dX1_better_22 : decode cX1_better 22 = .ok (.invokestatic 43, 3) := by decide +kernel
theorem dX1_better_25 : decode cX1_better 25 = .ok (.iload_n 2, 1) := by decide +kernel
theorem dX1_better_26 : decode cX1_better 26 = .ok (.if_icmp .ne 7, 3) := by decide +kernel
theorem dX1_better_29 : decode cX1_better 29 = .ok (.iconst 1, 1) := by decide +kernel
theorem dX1_better_30 : decode cX1_better 30 = .ok (.goto 4, 3) := by decide +kernel
theorem dX1_better_33 : decode cX1_better 33 = .ok (.iconst 0, 1) := by decide +kernel
theorem dX1_better_34 : decode cX1_better 34 = .ok (.istore 5, 2) := by decide +kernel
theorem dX1_better_36 : decode cX1_better 36 = .ok (.iload 5, 2) := by decide +kernel
theorem dX1_better_38 : decode cX1_better 38 = .ok (.ifCond .eq 22, 3) := by decide +kernel
theorem dX1_better_41 : decode cX1_better 41 = .ok (.iload_n 3, 1) := by decide +kernel
theorem dX1_better_42 : decode cX1_better 42 = .ok (.ifCond .lt 15, 3) := by decide +kernel
theorem dX1_better_45 : decode cX1_better 45 = .ok (.iload 4, 2) := by decide +kernel
theorem dX1_better_47 : decode cX1_better 47 = .ok (.invokestatic 36, 3) := by decide +kernel
theorem dX1_better_50 : decode cX1_better 50 = .ok (.iload_n 3, 1) := by decide +kernel
theorem dX1_better_51 : decode cX1_better 51 = .ok (.invokestatic 36, 3) := by decide +kernel
theorem dX1_better_54 : decode cX1_better 54 = .ok (.if_icmp .ge 6, 3) := by decide +kernel
theorem dX1_better_57 : decode cX1_better 57 = .ok (.iload 4, 2) := by decide +kernel
theorem dX1_better_59 : decode cX1_better 59 = .ok (.istore_n 3, 1) := by decide +kernel
theorem dX1_better_60 : decode cX1_better 60 = .ok (.iinc 4 1, 3) := by decide +kernel
theorem dX1_better_63 : decode cX1_better 63 = .ok (.goto (-58), 3) := by decide +kernel
theorem dX1_better_66 : decode cX1_better 66 = .ok (.iload_n 3, 1) := by decide +kernel
theorem dX1_better_67 : decode cX1_better 67 = .ok (.ireturn, 1) := by decide +kernel
theorem dX1_comesTo_0 : decode cX1_comesTo 0 = .ok (.iconst 0, 1) := by decide +kernel
theorem dX1_comesTo_1 : decode cX1_comesTo 1 = .ok (.istore_n 3, 1) := by decide +kernel
theorem dX1_comesTo_2 : decode cX1_comesTo 2 = .ok (.iload_n 3, 1) := by decide +kernel
theorem dX1_comesTo_3 : decode cX1_comesTo 3 = .ok (.bipush 8, 2) := by decide +kernel
theorem dX1_comesTo_5 : decode cX1_comesTo 5 = .ok (.if_icmp .ge 31, 3) := by decide +kernel
theorem dX1_comesTo_8 : decode cX1_comesTo 8 = .ok (.aload_n 0, 1) := by decide +kernel
theorem dX1_comesTo_9 : decode cX1_comesTo 9 = .ok (.aload_n 0, 1) := by decide +kernel
theorem dX1_comesTo_10 : decode cX1_comesTo 10 = .ok (.iload_n 1, 1) := by decide +kernel
theorem dX1_comesTo_11 : decode cX1_comesTo 11 = .ok (.iload_n 3, 1) := by decide +kernel
theorem dX1_comesTo_12 : decode cX1_comesTo 12 = .ok (.invokevirtual 46, 3) := by decide +kernel
theorem dX1_comesTo_15 : decode cX1_comesTo 15 = .ok (.iload_n 2, 1) := by decide +kernel
theorem dX1_comesTo_16 : decode cX1_comesTo 16 = .ok (.iconst 2, 1) := by decide +kernel
theorem dX1_comesTo_17 : decode cX1_comesTo 17 = .ok (.iload_n 3, 1) := by decide +kernel
theorem dX1_comesTo_18 : decode cX1_comesTo 18 = .ok (.imul, 1) := by decide +kernel
theorem dX1_comesTo_19 : decode cX1_comesTo 19 = .ok (.ishr, 1) := by decide +kernel
theorem dX1_comesTo_20 : decode cX1_comesTo 20 = .ok (.iconst 3, 1) := by decide +kernel
theorem dX1_comesTo_21 : decode cX1_comesTo 21 = .ok (.iand, 1) := by decide +kernel
theorem dX1_comesTo_22 : decode cX1_comesTo 22 = .ok (.invokevirtual 50, 3) := by decide +kernel
theorem dX1_comesTo_25 : decode cX1_comesTo 25 = .ok (.ifCond .ge 5, 3) := by decide +kernel
theorem dX1_comesTo_28 : decode cX1_comesTo 28 = .ok (.iconst 0, 1) := by decide +kernel
theorem dX1_comesTo_29 : decode cX1_comesTo 29 = .ok (.ireturn, 1) := by decide +kernel
theorem dX1_comesTo_30 : decode cX1_comesTo 30 = .ok (.iinc 3 1, 3) := by decide +kernel
theorem dX1_comesTo_33 : decode cX1_comesTo 33 = .ok (.goto (-31), 3) := by decide +kernel
theorem dX1_comesTo_36 : decode cX1_comesTo 36 = .ok (.iconst 1, 1) := by decide +kernel
theorem dX1_comesTo_37 : decode cX1_comesTo 37 = .ok (.ireturn, 1) := by decide +kernel
theorem dX1_valueOf_0 : decode cX1_valueOf 0 = .ok (.iconst 0, 1) := by decide +kernel
theorem dX1_valueOf_1 : decode cX1_valueOf 1 = .ok (.istore_n 2, 1) := by decide +kernel
theorem dX1_valueOf_2 : decode cX1_valueOf 2 = .ok (.iconst 0, 1) := by decide +kernel
theorem dX1_valueOf_3 : decode cX1_valueOf 3 = .ok (.istore_n 3, 1) := by decide +kernel
theorem dX1_valueOf_4 : decode cX1_valueOf 4 = .ok (.iload_n 3, 1) := by decide +kernel
theorem dX1_valueOf_5 : decode cX1_valueOf 5 = .ok (.bipush 8, 2) := by decide +kernel
theorem dX1_valueOf_7 : decode cX1_valueOf 7 = .ok (.if_icmp .ge 25, 3) := by decide +kernel
theorem dX1_valueOf_10 : decode cX1_valueOf 10 = .ok (.iload_n 2, 1) := by decide +kernel
theorem dX1_valueOf_11 : decode cX1_valueOf 11 = .ok (.aload_n 0, 1) := by decide +kernel
theorem dX1_valueOf_12 : decode cX1_valueOf 12 = .ok (.iload_n 1, 1) := by decide +kernel
theorem dX1_valueOf_13 : decode cX1_valueOf 13 = .ok (.iload_n 3, 1) := by decide +kernel
theorem dX1_valueOf_14 : decode cX1_valueOf 14 = .ok (.invokevirtual 46, 3) := by decide +kernel
theorem dX1_valueOf_17 : decode cX1_valueOf 17 = .ok (.invokestatic 43, 3) := by decide +kernel
theorem dX1_valueOf_20 : decode cX1_valueOf 20 = .ok (.iconst 2, 1) := by decide +kernel
theorem dX1_valueOf_21 : decode cX1_valueOf 21 = .ok (.iload_n 3, 1) := by decide +kernel
theorem dX1_valueOf_22 : decode cX1_valueOf 22 = .ok (.imul, 1) := by decide +kernel
theorem dX1_valueOf_23 : decode cX1_valueOf 23 = .ok (.ishl, 1) := by decide +kernel
theorem dX1_valueOf_24 : decode cX1_valueOf 24 = .ok (.iadd, 1) := by decide +kernel
theorem dX1_valueOf_25 : decode cX1_valueOf 25 = .ok (.istore_n 2, 1) := by decide +kernel
theorem dX1_valueOf_26 : decode cX1_valueOf 26 = .ok (.iinc 3 1, 3) := by decide +kernel
theorem dX1_valueOf_29 : decode cX1_valueOf 29 = .ok (.goto (-25), 3) := by decide +kernel
theorem dX1_valueOf_32 : decode cX1_valueOf 32 = .ok (.iload_n 2, 1) := by decide +kernel
theorem dX1_valueOf_33 : decode cX1_valueOf 33 = .ok (.ireturn, 1) := by decide +kernel
theorem dX1_tag_0 : decode cX1_tag 0 = .ok (.iconst 0, 1) := by decide +kernel
theorem dX1_tag_1 : decode cX1_tag 1 = .ok (.istore_n 2, 1) := by decide +kernel
theorem dX1_tag_2 : decode cX1_tag 2 = .ok (.iconst 0, 1) := by decide +kernel
theorem dX1_tag_3 : decode cX1_tag 3 = .ok (.istore_n 3, 1) := by decide +kernel
theorem dX1_tag_4 : decode cX1_tag 4 = .ok (.iload_n 3, 1) := by decide +kernel
theorem dX1_tag_5 : decode cX1_tag 5 = .ok (.bipush 8, 2) := by decide +kernel
theorem dX1_tag_7 : decode cX1_tag 7 = .ok (.if_icmp .ge 33, 3) := by decide +kernel
theorem dX1_tag_10 : decode cX1_tag 10 = .ok (.iload_n 2, 1) := by decide +kernel
theorem dX1_tag_11 : decode cX1_tag 11 = .ok (.aload_n 0, 1) := by decide +kernel
theorem dX1_tag_12 : decode cX1_tag 12 = .ok (.getfield 13, 3) := by decide +kernel
theorem dX1_tag_15 : decode cX1_tag 15 = .ok (.bipush 8, 2) := by decide +kernel
theorem dX1_tag_17 : decode cX1_tag 17 = .ok (.iload_n 1, 1) := by decide +kernel
theorem dX1_tag_18 : decode cX1_tag 18 = .ok (.imul, 1) := by decide +kernel
theorem dX1_tag_19 : decode cX1_tag 19 = .ok (.iload_n 3, 1) := by decide +kernel
theorem dX1_tag_20 : decode cX1_tag 20 = .ok (.iadd, 1) := by decide +kernel
theorem dX1_tag_21 : decode cX1_tag 21 = .ok (.baload, 1) := by decide +kernel
theorem dX1_tag_22 : decode cX1_tag 22 = .ok (.ifCond .eq 9, 3) := by decide +kernel
theorem dX1_tag_25 : decode cX1_tag 25 = .ok (.iconst 1, 1) := by decide +kernel
theorem dX1_tag_26 : decode cX1_tag 26 = .ok (.iload_n 3, 1) := by decide +kernel
theorem dX1_tag_27 : decode cX1_tag 27 = .ok (.ishl, 1) := by decide +kernel
theorem dX1_tag_28 : decode cX1_tag 28 = .ok (.goto 4, 3) := by decide +kernel
theorem dX1_tag_31 : decode cX1_tag 31 = .ok (.iconst 0, 1) := by decide +kernel
theorem dX1_tag_32 : decode cX1_tag 32 = .ok (.iadd, 1) := by decide +kernel
theorem dX1_tag_33 : decode cX1_tag 33 = .ok (.istore_n 2, 1) := by decide +kernel
theorem dX1_tag_34 : decode cX1_tag 34 = .ok (.iinc 3 1, 3) := by decide +kernel
theorem dX1_tag_37 : decode cX1_tag 37 = .ok (.goto (-33), 3) := by decide +kernel
theorem dX1_tag_40 : decode cX1_tag 40 = .ok (.iload_n 2, 1) := by decide +kernel
theorem dX1_tag_41 : decode cX1_tag 41 = .ok (.ireturn, 1) := by decide +kernel
theorem dX1_isFresh_0 : decode cX1_isFresh 0 = .ok (.aload_n 0, 1) := by decide +kernel
theorem dX1_isFresh_1 : decode cX1_isFresh 1 = .ok (.iload_n 1, 1) := by decide +kernel
theorem dX1_isFresh_2 : decode cX1_isFresh 2 = .ok (.invokevirtual 53, 3) := by decide +kernel
theorem dX1_isFresh_5 : decode cX1_isFresh 5 = .ok (.ifCond .ne 7, 3) := by decide +kernel
theorem dX1_isFresh_8 : decode cX1_isFresh 8 = .ok (.iconst 1, 1) := by decide +kernel
theorem dX1_isFresh_9 : decode cX1_isFresh 9 = .ok (.goto 4, 3) := by decide +kernel
theorem dX1_isFresh_12 : decode cX1_isFresh 12 = .ok (.iconst 0, 1) := by decide +kernel
theorem dX1_isFresh_13 : decode cX1_isFresh 13 = .ok (.istore_n 2, 1) := by decide +kernel
theorem dX1_isFresh_14 : decode cX1_isFresh 14 = .ok (.iconst 0, 1) := by decide +kernel
theorem dX1_isFresh_15 : decode cX1_isFresh 15 = .ok (.istore_n 3, 1) := by decide +kernel
theorem dX1_isFresh_16 : decode cX1_isFresh 16 = .ok (.iload_n 3, 1) := by decide +kernel
theorem dX1_isFresh_17 : decode cX1_isFresh 17 = .ok (.bipush 8, 2) := by decide +kernel
theorem dX1_isFresh_19 : decode cX1_isFresh 19 = .ok (.if_icmp .ge 28, 3) := by decide +kernel
theorem dX1_isFresh_22 : decode cX1_isFresh 22 = .ok (.iload_n 2, 1) := by decide +kernel
theorem dX1_isFresh_23 : decode cX1_isFresh 23 = .ok (.ifCond .eq 16, 3) := by decide +kernel
theorem dX1_isFresh_26 : decode cX1_isFresh 26 = .ok (.aload_n 0, 1) := by decide +kernel
theorem dX1_isFresh_27 : decode cX1_isFresh 27 = .ok (.iload_n 1, 1) := by decide +kernel
theorem dX1_isFresh_28 : decode cX1_isFresh 28 = .ok (.iload_n 3, 1) := by decide +kernel
theorem dX1_isFresh_29 : decode cX1_isFresh 29 = .ok (.invokevirtual 46, 3) := by decide +kernel
theorem dX1_isFresh_32 : decode cX1_isFresh 32 = .ok (.ifCond .ne 7, 3) := by decide +kernel
theorem dX1_isFresh_35 : decode cX1_isFresh 35 = .ok (.iconst 1, 1) := by decide +kernel
theorem dX1_isFresh_36 : decode cX1_isFresh 36 = .ok (.goto 4, 3) := by decide +kernel
theorem dX1_isFresh_39 : decode cX1_isFresh 39 = .ok (.iconst 0, 1) := by decide +kernel
theorem dX1_isFresh_40 : decode cX1_isFresh 40 = .ok (.istore_n 2, 1) := by decide +kernel
theorem dX1_isFresh_41 : decode cX1_isFresh 41 = .ok (.iinc 3 1, 3) := by decide +kernel
theorem dX1_isFresh_44 : decode cX1_isFresh 44 = .ok (.goto (-28), 3) := by decide +kernel
theorem dX1_isFresh_47 : decode cX1_isFresh 47 = .ok (.iload_n 2, 1) := by decide +kernel
theorem dX1_isFresh_48 : decode cX1_isFresh 48 = .ok (.ireturn, 1) := by decide +kernel
theorem dX1_present_0 : decode cX1_present 0 = .ok (.sipush 159, 3) := by decide +kernel
theorem dX1_present_3 : decode cX1_present 3 = .ok (.istore_n 2, 1) := by decide +kernel
theorem dX1_present_4 : decode cX1_present 4 = .ok (.iload_n 2, 1) := by decide +kernel
theorem dX1_present_5 : decode cX1_present 5 = .ok (.ifCond .lt 22, 3) := by decide +kernel
theorem dX1_present_8 : decode cX1_present 8 = .ok (.aload_n 0, 1) := by decide +kernel
theorem dX1_present_9 : decode cX1_present 9 = .ok (.iload_n 2, 1) := by decide +kernel
theorem dX1_present_10 : decode cX1_present 10 = .ok (.invokevirtual 53, 3) := by decide +kernel
theorem dX1_present_13 : decode cX1_present 13 = .ok (.iload_n 1, 1) := by decide +kernel
theorem dX1_present_14 : decode cX1_present 14 = .ok (.sipush 128, 3) := by decide +kernel
theorem dX1_present_17 : decode cX1_present 17 = .ok (.iadd, 1) := by decide +kernel
theorem dX1_present_18 : decode cX1_present 18 = .ok (.if_icmp .eq 9, 3) := by decide +kernel
theorem dX1_present_21 : decode cX1_present 21 = .ok (.iinc 2 (-1), 3) := by decide +kernel
theorem dX1_present_24 : decode cX1_present 24 = .ok (.goto (-20), 3) := by decide +kernel
theorem dX1_present_27 : decode cX1_present 27 = .ok (.iload_n 2, 1) := by decide +kernel
theorem dX1_present_28 : decode cX1_present 28 = .ok (.ireturn, 1) := by decide +kernel
theorem dX1_freshFrom_0 : decode cX1_freshFrom 0 = .ok (.iload_n 1, 1) := by decide +kernel
theorem dX1_freshFrom_1 : decode cX1_freshFrom 1 = .ok (.istore_n 2, 1) := by decide +kernel
theorem dX1_freshFrom_2 : decode cX1_freshFrom 2 = .ok (.iload_n 2, 1) := by decide +kernel
theorem dX1_freshFrom_3 : decode cX1_freshFrom 3 = .ok (.sipush 160, 3) := by decide +kernel
theorem dX1_freshFrom_6 : decode cX1_freshFrom 6 = .ok (.if_icmp .ge 19, 3) := by decide +kernel
theorem dX1_freshFrom_9 : decode cX1_freshFrom 9 = .ok (.aload_n 0, 1) := by decide +kernel
theorem dX1_freshFrom_10 : decode cX1_freshFrom 10 = .ok (.iload_n 2, 1) := by decide +kernel
theorem dX1_freshFrom_11 : decode cX1_freshFrom 11 = .ok (.invokevirtual 56, 3) := by decide +kernel
theorem dX1_freshFrom_14 : decode cX1_freshFrom 14 = .ok (.ifCond .eq 5, 3) := by decide +kernel
theorem dX1_freshFrom_17 : decode cX1_freshFrom 17 = .ok (.iload_n 2, 1) := by decide +kernel
theorem dX1_freshFrom_18 : decode cX1_freshFrom 18 = .ok (.ireturn, 1) := by decide +kernel
theorem dX1_freshFrom_19 : decode cX1_freshFrom 19 = .ok (.iinc 2 1, 3) := by decide +kernel
theorem dX1_freshFrom_22 : decode cX1_freshFrom 22 = .ok (.goto (-20), 3) := by decide +kernel
theorem dX1_freshFrom_25 : decode cX1_freshFrom 25 = .ok (.iconst (-1), 1) := by decide +kernel
theorem dX1_freshFrom_26 : decode cX1_freshFrom 26 = .ok (.ireturn, 1) := by decide +kernel
theorem dX1_line_0 : decode cX1_line 0 = .ok (.lconst 0, 1) := by decide +kernel
theorem dX1_line_1 : decode cX1_line 1 = .ok (.lstore_n 2, 1) := by decide +kernel
theorem dX1_line_2 : decode cX1_line 2 = .ok (.iconst 0, 1) := by decide +kernel
theorem dX1_line_3 : decode cX1_line 3 = .ok (.istore 4, 2) := by decide +kernel
theorem dX1_line_5 : decode cX1_line 5 = .ok (.iload 4, 2) := by decide +kernel
theorem dX1_line_7 : decode cX1_line 7 = .ok (.bipush 32, 2) := by decide +kernel
theorem dX1_line_9 : decode cX1_line 9 = .ok (.if_icmp .ge 35, 3) := by decide +kernel
theorem dX1_line_12 : decode cX1_line 12 = .ok (.lload_n 2, 1) := by decide +kernel
theorem dX1_line_13 : decode cX1_line 13 = .ok (.aload_n 0, 1) := by decide +kernel
theorem dX1_line_14 : decode cX1_line 14 = .ok (.getfield 16, 3) := by decide +kernel
theorem dX1_line_17 : decode cX1_line 17 = .ok (.bipush 32, 2) := by decide +kernel
theorem dX1_line_19 : decode cX1_line 19 = .ok (.iload_n 1, 1) := by decide +kernel
theorem dX1_line_20 : decode cX1_line 20 = .ok (.imul, 1) := by decide +kernel
theorem dX1_line_21 : decode cX1_line 21 = .ok (.iload 4, 2) := by decide +kernel
theorem dX1_line_23 : decode cX1_line 23 = .ok (.iadd, 1) := by decide +kernel
theorem dX1_line_24 : decode cX1_line 24 = .ok (.baload, 1) := by decide +kernel
theorem dX1_line_25 : decode cX1_line 25 = .ok (.ifCond .eq 10, 3) := by decide +kernel
theorem dX1_line_28 : decode cX1_line 28 = .ok (.lconst 1, 1) := by decide +kernel
theorem dX1_line_29 : decode cX1_line 29 = .ok (.iload 4, 2) := by decide +kernel
theorem dX1_line_31 : decode cX1_line 31 = .ok (.lshl, 1) := by decide +kernel
theorem dX1_line_32 : decode cX1_line 32 = .ok (.goto 4, 3) := by decide +kernel
theorem dX1_line_35 : decode cX1_line 35 = .ok (.lconst 0, 1) := by decide +kernel
theorem dX1_line_36 : decode cX1_line 36 = .ok (.ladd, 1) := by decide +kernel
theorem dX1_line_37 : decode cX1_line 37 = .ok (.lstore_n 2, 1) := by decide +kernel
theorem dX1_line_38 : decode cX1_line 38 = .ok (.iinc 4 1, 3) := by decide +kernel
theorem dX1_line_41 : decode cX1_line 41 = .ok (.goto (-36), 3) := by decide +kernel
theorem dX1_line_44 : decode cX1_line 44 = .ok (.lload_n 2, 1) := by decide +kernel
theorem dX1_line_45 : decode cX1_line 45 = .ok (.lreturn, 1) := by decide +kernel
theorem dX1_isEmptyNote_0 : decode cX1_isEmptyNote 0 = .ok (.iconst 0, 1) := by decide +kernel
theorem dX1_isEmptyNote_1 : decode cX1_isEmptyNote 1 = .ok (.istore_n 2, 1) := by decide +kernel
theorem dX1_isEmptyNote_2 : decode cX1_isEmptyNote 2 = .ok (.iload_n 2, 1) := by decide +kernel
theorem dX1_isEmptyNote_3 : decode cX1_isEmptyNote 3 = .ok (.bipush 9, 2) := by decide +kernel
theorem dX1_isEmptyNote_5 : decode cX1_isEmptyNote 5 = .ok (.if_icmp .ge 26, 3) := by decide +kernel
theorem dX1_isEmptyNote_8 : decode cX1_isEmptyNote 8 = .ok (.aload_n 0, 1) := by decide +kernel
theorem dX1_isEmptyNote_9 : decode cX1_isEmptyNote 9 = .ok (.bipush 9, 2) := by decide +kernel
theorem dX1_isEmptyNote_11 : decode cX1_isEmptyNote 11 = .ok (.iload_n 1, 1) := by decide +kernel
theorem dX1_isEmptyNote_12 : decode cX1_isEmptyNote 12 = .ok (.imul, 1) := by decide +kernel
theorem dX1_isEmptyNote_13 : decode cX1_isEmptyNote 13 = .ok (.iload_n 2, 1) := by decide +kernel
theorem dX1_isEmptyNote_14 : decode cX1_isEmptyNote 14 = .ok (.iadd, 1) := by decide +kernel
theorem dX1_isEmptyNote_15 : decode cX1_isEmptyNote 15 = .ok (.invokevirtual 60, 3) := by decide +kernel
theorem dX1_isEmptyNote_18 : decode cX1_isEmptyNote 18 = .ok (.lconst 0, 1) := by decide +kernel
theorem dX1_isEmptyNote_19 : decode cX1_isEmptyNote 19 = .ok (.lcmp, 1) := by decide +kernel
theorem dX1_isEmptyNote_20 : decode cX1_isEmptyNote 20 = .ok (.ifCond .eq 5, 3) := by decide +kernel
theorem dX1_isEmptyNote_23 : decode cX1_isEmptyNote 23 = .ok (.iconst 0, 1) := by decide +kernel
theorem dX1_isEmptyNote_24 : decode cX1_isEmptyNote 24 = .ok (.ireturn, 1) := by decide +kernel
theorem dX1_isEmptyNote_25 : decode cX1_isEmptyNote 25 = .ok (.iinc 2 1, 3) := by decide +kernel
theorem dX1_isEmptyNote_28 : decode cX1_isEmptyNote 28 = .ok (.goto (-26), 3) := by decide +kernel
theorem dX1_isEmptyNote_31 : decode cX1_isEmptyNote 31 = .ok (.iconst 1, 1) := by decide +kernel
theorem dX1_isEmptyNote_32 : decode cX1_isEmptyNote 32 = .ok (.ireturn, 1) := by decide +kernel
theorem dX1_emptyNote_0 : decode cX1_emptyNote 0 = .ok (.iconst 0, 1) := by decide +kernel
theorem dX1_emptyNote_1 : decode cX1_emptyNote 1 = .ok (.istore_n 1, 1) := by decide +kernel
theorem dX1_emptyNote_2 : decode cX1_emptyNote 2 = .ok (.iload_n 1, 1) := by decide +kernel
theorem dX1_emptyNote_3 : decode cX1_emptyNote 3 = .ok (.bipush 40, 2) := by decide +kernel
theorem dX1_emptyNote_5 : decode cX1_emptyNote 5 = .ok (.if_icmp .ge 19, 3) := by decide +kernel
theorem dX1_emptyNote_8 : decode cX1_emptyNote 8 = .ok (.aload_n 0, 1) := by decide +kernel
theorem dX1_emptyNote_9 : decode cX1_emptyNote 9 = .ok (.iload_n 1, 1) := by decide +kernel
theorem dX1_emptyNote_10 : decode cX1_emptyNote 10 = .ok (.invokevirtual 64, 3) := by decide +kernel
theorem dX1_emptyNote_13 : decode cX1_emptyNote 13 = .ok (.ifCond .eq 5, 3) := by decide +kernel
theorem dX1_emptyNote_16 : decode cX1_emptyNote 16 = .ok (.iload_n 1, 1) := by decide +kernel
theorem dX1_emptyNote_17 : decode cX1_emptyNote 17 = .ok (.ireturn, 1) := by decide +kernel
theorem dX1_emptyNote_18 : decode cX1_emptyNote 18 = .ok (.iinc 1 1, 3) := by decide +kernel
theorem dX1_emptyNote_21 : decode cX1_emptyNote 21 = .ok (.goto (-19), 3) := by decide +kernel
theorem dX1_emptyNote_24 : decode cX1_emptyNote 24 = .ok (.iconst (-1), 1) := by decide +kernel
theorem dX1_emptyNote_25 : decode cX1_emptyNote 25 = .ok (.ireturn, 1) := by decide +kernel
theorem dX1_mayWrite_0 : decode cX1_mayWrite 0 = .ok (.aload_n 0, 1) := by decide +kernel
theorem dX1_mayWrite_1 : decode cX1_mayWrite 1 = .ok (.getfield 67, 3) := by decide +kernel
theorem dX1_mayWrite_4 : decode cX1_mayWrite 4 = .ok (.ifCond .eq 5, 3) := by decide +kernel
theorem dX1_mayWrite_7 : decode cX1_mayWrite 7 = .ok (.iconst 0, 1) := by decide +kernel
theorem dX1_mayWrite_8 : decode cX1_mayWrite 8 = .ok (.ireturn, 1) := by decide +kernel
theorem dX1_mayWrite_9 : decode cX1_mayWrite 9 = .ok (.aload_n 0, 1) := by decide +kernel
theorem dX1_mayWrite_10 : decode cX1_mayWrite 10 = .ok (.getfield 19, 3) := by decide +kernel
theorem dX1_mayWrite_13 : decode cX1_mayWrite 13 = .ok (.ifCond .ne 10, 3) := by decide +kernel
theorem dX1_mayWrite_16 : decode cX1_mayWrite 16 = .ok (.aload_n 0, 1) := by decide +kernel
theorem dX1_mayWrite_17 : decode cX1_mayWrite 17 = .ok (.iconst 1, 1) := by decide +kernel
theorem dX1_mayWrite_18 : decode cX1_mayWrite 18 = .ok (.putfield 67, 3) := by decide +kernel
theorem dX1_mayWrite_21 : decode cX1_mayWrite 21 = .ok (.iconst 0, 1) := by decide +kernel
theorem dX1_mayWrite_22 : decode cX1_mayWrite 22 = .ok (.ireturn, 1) := by decide +kernel
theorem dX1_mayWrite_23 : decode cX1_mayWrite 23 = .ok (.aload_n 0, 1) := by decide +kernel
theorem dX1_mayWrite_24 : decode cX1_mayWrite 24 = .ok (.aload_n 0, 1) := by decide +kernel
theorem dX1_mayWrite_25 : decode cX1_mayWrite 25 = .ok (.getfield 19, 3) := by decide +kernel
theorem dX1_mayWrite_28 : decode cX1_mayWrite 28 = .ok (.ifCond .le 12, 3) := by decide +kernel
theorem dX1_mayWrite_31 : decode cX1_mayWrite 31 = .ok (.aload_n 0, 1) := by decide +kernel
theorem dX1_mayWrite_32 : decode cX1_mayWrite 32 = .ok (.getfield 19, 3) := by decide +kernel
theorem dX1_mayWrite_35 : decode cX1_mayWrite 35 = .ok (.iconst 1, 1) := by decide +kernel
theorem dX1_mayWrite_36 : decode cX1_mayWrite 36 = .ok (.isub, 1) := by decide +kernel
theorem dX1_mayWrite_37 : decode cX1_mayWrite 37 = .ok (.goto 7, 3) := by decide +kernel
theorem dX1_mayWrite_40 : decode cX1_mayWrite 40 = .ok (.aload_n 0, 1) := by decide +kernel
theorem dX1_mayWrite_41 : decode cX1_mayWrite 41 = .ok (.getfield 19, 3) := by decide +kernel
theorem dX1_mayWrite_44 : decode cX1_mayWrite 44 = .ok (.putfield 19, 3) := by decide +kernel
theorem dX1_mayWrite_47 : decode cX1_mayWrite 47 = .ok (.aload_n 0, 1) := by decide +kernel
theorem dX1_mayWrite_48 : decode cX1_mayWrite 48 = .ok (.dup, 1) := by decide +kernel
theorem dX1_mayWrite_49 : decode cX1_mayWrite 49 = .ok (.getfield 71, 3) := by decide +kernel
theorem dX1_mayWrite_52 : decode cX1_mayWrite 52 = .ok (.iconst 1, 1) := by decide +kernel
theorem dX1_mayWrite_53 : decode cX1_mayWrite 53 = .ok (.iadd, 1) := by decide +kernel
theorem dX1_mayWrite_54 : decode cX1_mayWrite 54 = .ok (.putfield 71, 3) := by decide +kernel
theorem dX1_mayWrite_57 : decode cX1_mayWrite 57 = .ok (.iconst 1, 1) := by decide +kernel
theorem dX1_mayWrite_58 : decode cX1_mayWrite 58 = .ok (.ireturn, 1) := by decide +kernel
theorem dX1_writeWord_0 : decode cX1_writeWord 0 = .ok (.aload_n 0, 1) := by decide +kernel
theorem dX1_writeWord_1 : decode cX1_writeWord 1 = .ok (.getfield 67, 3) := by decide +kernel
theorem dX1_writeWord_4 : decode cX1_writeWord 4 = .ok (.ifCond .ne 19, 3) := by decide +kernel
theorem dX1_writeWord_7 : decode cX1_writeWord 7 = .ok (.aload_n 0, 1) := by decide +kernel
theorem dX1_writeWord_8 : decode cX1_writeWord 8 = .ok (.iload_n 1, 1) := by decide +kernel
theorem dX1_writeWord_9 : decode cX1_writeWord 9 = .ok (.iload_n 2, 1) := by decide +kernel
theorem dX1_writeWord_10 : decode cX1_writeWord 10 = .ok (.invokevirtual 74, 3) := by decide +kernel
theorem dX1_writeWord_13 : decode cX1_writeWord 13 = .ok (.ifCond .ne 10, 3) := by decide +kernel
theorem dX1_writeWord_16 : decode cX1_writeWord 16 = .ok (.aload_n 0, 1) := by decide +kernel
theorem dX1_writeWord_17 : decode cX1_writeWord 17 = .ok (.invokevirtual 78, 3) := by decide +kernel
theorem dX1_writeWord_20 : decode cX1_writeWord 20 = .ok (.ifCond .ne 4, 3) := by decide +kernel
theorem dX1_writeWord_23 : decode cX1_writeWord 23 = .ok (.return_, 1) := by decide +kernel
theorem dX1_writeWord_24 : decode cX1_writeWord 24 = .ok (.iconst 0, 1) := by decide +kernel
theorem dX1_writeWord_25 : decode cX1_writeWord 25 = .ok (.istore_n 3, 1) := by decide +kernel
theorem dX1_writeWord_26 : decode cX1_writeWord 26 = .ok (.iload_n 3, 1) := by decide +kernel
theorem dX1_writeWord_27 : decode cX1_writeWord 27 = .ok (.bipush 8, 2) := by decide +kernel
theorem dX1_writeWord_29 : decode cX1_writeWord 29 = .ok (.if_icmp .ge 75, 3) := by decide +kernel
theorem dX1_writeWord_32 : decode cX1_writeWord 32 = .ok (.aload_n 0, 1) := by decide +kernel
theorem dX1_writeWord_33 : decode cX1_writeWord 33 = .ok (.aload_n 0, 1) := by decide +kernel
theorem dX1_writeWord_34 : decode cX1_writeWord 34 = .ok (.iload_n 1, 1) := by decide +kernel
theorem dX1_writeWord_35 : decode cX1_writeWord 35 = .ok (.iload_n 3, 1) := by decide +kernel
theorem dX1_writeWord_36 : decode cX1_writeWord 36 = .ok (.invokevirtual 46, 3) := by decide +kernel
theorem dX1_writeWord_39 : decode cX1_writeWord 39 = .ok (.iload_n 2, 1) := by decide +kernel
theorem dX1_writeWord_40 : decode cX1_writeWord 40 = .ok (.iconst 2, 1) := by decide +kernel
theorem dX1_writeWord_41 : decode cX1_writeWord 41 = .ok (.iload_n 3, 1) := by decide +kernel
theorem dX1_writeWord_42 : decode cX1_writeWord 42 = .ok (.imul, 1) := by decide +kernel
theorem dX1_writeWord_43 : decode cX1_writeWord 43 = .ok (.ishr, 1) := by decide +kernel
theorem dX1_writeWord_44 : decode cX1_writeWord 44 = .ok (.iconst 3, 1) := by decide +kernel
theorem dX1_writeWord_45 : decode cX1_writeWord 45 = .ok (.iand, 1) := by decide +kernel
theorem dX1_writeWord_46 : decode cX1_writeWord 46 = .ok (.invokevirtual 50, 3) := by decide +kernel
theorem dX1_writeWord_49 : decode cX1_writeWord 49 = .ok (.istore 4, 2) := by decide +kernel
theorem dX1_writeWord_51 : decode cX1_writeWord 51 = .ok (.iconst 0, 1) := by decide +kernel
theorem dX1_writeWord_52 : decode cX1_writeWord 52 = .ok (.istore 5, 2) := by decide +kernel
theorem dX1_writeWord_54 : decode cX1_writeWord 54 = .ok (.iload 5, 2) := by decide +kernel
theorem dX1_writeWord_56 : decode cX1_writeWord 56 = .ok (.iconst 3, 1) := by decide +kernel
theorem dX1_writeWord_57 : decode cX1_writeWord 57 = .ok (.if_icmp .ge 41, 3) := by decide +kernel
theorem dX1_writeWord_60 : decode cX1_writeWord 60 = .ok (.aload_n 0, 1) := by decide +kernel
theorem dX1_writeWord_61 : decode cX1_writeWord 61 = .ok (.getfield 7, 3) := by decide +kernel
theorem dX1_writeWord_64 : decode cX1_writeWord 64 = .ok (.bipush 24, 2) := by decide +kernel
theorem dX1_writeWord_66 : decode cX1_writeWord 66 = .ok (.iload_n 1, 1) := by decide +kernel
theorem dX1_writeWord_67 : decode cX1_writeWord 67 = .ok (.imul, 1) := by decide +kernel
theorem dX1_writeWord_68 : decode cX1_writeWord 68 = .ok (.iconst 3, 1) := by decide +kernel
theorem dX1_writeWord_69 : decode cX1_writeWord 69 = .ok (.iload_n 3, 1) := by decide +kernel
theorem dX1_writeWord_70 : decode cX1_writeWord 70 = .ok (.imul, 1) := by decide +kernel
theorem dX1_writeWord_71 : decode cX1_writeWord 71 = .ok (.iadd, 1) := by decide +kernel
theorem dX1_writeWord_72 : decode cX1_writeWord 72 = .ok (.iload 5, 2) := by decide +kernel
theorem dX1_writeWord_74 : decode cX1_writeWord 74 = .ok (.iadd, 1) := by decide +kernel
theorem dX1_writeWord_75 : decode cX1_writeWord 75 = .ok (.iload 4, 2) := by decide +kernel
theorem dX1_writeWord_77 : decode cX1_writeWord 77 = .ok (.iload 5, 2) := by decide +kernel
theorem dX1_writeWord_79 : decode cX1_writeWord 79 = .ok (.ishr, 1) := by decide +kernel
theorem dX1_writeWord_80 : decode cX1_writeWord 80 = .ok (.iconst 1, 1) := by decide +kernel
theorem dX1_writeWord_81 : decode cX1_writeWord 81 = .ok (.iand, 1) := by decide +kernel
theorem dX1_writeWord_82 : decode cX1_writeWord 82 = .ok (.iconst 1, 1) := by decide +kernel
theorem dX1_writeWord_83 : decode cX1_writeWord 83 = .ok (.if_icmp .ne 7, 3) := by decide +kernel
theorem dX1_writeWord_86 : decode cX1_writeWord 86 = .ok (.iconst 1, 1) := by decide +kernel
theorem dX1_writeWord_87 : decode cX1_writeWord 87 = .ok (.goto 4, 3) := by decide +kernel
theorem dX1_writeWord_90 : decode cX1_writeWord 90 = .ok (.iconst 0, 1) := by decide +kernel
theorem dX1_writeWord_91 : decode cX1_writeWord 91 = .ok (.bastore, 1) := by decide +kernel
theorem dX1_writeWord_92 : decode cX1_writeWord 92 = .ok (.iinc 5 1, 3) := by decide +kernel
theorem dX1_writeWord_95 : decode cX1_writeWord 95 = .ok (.goto (-41), 3) := by decide +kernel
theorem dX1_writeWord_98 : decode cX1_writeWord 98 = .ok (.iinc 3 1, 3) := by decide +kernel
theorem dX1_writeWord_101 : decode cX1_writeWord 101 = .ok (.goto (-75), 3) := by decide +kernel
theorem dX1_writeWord_104 : decode cX1_writeWord 104 = .ok (.return_, 1) := by decide +kernel
theorem dX1_valueIs_0 : decode cX1_valueIs 0 = .ok (.aload_n 0, 1) := by decide +kernel
theorem dX1_valueIs_1 : decode cX1_valueIs 1 = .ok (.iload_n 1, 1) := by decide +kernel
theorem dX1_valueIs_2 : decode cX1_valueIs 2 = .ok (.invokevirtual 82, 3) := by decide +kernel
theorem dX1_valueIs_5 : decode cX1_valueIs 5 = .ok (.iload_n 2, 1) := by decide +kernel
theorem dX1_valueIs_6 : decode cX1_valueIs 6 = .ok (.if_icmp .ne 7, 3) := by decide +kernel
theorem dX1_valueIs_9 : decode cX1_valueIs 9 = .ok (.iconst 1, 1) := by decide +kernel
theorem dX1_valueIs_10 : decode cX1_valueIs 10 = .ok (.goto 4, 3) := by decide +kernel
theorem dX1_valueIs_13 : decode cX1_valueIs 13 = .ok (.iconst 0, 1) := by decide +kernel
theorem dX1_valueIs_14 : decode cX1_valueIs 14 = .ok (.ireturn, 1) := by decide +kernel
theorem dX1_writeTag_0 : decode cX1_writeTag 0 = .ok (.aload_n 0, 1) := by decide +kernel
theorem dX1_writeTag_1 : decode cX1_writeTag 1 = .ok (.getfield 67, 3) := by decide +kernel
theorem dX1_writeTag_4 : decode cX1_writeTag 4 = .ok (.ifCond .ne 23, 3) := by decide +kernel
theorem dX1_writeTag_7 : decode cX1_writeTag 7 = .ok (.aload_n 0, 1) := by decide +kernel
theorem dX1_writeTag_8 : decode cX1_writeTag 8 = .ok (.iload_n 1, 1) := by decide +kernel
theorem dX1_writeTag_9 : decode cX1_writeTag 9 = .ok (.invokevirtual 53, 3) := by decide +kernel
theorem dX1_writeTag_12 : decode cX1_writeTag 12 = .ok (.iload_n 2, 1) := by decide +kernel
theorem dX1_writeTag_13 : decode cX1_writeTag 13 = .ok (.sipush 128, 3) := by decide +kernel
theorem dX1_writeTag_16 : decode cX1_writeTag 16 = .ok (.iadd, 1) := by decide +kernel
theorem dX1_writeTag_17 : decode cX1_writeTag 17 = .ok (.if_icmp .eq 10, 3) := by decide +kernel
theorem dX1_writeTag_20 : decode cX1_writeTag 20 = .ok (.aload_n 0, 1) := by decide +kernel
theorem dX1_writeTag_21 : decode cX1_writeTag 21 = .ok (.invokevirtual 78, 3) := by decide +kernel
theorem dX1_writeTag_24 : decode cX1_writeTag 24 = .ok (.ifCond .ne 4, 3) := by decide +kernel
theorem dX1_writeTag_27 : decode cX1_writeTag 27 = .ok (.return_, 1) := by decide +kernel
theorem dX1_writeTag_28 : decode cX1_writeTag 28 = .ok (.iconst 0, 1) := by decide +kernel
theorem dX1_writeTag_29 : decode cX1_writeTag 29 = .ok (.istore_n 3, 1) := by decide +kernel
theorem dX1_writeTag_30 : decode cX1_writeTag 30 = .ok (.iload_n 3, 1) := by decide +kernel
theorem dX1_writeTag_31 : decode cX1_writeTag 31 = .ok (.bipush 8, 2) := by decide +kernel
theorem dX1_writeTag_33 : decode cX1_writeTag 33 = .ok (.if_icmp .ge 38, 3) := by decide +kernel
theorem dX1_writeTag_36 : decode cX1_writeTag 36 = .ok (.aload_n 0, 1) := by decide +kernel
theorem dX1_writeTag_37 : decode cX1_writeTag 37 = .ok (.getfield 13, 3) := by decide +kernel
theorem dX1_writeTag_40 : decode cX1_writeTag 40 = .ok (.bipush 8, 2) := by decide +kernel
theorem dX1_writeTag_42 : decode cX1_writeTag 42 = .ok (.iload_n 1, 1) := by decide +kernel
theorem dX1_writeTag_43 : decode cX1_writeTag 43 = .ok (.imul, 1) := by decide +kernel
theorem dX1_writeTag_44 : decode cX1_writeTag 44 = .ok (.iload_n 3, 1) := by decide +kernel
theorem dX1_writeTag_45 : decode cX1_writeTag 45 = .ok (.iadd, 1) := by decide +kernel
theorem dX1_writeTag_46 : decode cX1_writeTag 46 = .ok (.iload_n 2, 1) := by decide +kernel
theorem dX1_writeTag_47 : decode cX1_writeTag 47 = .ok (.sipush 128, 3) := by decide +kernel
theorem dX1_writeTag_50 : decode cX1_writeTag 50 = .ok (.iadd, 1) := by decide +kernel
theorem dX1_writeTag_51 : decode cX1_writeTag 51 = .ok (.iload_n 3, 1) := by decide +kernel
theorem dX1_writeTag_52 : decode cX1_writeTag 52 = .ok (.ishr, 1) := by decide +kernel
theorem dX1_writeTag_53 : decode cX1_writeTag 53 = .ok (.iconst 1, 1) := by decide +kernel
theorem dX1_writeTag_54 : decode cX1_writeTag 54 = .ok (.iand, 1) := by decide +kernel
theorem dX1_writeTag_55 : decode cX1_writeTag 55 = .ok (.iconst 1, 1) := by decide +kernel
theorem dX1_writeTag_56 : decode cX1_writeTag 56 = .ok (.if_icmp .ne 7, 3) := by decide +kernel
theorem dX1_writeTag_59 : decode cX1_writeTag 59 = .ok (.iconst 1, 1) := by decide +kernel
theorem dX1_writeTag_60 : decode cX1_writeTag 60 = .ok (.goto 4, 3) := by decide +kernel
theorem dX1_writeTag_63 : decode cX1_writeTag 63 = .ok (.iconst 0, 1) := by decide +kernel
theorem dX1_writeTag_64 : decode cX1_writeTag 64 = .ok (.bastore, 1) := by decide +kernel
theorem dX1_writeTag_65 : decode cX1_writeTag 65 = .ok (.iinc 3 1, 3) := by decide +kernel
theorem dX1_writeTag_68 : decode cX1_writeTag 68 = .ok (.goto (-38), 3) := by decide +kernel
theorem dX1_writeTag_71 : decode cX1_writeTag 71 = .ok (.return_, 1) := by decide +kernel
theorem dX1_writeLine_0 : decode cX1_writeLine 0 = .ok (.aload_n 0, 1) := by decide +kernel
theorem dX1_writeLine_1 : decode cX1_writeLine 1 = .ok (.getfield 67, 3) := by decide +kernel
theorem dX1_writeLine_4 : decode cX1_writeLine 4 = .ok (.ifCond .ne 10, 3) := by decide +kernel
theorem dX1_writeLine_7 : decode cX1_writeLine 7 = .ok (.aload_n 0, 1) := by decide +kernel
theorem dX1_writeLine_8 : decode cX1_writeLine 8 = .ok (.invokevirtual 78, 3) := by decide +kernel
theorem dX1_writeLine_11 : decode cX1_writeLine 11 = .ok (.ifCond .ne 4, 3) := by decide +kernel
theorem dX1_writeLine_14 : decode cX1_writeLine 14 = .ok (.return_, 1) := by decide +kernel
theorem dX1_writeLine_15 : decode cX1_writeLine 15 = .ok (.iconst 0, 1) := by decide +kernel
theorem dX1_writeLine_16 : decode cX1_writeLine 16 = .ok (.istore 4, 2) := by decide +kernel
theorem dX1_writeLine_18 : decode cX1_writeLine 18 = .ok (.iload 4, 2) := by decide +kernel
theorem dX1_writeLine_20 : decode cX1_writeLine 20 = .ok (.bipush 32, 2) := by decide +kernel
theorem dX1_writeLine_22 : decode cX1_writeLine 22 = .ok (.if_icmp .ge 37, 3) := by decide +kernel
theorem dX1_writeLine_25 : decode cX1_writeLine 25 = .ok (.aload_n 0, 1) := by decide +kernel
theorem dX1_writeLine_26 : decode cX1_writeLine 26 = .ok (.getfield 16, 3) := by decide +kernel
theorem dX1_writeLine_29 : decode cX1_writeLine 29 = .ok (.bipush 32, 2) := by decide +kernel
theorem dX1_writeLine_31 : decode cX1_writeLine 31 = .ok (.iload_n 1, 1) := by decide +kernel
theorem dX1_writeLine_32 : decode cX1_writeLine 32 = .ok (.imul, 1) := by decide +kernel
theorem dX1_writeLine_33 : decode cX1_writeLine 33 = .ok (.iload 4, 2) := by decide +kernel
theorem dX1_writeLine_35 : decode cX1_writeLine 35 = .ok (.iadd, 1) := by decide +kernel
theorem dX1_writeLine_36 : decode cX1_writeLine 36 = .ok (.lload_n 2, 1) := by decide +kernel
theorem dX1_writeLine_37 : decode cX1_writeLine 37 = .ok (.iload 4, 2) := by decide +kernel
theorem dX1_writeLine_39 : decode cX1_writeLine 39 = .ok (.lshr, 1) := by decide +kernel
theorem dX1_writeLine_40 : decode cX1_writeLine 40 = .ok (.lconst 1, 1) := by decide +kernel
theorem dX1_writeLine_41 : decode cX1_writeLine 41 = .ok (.land, 1) := by decide +kernel
theorem dX1_writeLine_42 : decode cX1_writeLine 42 = .ok (.lconst 1, 1) := by decide +kernel
theorem dX1_writeLine_43 : decode cX1_writeLine 43 = .ok (.lcmp, 1) := by decide +kernel
theorem dX1_writeLine_44 : decode cX1_writeLine 44 = .ok (.ifCond .ne 7, 3) := by decide +kernel
theorem dX1_writeLine_47 : decode cX1_writeLine 47 = .ok (.iconst 1, 1) := by decide +kernel
theorem dX1_writeLine_48 : decode cX1_writeLine 48 = .ok (.goto 4, 3) := by decide +kernel
theorem dX1_writeLine_51 : decode cX1_writeLine 51 = .ok (.iconst 0, 1) := by decide +kernel
theorem dX1_writeLine_52 : decode cX1_writeLine 52 = .ok (.bastore, 1) := by decide +kernel
theorem dX1_writeLine_53 : decode cX1_writeLine 53 = .ok (.iinc 4 1, 3) := by decide +kernel
theorem dX1_writeLine_56 : decode cX1_writeLine 56 = .ok (.goto (-38), 3) := by decide +kernel
theorem dX1_writeLine_59 : decode cX1_writeLine 59 = .ok (.return_, 1) := by decide +kernel
theorem dX1_isKey_0 : decode cX1_isKey 0 = .ok (.iload_n 0, 1) := by decide +kernel
theorem dX1_isKey_1 : decode cX1_isKey 1 = .ok (.ifCond .lt 13, 3) := by decide +kernel
theorem dX1_isKey_4 : decode cX1_isKey 4 = .ok (.iload_n 0, 1) := by decide +kernel
theorem dX1_isKey_5 : decode cX1_isKey 5 = .ok (.bipush 64, 2) := by decide +kernel
theorem dX1_isKey_7 : decode cX1_isKey 7 = .ok (.if_icmp .ge 7, 3) := by decide +kernel
theorem dX1_isKey_10 : decode cX1_isKey 10 = .ok (.iconst 1, 1) := by decide +kernel
theorem dX1_isKey_11 : decode cX1_isKey 11 = .ok (.goto 4, 3) := by decide +kernel
theorem dX1_isKey_14 : decode cX1_isKey 14 = .ok (.iconst 0, 1) := by decide +kernel
theorem dX1_isKey_15 : decode cX1_isKey 15 = .ok (.ireturn, 1) := by decide +kernel
theorem dX1_isValue_0 : decode cX1_isValue 0 = .ok (.iload_n 0, 1) := by decide +kernel
theorem dX1_isValue_1 : decode cX1_isValue 1 = .ok (.ifCond .lt 13, 3) := by decide +kernel
theorem dX1_isValue_4 : decode cX1_isValue 4 = .ok (.iload_n 0, 1) := by decide +kernel
theorem dX1_isValue_5 : decode cX1_isValue 5 = .ok (.ldc 85, 2) := by decide +kernel
theorem dX1_isValue_7 : decode cX1_isValue 7 = .ok (.if_icmp .ge 7, 3) := by decide +kernel
theorem dX1_isValue_10 : decode cX1_isValue 10 = .ok (.iconst 1, 1) := by decide +kernel
theorem dX1_isValue_11 : decode cX1_isValue 11 = .ok (.goto 4, 3) := by decide +kernel
theorem dX1_isValue_14 : decode cX1_isValue 14 = .ok (.iconst 0, 1) := by decide +kernel
theorem dX1_isValue_15 : decode cX1_isValue 15 = .ok (.ireturn, 1) := by decide +kernel
theorem dX1_taker_0 : decode cX1_taker 0 = .ok (.aload_n 0, 1) := by decide +kernel
theorem dX1_taker_1 : decode cX1_taker 1 = .ok (.iload_n 1, 1) := by decide +kernel
theorem dX1_taker_2 : decode cX1_taker 2 = .ok (.invokevirtual 86, 3) := by decide +kernel
theorem dX1_taker_5 : decode cX1_taker 5 = .ok (.istore 4, 2) := by decide +kernel
theorem dX1_taker_7 : decode cX1_taker 7 = .ok (.iload 4, 2) := by decide +kernel
theorem dX1_taker_9 : decode cX1_taker 9 = .ok (.ifCond .lt 18, 3) := by decide +kernel
theorem dX1_taker_12 : decode cX1_taker 12 = .ok (.aload_n 0, 1) := by decide +kernel
theorem dX1_taker_13 : decode cX1_taker 13 = .ok (.iload 4, 2) := by decide +kernel
theorem dX1_taker_15 : decode cX1_taker 15 = .ok (.iload_n 2, 1) := by decide +kernel
theorem dX1_taker_16 : decode cX1_taker 16 = .ok (.invokevirtual 89, 3) := by decide +kernel
theorem dX1_taker_19 : decode cX1_taker 19 = .ok (.ifCond .eq 8, 3) := by decide +kernel
theorem dX1_taker_22 : decode cX1_taker 22 = .ok (.iload 4, 2) := by decide +kernel
theorem dX1_taker_24 : decode cX1_taker 24 = .ok (.goto 8, 3) := by decide +kernel
theorem dX1_taker_27 : decode cX1_taker 27 = .ok (.aload_n 0, 1) := by decide +kernel
theorem dX1_taker_28 : decode cX1_taker 28 = .ok (.iload_n 3, 1) := by decide +kernel
theorem dX1_taker_29 : decode cX1_taker 29 = .ok (.invokevirtual 92, 3) := by decide +kernel
theorem dX1_taker_32 : decode cX1_taker 32 = .ok (.ireturn, 1) := by decide +kernel
theorem dX1_moves_0 : decode cX1_moves 0 = .ok (.aload_n 0, 1) := by decide +kernel
theorem dX1_moves_1 : decode cX1_moves 1 = .ok (.iload_n 1, 1) := by decide +kernel
theorem dX1_moves_2 : decode cX1_moves 2 = .ok (.invokevirtual 86, 3) := by decide +kernel
theorem dX1_moves_5 : decode cX1_moves 5 = .ok (.istore_n 3, 1) := by decide +kernel
theorem dX1_moves_6 : decode cX1_moves 6 = .ok (.iload_n 3, 1) := by decide +kernel
theorem dX1_moves_7 : decode cX1_moves 7 = .ok (.ifCond .lt 12, 3) := by decide +kernel
theorem dX1_moves_10 : decode cX1_moves 10 = .ok (.aload_n 0, 1) := by decide +kernel
theorem dX1_moves_11 : decode cX1_moves 11 = .ok (.iload_n 3, 1) := by decide +kernel
theorem dX1_moves_12 : decode cX1_moves 12 = .ok (.iload_n 2, 1) := by decide +kernel
theorem dX1_moves_13 : decode cX1_moves 13 = .ok (.invokevirtual 89, 3) := by decide +kernel
theorem dX1_moves_16 : decode cX1_moves 16 = .ok (.ifCond .ne 7, 3) := by decide +kernel
theorem dX1_moves_19 : decode cX1_moves 19 = .ok (.iconst 1, 1) := by decide +kernel
theorem dX1_moves_20 : decode cX1_moves 20 = .ok (.goto 4, 3) := by decide +kernel
theorem dX1_moves_23 : decode cX1_moves 23 = .ok (.iconst 0, 1) := by decide +kernel
theorem dX1_moves_24 : decode cX1_moves 24 = .ok (.ireturn, 1) := by decide +kernel
theorem dX1_perform_0 : decode cX1_perform 0 = .ok (.aload_n 0, 1) := by decide +kernel
theorem dX1_perform_1 : decode cX1_perform 1 = .ok (.iload_n 1, 1) := by decide +kernel
theorem dX1_perform_2 : decode cX1_perform 2 = .ok (.iload_n 3, 1) := by decide +kernel
theorem dX1_perform_3 : decode cX1_perform 3 = .ok (.invokevirtual 95, 3) := by decide +kernel
theorem dX1_perform_6 : decode cX1_perform 6 = .ok (.aload_n 0, 1) := by decide +kernel
theorem dX1_perform_7 : decode cX1_perform 7 = .ok (.iload_n 1, 1) := by decide +kernel
theorem dX1_perform_8 : decode cX1_perform 8 = .ok (.iload_n 2, 1) := by decide +kernel
theorem dX1_perform_9 : decode cX1_perform 9 = .ok (.invokevirtual 99, 3) := by decide +kernel
theorem dX1_perform_12 : decode cX1_perform 12 = .ok (.return_, 1) := by decide +kernel
theorem dX1_put_0 : decode cX1_put 0 = .ok (.aload_n 0, 1) := by decide +kernel
theorem dX1_put_1 : decode cX1_put 1 = .ok (.iload_n 1, 1) := by decide +kernel
theorem dX1_put_2 : decode cX1_put 2 = .ok (.invokestatic 102, 3) := by decide +kernel
theorem dX1_put_5 : decode cX1_put 5 = .ok (.ifCond .eq 10, 3) := by decide +kernel
theorem dX1_put_8 : decode cX1_put 8 = .ok (.iload_n 2, 1) := by decide +kernel
theorem dX1_put_9 : decode cX1_put 9 = .ok (.invokestatic 105, 3) := by decide +kernel
theorem dX1_put_12 : decode cX1_put 12 = .ok (.ifCond .ne 7, 3) := by decide +kernel
theorem dX1_put_15 : decode cX1_put 15 = .ok (.iconst 1, 1) := by decide +kernel
theorem dX1_put_16 : decode cX1_put 16 = .ok (.goto 22, 3) := by decide +kernel
theorem dX1_put_19 : decode cX1_put 19 = .ok (.aload_n 0, 1) := by decide +kernel
theorem dX1_put_20 : decode cX1_put 20 = .ok (.getfield 67, 3) := by decide +kernel
theorem dX1_put_23 : decode cX1_put 23 = .ok (.ifCond .ne 10, 3) := by decide +kernel
theorem dX1_put_26 : decode cX1_put 26 = .ok (.aload_n 0, 1) := by decide +kernel
theorem dX1_put_27 : decode cX1_put 27 = .ok (.getfield 108, 3) := by decide +kernel
theorem dX1_put_30 : decode cX1_put 30 = .ok (.ifCond .eq 7, 3) := by decide +kernel
theorem dX1_put_33 : decode cX1_put 33 = .ok (.iconst 2, 1) := by decide +kernel
theorem dX1_put_34 : decode cX1_put 34 = .ok (.goto 4, 3) := by decide +kernel
theorem dX1_put_37 : decode cX1_put 37 = .ok (.iconst 0, 1) := by decide +kernel
theorem dX1_put_38 : decode cX1_put 38 = .ok (.putfield 33, 3) := by decide +kernel
theorem dX1_put_41 : decode cX1_put 41 = .ok (.aload_n 0, 1) := by decide +kernel
theorem dX1_put_42 : decode cX1_put 42 = .ok (.getfield 33, 3) := by decide +kernel
theorem dX1_put_45 : decode cX1_put 45 = .ok (.ifCond .eq 5, 3) := by decide +kernel
theorem dX1_put_48 : decode cX1_put 48 = .ok (.iconst 0, 1) := by decide +kernel
theorem dX1_put_49 : decode cX1_put 49 = .ok (.ireturn, 1) := by decide +kernel
theorem dX1_put_50 : decode cX1_put 50 = .ok (.aload_n 0, 1) := by decide +kernel
theorem dX1_put_51 : decode cX1_put 51 = .ok (.getfield 71, 3) := by decide +kernel
theorem dX1_put_54 : decode cX1_put 54 = .ok (.istore_n 3, 1) := by decide +kernel
theorem dX1_put_55 : decode cX1_put 55 = .ok (.aload_n 0, 1) := by decide +kernel
theorem dX1_put_56 : decode cX1_put 56 = .ok (.iload_n 1, 1) := by decide +kernel
theorem dX1_put_57 : decode cX1_put 57 = .ok (.iload_n 2, 1) := by decide +kernel
theorem dX1_put_58 : decode cX1_put 58 = .ok (.iconst 0, 1) := by decide +kernel
theorem dX1_put_59 : decode cX1_put 59 = .ok (.invokevirtual 111, 3) := by decide +kernel
theorem dX1_put_62 : decode cX1_put 62 = .ok (.istore 4, 2) := by decide +kernel
theorem dX1_put_64 : decode cX1_put 64 = .ok (.iload 4, 2) := by decide +kernel
theorem dX1_put_66 : decode cX1_put 66 = .ok (.ifCond .ge 5, 3) := by decide +kernel
theorem dX1_put_69 : decode cX1_put 69 = .ok (.iconst (-1), 1) := by decide +kernel
theorem dX1_put_70 : decode cX1_put 70 = .ok (.ireturn, 1) := by decide +kernel
theorem dX1_put_71 : decode cX1_put 71 = .ok (.aload_n 0, 1) := by decide +kernel
theorem dX1_put_72 : decode cX1_put 72 = .ok (.iload 4, 2) := by decide +kernel
theorem dX1_put_74 : decode cX1_put 74 = .ok (.iload_n 1, 1) := by decide +kernel
theorem dX1_put_75 : decode cX1_put 75 = .ok (.iload_n 2, 1) := by decide +kernel
theorem dX1_put_76 : decode cX1_put 76 = .ok (.invokevirtual 115, 3) := by decide +kernel
theorem dX1_put_79 : decode cX1_put 79 = .ok (.aload_n 0, 1) := by decide +kernel
theorem dX1_put_80 : decode cX1_put 80 = .ok (.getfield 67, 3) := by decide +kernel
theorem dX1_put_83 : decode cX1_put 83 = .ok (.ifCond .eq 8, 3) := by decide +kernel
theorem dX1_put_86 : decode cX1_put 86 = .ok (.bipush (-2), 2) := by decide +kernel
theorem dX1_put_88 : decode cX1_put 88 = .ok (.goto 9, 3) := by decide +kernel
theorem dX1_put_91 : decode cX1_put 91 = .ok (.aload_n 0, 1) := by decide +kernel
theorem dX1_put_92 : decode cX1_put 92 = .ok (.getfield 71, 3) := by decide +kernel
theorem dX1_put_95 : decode cX1_put 95 = .ok (.iload_n 3, 1) := by decide +kernel
theorem dX1_put_96 : decode cX1_put 96 = .ok (.isub, 1) := by decide +kernel
theorem dX1_put_97 : decode cX1_put 97 = .ok (.ireturn, 1) := by decide +kernel
theorem dX1_get_0 : decode cX1_get 0 = .ok (.aload_n 0, 1) := by decide +kernel
theorem dX1_get_1 : decode cX1_get 1 = .ok (.iload_n 1, 1) := by decide +kernel
theorem dX1_get_2 : decode cX1_get 2 = .ok (.invokestatic 102, 3) := by decide +kernel
theorem dX1_get_5 : decode cX1_get 5 = .ok (.ifCond .ne 7, 3) := by decide +kernel
theorem dX1_get_8 : decode cX1_get 8 = .ok (.iconst 1, 1) := by decide +kernel
theorem dX1_get_9 : decode cX1_get 9 = .ok (.goto 15, 3) := by decide +kernel
theorem dX1_get_12 : decode cX1_get 12 = .ok (.aload_n 0, 1) := by decide +kernel
theorem dX1_get_13 : decode cX1_get 13 = .ok (.getfield 67, 3) := by decide +kernel
theorem dX1_get_16 : decode cX1_get 16 = .ok (.ifCond .eq 7, 3) := by decide +kernel
theorem dX1_get_19 : decode cX1_get 19 = .ok (.iconst 2, 1) := by decide +kernel
theorem dX1_get_20 : decode cX1_get 20 = .ok (.goto 4, 3) := by decide +kernel
theorem dX1_get_23 : decode cX1_get 23 = .ok (.iconst 0, 1) := by decide +kernel
theorem dX1_get_24 : decode cX1_get 24 = .ok (.putfield 33, 3) := by decide +kernel
theorem dX1_get_27 : decode cX1_get 27 = .ok (.aload_n 0, 1) := by decide +kernel
theorem dX1_get_28 : decode cX1_get 28 = .ok (.getfield 33, 3) := by decide +kernel
theorem dX1_get_31 : decode cX1_get 31 = .ok (.ifCond .eq 5, 3) := by decide +kernel
theorem dX1_get_34 : decode cX1_get 34 = .ok (.iconst 0, 1) := by decide +kernel
theorem dX1_get_35 : decode cX1_get 35 = .ok (.ireturn, 1) := by decide +kernel
theorem dX1_get_36 : decode cX1_get 36 = .ok (.aload_n 0, 1) := by decide +kernel
theorem dX1_get_37 : decode cX1_get 37 = .ok (.iload_n 1, 1) := by decide +kernel
theorem dX1_get_38 : decode cX1_get 38 = .ok (.invokevirtual 86, 3) := by decide +kernel
theorem dX1_get_41 : decode cX1_get 41 = .ok (.istore_n 2, 1) := by decide +kernel
theorem dX1_get_42 : decode cX1_get 42 = .ok (.iload_n 2, 1) := by decide +kernel
theorem dX1_get_43 : decode cX1_get 43 = .ok (.ifCond .ge 7, 3) := by decide +kernel
theorem dX1_get_46 : decode cX1_get 46 = .ok (.iconst (-1), 1) := by decide +kernel
theorem dX1_get_47 : decode cX1_get 47 = .ok (.goto 8, 3) := by decide +kernel
theorem dX1_get_50 : decode cX1_get 50 = .ok (.aload_n 0, 1) := by decide +kernel
theorem dX1_get_51 : decode cX1_get 51 = .ok (.iload_n 2, 1) := by decide +kernel
theorem dX1_get_52 : decode cX1_get 52 = .ok (.invokevirtual 82, 3) := by decide +kernel
theorem dX1_get_55 : decode cX1_get 55 = .ok (.ireturn, 1) := by decide +kernel
theorem dX1_wouldMove_0 : decode cX1_wouldMove 0 = .ok (.aload_n 0, 1) := by decide +kernel
theorem dX1_wouldMove_1 : decode cX1_wouldMove 1 = .ok (.iload_n 1, 1) := by decide +kernel
theorem dX1_wouldMove_2 : decode cX1_wouldMove 2 = .ok (.invokestatic 102, 3) := by decide +kernel
theorem dX1_wouldMove_5 : decode cX1_wouldMove 5 = .ok (.ifCond .eq 10, 3) := by decide +kernel
theorem dX1_wouldMove_8 : decode cX1_wouldMove 8 = .ok (.iload_n 2, 1) := by decide +kernel
theorem dX1_wouldMove_9 : decode cX1_wouldMove 9 = .ok (.invokestatic 105, 3) := by decide +kernel
theorem dX1_wouldMove_12 : decode cX1_wouldMove 12 = .ok (.ifCond .ne 7, 3) := by decide +kernel
theorem dX1_wouldMove_15 : decode cX1_wouldMove 15 = .ok (.iconst 1, 1) := by decide +kernel
theorem dX1_wouldMove_16 : decode cX1_wouldMove 16 = .ok (.goto 15, 3) := by decide +kernel
theorem dX1_wouldMove_19 : decode cX1_wouldMove 19 = .ok (.aload_n 0, 1) := by decide +kernel
theorem dX1_wouldMove_20 : decode cX1_wouldMove 20 = .ok (.getfield 67, 3) := by decide +kernel
theorem dX1_wouldMove_23 : decode cX1_wouldMove 23 = .ok (.ifCond .eq 7, 3) := by decide +kernel
theorem dX1_wouldMove_26 : decode cX1_wouldMove 26 = .ok (.iconst 2, 1) := by decide +kernel
theorem dX1_wouldMove_27 : decode cX1_wouldMove 27 = .ok (.goto 4, 3) := by decide +kernel
theorem dX1_wouldMove_30 : decode cX1_wouldMove 30 = .ok (.iconst 0, 1) := by decide +kernel
theorem dX1_wouldMove_31 : decode cX1_wouldMove 31 = .ok (.putfield 33, 3) := by decide +kernel
theorem dX1_wouldMove_34 : decode cX1_wouldMove 34 = .ok (.aload_n 0, 1) := by decide +kernel
theorem dX1_wouldMove_35 : decode cX1_wouldMove 35 = .ok (.getfield 33, 3) := by decide +kernel
theorem dX1_wouldMove_38 : decode cX1_wouldMove 38 = .ok (.ifCond .ne 16, 3) := by decide +kernel
theorem dX1_wouldMove_41 : decode cX1_wouldMove 41 = .ok (.aload_n 0, 1) := by decide +kernel
theorem dX1_wouldMove_42 : decode cX1_wouldMove 42 = .ok (.iload_n 1, 1) := by decide +kernel
theorem dX1_wouldMove_43 : decode cX1_wouldMove 43 = .ok (.iload_n 2, 1) := by decide +kernel
theorem dX1_wouldMove_44 : decode cX1_wouldMove 44 = .ok (.invokevirtual 119, 3) := by decide +kernel
theorem dX1_wouldMove_47 : decode cX1_wouldMove 47 = .ok (.ifCond .eq 7, 3) := by decide +kernel
theorem dX1_wouldMove_50 : decode cX1_wouldMove 50 = .ok (.iconst 1, 1) := by decide +kernel
theorem dX1_wouldMove_51 : decode cX1_wouldMove 51 = .ok (.goto 4, 3) := by decide +kernel
theorem dX1_wouldMove_54 : decode cX1_wouldMove 54 = .ok (.iconst 0, 1) := by decide +kernel
theorem dX1_wouldMove_55 : decode cX1_wouldMove 55 = .ok (.ireturn, 1) := by decide +kernel
theorem dX1_begin_0 : decode cX1_begin 0 = .ok (.aload_n 0, 1) := by decide +kernel
theorem dX1_begin_1 : decode cX1_begin 1 = .ok (.aload_n 0, 1) := by decide +kernel
theorem dX1_begin_2 : decode cX1_begin 2 = .ok (.getfield 67, 3) := by decide +kernel
theorem dX1_begin_5 : decode cX1_begin 5 = .ok (.ifCond .ne 10, 3) := by decide +kernel
theorem dX1_begin_8 : decode cX1_begin 8 = .ok (.aload_n 0, 1) := by decide +kernel
theorem dX1_begin_9 : decode cX1_begin 9 = .ok (.getfield 108, 3) := by decide +kernel
theorem dX1_begin_12 : decode cX1_begin 12 = .ok (.ifCond .eq 7, 3) := by decide +kernel
theorem dX1_begin_15 : decode cX1_begin 15 = .ok (.iconst 1, 1) := by decide +kernel
theorem dX1_begin_16 : decode cX1_begin 16 = .ok (.goto 4, 3) := by decide +kernel
theorem dX1_begin_19 : decode cX1_begin 19 = .ok (.iconst 0, 1) := by decide +kernel
theorem dX1_begin_20 : decode cX1_begin 20 = .ok (.putfield 33, 3) := by decide +kernel
theorem dX1_begin_23 : decode cX1_begin 23 = .ok (.aload_n 0, 1) := by decide +kernel
theorem dX1_begin_24 : decode cX1_begin 24 = .ok (.getfield 33, 3) := by decide +kernel
theorem dX1_begin_27 : decode cX1_begin 27 = .ok (.ifCond .eq 4, 3) := by decide +kernel
theorem dX1_begin_30 : decode cX1_begin 30 = .ok (.return_, 1) := by decide +kernel
theorem dX1_begin_31 : decode cX1_begin 31 = .ok (.aload_n 0, 1) := by decide +kernel
theorem dX1_begin_32 : decode cX1_begin 32 = .ok (.iconst 1, 1) := by decide +kernel
theorem dX1_begin_33 : decode cX1_begin 33 = .ok (.putfield 108, 3) := by decide +kernel
theorem dX1_begin_36 : decode cX1_begin 36 = .ok (.aload_n 0, 1) := by decide +kernel
theorem dX1_begin_37 : decode cX1_begin 37 = .ok (.iconst 0, 1) := by decide +kernel
theorem dX1_begin_38 : decode cX1_begin 38 = .ok (.putfield 122, 3) := by decide +kernel
theorem dX1_begin_41 : decode cX1_begin 41 = .ok (.return_, 1) := by decide +kernel
theorem dX1_isStaged_0 : decode cX1_isStaged 0 = .ok (.iconst 0, 1) := by decide +kernel
theorem dX1_isStaged_1 : decode cX1_isStaged 1 = .ok (.istore_n 2, 1) := by decide +kernel
theorem dX1_isStaged_2 : decode cX1_isStaged 2 = .ok (.iconst 0, 1) := by decide +kernel
theorem dX1_isStaged_3 : decode cX1_isStaged 3 = .ok (.istore_n 3, 1) := by decide +kernel
theorem dX1_isStaged_4 : decode cX1_isStaged 4 = .ok (.iload_n 3, 1) := by decide +kernel
theorem dX1_isStaged_5 : decode cX1_isStaged 5 = .ok (.aload_n 0, 1) := by decide +kernel
theorem dX1_isStaged_6 : decode cX1_isStaged 6 = .ok (.getfield 122, 3) := by decide +kernel
theorem dX1_isStaged_9 : decode cX1_isStaged 9 = .ok (.if_icmp .ge 36, 3) := by decide +kernel
theorem dX1_isStaged_12 : decode cX1_isStaged 12 = .ok (.aload_n 0, 1) := by decide +kernel
theorem dX1_isStaged_13 : decode cX1_isStaged 13 = .ok (.getfield 108, 3) := by decide +kernel
theorem dX1_isStaged_16 : decode cX1_isStaged 16 = .ok (.ifCond .eq 29, 3) := by decide +kernel
theorem dX1_isStaged_19 : decode cX1_isStaged 19 = .ok (.iload_n 2, 1) := by decide +kernel
theorem dX1_isStaged_20 : decode cX1_isStaged 20 = .ok (.ifCond .ne 13, 3) := by decide +kernel
theorem dX1_isStaged_23 : decode cX1_isStaged 23 = .ok (.aload_n 0, 1) := by decide +kernel
theorem dX1_isStaged_24 : decode cX1_isStaged 24 = .ok (.getfield 23, 3) := by decide +kernel
theorem dX1_isStaged_27 : decode cX1_isStaged 27 = .ok (.iload_n 3, 1) := by decide +kernel
theorem dX1_isStaged_28 : decode cX1_isStaged 28 = .ok (.iaload, 1) := by decide +kernel
theorem dX1_isStaged_29 : decode cX1_isStaged 29 = .ok (.iload_n 1, 1) := by decide +kernel
theorem dX1_isStaged_30 : decode cX1_isStaged 30 = .ok (.if_icmp .ne 7, 3) := by decide +kernel
theorem dX1_isStaged_33 : decode cX1_isStaged 33 = .ok (.iconst 1, 1) := by decide +kernel
theorem dX1_isStaged_34 : decode cX1_isStaged 34 = .ok (.goto 4, 3) := by decide +kernel
theorem dX1_isStaged_37 : decode cX1_isStaged 37 = .ok (.iconst 0, 1) := by decide +kernel
theorem dX1_isStaged_38 : decode cX1_isStaged 38 = .ok (.istore_n 2, 1) := by decide +kernel
theorem dX1_isStaged_39 : decode cX1_isStaged 39 = .ok (.iinc 3 1, 3) := by decide +kernel
theorem dX1_isStaged_42 : decode cX1_isStaged 42 = .ok (.goto (-38), 3) := by decide +kernel
theorem dX1_isStaged_45 : decode cX1_isStaged 45 = .ok (.iload_n 2, 1) := by decide +kernel
theorem dX1_isStaged_46 : decode cX1_isStaged 46 = .ok (.ireturn, 1) := by decide +kernel
theorem dX1_stage_0 : decode cX1_stage 0 = .ok (.aload_n 0, 1) := by decide +kernel
theorem dX1_stage_1 : decode cX1_stage 1 = .ok (.iload_n 1, 1) := by decide +kernel
theorem dX1_stage_2 : decode cX1_stage 2 = .ok (.invokestatic 102, 3) := by decide +kernel
theorem dX1_stage_5 : decode cX1_stage 5 = .ok (.ifCond .eq 18, 3) := by decide +kernel
theorem dX1_stage_8 : decode cX1_stage 8 = .ok (.iload_n 2, 1) := by decide +kernel
theorem dX1_stage_9 : decode cX1_stage 9 = .ok (.invokestatic 105, 3) := by decide +kernel
theorem dX1_stage_12 : decode cX1_stage 12 = .ok (.ifCond .eq 11, 3) := by decide +kernel
theorem dX1_stage_15 : decode cX1_stage 15 = .ok (.aload_n 0, 1) := by decide +kernel
theorem dX1_stage_16 : decode cX1_stage 16 = .ok (.iload_n 1, 1) := by decide +kernel
theorem dX1_stage_17 : decode cX1_stage 17 = .ok (.invokevirtual 125, 3) := by decide +kernel
theorem dX1_stage_20 : decode cX1_stage 20 = .ok (.ifCond .eq 7, 3) := by decide +kernel
theorem dX1_stage_23 : decode cX1_stage 23 = .ok (.iconst 1, 1) := by decide +kernel
theorem dX1_stage_24 : decode cX1_stage 24 = .ok (.goto 31, 3) := by decide +kernel
theorem dX1_stage_27 : decode cX1_stage 27 = .ok (.aload_n 0, 1) := by decide +kernel
theorem dX1_stage_28 : decode cX1_stage 28 = .ok (.getfield 67, 3) := by decide +kernel
theorem dX1_stage_31 : decode cX1_stage 31 = .ok (.ifCond .ne 19, 3) := by decide +kernel
theorem dX1_stage_34 : decode cX1_stage 34 = .ok (.aload_n 0, 1) := by decide +kernel
theorem dX1_stage_35 : decode cX1_stage 35 = .ok (.getfield 108, 3) := by decide +kernel
theorem dX1_stage_38 : decode cX1_stage 38 = .ok (.ifCond .eq 12, 3) := by decide +kernel
theorem dX1_stage_41 : decode cX1_stage 41 = .ok (.aload_n 0, 1) := by decide +kernel
theorem dX1_stage_42 : decode cX1_stage 42 = .ok (.getfield 122, 3) := by decide +kernel
theorem dX1_stage_45 : decode cX1_stage 45 = .ok (.bipush 8, 2) := by decide +kernel
theorem dX1_stage_47 : decode cX1_stage 47 = .ok (.if_icmp .ne 7, 3) := by decide +kernel
theorem dX1_stage_50 : decode cX1_stage 50 = .ok (.iconst 2, 1) := by decide +kernel
theorem dX1_stage_51 : decode cX1_stage 51 = .ok (.goto 4, 3) := by decide +kernel
theorem dX1_stage_54 : decode cX1_stage 54 = .ok (.iconst 0, 1) := by decide +kernel
theorem dX1_stage_55 : decode cX1_stage 55 = .ok (.putfield 33, 3) := by decide +kernel
theorem dX1_stage_58 : decode cX1_stage 58 = .ok (.aload_n 0, 1) := by decide +kernel
theorem dX1_stage_59 : decode cX1_stage 59 = .ok (.getfield 33, 3) := by decide +kernel
theorem dX1_stage_62 : decode cX1_stage 62 = .ok (.ifCond .eq 5, 3) := by decide +kernel
theorem dX1_stage_65 : decode cX1_stage 65 = .ok (.iconst 0, 1) := by decide +kernel
theorem dX1_stage_66 : decode cX1_stage 66 = .ok (.ireturn, 1) := by decide +kernel
theorem dX1_stage_67 : decode cX1_stage 67 = .ok (.aload_n 0, 1) := by decide +kernel
theorem dX1_stage_68 : decode cX1_stage 68 = .ok (.getfield 23, 3) := by decide +kernel
theorem dX1_stage_71 : decode cX1_stage 71 = .ok (.aload_n 0, 1) := by decide +kernel
theorem dX1_stage_72 : decode cX1_stage 72 = .ok (.getfield 122, 3) := by decide +kernel
theorem dX1_stage_75 : decode cX1_stage 75 = .ok (.iload_n 1, 1) := by decide +kernel
theorem dX1_stage_76 : decode cX1_stage 76 = .ok (.iastore, 1) := by decide +kernel
theorem dX1_stage_77 : decode cX1_stage 77 = .ok (.aload_n 0, 1) := by decide +kernel
theorem dX1_stage_78 : decode cX1_stage 78 = .ok (.getfield 27, 3) := by decide +kernel
theorem dX1_stage_81 : decode cX1_stage 81 = .ok (.aload_n 0, 1) := by decide +kernel
theorem dX1_stage_82 : decode cX1_stage 82 = .ok (.getfield 122, 3) := by decide +kernel
theorem dX1_stage_85 : decode cX1_stage 85 = .ok (.iload_n 2, 1) := by decide +kernel
theorem dX1_stage_86 : decode cX1_stage 86 = .ok (.iastore, 1) := by decide +kernel
theorem dX1_stage_87 : decode cX1_stage 87 = .ok (.aload_n 0, 1) := by decide +kernel
theorem dX1_stage_88 : decode cX1_stage 88 = .ok (.dup, 1) := by decide +kernel
theorem dX1_stage_89 : decode cX1_stage 89 = .ok (.getfield 122, 3) := by decide +kernel
theorem dX1_stage_92 : decode cX1_stage 92 = .ok (.iconst 1, 1) := by decide +kernel
theorem dX1_stage_93 : decode cX1_stage 93 = .ok (.iadd, 1) := by decide +kernel
theorem dX1_stage_94 : decode cX1_stage 94 = .ok (.putfield 122, 3) := by decide +kernel
theorem dX1_stage_97 : decode cX1_stage 97 = .ok (.aload_n 0, 1) := by decide +kernel
theorem dX1_stage_98 : decode cX1_stage 98 = .ok (.getfield 122, 3) := by decide +kernel
theorem dX1_stage_101 : decode cX1_stage 101 = .ok (.ireturn, 1) := by decide +kernel
theorem dX1_abandon_0 : decode cX1_abandon 0 = .ok (.aload_n 0, 1) := by decide +kernel
theorem dX1_abandon_1 : decode cX1_abandon 1 = .ok (.aload_n 0, 1) := by decide +kernel
theorem dX1_abandon_2 : decode cX1_abandon 2 = .ok (.getfield 67, 3) := by decide +kernel
theorem dX1_abandon_5 : decode cX1_abandon 5 = .ok (.ifCond .ne 10, 3) := by decide +kernel
theorem dX1_abandon_8 : decode cX1_abandon 8 = .ok (.aload_n 0, 1) := by decide +kernel
theorem dX1_abandon_9 : decode cX1_abandon 9 = .ok (.getfield 108, 3) := by decide +kernel
theorem dX1_abandon_12 : decode cX1_abandon 12 = .ok (.ifCond .ne 7, 3) := by decide +kernel
theorem dX1_abandon_15 : decode cX1_abandon 15 = .ok (.iconst 1, 1) := by decide +kernel
theorem dX1_abandon_16 : decode cX1_abandon 16 = .ok (.goto 4, 3) := by decide +kernel
theorem dX1_abandon_19 : decode cX1_abandon 19 = .ok (.iconst 0, 1) := by decide +kernel
theorem dX1_abandon_20 : decode cX1_abandon 20 = .ok (.putfield 33, 3) := by decide +kernel
theorem dX1_abandon_23 : decode cX1_abandon 23 = .ok (.aload_n 0, 1) := by decide +kernel
theorem dX1_abandon_24 : decode cX1_abandon 24 = .ok (.getfield 33, 3) := by decide +kernel
theorem dX1_abandon_27 : decode cX1_abandon 27 = .ok (.ifCond .eq 5, 3) := by decide +kernel
theorem dX1_abandon_30 : decode cX1_abandon 30 = .ok (.iconst 0, 1) := by decide +kernel
theorem dX1_abandon_31 : decode cX1_abandon 31 = .ok (.ireturn, 1) := by decide +kernel
theorem dX1_abandon_32 : decode cX1_abandon 32 = .ok (.aload_n 0, 1) := by decide +kernel
theorem dX1_abandon_33 : decode cX1_abandon 33 = .ok (.iconst 0, 1) := by decide +kernel
theorem dX1_abandon_34 : decode cX1_abandon 34 = .ok (.putfield 108, 3) := by decide +kernel
theorem dX1_abandon_37 : decode cX1_abandon 37 = .ok (.aload_n 0, 1) := by decide +kernel
theorem dX1_abandon_38 : decode cX1_abandon 38 = .ok (.getfield 122, 3) := by decide +kernel
theorem dX1_abandon_41 : decode cX1_abandon 41 = .ok (.ireturn, 1) := by decide +kernel
theorem dX1_share_0 : decode cX1_share 0 = .ok (.iconst 0, 1) := by decide +kernel
theorem dX1_share_1 : decode cX1_share 1 = .ok (.istore_n 1, 1) := by decide +kernel
theorem dX1_share_2 : decode cX1_share 2 = .ok (.iconst 0, 1) := by decide +kernel
theorem dX1_share_3 : decode cX1_share 3 = .ok (.istore_n 2, 1) := by decide +kernel
theorem dX1_share_4 : decode cX1_share 4 = .ok (.iload_n 2, 1) := by decide +kernel
theorem dX1_share_5 : decode cX1_share 5 = .ok (.aload_n 0, 1) := by decide +kernel
theorem dX1_share_6 : decode cX1_share 6 = .ok (.getfield 122, 3) := by decide +kernel
theorem dX1_share_9 : decode cX1_share 9 = .ok (.if_icmp .ge 71, 3) := by decide +kernel
theorem dX1_share_12 : decode cX1_share 12 = .ok (.aload_n 0, 1) := by decide +kernel
theorem dX1_share_13 : decode cX1_share 13 = .ok (.getfield 30, 3) := by decide +kernel
theorem dX1_share_16 : decode cX1_share 16 = .ok (.iload_n 2, 1) := by decide +kernel
theorem dX1_share_17 : decode cX1_share 17 = .ok (.aload_n 0, 1) := by decide +kernel
theorem dX1_share_18 : decode cX1_share 18 = .ok (.aload_n 0, 1) := by decide +kernel
theorem dX1_share_19 : decode cX1_share 19 = .ok (.getfield 23, 3) := by decide +kernel
theorem dX1_share_22 : decode cX1_share 22 = .ok (.iload_n 2, 1) := by decide +kernel
theorem dX1_share_23 : decode cX1_share 23 = .ok (.iaload, 1) := by decide +kernel
theorem dX1_share_24 : decode cX1_share 24 = .ok (.aload_n 0, 1) := by decide +kernel
theorem dX1_share_25 : decode cX1_share 25 = .ok (.getfield 27, 3) := by decide +kernel
theorem dX1_share_28 : decode cX1_share 28 = .ok (.iload_n 2, 1) := by decide +kernel
theorem dX1_share_29 : decode cX1_share 29 = .ok (.iaload, 1) := by decide +kernel
theorem dX1_share_30 : decode cX1_share 30 = .ok (.iload_n 1, 1) := by decide +kernel
theorem dX1_share_31 : decode cX1_share 31 = .ok (.invokevirtual 111, 3) := by decide +kernel
theorem dX1_share_34 : decode cX1_share 34 = .ok (.iastore, 1) := by decide +kernel
theorem dX1_share_35 : decode cX1_share 35 = .ok (.aload_n 0, 1) := by decide +kernel
theorem dX1_share_36 : decode cX1_share 36 = .ok (.getfield 30, 3) := by decide +kernel
theorem dX1_share_39 : decode cX1_share 39 = .ok (.iload_n 2, 1) := by decide +kernel
theorem dX1_share_40 : decode cX1_share 40 = .ok (.iaload, 1) := by decide +kernel
theorem dX1_share_41 : decode cX1_share 41 = .ok (.ifCond .ge 5, 3) := by decide +kernel
theorem dX1_share_44 : decode cX1_share 44 = .ok (.iconst 0, 1) := by decide +kernel
theorem dX1_share_45 : decode cX1_share 45 = .ok (.ireturn, 1) := by decide +kernel
theorem dX1_share_46 : decode cX1_share 46 = .ok (.aload_n 0, 1) := by decide +kernel
theorem dX1_share_47 : decode cX1_share 47 = .ok (.aload_n 0, 1) := by decide +kernel
theorem dX1_share_48 : decode cX1_share 48 = .ok (.getfield 23, 3) := by decide +kernel
theorem dX1_share_51 : decode cX1_share 51 = .ok (.iload_n 2, 1) := by decide +kernel
theorem dX1_share_52 : decode cX1_share 52 = .ok (.iaload, 1) := by decide +kernel
theorem dX1_share_53 : decode cX1_share 53 = .ok (.aload_n 0, 1) := by decide +kernel
theorem dX1_share_54 : decode cX1_share 54 = .ok (.getfield 27, 3) := by decide +kernel
theorem dX1_share_57 : decode cX1_share 57 = .ok (.iload_n 2, 1) := by decide +kernel
theorem dX1_share_58 : decode cX1_share 58 = .ok (.iaload, 1) := by decide +kernel
theorem dX1_share_59 : decode cX1_share 59 = .ok (.invokevirtual 119, 3) := by decide +kernel
theorem dX1_share_62 : decode cX1_share 62 = .ok (.ifCond .eq 12, 3) := by decide +kernel
theorem dX1_share_65 : decode cX1_share 65 = .ok (.aload_n 0, 1) := by decide +kernel
theorem dX1_share_66 : decode cX1_share 66 = .ok (.getfield 30, 3) := by decide +kernel
theorem dX1_share_69 : decode cX1_share 69 = .ok (.iload_n 2, 1) := by decide +kernel
theorem dX1_share_70 : decode cX1_share 70 = .ok (.iaload, 1) := by decide +kernel
theorem dX1_share_71 : decode cX1_share 71 = .ok (.iconst 1, 1) := by decide +kernel
theorem dX1_share_72 : decode cX1_share 72 = .ok (.iadd, 1) := by decide +kernel
theorem dX1_share_73 : decode cX1_share 73 = .ok (.istore_n 1, 1) := by decide +kernel
theorem dX1_share_74 : decode cX1_share 74 = .ok (.iinc 2 1, 3) := by decide +kernel
theorem dX1_share_77 : decode cX1_share 77 = .ok (.goto (-73), 3) := by decide +kernel
theorem dX1_share_80 : decode cX1_share 80 = .ok (.iconst 1, 1) := by decide +kernel
theorem dX1_share_81 : decode cX1_share 81 = .ok (.ireturn, 1) := by decide +kernel
theorem dX1_commit_0 : decode cX1_commit 0 = .ok (.aload_n 0, 1) := by decide +kernel
theorem dX1_commit_1 : decode cX1_commit 1 = .ok (.aload_n 0, 1) := by decide +kernel
theorem dX1_commit_2 : decode cX1_commit 2 = .ok (.getfield 67, 3) := by decide +kernel
theorem dX1_commit_5 : decode cX1_commit 5 = .ok (.ifCond .ne 10, 3) := by decide +kernel
theorem dX1_commit_8 : decode cX1_commit 8 = .ok (.aload_n 0, 1) := by decide +kernel
theorem dX1_commit_9 : decode cX1_commit 9 = .ok (.getfield 108, 3) := by decide +kernel
theorem dX1_commit_12 : decode cX1_commit 12 = .ok (.ifCond .ne 7, 3) := by decide +kernel
theorem dX1_commit_15 : decode cX1_commit 15 = .ok (.iconst 1, 1) := by decide +kernel
theorem dX1_commit_16 : decode cX1_commit 16 = .ok (.goto 4, 3) := by decide +kernel
theorem dX1_commit_19 : decode cX1_commit 19 = .ok (.iconst 0, 1) := by decide +kernel
theorem dX1_commit_20 : decode cX1_commit 20 = .ok (.putfield 33, 3) := by decide +kernel
theorem dX1_commit_23 : decode cX1_commit 23 = .ok (.aload_n 0, 1) := by decide +kernel
theorem dX1_commit_24 : decode cX1_commit 24 = .ok (.getfield 33, 3) := by decide +kernel
theorem dX1_commit_27 : decode cX1_commit 27 = .ok (.ifCond .eq 5, 3) := by decide +kernel
theorem dX1_commit_30 : decode cX1_commit 30 = .ok (.iconst 0, 1) := by decide +kernel
theorem dX1_commit_31 : decode cX1_commit 31 = .ok (.ireturn, 1) := by decide +kernel
theorem dX1_commit_32 : decode cX1_commit 32 = .ok (.aload_n 0, 1) := by decide +kernel
theorem dX1_commit_33 : decode cX1_commit 33 = .ok (.invokevirtual 128, 3) := by decide +kernel
theorem dX1_commit_36 : decode cX1_commit 36 = .ok (.istore_n 1, 1) := by decide +kernel
theorem dX1_commit_37 : decode cX1_commit 37 = .ok (.aload_n 0, 1) := by decide +kernel
theorem dX1_commit_38 : decode cX1_commit 38 = .ok (.getfield 122, 3) := by decide +kernel
theorem dX1_commit_41 : decode cX1_commit 41 = .ok (.ifCond .le 16, 3) := by decide +kernel
theorem dX1_commit_44 : decode cX1_commit 44 = .ok (.iload_n 1, 1) := by decide +kernel
theorem dX1_commit_45 : decode cX1_commit 45 = .ok (.ifCond .lt 10, 3) := by decide +kernel
theorem dX1_commit_48 : decode cX1_commit 48 = .ok (.aload_n 0, 1) := by decide +kernel
theorem dX1_commit_49 : decode cX1_commit 49 = .ok (.invokevirtual 132, 3) := by decide +kernel
theorem dX1_commit_52 : decode cX1_commit 52 = .ok (.ifCond .ne 5, 3) := by decide +kernel
theorem dX1_commit_55 : decode cX1_commit 55 = .ok (.iconst (-1), 1) := by decide +kernel
theorem dX1_commit_56 : decode cX1_commit 56 = .ok (.ireturn, 1) := by decide +kernel
theorem dX1_commit_57 : decode cX1_commit 57 = .ok (.aload_n 0, 1) := by decide +kernel
theorem dX1_commit_58 : decode cX1_commit 58 = .ok (.iconst 0, 1) := by decide +kernel
theorem dX1_commit_59 : decode cX1_commit 59 = .ok (.putfield 108, 3) := by decide +kernel
theorem dX1_commit_62 : decode cX1_commit 62 = .ok (.aload_n 0, 1) := by decide +kernel
theorem dX1_commit_63 : decode cX1_commit 63 = .ok (.getfield 122, 3) := by decide +kernel
theorem dX1_commit_66 : decode cX1_commit 66 = .ok (.ifCond .ne 5, 3) := by decide +kernel
theorem dX1_commit_69 : decode cX1_commit 69 = .ok (.iconst 0, 1) := by decide +kernel
theorem dX1_commit_70 : decode cX1_commit 70 = .ok (.ireturn, 1) := by decide +kernel
theorem dX1_commit_71 : decode cX1_commit 71 = .ok (.aload_n 0, 1) := by decide +kernel
theorem dX1_commit_72 : decode cX1_commit 72 = .ok (.getfield 71, 3) := by decide +kernel
theorem dX1_commit_75 : decode cX1_commit 75 = .ok (.istore_n 2, 1) := by decide +kernel
theorem dX1_commit_76 : decode cX1_commit 76 = .ok (.iconst 0, 1) := by decide +kernel
theorem dX1_commit_77 : decode cX1_commit 77 = .ok (.istore_n 3, 1) := by decide +kernel
theorem dX1_commit_78 : decode cX1_commit 78 = .ok (.iload_n 3, 1) := by decide +kernel
theorem dX1_commit_79 : decode cX1_commit 79 = .ok (.aload_n 0, 1) := by decide +kernel
theorem dX1_commit_80 : decode cX1_commit 80 = .ok (.getfield 122, 3) := by decide +kernel
theorem dX1_commit_83 : decode cX1_commit 83 = .ok (.if_icmp .ge 54, 3) := by decide +kernel
theorem dX1_commit_86 : decode cX1_commit 86 = .ok (.aload_n 0, 1) := by decide +kernel
theorem dX1_commit_87 : decode cX1_commit 87 = .ok (.bipush 9, 2) := by decide +kernel
theorem dX1_commit_89 : decode cX1_commit 89 = .ok (.iload_n 1, 1) := by decide +kernel
theorem dX1_commit_90 : decode cX1_commit 90 = .ok (.imul, 1) := by decide +kernel
theorem dX1_commit_91 : decode cX1_commit 91 = .ok (.iload_n 3, 1) := by decide +kernel
theorem dX1_commit_92 : decode cX1_commit 92 = .ok (.iadd, 1) := by decide +kernel
theorem dX1_commit_93 : decode cX1_commit 93 = .ok (.aload_n 0, 1) := by decide +kernel
theorem dX1_commit_94 : decode cX1_commit 94 = .ok (.getfield 27, 3) := by decide +kernel
theorem dX1_commit_97 : decode cX1_commit 97 = .ok (.iload_n 3, 1) := by decide +kernel
theorem dX1_commit_98 : decode cX1_commit 98 = .ok (.iaload, 1) := by decide +kernel
theorem dX1_commit_99 : decode cX1_commit 99 = .ok (.i2l, 1) := by decide +kernel
theorem dX1_commit_100 : decode cX1_commit 100 = .ok (.ldc2_w 135, 3) := by decide +kernel
theorem dX1_commit_103 : decode cX1_commit 103 = .ok (.aload_n 0, 1) := by decide +kernel
theorem dX1_commit_104 : decode cX1_commit 104 = .ok (.getfield 23, 3) := by decide +kernel
theorem dX1_commit_107 : decode cX1_commit 107 = .ok (.iload_n 3, 1) := by decide +kernel
theorem dX1_commit_108 : decode cX1_commit 108 = .ok (.iaload, 1) := by decide +kernel
theorem dX1_commit_109 : decode cX1_commit 109 = .ok (.i2l, 1) := by decide +kernel
theorem dX1_commit_110 : decode cX1_commit 110 = .ok (.lmul, 1) := by decide +kernel
theorem dX1_commit_111 : decode cX1_commit 111 = .ok (.ladd, 1) := by decide +kernel
theorem dX1_commit_112 : decode cX1_commit 112 = .ok (.ldc2_w 137, 3) := by decide +kernel
theorem dX1_commit_115 : decode cX1_commit 115 = .ok (.aload_n 0, 1) := by decide +kernel
theorem dX1_commit_116 : decode cX1_commit 116 = .ok (.getfield 30, 3) := by decide +kernel
theorem dX1_commit_119 : decode cX1_commit 119 = .ok (.iload_n 3, 1) := by decide +kernel
theorem dX1_commit_120 : decode cX1_commit 120 = .ok (.iaload, 1) := by decide +kernel
theorem dX1_commit_121 : decode cX1_commit 121 = .ok (.i2l, 1) := by decide +kernel
theorem dX1_commit_122 : decode cX1_commit 122 = .ok (.lmul, 1) := by decide +kernel
theorem dX1_commit_123 : decode cX1_commit 123 = .ok (.ladd, 1) := by decide +kernel
theorem dX1_commit_124 : decode cX1_commit 124 = .ok (.ldc2_w 139, 3) := by decide +kernel
theorem dX1_commit_127 : decode cX1_commit 127 = .ok (.ladd, 1) := by decide +kernel
theorem dX1_commit_128 : decode cX1_commit 128 = .ok (.invokevirtual 141, 3) := by decide +kernel
theorem dX1_commit_131 : decode cX1_commit 131 = .ok (.iinc 3 1, 3) := by decide +kernel
theorem dX1_commit_134 : decode cX1_commit 134 = .ok (.goto (-56), 3) := by decide +kernel
theorem dX1_commit_137 : decode cX1_commit 137 = .ok (.aload_n 0, 1) := by decide +kernel
theorem dX1_commit_138 : decode cX1_commit 138 = .ok (.bipush 9, 2) := by decide +kernel
theorem dX1_commit_140 : decode cX1_commit 140 = .ok (.iload_n 1, 1) := by decide +kernel
theorem dX1_commit_141 : decode cX1_commit 141 = .ok (.imul, 1) := by decide +kernel
theorem dX1_commit_142 : decode cX1_commit 142 = .ok (.bipush 8, 2) := by decide +kernel
theorem dX1_commit_144 : decode cX1_commit 144 = .ok (.iadd, 1) := by decide +kernel
theorem dX1_commit_145 : decode cX1_commit 145 = .ok (.lconst 1, 1) := by decide +kernel
theorem dX1_commit_146 : decode cX1_commit 146 = .ok (.invokevirtual 141, 3) := by decide +kernel
theorem dX1_commit_149 : decode cX1_commit 149 = .ok (.iconst 0, 1) := by decide +kernel
theorem dX1_commit_150 : decode cX1_commit 150 = .ok (.istore_n 3, 1) := by decide +kernel
theorem dX1_commit_151 : decode cX1_commit 151 = .ok (.iload_n 3, 1) := by decide +kernel
theorem dX1_commit_152 : decode cX1_commit 152 = .ok (.aload_n 0, 1) := by decide +kernel
theorem dX1_commit_153 : decode cX1_commit 153 = .ok (.getfield 122, 3) := by decide +kernel
theorem dX1_commit_156 : decode cX1_commit 156 = .ok (.if_icmp .ge 31, 3) := by decide +kernel
theorem dX1_commit_159 : decode cX1_commit 159 = .ok (.aload_n 0, 1) := by decide +kernel
theorem dX1_commit_160 : decode cX1_commit 160 = .ok (.aload_n 0, 1) := by decide +kernel
theorem dX1_commit_161 : decode cX1_commit 161 = .ok (.getfield 30, 3) := by decide +kernel
theorem dX1_commit_164 : decode cX1_commit 164 = .ok (.iload_n 3, 1) := by decide +kernel
theorem dX1_commit_165 : decode cX1_commit 165 = .ok (.iaload, 1) := by decide +kernel
theorem dX1_commit_166 : decode cX1_commit 166 = .ok (.aload_n 0, 1) := by decide +kernel
theorem dX1_commit_167 : decode cX1_commit 167 = .ok (.getfield 23, 3) := by decide +kernel
theorem dX1_commit_170 : decode cX1_commit 170 = .ok (.iload_n 3, 1) := by decide +kernel
theorem dX1_commit_171 : decode cX1_commit 171 = .ok (.iaload, 1) := by decide +kernel
theorem dX1_commit_172 : decode cX1_commit 172 = .ok (.aload_n 0, 1) := by decide +kernel
theorem dX1_commit_173 : decode cX1_commit 173 = .ok (.getfield 27, 3) := by decide +kernel
theorem dX1_commit_176 : decode cX1_commit 176 = .ok (.iload_n 3, 1) := by decide +kernel
theorem dX1_commit_177 : decode cX1_commit 177 = .ok (.iaload, 1) := by decide +kernel
theorem dX1_commit_178 : decode cX1_commit 178 = .ok (.invokevirtual 115, 3) := by decide +kernel
theorem dX1_commit_181 : decode cX1_commit 181 = .ok (.iinc 3 1, 3) := by decide +kernel
theorem dX1_commit_184 : decode cX1_commit 184 = .ok (.goto (-33), 3) := by decide +kernel
theorem dX1_commit_187 : decode cX1_commit 187 = .ok (.aload_n 0, 1) := by decide +kernel
theorem dX1_commit_188 : decode cX1_commit 188 = .ok (.bipush 9, 2) := by decide +kernel
theorem dX1_commit_190 : decode cX1_commit 190 = .ok (.iload_n 1, 1) := by decide +kernel
theorem dX1_commit_191 : decode cX1_commit 191 = .ok (.imul, 1) := by decide +kernel
theorem dX1_commit_192 : decode cX1_commit 192 = .ok (.bipush 8, 2) := by decide +kernel
theorem dX1_commit_194 : decode cX1_commit 194 = .ok (.iadd, 1) := by decide +kernel
theorem dX1_commit_195 : decode cX1_commit 195 = .ok (.ldc2_w 145, 3) := by decide +kernel
theorem dX1_commit_198 : decode cX1_commit 198 = .ok (.invokevirtual 141, 3) := by decide +kernel
theorem dX1_commit_201 : decode cX1_commit 201 = .ok (.aload_n 0, 1) := by decide +kernel
theorem dX1_commit_202 : decode cX1_commit 202 = .ok (.getfield 67, 3) := by decide +kernel
theorem dX1_commit_205 : decode cX1_commit 205 = .ok (.ifCond .eq 8, 3) := by decide +kernel
theorem dX1_commit_208 : decode cX1_commit 208 = .ok (.bipush (-2), 2) := by decide +kernel
theorem dX1_commit_210 : decode cX1_commit 210 = .ok (.goto 9, 3) := by decide +kernel
theorem dX1_commit_213 : decode cX1_commit 213 = .ok (.aload_n 0, 1) := by decide +kernel
theorem dX1_commit_214 : decode cX1_commit 214 = .ok (.getfield 71, 3) := by decide +kernel
theorem dX1_commit_217 : decode cX1_commit 217 = .ok (.iload_n 2, 1) := by decide +kernel
theorem dX1_commit_218 : decode cX1_commit 218 = .ok (.isub, 1) := by decide +kernel
theorem dX1_commit_219 : decode cX1_commit 219 = .ok (.ireturn, 1) := by decide +kernel
theorem dX1_failAfter_0 : decode cX1_failAfter 0 = .ok (.aload_n 0, 1) := by decide +kernel
theorem dX1_failAfter_1 : decode cX1_failAfter 1 = .ok (.iload_n 1, 1) := by decide +kernel
theorem dX1_failAfter_2 : decode cX1_failAfter 2 = .ok (.iconst (-1), 1) := by decide +kernel
theorem dX1_failAfter_3 : decode cX1_failAfter 3 = .ok (.if_icmp .lt 10, 3) := by decide +kernel
theorem dX1_failAfter_6 : decode cX1_failAfter 6 = .ok (.iload_n 1, 1) := by decide +kernel
theorem dX1_failAfter_7 : decode cX1_failAfter 7 = .ok (.sipush 1000, 3) := by decide +kernel
theorem dX1_failAfter_10 : decode cX1_failAfter 10 = .ok (.if_icmp .le 7, 3) := by decide +kernel
theorem dX1_failAfter_13 : decode cX1_failAfter 13 = .ok (.iconst 1, 1) := by decide +kernel
theorem dX1_failAfter_14 : decode cX1_failAfter 14 = .ok (.goto 15, 3) := by decide +kernel
theorem dX1_failAfter_17 : decode cX1_failAfter 17 = .ok (.aload_n 0, 1) := by decide +kernel
theorem dX1_failAfter_18 : decode cX1_failAfter 18 = .ok (.getfield 67, 3) := by decide +kernel
theorem dX1_failAfter_21 : decode cX1_failAfter 21 = .ok (.ifCond .eq 7, 3) := by decide +kernel
theorem dX1_failAfter_24 : decode cX1_failAfter 24 = .ok (.iconst 2, 1) := by decide +kernel
theorem dX1_failAfter_25 : decode cX1_failAfter 25 = .ok (.goto 4, 3) := by decide +kernel
theorem dX1_failAfter_28 : decode cX1_failAfter 28 = .ok (.iconst 0, 1) := by decide +kernel
theorem dX1_failAfter_29 : decode cX1_failAfter 29 = .ok (.putfield 33, 3) := by decide +kernel
theorem dX1_failAfter_32 : decode cX1_failAfter 32 = .ok (.aload_n 0, 1) := by decide +kernel
theorem dX1_failAfter_33 : decode cX1_failAfter 33 = .ok (.getfield 33, 3) := by decide +kernel
theorem dX1_failAfter_36 : decode cX1_failAfter 36 = .ok (.ifCond .ne 8, 3) := by decide +kernel
theorem dX1_failAfter_39 : decode cX1_failAfter 39 = .ok (.aload_n 0, 1) := by decide +kernel
theorem dX1_failAfter_40 : decode cX1_failAfter 40 = .ok (.iload_n 1, 1) := by decide +kernel
theorem dX1_failAfter_41 : decode cX1_failAfter 41 = .ok (.putfield 19, 3) := by decide +kernel
theorem dX1_failAfter_44 : decode cX1_failAfter 44 = .ok (.return_, 1) := by decide +kernel
theorem dX1_isOn_0 : decode cX1_isOn 0 = .ok (.aload_n 0, 1) := by decide +kernel
theorem dX1_isOn_1 : decode cX1_isOn 1 = .ok (.iconst 0, 1) := by decide +kernel
theorem dX1_isOn_2 : decode cX1_isOn 2 = .ok (.putfield 33, 3) := by decide +kernel
theorem dX1_isOn_5 : decode cX1_isOn 5 = .ok (.aload_n 0, 1) := by decide +kernel
theorem dX1_isOn_6 : decode cX1_isOn 6 = .ok (.getfield 67, 3) := by decide +kernel
theorem dX1_isOn_9 : decode cX1_isOn 9 = .ok (.ifCond .ne 7, 3) := by decide +kernel
theorem dX1_isOn_12 : decode cX1_isOn 12 = .ok (.iconst 1, 1) := by decide +kernel
theorem dX1_isOn_13 : decode cX1_isOn 13 = .ok (.goto 4, 3) := by decide +kernel
theorem dX1_isOn_16 : decode cX1_isOn 16 = .ok (.iconst 0, 1) := by decide +kernel
theorem dX1_isOn_17 : decode cX1_isOn 17 = .ok (.ireturn, 1) := by decide +kernel
theorem dX1_finish_0 : decode cX1_finish 0 = .ok (.iconst 0, 1) := by decide +kernel
theorem dX1_finish_1 : decode cX1_finish 1 = .ok (.istore_n 2, 1) := by decide +kernel
theorem dX1_finish_2 : decode cX1_finish 2 = .ok (.iload_n 2, 1) := by decide +kernel
theorem dX1_finish_3 : decode cX1_finish 3 = .ok (.bipush 8, 2) := by decide +kernel
theorem dX1_finish_5 : decode cX1_finish 5 = .ok (.if_icmp .ge 56, 3) := by decide +kernel
theorem dX1_finish_8 : decode cX1_finish 8 = .ok (.aload_n 0, 1) := by decide +kernel
theorem dX1_finish_9 : decode cX1_finish 9 = .ok (.bipush 9, 2) := by decide +kernel
theorem dX1_finish_11 : decode cX1_finish 11 = .ok (.iload_n 1, 1) := by decide +kernel
theorem dX1_finish_12 : decode cX1_finish 12 = .ok (.imul, 1) := by decide +kernel
theorem dX1_finish_13 : decode cX1_finish 13 = .ok (.iload_n 2, 1) := by decide +kernel
theorem dX1_finish_14 : decode cX1_finish 14 = .ok (.iadd, 1) := by decide +kernel
theorem dX1_finish_15 : decode cX1_finish 15 = .ok (.invokevirtual 60, 3) := by decide +kernel
theorem dX1_finish_18 : decode cX1_finish 18 = .ok (.lstore_n 3, 1) := by decide +kernel
theorem dX1_finish_19 : decode cX1_finish 19 = .ok (.lload_n 3, 1) := by decide +kernel
theorem dX1_finish_20 : decode cX1_finish 20 = .ok (.lconst 0, 1) := by decide +kernel
theorem dX1_finish_21 : decode cX1_finish 21 = .ok (.lcmp, 1) := by decide +kernel
theorem dX1_finish_22 : decode cX1_finish 22 = .ok (.ifCond .eq 33, 3) := by decide +kernel
theorem dX1_finish_25 : decode cX1_finish 25 = .ok (.aload_n 0, 1) := by decide +kernel
theorem dX1_finish_26 : decode cX1_finish 26 = .ok (.lload_n 3, 1) := by decide +kernel
theorem dX1_finish_27 : decode cX1_finish 27 = .ok (.ldc2_w 137, 3) := by decide +kernel
theorem dX1_finish_30 : decode cX1_finish 30 = .ok (.ldiv, 1) := by decide +kernel
theorem dX1_finish_31 : decode cX1_finish 31 = .ok (.ldc2_w 147, 3) := by decide +kernel
theorem dX1_finish_34 : decode cX1_finish 34 = .ok (.lrem, 1) := by decide +kernel
theorem dX1_finish_35 : decode cX1_finish 35 = .ok (.l2i, 1) := by decide +kernel
theorem dX1_finish_36 : decode cX1_finish 36 = .ok (.lload_n 3, 1) := by decide +kernel
theorem dX1_finish_37 : decode cX1_finish 37 = .ok (.ldc2_w 135, 3) := by decide +kernel
theorem dX1_finish_40 : decode cX1_finish 40 = .ok (.ldiv, 1) := by decide +kernel
theorem dX1_finish_41 : decode cX1_finish 41 = .ok (.ldc2_w 149, 3) := by decide +kernel
theorem dX1_finish_44 : decode cX1_finish 44 = .ok (.lrem, 1) := by decide +kernel
theorem dX1_finish_45 : decode cX1_finish 45 = .ok (.l2i, 1) := by decide +kernel
theorem dX1_finish_46 : decode cX1_finish 46 = .ok (.lload_n 3, 1) := by decide +kernel
theorem dX1_finish_47 : decode cX1_finish 47 = .ok (.ldc2_w 135, 3) := by decide +kernel
theorem dX1_finish_50 : decode cX1_finish 50 = .ok (.lrem, 1) := by decide +kernel
theorem dX1_finish_51 : decode cX1_finish 51 = .ok (.l2i, 1) := by decide +kernel
theorem dX1_finish_52 : decode cX1_finish 52 = .ok (.invokevirtual 115, 3) := by decide +kernel
theorem dX1_finish_55 : decode cX1_finish 55 = .ok (.iinc 2 1, 3) := by decide +kernel
theorem dX1_finish_58 : decode cX1_finish 58 = .ok (.goto (-56), 3) := by decide +kernel
theorem dX1_finish_61 : decode cX1_finish 61 = .ok (.aload_n 0, 1) := by decide +kernel
theorem dX1_finish_62 : decode cX1_finish 62 = .ok (.bipush 9, 2) := by decide +kernel
theorem dX1_finish_64 : decode cX1_finish 64 = .ok (.iload_n 1, 1) := by decide +kernel
theorem dX1_finish_65 : decode cX1_finish 65 = .ok (.imul, 1) := by decide +kernel
theorem dX1_finish_66 : decode cX1_finish 66 = .ok (.bipush 8, 2) := by decide +kernel
theorem dX1_finish_68 : decode cX1_finish 68 = .ok (.iadd, 1) := by decide +kernel
theorem dX1_finish_69 : decode cX1_finish 69 = .ok (.ldc2_w 145, 3) := by decide +kernel
theorem dX1_finish_72 : decode cX1_finish 72 = .ok (.invokevirtual 141, 3) := by decide +kernel
theorem dX1_finish_75 : decode cX1_finish 75 = .ok (.return_, 1) := by decide +kernel
theorem dX1_mount_0 : decode cX1_mount 0 = .ok (.aload_n 0, 1) := by decide +kernel
theorem dX1_mount_1 : decode cX1_mount 1 = .ok (.aload_n 0, 1) := by decide +kernel
theorem dX1_mount_2 : decode cX1_mount 2 = .ok (.getfield 67, 3) := by decide +kernel
theorem dX1_mount_5 : decode cX1_mount 5 = .ok (.ifCond .eq 7, 3) := by decide +kernel
theorem dX1_mount_8 : decode cX1_mount 8 = .ok (.iconst 0, 1) := by decide +kernel
theorem dX1_mount_9 : decode cX1_mount 9 = .ok (.goto 4, 3) := by decide +kernel
theorem dX1_mount_12 : decode cX1_mount 12 = .ok (.iconst 1, 1) := by decide +kernel
theorem dX1_mount_13 : decode cX1_mount 13 = .ok (.putfield 33, 3) := by decide +kernel
theorem dX1_mount_16 : decode cX1_mount 16 = .ok (.aload_n 0, 1) := by decide +kernel
theorem dX1_mount_17 : decode cX1_mount 17 = .ok (.getfield 33, 3) := by decide +kernel
theorem dX1_mount_20 : decode cX1_mount 20 = .ok (.ifCond .eq 5, 3) := by decide +kernel
theorem dX1_mount_23 : decode cX1_mount 23 = .ok (.iconst 0, 1) := by decide +kernel
theorem dX1_mount_24 : decode cX1_mount 24 = .ok (.ireturn, 1) := by decide +kernel
theorem dX1_mount_25 : decode cX1_mount 25 = .ok (.aload_n 0, 1) := by decide +kernel
theorem dX1_mount_26 : decode cX1_mount 26 = .ok (.iconst 0, 1) := by decide +kernel
theorem dX1_mount_27 : decode cX1_mount 27 = .ok (.putfield 67, 3) := by decide +kernel
theorem dX1_mount_30 : decode cX1_mount 30 = .ok (.aload_n 0, 1) := by decide +kernel
theorem dX1_mount_31 : decode cX1_mount 31 = .ok (.iconst (-1), 1) := by decide +kernel
theorem dX1_mount_32 : decode cX1_mount 32 = .ok (.putfield 19, 3) := by decide +kernel
theorem dX1_mount_35 : decode cX1_mount 35 = .ok (.aload_n 0, 1) := by decide +kernel
theorem dX1_mount_36 : decode cX1_mount 36 = .ok (.iconst 0, 1) := by decide +kernel
theorem dX1_mount_37 : decode cX1_mount 37 = .ok (.putfield 108, 3) := by decide +kernel
theorem dX1_mount_40 : decode cX1_mount 40 = .ok (.iconst 0, 1) := by decide +kernel
theorem dX1_mount_41 : decode cX1_mount 41 = .ok (.istore_n 1, 1) := by decide +kernel
theorem dX1_mount_42 : decode cX1_mount 42 = .ok (.iload_n 1, 1) := by decide +kernel
theorem dX1_mount_43 : decode cX1_mount 43 = .ok (.bipush 40, 2) := by decide +kernel
theorem dX1_mount_45 : decode cX1_mount 45 = .ok (.if_icmp .ge 30, 3) := by decide +kernel
theorem dX1_mount_48 : decode cX1_mount 48 = .ok (.aload_n 0, 1) := by decide +kernel
theorem dX1_mount_49 : decode cX1_mount 49 = .ok (.bipush 9, 2) := by decide +kernel
theorem dX1_mount_51 : decode cX1_mount 51 = .ok (.iload_n 1, 1) := by decide +kernel
theorem dX1_mount_52 : decode cX1_mount 52 = .ok (.imul, 1) := by decide +kernel
theorem dX1_mount_53 : decode cX1_mount 53 = .ok (.bipush 8, 2) := by decide +kernel
theorem dX1_mount_55 : decode cX1_mount 55 = .ok (.iadd, 1) := by decide +kernel
theorem dX1_mount_56 : decode cX1_mount 56 = .ok (.invokevirtual 60, 3) := by decide +kernel
theorem dX1_mount_59 : decode cX1_mount 59 = .ok (.lconst 1, 1) := by decide +kernel
theorem dX1_mount_60 : decode cX1_mount 60 = .ok (.lcmp, 1) := by decide +kernel
theorem dX1_mount_61 : decode cX1_mount 61 = .ok (.ifCond .ne 8, 3) := by decide +kernel
theorem dX1_mount_64 : decode cX1_mount 64 = .ok (.aload_n 0, 1) := by decide +kernel
theorem dX1_mount_65 : decode cX1_mount 65 = .ok (.iload_n 1, 1) := by decide +kernel
theorem dX1_mount_66 : decode cX1_mount 66 = .ok (.invokevirtual 151, 3) := by decide +kernel
theorem dX1_mount_69 : decode cX1_mount 69 = .ok (.iinc 1 1, 3) := by decide +kernel
theorem dX1_mount_72 : decode cX1_mount 72 = .ok (.goto (-30), 3) := by decide +kernel
theorem dX1_mount_75 : decode cX1_mount 75 = .ok (.iconst 0, 1) := by decide +kernel
theorem dX1_mount_76 : decode cX1_mount 76 = .ok (.istore_n 1, 1) := by decide +kernel
theorem dX1_mount_77 : decode cX1_mount 77 = .ok (.iconst 0, 1) := by decide +kernel
theorem dX1_mount_78 : decode cX1_mount 78 = .ok (.istore_n 2, 1) := by decide +kernel
theorem dX1_mount_79 : decode cX1_mount 79 = .ok (.iload_n 2, 1) := by decide +kernel
theorem dX1_mount_80 : decode cX1_mount 80 = .ok (.bipush 64, 2) := by decide +kernel
theorem dX1_mount_82 : decode cX1_mount 82 = .ok (.if_icmp .ge 25, 3) := by decide +kernel
theorem dX1_mount_85 : decode cX1_mount 85 = .ok (.iload_n 1, 1) := by decide +kernel
theorem dX1_mount_86 : decode cX1_mount 86 = .ok (.aload_n 0, 1) := by decide +kernel
theorem dX1_mount_87 : decode cX1_mount 87 = .ok (.iload_n 2, 1) := by decide +kernel
theorem dX1_mount_88 : decode cX1_mount 88 = .ok (.invokevirtual 86, 3) := by decide +kernel
theorem dX1_mount_91 : decode cX1_mount 91 = .ok (.ifCond .lt 7, 3) := by decide +kernel
theorem dX1_mount_94 : decode cX1_mount 94 = .ok (.iconst 1, 1) := by decide +kernel
theorem dX1_mount_95 : decode cX1_mount 95 = .ok (.goto 4, 3) := by decide +kernel
theorem dX1_mount_98 : decode cX1_mount 98 = .ok (.iconst 0, 1) := by decide +kernel
theorem dX1_mount_99 : decode cX1_mount 99 = .ok (.iadd, 1) := by decide +kernel
theorem dX1_mount_100 : decode cX1_mount 100 = .ok (.istore_n 1, 1) := by decide +kernel
theorem dX1_mount_101 : decode cX1_mount 101 = .ok (.iinc 2 1, 3) := by decide +kernel
theorem dX1_mount_104 : decode cX1_mount 104 = .ok (.goto (-25), 3) := by decide +kernel
theorem dX1_mount_107 : decode cX1_mount 107 = .ok (.iload_n 1, 1) := by decide +kernel
theorem dX1_mount_108 : decode cX1_mount 108 = .ok (.ireturn, 1) := by decide +kernel
theorem dX1_countOf_0 : decode cX1_countOf 0 = .ok (.iconst 0, 1) := by decide +kernel
theorem dX1_countOf_1 : decode cX1_countOf 1 = .ok (.istore_n 2, 1) := by decide +kernel
theorem dX1_countOf_2 : decode cX1_countOf 2 = .ok (.iconst 0, 1) := by decide +kernel
theorem dX1_countOf_3 : decode cX1_countOf 3 = .ok (.istore_n 3, 1) := by decide +kernel
theorem dX1_countOf_4 : decode cX1_countOf 4 = .ok (.iload_n 3, 1) := by decide +kernel
theorem dX1_countOf_5 : decode cX1_countOf 5 = .ok (.iload_n 1, 1) := by decide +kernel
theorem dX1_countOf_6 : decode cX1_countOf 6 = .ok (.if_icmp .ge 23, 3) := by decide +kernel
theorem dX1_countOf_9 : decode cX1_countOf 9 = .ok (.iload_n 2, 1) := by decide +kernel
theorem dX1_countOf_10 : decode cX1_countOf 10 = .ok (.aload_n 0, 1) := by decide +kernel
theorem dX1_countOf_11 : decode cX1_countOf 11 = .ok (.iload_n 3, 1) := by decide +kernel
theorem dX1_countOf_12 : decode cX1_countOf 12 = .ok (.baload, 1) := by decide +kernel
theorem dX1_countOf_13 : decode cX1_countOf 13 = .ok (.ifCond .eq 7, 3) := by decide +kernel
theorem dX1_countOf_16 : decode cX1_countOf 16 = .ok (.iconst 1, 1) := by decide +kernel
theorem dX1_countOf_17 : decode cX1_countOf 17 = .ok (.goto 4, 3) := by decide +kernel
theorem dX1_countOf_20 : decode cX1_countOf 20 = .ok (.iconst 0, 1) := by decide +kernel
theorem dX1_countOf_21 : decode cX1_countOf 21 = .ok (.iadd, 1) := by decide +kernel
theorem dX1_countOf_22 : decode cX1_countOf 22 = .ok (.istore_n 2, 1) := by decide +kernel
theorem dX1_countOf_23 : decode cX1_countOf 23 = .ok (.iinc 3 1, 3) := by decide +kernel
theorem dX1_countOf_26 : decode cX1_countOf 26 = .ok (.goto (-22), 3) := by decide +kernel
theorem dX1_countOf_29 : decode cX1_countOf 29 = .ok (.iload_n 2, 1) := by decide +kernel
theorem dX1_countOf_30 : decode cX1_countOf 30 = .ok (.ireturn, 1) := by decide +kernel
theorem dX1_left_0 : decode cX1_left 0 = .ok (.aload_n 0, 1) := by decide +kernel
theorem dX1_left_1 : decode cX1_left 1 = .ok (.iload_n 1, 1) := by decide +kernel
theorem dX1_left_2 : decode cX1_left 2 = .ok (.ifCond .lt 8, 3) := by decide +kernel
theorem dX1_left_5 : decode cX1_left 5 = .ok (.iload_n 1, 1) := by decide +kernel
theorem dX1_left_6 : decode cX1_left 6 = .ok (.iconst 3, 1) := by decide +kernel
theorem dX1_left_7 : decode cX1_left 7 = .ok (.if_icmp .le 7, 3) := by decide +kernel
theorem dX1_left_10 : decode cX1_left 10 = .ok (.iconst 1, 1) := by decide +kernel
theorem dX1_left_11 : decode cX1_left 11 = .ok (.goto 4, 3) := by decide +kernel
theorem dX1_left_14 : decode cX1_left 14 = .ok (.iconst 0, 1) := by decide +kernel
theorem dX1_left_15 : decode cX1_left 15 = .ok (.putfield 33, 3) := by decide +kernel
theorem dX1_left_18 : decode cX1_left 18 = .ok (.aload_n 0, 1) := by decide +kernel
theorem dX1_left_19 : decode cX1_left 19 = .ok (.getfield 33, 3) := by decide +kernel
theorem dX1_left_22 : decode cX1_left 22 = .ok (.ifCond .eq 5, 3) := by decide +kernel
theorem dX1_left_25 : decode cX1_left 25 = .ok (.iconst 0, 1) := by decide +kernel
theorem dX1_left_26 : decode cX1_left 26 = .ok (.ireturn, 1) := by decide +kernel
theorem dX1_left_27 : decode cX1_left 27 = .ok (.iconst 0, 1) := by decide +kernel
theorem dX1_left_28 : decode cX1_left 28 = .ok (.istore_n 2, 1) := by decide +kernel
theorem dX1_left_29 : decode cX1_left 29 = .ok (.iload_n 1, 1) := by decide +kernel
theorem dX1_left_30 : decode cX1_left 30 = .ok (.ifCond .ne 34, 3) := by decide +kernel
theorem dX1_left_33 : decode cX1_left 33 = .ok (.iconst 0, 1) := by decide +kernel
theorem dX1_left_34 : decode cX1_left 34 = .ok (.istore_n 3, 1) := by decide +kernel
theorem dX1_left_35 : decode cX1_left 35 = .ok (.iload_n 3, 1) := by decide +kernel
theorem dX1_left_36 : decode cX1_left 36 = .ok (.sipush 160, 3) := by decide +kernel
theorem dX1_left_39 : decode cX1_left 39 = .ok (.if_icmp .ge 25, 3) := by decide +kernel
theorem dX1_left_42 : decode cX1_left 42 = .ok (.iload_n 2, 1) := by decide +kernel
theorem dX1_left_43 : decode cX1_left 43 = .ok (.aload_n 0, 1) := by decide +kernel
theorem dX1_left_44 : decode cX1_left 44 = .ok (.iload_n 3, 1) := by decide +kernel
theorem dX1_left_45 : decode cX1_left 45 = .ok (.invokevirtual 56, 3) := by decide +kernel
theorem dX1_left_48 : decode cX1_left 48 = .ok (.ifCond .eq 7, 3) := by decide +kernel
theorem dX1_left_51 : decode cX1_left 51 = .ok (.iconst 1, 1) := by decide +kernel
theorem dX1_left_52 : decode cX1_left 52 = .ok (.goto 4, 3) := by decide +kernel
theorem dX1_left_55 : decode cX1_left 55 = .ok (.iconst 0, 1) := by decide +kernel
theorem dX1_left_56 : decode cX1_left 56 = .ok (.iadd, 1) := by decide +kernel
theorem dX1_left_57 : decode cX1_left 57 = .ok (.istore_n 2, 1) := by decide +kernel
theorem dX1_left_58 : decode cX1_left 58 = .ok (.iinc 3 1, 3) := by decide +kernel
theorem dX1_left_61 : decode cX1_left 61 = .ok (.goto (-26), 3) := by decide +kernel
theorem dX1_left_64 : decode cX1_left 64 = .ok (.iload_n 1, 1) := by decide +kernel
theorem dX1_left_65 : decode cX1_left 65 = .ok (.iconst 1, 1) := by decide +kernel
theorem dX1_left_66 : decode cX1_left 66 = .ok (.if_icmp .ne 33, 3) := by decide +kernel
theorem dX1_left_69 : decode cX1_left 69 = .ok (.iconst 0, 1) := by decide +kernel
theorem dX1_left_70 : decode cX1_left 70 = .ok (.istore_n 3, 1) := by decide +kernel
theorem dX1_left_71 : decode cX1_left 71 = .ok (.iload_n 3, 1) := by decide +kernel
theorem dX1_left_72 : decode cX1_left 72 = .ok (.bipush 40, 2) := by decide +kernel
theorem dX1_left_74 : decode cX1_left 74 = .ok (.if_icmp .ge 25, 3) := by decide +kernel
theorem dX1_left_77 : decode cX1_left 77 = .ok (.iload_n 2, 1) := by decide +kernel
theorem dX1_left_78 : decode cX1_left 78 = .ok (.aload_n 0, 1) := by decide +kernel
theorem dX1_left_79 : decode cX1_left 79 = .ok (.iload_n 3, 1) := by decide +kernel
theorem dX1_left_80 : decode cX1_left 80 = .ok (.invokevirtual 64, 3) := by decide +kernel
theorem dX1_left_83 : decode cX1_left 83 = .ok (.ifCond .eq 7, 3) := by decide +kernel
theorem dX1_left_86 : decode cX1_left 86 = .ok (.iconst 1, 1) := by decide +kernel
theorem dX1_left_87 : decode cX1_left 87 = .ok (.goto 4, 3) := by decide +kernel
theorem dX1_left_90 : decode cX1_left 90 = .ok (.iconst 0, 1) := by decide +kernel
theorem dX1_left_91 : decode cX1_left 91 = .ok (.iadd, 1) := by decide +kernel
theorem dX1_left_92 : decode cX1_left 92 = .ok (.istore_n 2, 1) := by decide +kernel
theorem dX1_left_93 : decode cX1_left 93 = .ok (.iinc 3 1, 3) := by decide +kernel
theorem dX1_left_96 : decode cX1_left 96 = .ok (.goto (-25), 3) := by decide +kernel
theorem dX1_left_99 : decode cX1_left 99 = .ok (.iload_n 1, 1) := by decide +kernel
theorem dX1_left_100 : decode cX1_left 100 = .ok (.iconst 2, 1) := by decide +kernel
theorem dX1_left_101 : decode cX1_left 101 = .ok (.if_icmp .ne 36, 3) := by decide +kernel
theorem dX1_left_104 : decode cX1_left 104 = .ok (.aload_n 0, 1) := by decide +kernel
theorem dX1_left_105 : decode cX1_left 105 = .ok (.getfield 7, 3) := by decide +kernel
theorem dX1_left_108 : decode cX1_left 108 = .ok (.sipush 3840, 3) := by decide +kernel
theorem dX1_left_111 : decode cX1_left 111 = .ok (.invokestatic 155, 3) := by decide +kernel
theorem dX1_left_114 : decode cX1_left 114 = .ok (.aload_n 0, 1) := by decide +kernel
theorem dX1_left_115 : decode cX1_left 115 = .ok (.getfield 13, 3) := by decide +kernel
theorem dX1_left_118 : decode cX1_left 118 = .ok (.sipush 1280, 3) := by decide +kernel
theorem dX1_left_121 : decode cX1_left 121 = .ok (.invokestatic 155, 3) := by decide +kernel
theorem dX1_left_124 : decode cX1_left 124 = .ok (.iadd, 1) := by decide +kernel
theorem dX1_left_125 : decode cX1_left 125 = .ok (.aload_n 0, 1) := by decide +kernel
theorem dX1_left_126 : decode cX1_left 126 = .ok (.getfield 16, 3) := by decide +kernel
theorem dX1_left_129 : decode cX1_left 129 = .ok (.sipush 11520, 3) := by decide +kernel
theorem dX1_left_132 : decode cX1_left 132 = .ok (.invokestatic 155, 3) := by decide +kernel
theorem dX1_left_135 : decode cX1_left 135 = .ok (.iadd, 1) := by decide +kernel
theorem dX1_left_136 : decode cX1_left 136 = .ok (.istore_n 2, 1) := by decide +kernel
theorem dX1_left_137 : decode cX1_left 137 = .ok (.iload_n 1, 1) := by decide +kernel
theorem dX1_left_138 : decode cX1_left 138 = .ok (.iconst 3, 1) := by decide +kernel
theorem dX1_left_139 : decode cX1_left 139 = .ok (.if_icmp .ne 10, 3) := by decide +kernel
theorem dX1_left_142 : decode cX1_left 142 = .ok (.aload_n 0, 1) := by decide +kernel
theorem dX1_left_143 : decode cX1_left 143 = .ok (.getfield 71, 3) := by decide +kernel
theorem dX1_left_146 : decode cX1_left 146 = .ok (.goto 4, 3) := by decide +kernel
theorem dX1_left_149 : decode cX1_left 149 = .ok (.iload_n 2, 1) := by decide +kernel
theorem dX1_left_150 : decode cX1_left 150 = .ok (.ireturn, 1) := by decide +kernel
theorem dX1_cell_0 : decode cX1_cell 0 = .ok (.iload_n 1, 1) := by decide +kernel
theorem dX1_cell_1 : decode cX1_cell 1 = .ok (.iconst 2, 1) := by decide +kernel
theorem dX1_cell_2 : decode cX1_cell 2 = .ok (.if_icmp .ne 9, 3) := by decide +kernel
theorem dX1_cell_5 : decode cX1_cell 5 = .ok (.sipush 360, 3) := by decide +kernel
theorem dX1_cell_8 : decode cX1_cell 8 = .ok (.goto 6, 3) := by decide +kernel
theorem dX1_cell_11 : decode cX1_cell 11 = .ok (.sipush 160, 3) := by decide +kernel
theorem dX1_cell_14 : decode cX1_cell 14 = .ok (.istore 4, 2) := by decide +kernel
theorem dX1_cell_16 : decode cX1_cell 16 = .ok (.iload_n 1, 1) := by decide +kernel
theorem dX1_cell_17 : decode cX1_cell 17 = .ok (.ifCond .ne 8, 3) := by decide +kernel
theorem dX1_cell_20 : decode cX1_cell 20 = .ok (.bipush 24, 2) := by decide +kernel
theorem dX1_cell_22 : decode cX1_cell 22 = .ok (.goto 15, 3) := by decide +kernel
theorem dX1_cell_25 : decode cX1_cell 25 = .ok (.iload_n 1, 1) := by decide +kernel
theorem dX1_cell_26 : decode cX1_cell 26 = .ok (.iconst 1, 1) := by decide +kernel
theorem dX1_cell_27 : decode cX1_cell 27 = .ok (.if_icmp .ne 8, 3) := by decide +kernel
theorem dX1_cell_30 : decode cX1_cell 30 = .ok (.bipush 8, 2) := by decide +kernel
theorem dX1_cell_32 : decode cX1_cell 32 = .ok (.goto 5, 3) := by decide +kernel
theorem dX1_cell_35 : decode cX1_cell 35 = .ok (.bipush 32, 2) := by decide +kernel
theorem dX1_cell_37 : decode cX1_cell 37 = .ok (.istore 5, 2) := by decide +kernel
theorem dX1_cell_39 : decode cX1_cell 39 = .ok (.aload_n 0, 1) := by decide +kernel
theorem dX1_cell_40 : decode cX1_cell 40 = .ok (.iload_n 1, 1) := by decide +kernel
theorem dX1_cell_41 : decode cX1_cell 41 = .ok (.ifCond .lt 28, 3) := by decide +kernel
theorem dX1_cell_44 : decode cX1_cell 44 = .ok (.iload_n 1, 1) := by decide +kernel
theorem dX1_cell_45 : decode cX1_cell 45 = .ok (.iconst 2, 1) := by decide +kernel
theorem dX1_cell_46 : decode cX1_cell 46 = .ok (.if_icmp .gt 23, 3) := by decide +kernel
theorem dX1_cell_49 : decode cX1_cell 49 = .ok (.iload_n 2, 1) := by decide +kernel
theorem dX1_cell_50 : decode cX1_cell 50 = .ok (.ifCond .lt 19, 3) := by decide +kernel
theorem dX1_cell_53 : decode cX1_cell 53 = .ok (.iload_n 2, 1) := by decide +kernel
theorem dX1_cell_54 : decode cX1_cell 54 = .ok (.iload 4, 2) := by decide +kernel
theorem dX1_cell_56 : decode cX1_cell 56 = .ok (.if_icmp .ge 13, 3) := by decide +kernel
theorem dX1_cell_59 : decode cX1_cell 59 = .ok (.iload_n 3, 1) := by decide +kernel
theorem dX1_cell_60 : decode cX1_cell 60 = .ok (.ifCond .lt 9, 3) := by decide +kernel
theorem dX1_cell_63 : decode cX1_cell 63 = .ok (.iload_n 3, 1) := by decide +kernel
theorem dX1_cell_64 : decode cX1_cell 64 = .ok (.iload 5, 2) := by decide +kernel
theorem dX1_cell_66 : decode cX1_cell 66 = .ok (.if_icmp .lt 7, 3) := by decide +kernel
theorem dX1_cell_69 : decode cX1_cell 69 = .ok (.iconst 1, 1) := by decide +kernel
theorem dX1_cell_70 : decode cX1_cell 70 = .ok (.goto 4, 3) := by decide +kernel
theorem dX1_cell_73 : decode cX1_cell 73 = .ok (.iconst 0, 1) := by decide +kernel
theorem dX1_cell_74 : decode cX1_cell 74 = .ok (.putfield 33, 3) := by decide +kernel
theorem dX1_cell_77 : decode cX1_cell 77 = .ok (.aload_n 0, 1) := by decide +kernel
theorem dX1_cell_78 : decode cX1_cell 78 = .ok (.getfield 33, 3) := by decide +kernel
theorem dX1_cell_81 : decode cX1_cell 81 = .ok (.ifCond .eq 5, 3) := by decide +kernel
theorem dX1_cell_84 : decode cX1_cell 84 = .ok (.iconst 0, 1) := by decide +kernel
theorem dX1_cell_85 : decode cX1_cell 85 = .ok (.ireturn, 1) := by decide +kernel
theorem dX1_cell_86 : decode cX1_cell 86 = .ok (.iload 5, 2) := by decide +kernel
theorem dX1_cell_88 : decode cX1_cell 88 = .ok (.iload_n 2, 1) := by decide +kernel
theorem dX1_cell_89 : decode cX1_cell 89 = .ok (.imul, 1) := by decide +kernel
theorem dX1_cell_90 : decode cX1_cell 90 = .ok (.iload_n 3, 1) := by decide +kernel
theorem dX1_cell_91 : decode cX1_cell 91 = .ok (.iadd, 1) := by decide +kernel
theorem dX1_cell_92 : decode cX1_cell 92 = .ok (.istore 6, 2) := by decide +kernel
theorem dX1_cell_94 : decode cX1_cell 94 = .ok (.iload_n 1, 1) := by decide +kernel
theorem dX1_cell_95 : decode cX1_cell 95 = .ok (.ifCond .ne 16, 3) := by decide +kernel
theorem dX1_cell_98 : decode cX1_cell 98 = .ok (.aload_n 0, 1) := by decide +kernel
theorem dX1_cell_99 : decode cX1_cell 99 = .ok (.getfield 7, 3) := by decide +kernel
theorem dX1_cell_102 : decode cX1_cell 102 = .ok (.iload 6, 2) := by decide +kernel
theorem dX1_cell_104 : decode cX1_cell 104 = .ok (.baload, 1) := by decide +kernel
theorem dX1_cell_105 : decode cX1_cell 105 = .ok (.ifCond .eq 38, 3) := by decide +kernel
theorem dX1_cell_108 : decode cX1_cell 108 = .ok (.goto 31, 3) := by decide +kernel
theorem dX1_cell_111 : decode cX1_cell 111 = .ok (.iload_n 1, 1) := by decide +kernel
theorem dX1_cell_112 : decode cX1_cell 112 = .ok (.iconst 1, 1) := by decide +kernel
theorem dX1_cell_113 : decode cX1_cell 113 = .ok (.if_icmp .ne 16, 3) := by decide +kernel
theorem dX1_cell_116 : decode cX1_cell 116 = .ok (.aload_n 0, 1) := by decide +kernel
theorem dX1_cell_117 : decode cX1_cell 117 = .ok (.getfield 13, 3) := by decide +kernel
theorem dX1_cell_120 : decode cX1_cell 120 = .ok (.iload 6, 2) := by decide +kernel
theorem dX1_cell_122 : decode cX1_cell 122 = .ok (.baload, 1) := by decide +kernel
theorem dX1_cell_123 : decode cX1_cell 123 = .ok (.ifCond .eq 20, 3) := by decide +kernel
theorem dX1_cell_126 : decode cX1_cell 126 = .ok (.goto 13, 3) := by decide +kernel
theorem dX1_cell_129 : decode cX1_cell 129 = .ok (.aload_n 0, 1) := by decide +kernel
theorem dX1_cell_130 : decode cX1_cell 130 = .ok (.getfield 16, 3) := by decide +kernel
theorem dX1_cell_133 : decode cX1_cell 133 = .ok (.iload 6, 2) := by decide +kernel
theorem dX1_cell_135 : decode cX1_cell 135 = .ok (.baload, 1) := by decide +kernel
theorem dX1_cell_136 : decode cX1_cell 136 = .ok (.ifCond .eq 7, 3) := by decide +kernel
theorem dX1_cell_139 : decode cX1_cell 139 = .ok (.iconst 1, 1) := by decide +kernel
theorem dX1_cell_140 : decode cX1_cell 140 = .ok (.goto 4, 3) := by decide +kernel
theorem dX1_cell_143 : decode cX1_cell 143 = .ok (.iconst 0, 1) := by decide +kernel
theorem dX1_cell_144 : decode cX1_cell 144 = .ok (.ireturn, 1) := by decide +kernel
theorem dX1_words_0 : decode cX1_words 0 = .ok (.aload_n 0, 1) := by decide +kernel
theorem dX1_words_1 : decode cX1_words 1 = .ok (.iload_n 1, 1) := by decide +kernel
theorem dX1_words_2 : decode cX1_words 2 = .ok (.invokestatic 102, 3) := by decide +kernel
theorem dX1_words_5 : decode cX1_words 5 = .ok (.ifCond .eq 7, 3) := by decide +kernel
theorem dX1_words_8 : decode cX1_words 8 = .ok (.iconst 0, 1) := by decide +kernel
theorem dX1_words_9 : decode cX1_words 9 = .ok (.goto 4, 3) := by decide +kernel
theorem dX1_words_12 : decode cX1_words 12 = .ok (.iconst 1, 1) := by decide +kernel
theorem dX1_words_13 : decode cX1_words 13 = .ok (.putfield 33, 3) := by decide +kernel
theorem dX1_words_16 : decode cX1_words 16 = .ok (.aload_n 0, 1) := by decide +kernel
theorem dX1_words_17 : decode cX1_words 17 = .ok (.getfield 33, 3) := by decide +kernel
theorem dX1_words_20 : decode cX1_words 20 = .ok (.ifCond .eq 5, 3) := by decide +kernel
theorem dX1_words_23 : decode cX1_words 23 = .ok (.iconst 0, 1) := by decide +kernel
theorem dX1_words_24 : decode cX1_words 24 = .ok (.ireturn, 1) := by decide +kernel
theorem dX1_words_25 : decode cX1_words 25 = .ok (.iconst 0, 1) := by decide +kernel
theorem dX1_words_26 : decode cX1_words 26 = .ok (.istore_n 2, 1) := by decide +kernel
theorem dX1_words_27 : decode cX1_words 27 = .ok (.iconst 0, 1) := by decide +kernel
theorem dX1_words_28 : decode cX1_words 28 = .ok (.istore_n 3, 1) := by decide +kernel
theorem dX1_words_29 : decode cX1_words 29 = .ok (.iload_n 3, 1) := by decide +kernel
theorem dX1_words_30 : decode cX1_words 30 = .ok (.sipush 160, 3) := by decide +kernel
theorem dX1_words_33 : decode cX1_words 33 = .ok (.if_icmp .ge 30, 3) := by decide +kernel
theorem dX1_words_36 : decode cX1_words 36 = .ok (.iload_n 2, 1) := by decide +kernel
theorem dX1_words_37 : decode cX1_words 37 = .ok (.aload_n 0, 1) := by decide +kernel
theorem dX1_words_38 : decode cX1_words 38 = .ok (.iload_n 3, 1) := by decide +kernel
theorem dX1_words_39 : decode cX1_words 39 = .ok (.invokevirtual 53, 3) := by decide +kernel
theorem dX1_words_42 : decode cX1_words 42 = .ok (.iload_n 1, 1) := by decide +kernel
theorem dX1_words_43 : decode cX1_words 43 = .ok (.sipush 128, 3) := by decide +kernel
theorem dX1_words_46 : decode cX1_words 46 = .ok (.iadd, 1) := by decide +kernel
theorem dX1_words_47 : decode cX1_words 47 = .ok (.if_icmp .ne 7, 3) := by decide +kernel
theorem dX1_words_50 : decode cX1_words 50 = .ok (.iconst 1, 1) := by decide +kernel
theorem dX1_words_51 : decode cX1_words 51 = .ok (.goto 4, 3) := by decide +kernel
theorem dX1_words_54 : decode cX1_words 54 = .ok (.iconst 0, 1) := by decide +kernel
theorem dX1_words_55 : decode cX1_words 55 = .ok (.iadd, 1) := by decide +kernel
theorem dX1_words_56 : decode cX1_words 56 = .ok (.istore_n 2, 1) := by decide +kernel
theorem dX1_words_57 : decode cX1_words 57 = .ok (.iinc 3 1, 3) := by decide +kernel
theorem dX1_words_60 : decode cX1_words 60 = .ok (.goto (-31), 3) := by decide +kernel
theorem dX1_words_63 : decode cX1_words 63 = .ok (.iload_n 2, 1) := by decide +kernel
theorem dX1_words_64 : decode cX1_words 64 = .ok (.ireturn, 1) := by decide +kernel
theorem dX1_history_0 : decode cX1_history 0 = .ok (.aload_n 0, 1) := by decide +kernel
theorem dX1_history_1 : decode cX1_history 1 = .ok (.iload_n 1, 1) := by decide +kernel
theorem dX1_history_2 : decode cX1_history 2 = .ok (.invokestatic 102, 3) := by decide +kernel
theorem dX1_history_5 : decode cX1_history 5 = .ok (.ifCond .eq 7, 3) := by decide +kernel
theorem dX1_history_8 : decode cX1_history 8 = .ok (.iconst 0, 1) := by decide +kernel
theorem dX1_history_9 : decode cX1_history 9 = .ok (.goto 4, 3) := by decide +kernel
theorem dX1_history_12 : decode cX1_history 12 = .ok (.iconst 1, 1) := by decide +kernel
theorem dX1_history_13 : decode cX1_history 13 = .ok (.putfield 33, 3) := by decide +kernel
theorem dX1_history_16 : decode cX1_history 16 = .ok (.aload_n 0, 1) := by decide +kernel
theorem dX1_history_17 : decode cX1_history 17 = .ok (.getfield 33, 3) := by decide +kernel
theorem dX1_history_20 : decode cX1_history 20 = .ok (.ifCond .eq 5, 3) := by decide +kernel
theorem dX1_history_23 : decode cX1_history 23 = .ok (.iconst 0, 1) := by decide +kernel
theorem dX1_history_24 : decode cX1_history 24 = .ok (.ireturn, 1) := by decide +kernel
theorem dX1_history_25 : decode cX1_history 25 = .ok (.iload_n 2, 1) := by decide +kernel
theorem dX1_history_26 : decode cX1_history 26 = .ok (.istore_n 3, 1) := by decide +kernel
theorem dX1_history_27 : decode cX1_history 27 = .ok (.iconst 0, 1) := by decide +kernel
theorem dX1_history_28 : decode cX1_history 28 = .ok (.istore 4, 2) := by decide +kernel
theorem dX1_history_30 : decode cX1_history 30 = .ok (.iload 4, 2) := by decide +kernel
theorem dX1_history_32 : decode cX1_history 32 = .ok (.sipush 160, 3) := by decide +kernel
theorem dX1_history_35 : decode cX1_history 35 = .ok (.if_icmp .ge 44, 3) := by decide +kernel
theorem dX1_history_38 : decode cX1_history 38 = .ok (.iload_n 2, 1) := by decide +kernel
theorem dX1_history_39 : decode cX1_history 39 = .ok (.ifCond .lt 40, 3) := by decide +kernel
theorem dX1_history_42 : decode cX1_history 42 = .ok (.aload_n 0, 1) := by decide +kernel
theorem dX1_history_43 : decode cX1_history 43 = .ok (.iload 4, 2) := by decide +kernel
theorem dX1_history_45 : decode cX1_history 45 = .ok (.invokevirtual 53, 3) := by decide +kernel
theorem dX1_history_48 : decode cX1_history 48 = .ok (.iload_n 1, 1) := by decide +kernel
theorem dX1_history_49 : decode cX1_history 49 = .ok (.sipush 128, 3) := by decide +kernel
theorem dX1_history_52 : decode cX1_history 52 = .ok (.iadd, 1) := by decide +kernel
theorem dX1_history_53 : decode cX1_history 53 = .ok (.if_icmp .eq 6, 3) := by decide +kernel
theorem dX1_history_56 : decode cX1_history 56 = .ok (.goto 17, 3) := by decide +kernel
theorem dX1_history_59 : decode cX1_history 59 = .ok (.iload_n 3, 1) := by decide +kernel
theorem dX1_history_60 : decode cX1_history 60 = .ok (.ifCond .ne 10, 3) := by decide +kernel
theorem dX1_history_63 : decode cX1_history 63 = .ok (.aload_n 0, 1) := by decide +kernel
theorem dX1_history_64 : decode cX1_history 64 = .ok (.iload 4, 2) := by decide +kernel
theorem dX1_history_66 : decode cX1_history 66 = .ok (.invokevirtual 82, 3) := by decide +kernel
theorem dX1_history_69 : decode cX1_history 69 = .ok (.ireturn, 1) := by decide +kernel
theorem dX1_history_70 : decode cX1_history 70 = .ok (.iinc 3 (-1), 3) := by decide +kernel
theorem dX1_history_73 : decode cX1_history 73 = .ok (.iinc 4 1, 3) := by decide +kernel
theorem dX1_history_76 : decode cX1_history 76 = .ok (.goto (-46), 3) := by decide +kernel
theorem dX1_history_79 : decode cX1_history 79 = .ok (.aload_n 0, 1) := by decide +kernel
theorem dX1_history_80 : decode cX1_history 80 = .ok (.iconst 2, 1) := by decide +kernel
theorem dX1_history_81 : decode cX1_history 81 = .ok (.putfield 33, 3) := by decide +kernel
theorem dX1_history_84 : decode cX1_history 84 = .ok (.iconst 0, 1) := by decide +kernel
theorem dX1_history_85 : decode cX1_history 85 = .ok (.ireturn, 1) := by decide +kernel
