theorem dJ6_bitCount_0f7a4_0 : decode cJ6_bitCount_0f7a4 0 = .ok (.iload_n 0, 1) := by decide +kernel
theorem dJ6_bitCount_0f7a4_1 : decode cJ6_bitCount_0f7a4 1 = .ok (.iload_n 0, 1) := by decide +kernel
theorem dJ6_bitCount_0f7a4_2 : decode cJ6_bitCount_0f7a4 2 = .ok (.iconst 1, 1) := by decide +kernel
theorem dJ6_bitCount_0f7a4_3 : decode cJ6_bitCount_0f7a4 3 = .ok (.iushr, 1) := by decide +kernel
theorem dJ6_bitCount_0f7a4_4 : decode cJ6_bitCount_0f7a4 4 = .ok (.ldc_w 265, 3) := by decide +kernel
theorem dJ6_bitCount_0f7a4_7 : decode cJ6_bitCount_0f7a4 7 = .ok (.iand, 1) := by decide +kernel
theorem dJ6_bitCount_0f7a4_8 : decode cJ6_bitCount_0f7a4 8 = .ok (.isub, 1) := by decide +kernel
theorem dJ6_bitCount_0f7a4_9 : decode cJ6_bitCount_0f7a4 9 = .ok (.istore_n 0, 1) := by decide +kernel
theorem dJ6_bitCount_0f7a4_10 : decode cJ6_bitCount_0f7a4 10 = .ok (.iload_n 0, 1) := by decide +kernel
theorem dJ6_bitCount_0f7a4_11 : decode cJ6_bitCount_0f7a4 11 = .ok (.ldc_w 266, 3) := by decide +kernel
theorem dJ6_bitCount_0f7a4_14 : decode cJ6_bitCount_0f7a4 14 = .ok (.iand, 1) := by decide +kernel
theorem dJ6_bitCount_0f7a4_15 : decode cJ6_bitCount_0f7a4 15 = .ok (.iload_n 0, 1) := by decide +kernel
theorem dJ6_bitCount_0f7a4_16 : decode cJ6_bitCount_0f7a4 16 = .ok (.iconst 2, 1) := by decide +kernel
theorem dJ6_bitCount_0f7a4_17 : decode cJ6_bitCount_0f7a4 17 = .ok (.iushr, 1) := by decide +kernel
theorem dJ6_bitCount_0f7a4_18 : decode cJ6_bitCount_0f7a4 18 = .ok (.ldc_w 266, 3) := by decide +kernel
theorem dJ6_bitCount_0f7a4_21 : decode cJ6_bitCount_0f7a4 21 = .ok (.iand, 1) := by decide +kernel
theorem dJ6_bitCount_0f7a4_22 : decode cJ6_bitCount_0f7a4 22 = .ok (.iadd, 1) := by decide +kernel
theorem dJ6_bitCount_0f7a4_23 : decode cJ6_bitCount_0f7a4 23 = .ok (.istore_n 0, 1) := by decide +kernel
theorem dJ6_bitCount_0f7a4_24 : decode cJ6_bitCount_0f7a4 24 = .ok (.iload_n 0, 1) := by decide +kernel
theorem dJ6_bitCount_0f7a4_25 : decode cJ6_bitCount_0f7a4 25 = .ok (.iload_n 0, 1) := by decide +kernel
theorem dJ6_bitCount_0f7a4_26 : decode cJ6_bitCount_0f7a4 26 = .ok (.iconst 4, 1) := by decide +kernel
theorem dJ6_bitCount_0f7a4_27 : decode cJ6_bitCount_0f7a4 27 = .ok (.iushr, 1) := by decide +kernel
theorem dJ6_bitCount_0f7a4_28 : decode cJ6_bitCount_0f7a4 28 = .ok (.iadd, 1) := by decide +kernel
theorem dJ6_bitCount_0f7a4_29 : decode cJ6_bitCount_0f7a4 29 = .ok (.ldc_w 267, 3) := by decide +kernel
theorem dJ6_bitCount_0f7a4_32 : decode cJ6_bitCount_0f7a4 32 = .ok (.iand, 1) := by decide +kernel
theorem dJ6_bitCount_0f7a4_33 : decode cJ6_bitCount_0f7a4 33 = .ok (.istore_n 0, 1) := by decide +kernel
theorem dJ6_bitCount_0f7a4_34 : decode cJ6_bitCount_0f7a4 34 = .ok (.iload_n 0, 1) := by decide +kernel
theorem dJ6_bitCount_0f7a4_35 : decode cJ6_bitCount_0f7a4 35 = .ok (.iload_n 0, 1) := by decide +kernel
theorem dJ6_bitCount_0f7a4_36 : decode cJ6_bitCount_0f7a4 36 = .ok (.bipush 8, 2) := by decide +kernel
theorem dJ6_bitCount_0f7a4_38 : decode cJ6_bitCount_0f7a4 38 = .ok (.iushr, 1) := by decide +kernel
theorem dJ6_bitCount_0f7a4_39 : decode cJ6_bitCount_0f7a4 39 = .ok (.iadd, 1) := by decide +kernel
theorem dJ6_bitCount_0f7a4_40 : decode cJ6_bitCount_0f7a4 40 = .ok (.istore_n 0, 1) := by decide +kernel
theorem dJ6_bitCount_0f7a4_41 : decode cJ6_bitCount_0f7a4 41 = .ok (.iload_n 0, 1) := by decide +kernel
theorem dJ6_bitCount_0f7a4_42 : decode cJ6_bitCount_0f7a4 42 = .ok (.iload_n 0, 1) := by decide +kernel
theorem dJ6_bitCount_0f7a4_43 : decode cJ6_bitCount_0f7a4 43 = .ok (.bipush 16, 2) := by decide +kernel
theorem dJ6_bitCount_0f7a4_45 : decode cJ6_bitCount_0f7a4 45 = .ok (.iushr, 1) := by decide +kernel
theorem dJ6_bitCount_0f7a4_46 : decode cJ6_bitCount_0f7a4 46 = .ok (.iadd, 1) := by decide +kernel
theorem dJ6_bitCount_0f7a4_47 : decode cJ6_bitCount_0f7a4 47 = .ok (.istore_n 0, 1) := by decide +kernel
theorem dJ6_bitCount_0f7a4_48 : decode cJ6_bitCount_0f7a4 48 = .ok (.iload_n 0, 1) := by decide +kernel
theorem dJ6_bitCount_0f7a4_49 : decode cJ6_bitCount_0f7a4 49 = .ok (.bipush 63, 2) := by decide +kernel
theorem dJ6_bitCount_0f7a4_51 : decode cJ6_bitCount_0f7a4 51 = .ok (.iand, 1) := by decide +kernel
theorem dJ6_bitCount_0f7a4_52 : decode cJ6_bitCount_0f7a4 52 = .ok (.ireturn, 1) := by decide +kernel
theorem dX0_init_0 : decode cX0_init 0 = .ok (.aload_n 0, 1) := by decide +kernel
theorem dX0_init_1 : decode cX0_init 1 = .ok (.invokespecial 3, 3) := by decide +kernel
theorem dX0_init_4 : decode cX0_init 4 = .ok (.aload_n 0, 1) := by decide +kernel
theorem dX0_init_5 : decode cX0_init 5 = .ok (.sipush 160, 3) := by decide +kernel
theorem dX0_init_8 : decode cX0_init 8 = .ok (.newarray .int, 2) := by decide +kernel
theorem dX0_init_10 : decode cX0_init 10 = .ok (.putfield 9, 3) := by decide +kernel
theorem dX0_init_13 : decode cX0_init 13 = .ok (.aload_n 0, 1) := by decide +kernel
theorem dX0_init_14 : decode cX0_init 14 = .ok (.sipush 160, 3) := by decide +kernel
theorem dX0_init_17 : decode cX0_init 17 = .ok (.newarray .int, 2) := by decide +kernel
theorem dX0_init_19 : decode cX0_init 19 = .ok (.putfield 13, 3) := by decide +kernel
theorem dX0_init_22 : decode cX0_init 22 = .ok (.aload_n 0, 1) := by decide +kernel
theorem dX0_init_23 : decode cX0_init 23 = .ok (.sipush 360, 3) := by decide +kernel
theorem dX0_init_26 : decode cX0_init 26 = .ok (.newarray .int, 2) := by decide +kernel
theorem dX0_init_28 : decode cX0_init 28 = .ok (.putfield 16, 3) := by decide +kernel
theorem dX0_init_31 : decode cX0_init 31 = .ok (.aload_n 0, 1) := by decide +kernel
theorem dX0_init_32 : decode cX0_init 32 = .ok (.iconst 0, 1) := by decide +kernel
theorem dX0_init_33 : decode cX0_init 33 = .ok (.putfield 19, 3) := by decide +kernel
theorem dX0_init_36 : decode cX0_init 36 = .ok (.aload_n 0, 1) := by decide +kernel
theorem dX0_init_37 : decode cX0_init 37 = .ok (.iconst 0, 1) := by decide +kernel
theorem dX0_init_38 : decode cX0_init 38 = .ok (.putfield 23, 3) := by decide +kernel
theorem dX0_init_41 : decode cX0_init 41 = .ok (.aload_n 0, 1) := by decide +kernel
theorem dX0_init_42 : decode cX0_init 42 = .ok (.iconst 1, 1) := by decide +kernel
theorem dX0_init_43 : decode cX0_init 43 = .ok (.putfield 26, 3) := by decide +kernel
theorem dX0_init_46 : decode cX0_init 46 = .ok (.aload_n 0, 1) := by decide +kernel
theorem dX0_init_47 : decode cX0_init 47 = .ok (.iconst (-1), 1) := by decide +kernel
theorem dX0_init_48 : decode cX0_init 48 = .ok (.putfield 30, 3) := by decide +kernel
theorem dX0_init_51 : decode cX0_init 51 = .ok (.aload_n 0, 1) := by decide +kernel
theorem dX0_init_52 : decode cX0_init 52 = .ok (.bipush 8, 2) := by decide +kernel
theorem dX0_init_54 : decode cX0_init 54 = .ok (.newarray .int, 2) := by decide +kernel
theorem dX0_init_56 : decode cX0_init 56 = .ok (.putfield 33, 3) := by decide +kernel
theorem dX0_init_59 : decode cX0_init 59 = .ok (.aload_n 0, 1) := by decide +kernel
theorem dX0_init_60 : decode cX0_init 60 = .ok (.bipush 8, 2) := by decide +kernel
theorem dX0_init_62 : decode cX0_init 62 = .ok (.newarray .int, 2) := by decide +kernel
theorem dX0_init_64 : decode cX0_init 64 = .ok (.putfield 36, 3) := by decide +kernel
theorem dX0_init_67 : decode cX0_init 67 = .ok (.aload_n 0, 1) := by decide +kernel
theorem dX0_init_68 : decode cX0_init 68 = .ok (.bipush 8, 2) := by decide +kernel
theorem dX0_init_70 : decode cX0_init 70 = .ok (.newarray .int, 2) := by decide +kernel
theorem dX0_init_72 : decode cX0_init 72 = .ok (.putfield 39, 3) := by decide +kernel
theorem dX0_init_75 : decode cX0_init 75 = .ok (.aload_n 0, 1) := by decide +kernel
theorem dX0_init_76 : decode cX0_init 76 = .ok (.iconst 0, 1) := by decide +kernel
theorem dX0_init_77 : decode cX0_init 77 = .ok (.putfield 42, 3) := by decide +kernel
theorem dX0_init_80 : decode cX0_init 80 = .ok (.aload_n 0, 1) := by decide +kernel
theorem dX0_init_81 : decode cX0_init 81 = .ok (.iconst 0, 1) := by decide +kernel
theorem dX0_init_82 : decode cX0_init 82 = .ok (.putfield 45, 3) := by decide +kernel
theorem dX0_init_85 : decode cX0_init 85 = .ok (.return_, 1) := by decide +kernel
theorem dX0_put_0 : decode cX0_put 0 = .ok (.iload_n 1, 1) := by decide +kernel
theorem dX0_put_1 : decode cX0_put 1 = .ok (.invokestatic 48, 3) := by decide +kernel
theorem dX0_put_4 : decode cX0_put 4 = .ok (.ifCond .eq 10, 3) := by decide +kernel
theorem dX0_put_7 : decode cX0_put 7 = .ok (.iload_n 2, 1) := by decide +kernel
theorem dX0_put_8 : decode cX0_put 8 = .ok (.invokestatic 52, 3) := by decide +kernel
theorem dX0_put_11 : decode cX0_put 11 = .ok (.ifCond .ne 11, 3) := by decide +kernel
theorem dX0_put_14 : decode cX0_put 14 = .ok (.new 55, 3) := by decide +kernel
theorem dX0_put_17 : decode cX0_put 17 = .ok (.dup, 1) := by decide +kernel
theorem dX0_put_18 : decode cX0_put 18 = .ok (.invokespecial 57, 3) := by decide +kernel
theorem dX0_put_21 : decode cX0_put 21 = .ok (.athrow, 1) := by decide +kernel
theorem dX0_put_22 : decode cX0_put 22 = .ok (.aload_n 0, 1) := by decide +kernel
theorem dX0_put_23 : decode cX0_put 23 = .ok (.getfield 26, 3) := by decide +kernel
theorem dX0_put_26 : decode cX0_put 26 = .ok (.ifCond .eq 10, 3) := by decide +kernel
theorem dX0_put_29 : decode cX0_put 29 = .ok (.aload_n 0, 1) := by decide +kernel
theorem dX0_put_30 : decode cX0_put 30 = .ok (.getfield 42, 3) := by decide +kernel
theorem dX0_put_33 : decode cX0_put 33 = .ok (.ifCond .eq 11, 3) := by decide +kernel
theorem dX0_put_36 : decode cX0_put 36 = .ok (.new 58, 3) := by decide +kernel
theorem dX0_put_39 : decode cX0_put 39 = .ok (.dup, 1) := by decide +kernel
theorem dX0_put_40 : decode cX0_put 40 = .ok (.invokespecial 60, 3) := by decide +kernel
theorem dX0_put_43 : decode cX0_put 43 = .ok (.athrow, 1) := by decide +kernel
theorem dX0_put_44 : decode cX0_put 44 = .ok (.aload_n 0, 1) := by decide +kernel
theorem dX0_put_45 : decode cX0_put 45 = .ok (.iload_n 1, 1) := by decide +kernel
theorem dX0_put_46 : decode cX0_put 46 = .ok (.iload_n 2, 1) := by decide +kernel
theorem dX0_put_47 : decode cX0_put 47 = .ok (.iconst 0, 1) := by decide +kernel
theorem dX0_put_48 : decode cX0_put 48 = .ok (.invokevirtual 61, 3) := by decide +kernel
theorem dX0_put_51 : decode cX0_put 51 = .ok (.istore_n 3, 1) := by decide +kernel
theorem dX0_put_52 : decode cX0_put 52 = .ok (.iload_n 3, 1) := by decide +kernel
theorem dX0_put_53 : decode cX0_put 53 = .ok (.iconst (-1), 1) := by decide +kernel
theorem dX0_put_54 : decode cX0_put 54 = .ok (.if_icmp .ne 5, 3) := by decide +kernel
theorem dX0_put_57 : decode cX0_put 57 = .ok (.iconst (-1), 1) := by decide +kernel
theorem dX0_put_58 : decode cX0_put 58 = .ok (.ireturn, 1) := by decide +kernel
theorem dX0_put_59 : decode cX0_put 59 = .ok (.aload_n 0, 1) := by decide +kernel
theorem dX0_put_60 : decode cX0_put 60 = .ok (.getfield 23, 3) := by decide +kernel
theorem dX0_put_63 : decode cX0_put 63 = .ok (.istore 4, 2) := by decide +kernel
theorem dX0_put_65 : decode cX0_put 65 = .ok (.aload_n 0, 1) := by decide +kernel
theorem dX0_put_66 : decode cX0_put 66 = .ok (.iload_n 1, 1) := by decide +kernel
theorem dX0_put_67 : decode cX0_put 67 = .ok (.iload_n 2, 1) := by decide +kernel
theorem dX0_put_68 : decode cX0_put 68 = .ok (.iload_n 3, 1) := by decide +kernel
theorem dX0_put_69 : decode cX0_put 69 = .ok (.invokevirtual 65, 3) := by decide +kernel
theorem dX0_put_72 : decode cX0_put 72 = .ok (.ifCond .eq 13, 3) := by decide +kernel
theorem dX0_put_75 : decode cX0_put 75 = .ok (.aload_n 0, 1) := by decide +kernel
theorem dX0_put_76 : decode cX0_put 76 = .ok (.getfield 23, 3) := by decide +kernel
theorem dX0_put_79 : decode cX0_put 79 = .ok (.iload 4, 2) := by decide +kernel
theorem dX0_put_81 : decode cX0_put 81 = .ok (.isub, 1) := by decide +kernel
theorem dX0_put_82 : decode cX0_put 82 = .ok (.goto 5, 3) := by decide +kernel
theorem dX0_put_85 : decode cX0_put 85 = .ok (.bipush (-2), 2) := by decide +kernel
theorem dX0_put_87 : decode cX0_put 87 = .ok (.ireturn, 1) := by decide +kernel
theorem dX0_get_0 : decode cX0_get 0 = .ok (.iload_n 1, 1) := by decide +kernel
theorem dX0_get_1 : decode cX0_get 1 = .ok (.invokestatic 48, 3) := by decide +kernel
theorem dX0_get_4 : decode cX0_get 4 = .ok (.ifCond .ne 11, 3) := by decide +kernel
theorem dX0_get_7 : decode cX0_get 7 = .ok (.new 55, 3) := by decide +kernel
theorem dX0_get_10 : decode cX0_get 10 = .ok (.dup, 1) := by decide +kernel
theorem dX0_get_11 : decode cX0_get 11 = .ok (.invokespecial 57, 3) := by decide +kernel
theorem dX0_get_14 : decode cX0_get 14 = .ok (.athrow, 1) := by decide +kernel
theorem dX0_get_15 : decode cX0_get 15 = .ok (.aload_n 0, 1) := by decide +kernel
theorem dX0_get_16 : decode cX0_get 16 = .ok (.getfield 26, 3) := by decide +kernel
theorem dX0_get_19 : decode cX0_get 19 = .ok (.ifCond .ne 11, 3) := by decide +kernel
theorem dX0_get_22 : decode cX0_get 22 = .ok (.new 58, 3) := by decide +kernel
theorem dX0_get_25 : decode cX0_get 25 = .ok (.dup, 1) := by decide +kernel
theorem dX0_get_26 : decode cX0_get 26 = .ok (.invokespecial 60, 3) := by decide +kernel
theorem dX0_get_29 : decode cX0_get 29 = .ok (.athrow, 1) := by decide +kernel
theorem dX0_get_30 : decode cX0_get 30 = .ok (.aload_n 0, 1) := by decide +kernel
theorem dX0_get_31 : decode cX0_get 31 = .ok (.iload_n 1, 1) := by decide +kernel
theorem dX0_get_32 : decode cX0_get 32 = .ok (.invokevirtual 69, 3) := by decide +kernel
theorem dX0_get_35 : decode cX0_get 35 = .ok (.istore_n 2, 1) := by decide +kernel
theorem dX0_get_36 : decode cX0_get 36 = .ok (.iload_n 2, 1) := by decide +kernel
theorem dX0_get_37 : decode cX0_get 37 = .ok (.iconst (-1), 1) := by decide +kernel
theorem dX0_get_38 : decode cX0_get 38 = .ok (.if_icmp .ne 7, 3) := by decide +kernel
theorem dX0_get_41 : decode cX0_get 41 = .ok (.iconst (-1), 1) := by decide +kernel
theorem dX0_get_42 : decode cX0_get 42 = .ok (.goto 12, 3) := by decide +kernel
theorem dX0_get_45 : decode cX0_get 45 = .ok (.aload_n 0, 1) := by decide +kernel
theorem dX0_get_46 : decode cX0_get 46 = .ok (.getfield 9, 3) := by decide +kernel
theorem dX0_get_49 : decode cX0_get 49 = .ok (.iload_n 2, 1) := by decide +kernel
theorem dX0_get_50 : decode cX0_get 50 = .ok (.iaload, 1) := by decide +kernel
theorem dX0_get_51 : decode cX0_get 51 = .ok (.invokestatic 73, 3) := by decide +kernel
theorem dX0_get_54 : decode cX0_get 54 = .ok (.ireturn, 1) := by decide +kernel
theorem dX0_wouldMove_0 : decode cX0_wouldMove 0 = .ok (.iload_n 1, 1) := by decide +kernel
theorem dX0_wouldMove_1 : decode cX0_wouldMove 1 = .ok (.invokestatic 48, 3) := by decide +kernel
theorem dX0_wouldMove_4 : decode cX0_wouldMove 4 = .ok (.ifCond .eq 10, 3) := by decide +kernel
theorem dX0_wouldMove_7 : decode cX0_wouldMove 7 = .ok (.iload_n 2, 1) := by decide +kernel
theorem dX0_wouldMove_8 : decode cX0_wouldMove 8 = .ok (.invokestatic 52, 3) := by decide +kernel
theorem dX0_wouldMove_11 : decode cX0_wouldMove 11 = .ok (.ifCond .ne 11, 3) := by decide +kernel
theorem dX0_wouldMove_14 : decode cX0_wouldMove 14 = .ok (.new 55, 3) := by decide +kernel
theorem dX0_wouldMove_17 : decode cX0_wouldMove 17 = .ok (.dup, 1) := by decide +kernel
theorem dX0_wouldMove_18 : decode cX0_wouldMove 18 = .ok (.invokespecial 57, 3) := by decide +kernel
theorem dX0_wouldMove_21 : decode cX0_wouldMove 21 = .ok (.athrow, 1) := by decide +kernel
theorem dX0_wouldMove_22 : decode cX0_wouldMove 22 = .ok (.aload_n 0, 1) := by decide +kernel
theorem dX0_wouldMove_23 : decode cX0_wouldMove 23 = .ok (.getfield 26, 3) := by decide +kernel
theorem dX0_wouldMove_26 : decode cX0_wouldMove 26 = .ok (.ifCond .ne 11, 3) := by decide +kernel
theorem dX0_wouldMove_29 : decode cX0_wouldMove 29 = .ok (.new 58, 3) := by decide +kernel
theorem dX0_wouldMove_32 : decode cX0_wouldMove 32 = .ok (.dup, 1) := by decide +kernel
theorem dX0_wouldMove_33 : decode cX0_wouldMove 33 = .ok (.invokespecial 60, 3) := by decide +kernel
theorem dX0_wouldMove_36 : decode cX0_wouldMove 36 = .ok (.athrow, 1) := by decide +kernel
theorem dX0_wouldMove_37 : decode cX0_wouldMove 37 = .ok (.aload_n 0, 1) := by decide +kernel
theorem dX0_wouldMove_38 : decode cX0_wouldMove 38 = .ok (.aload_n 0, 1) := by decide +kernel
theorem dX0_wouldMove_39 : decode cX0_wouldMove 39 = .ok (.iload_n 1, 1) := by decide +kernel
theorem dX0_wouldMove_40 : decode cX0_wouldMove 40 = .ok (.invokevirtual 69, 3) := by decide +kernel
theorem dX0_wouldMove_43 : decode cX0_wouldMove 43 = .ok (.iload_n 2, 1) := by decide +kernel
theorem dX0_wouldMove_44 : decode cX0_wouldMove 44 = .ok (.invokevirtual 76, 3) := by decide +kernel
theorem dX0_wouldMove_47 : decode cX0_wouldMove 47 = .ok (.ifCond .ne 7, 3) := by decide +kernel
theorem dX0_wouldMove_50 : decode cX0_wouldMove 50 = .ok (.iconst 1, 1) := by decide +kernel
theorem dX0_wouldMove_51 : decode cX0_wouldMove 51 = .ok (.goto 4, 3) := by decide +kernel
theorem dX0_wouldMove_54 : decode cX0_wouldMove 54 = .ok (.iconst 0, 1) := by decide +kernel
theorem dX0_wouldMove_55 : decode cX0_wouldMove 55 = .ok (.ireturn, 1) := by decide +kernel
theorem dX0_begin_0 : decode cX0_begin 0 = .ok (.aload_n 0, 1) := by decide +kernel
theorem dX0_begin_1 : decode cX0_begin 1 = .ok (.getfield 26, 3) := by decide +kernel
theorem dX0_begin_4 : decode cX0_begin 4 = .ok (.ifCond .eq 10, 3) := by decide +kernel
theorem dX0_begin_7 : decode cX0_begin 7 = .ok (.aload_n 0, 1) := by decide +kernel
theorem dX0_begin_8 : decode cX0_begin 8 = .ok (.getfield 42, 3) := by decide +kernel
theorem dX0_begin_11 : decode cX0_begin 11 = .ok (.ifCond .eq 11, 3) := by decide +kernel
theorem dX0_begin_14 : decode cX0_begin 14 = .ok (.new 58, 3) := by decide +kernel
theorem dX0_begin_17 : decode cX0_begin 17 = .ok (.dup, 1) := by decide +kernel
theorem dX0_begin_18 : decode cX0_begin 18 = .ok (.invokespecial 60, 3) := by decide +kernel
theorem dX0_begin_21 : decode cX0_begin 21 = .ok (.athrow, 1) := by decide +kernel
theorem dX0_begin_22 : decode cX0_begin 22 = .ok (.aload_n 0, 1) := by decide +kernel
theorem dX0_begin_23 : decode cX0_begin 23 = .ok (.iconst 1, 1) := by decide +kernel
theorem dX0_begin_24 : decode cX0_begin 24 = .ok (.putfield 42, 3) := by decide +kernel
theorem dX0_begin_27 : decode cX0_begin 27 = .ok (.return_, 1) := by decide +kernel
theorem dX0_stage_0 : decode cX0_stage 0 = .ok (.iload_n 1, 1) := by decide +kernel
theorem dX0_stage_1 : decode cX0_stage 1 = .ok (.invokestatic 48, 3) := by decide +kernel
theorem dX0_stage_4 : decode cX0_stage 4 = .ok (.ifCond .eq 18, 3) := by decide +kernel
theorem dX0_stage_7 : decode cX0_stage 7 = .ok (.iload_n 2, 1) := by decide +kernel
theorem dX0_stage_8 : decode cX0_stage 8 = .ok (.invokestatic 52, 3) := by decide +kernel
theorem dX0_stage_11 : decode cX0_stage 11 = .ok (.ifCond .eq 11, 3) := by decide +kernel
theorem dX0_stage_14 : decode cX0_stage 14 = .ok (.aload_n 0, 1) := by decide +kernel
theorem dX0_stage_15 : decode cX0_stage 15 = .ok (.iload_n 1, 1) := by decide +kernel
theorem dX0_stage_16 : decode cX0_stage 16 = .ok (.invokevirtual 80, 3) := by decide +kernel
theorem dX0_stage_19 : decode cX0_stage 19 = .ok (.ifCond .eq 11, 3) := by decide +kernel
theorem dX0_stage_22 : decode cX0_stage 22 = .ok (.new 55, 3) := by decide +kernel
theorem dX0_stage_25 : decode cX0_stage 25 = .ok (.dup, 1) := by decide +kernel
theorem dX0_stage_26 : decode cX0_stage 26 = .ok (.invokespecial 57, 3) := by decide +kernel
theorem dX0_stage_29 : decode cX0_stage 29 = .ok (.athrow, 1) := by decide +kernel
theorem dX0_stage_30 : decode cX0_stage 30 = .ok (.aload_n 0, 1) := by decide +kernel
theorem dX0_stage_31 : decode cX0_stage 31 = .ok (.getfield 26, 3) := by decide +kernel
theorem dX0_stage_34 : decode cX0_stage 34 = .ok (.ifCond .eq 19, 3) := by decide +kernel
theorem dX0_stage_37 : decode cX0_stage 37 = .ok (.aload_n 0, 1) := by decide +kernel
theorem dX0_stage_38 : decode cX0_stage 38 = .ok (.getfield 42, 3) := by decide +kernel
theorem dX0_stage_41 : decode cX0_stage 41 = .ok (.ifCond .eq 12, 3) := by decide +kernel
theorem dX0_stage_44 : decode cX0_stage 44 = .ok (.aload_n 0, 1) := by decide +kernel
theorem dX0_stage_45 : decode cX0_stage 45 = .ok (.getfield 45, 3) := by decide +kernel
theorem dX0_stage_48 : decode cX0_stage 48 = .ok (.bipush 8, 2) := by decide +kernel
theorem dX0_stage_50 : decode cX0_stage 50 = .ok (.if_icmp .lt 11, 3) := by decide +kernel
theorem dX0_stage_53 : decode cX0_stage 53 = .ok (.new 58, 3) := by decide +kernel
theorem dX0_stage_56 : decode cX0_stage 56 = .ok (.dup, 1) := by decide +kernel
theorem dX0_stage_57 : decode cX0_stage 57 = .ok (.invokespecial 60, 3) := by decide +kernel
theorem dX0_stage_60 : decode cX0_stage 60 = .ok (.athrow, 1) := by decide +kernel
theorem dX0_stage_61 : decode cX0_stage 61 = .ok (.aload_n 0, 1) := by decide +kernel
theorem dX0_stage_62 : decode cX0_stage 62 = .ok (.getfield 33, 3) := by decide +kernel
theorem dX0_stage_65 : decode cX0_stage 65 = .ok (.aload_n 0, 1) := by decide +kernel
theorem dX0_stage_66 : decode cX0_stage 66 = .ok (.getfield 45, 3) := by decide +kernel
theorem dX0_stage_69 : decode cX0_stage 69 = .ok (.iload_n 1, 1) := by decide +kernel
theorem dX0_stage_70 : decode cX0_stage 70 = .ok (.iastore, 1) := by decide +kernel
theorem dX0_stage_71 : decode cX0_stage 71 = .ok (.aload_n 0, 1) := by decide +kernel
theorem dX0_stage_72 : decode cX0_stage 72 = .ok (.getfield 36, 3) := by decide +kernel
theorem dX0_stage_75 : decode cX0_stage 75 = .ok (.aload_n 0, 1) := by decide +kernel
theorem dX0_stage_76 : decode cX0_stage 76 = .ok (.getfield 45, 3) := by decide +kernel
theorem dX0_stage_79 : decode cX0_stage 79 = .ok (.iload_n 2, 1) := by decide +kernel
theorem dX0_stage_80 : decode cX0_stage 80 = .ok (.iastore, 1) := by decide +kernel
theorem dX0_stage_81 : decode cX0_stage 81 = .ok (.aload_n 0, 1) := by decide +kernel
theorem dX0_stage_82 : decode cX0_stage 82 = .ok (.dup, 1) := by decide +kernel
theorem dX0_stage_83 : decode cX0_stage 83 = .ok (.getfield 45, 3) := by decide +kernel
theorem dX0_stage_86 : decode cX0_stage 86 = .ok (.iconst 1, 1) := by decide +kernel
theorem dX0_stage_87 : decode cX0_stage 87 = .ok (.iadd, 1) := by decide +kernel
theorem dX0_stage_88 : decode cX0_stage 88 = .ok (.putfield 45, 3) := by decide +kernel
theorem dX0_stage_91 : decode cX0_stage 91 = .ok (.aload_n 0, 1) := by decide +kernel
theorem dX0_stage_92 : decode cX0_stage 92 = .ok (.getfield 45, 3) := by decide +kernel
theorem dX0_stage_95 : decode cX0_stage 95 = .ok (.ireturn, 1) := by decide +kernel
theorem dX0_commit_0 : decode cX0_commit 0 = .ok (.aload_n 0, 1) := by decide +kernel
theorem dX0_commit_1 : decode cX0_commit 1 = .ok (.getfield 26, 3) := by decide +kernel
theorem dX0_commit_4 : decode cX0_commit 4 = .ok (.ifCond .eq 10, 3) := by decide +kernel
theorem dX0_commit_7 : decode cX0_commit 7 = .ok (.aload_n 0, 1) := by decide +kernel
theorem dX0_commit_8 : decode cX0_commit 8 = .ok (.getfield 42, 3) := by decide +kernel
theorem dX0_commit_11 : decode cX0_commit 11 = .ok (.ifCond .ne 11, 3) := by decide +kernel
theorem dX0_commit_14 : decode cX0_commit 14 = .ok (.new 58, 3) := by decide +kernel
theorem dX0_commit_17 : decode cX0_commit 17 = .ok (.dup, 1) := by decide +kernel
theorem dX0_commit_18 : decode cX0_commit 18 = .ok (.invokespecial 60, 3) := by decide +kernel
theorem dX0_commit_21 : decode cX0_commit 21 = .ok (.athrow, 1) := by decide +kernel
theorem dX0_commit_22 : decode cX0_commit 22 = .ok (.aload_n 0, 1) := by decide +kernel
theorem dX0_commit_23 : decode cX0_commit 23 = .ok (.getfield 45, 3) := by decide +kernel
theorem dX0_commit_26 : decode cX0_commit 26 = .ok (.ifCond .ne 9, 3) := by decide +kernel
theorem dX0_commit_29 : decode cX0_commit 29 = .ok (.aload_n 0, 1) := by decide +kernel
theorem dX0_commit_30 : decode cX0_commit 30 = .ok (.invokevirtual 83, 3) := by decide +kernel
theorem dX0_commit_33 : decode cX0_commit 33 = .ok (.iconst 0, 1) := by decide +kernel
theorem dX0_commit_34 : decode cX0_commit 34 = .ok (.ireturn, 1) := by decide +kernel
theorem dX0_commit_35 : decode cX0_commit 35 = .ok (.aload_n 0, 1) := by decide +kernel
theorem dX0_commit_36 : decode cX0_commit 36 = .ok (.invokevirtual 86, 3) := by decide +kernel
theorem dX0_commit_39 : decode cX0_commit 39 = .ok (.istore_n 1, 1) := by decide +kernel
theorem dX0_commit_40 : decode cX0_commit 40 = .ok (.iload_n 1, 1) := by decide +kernel
theorem dX0_commit_41 : decode cX0_commit 41 = .ok (.iconst (-1), 1) := by decide +kernel
theorem dX0_commit_42 : decode cX0_commit 42 = .ok (.if_icmp .eq 10, 3) := by decide +kernel
theorem dX0_commit_45 : decode cX0_commit 45 = .ok (.aload_n 0, 1) := by decide +kernel
theorem dX0_commit_46 : decode cX0_commit 46 = .ok (.invokevirtual 90, 3) := by decide +kernel
theorem dX0_commit_49 : decode cX0_commit 49 = .ok (.ifCond .ne 5, 3) := by decide +kernel
theorem dX0_commit_52 : decode cX0_commit 52 = .ok (.iconst (-1), 1) := by decide +kernel
theorem dX0_commit_53 : decode cX0_commit 53 = .ok (.ireturn, 1) := by decide +kernel
theorem dX0_commit_54 : decode cX0_commit 54 = .ok (.aload_n 0, 1) := by decide +kernel
theorem dX0_commit_55 : decode cX0_commit 55 = .ok (.getfield 23, 3) := by decide +kernel
theorem dX0_commit_58 : decode cX0_commit 58 = .ok (.istore_n 2, 1) := by decide +kernel
theorem dX0_commit_59 : decode cX0_commit 59 = .ok (.aload_n 0, 1) := by decide +kernel
theorem dX0_commit_60 : decode cX0_commit 60 = .ok (.iload_n 1, 1) := by decide +kernel
theorem dX0_commit_61 : decode cX0_commit 61 = .ok (.invokevirtual 94, 3) := by decide +kernel
theorem dX0_commit_64 : decode cX0_commit 64 = .ok (.ifCond .eq 15, 3) := by decide +kernel
theorem dX0_commit_67 : decode cX0_commit 67 = .ok (.aload_n 0, 1) := by decide +kernel
theorem dX0_commit_68 : decode cX0_commit 68 = .ok (.iload_n 1, 1) := by decide +kernel
theorem dX0_commit_69 : decode cX0_commit 69 = .ok (.invokevirtual 97, 3) := by decide +kernel
theorem dX0_commit_72 : decode cX0_commit 72 = .ok (.ifCond .eq 7, 3) := by decide +kernel
theorem dX0_commit_75 : decode cX0_commit 75 = .ok (.iconst 1, 1) := by decide +kernel
theorem dX0_commit_76 : decode cX0_commit 76 = .ok (.goto 4, 3) := by decide +kernel
theorem dX0_commit_79 : decode cX0_commit 79 = .ok (.iconst 0, 1) := by decide +kernel
theorem dX0_commit_80 : decode cX0_commit 80 = .ok (.istore_n 3, 1) := by decide +kernel
theorem dX0_commit_81 : decode cX0_commit 81 = .ok (.aload_n 0, 1) := by decide +kernel
theorem dX0_commit_82 : decode cX0_commit 82 = .ok (.invokevirtual 83, 3) := by decide +kernel
theorem dX0_commit_85 : decode cX0_commit 85 = .ok (.iload_n 3, 1) := by decide +kernel
theorem dX0_commit_86 : decode cX0_commit 86 = .ok (.ifCond .eq 12, 3) := by decide +kernel
theorem dX0_commit_89 : decode cX0_commit 89 = .ok (.aload_n 0, 1) := by decide +kernel
theorem dX0_commit_90 : decode cX0_commit 90 = .ok (.getfield 23, 3) := by decide +kernel
theorem dX0_commit_93 : decode cX0_commit 93 = .ok (.iload_n 2, 1) := by decide +kernel
theorem dX0_commit_94 : decode cX0_commit 94 = .ok (.isub, 1) := by decide +kernel
theorem dX0_commit_95 : decode cX0_commit 95 = .ok (.goto 5, 3) := by decide +kernel
theorem dX0_commit_98 : decode cX0_commit 98 = .ok (.bipush (-2), 2) := by decide +kernel
theorem dX0_commit_100 : decode cX0_commit 100 = .ok (.ireturn, 1) := by decide +kernel
theorem dX0_abandon_0 : decode cX0_abandon 0 = .ok (.aload_n 0, 1) := by decide +kernel
theorem dX0_abandon_1 : decode cX0_abandon 1 = .ok (.getfield 26, 3) := by decide +kernel
theorem dX0_abandon_4 : decode cX0_abandon 4 = .ok (.ifCond .eq 10, 3) := by decide +kernel
theorem dX0_abandon_7 : decode cX0_abandon 7 = .ok (.aload_n 0, 1) := by decide +kernel
theorem dX0_abandon_8 : decode cX0_abandon 8 = .ok (.getfield 42, 3) := by decide +kernel
theorem dX0_abandon_11 : decode cX0_abandon 11 = .ok (.ifCond .ne 11, 3) := by decide +kernel
theorem dX0_abandon_14 : decode cX0_abandon 14 = .ok (.new 58, 3) := by decide +kernel
theorem dX0_abandon_17 : decode cX0_abandon 17 = .ok (.dup, 1) := by decide +kernel
theorem dX0_abandon_18 : decode cX0_abandon 18 = .ok (.invokespecial 60, 3) := by decide +kernel
theorem dX0_abandon_21 : decode cX0_abandon 21 = .ok (.athrow, 1) := by decide +kernel
theorem dX0_abandon_22 : decode cX0_abandon 22 = .ok (.aload_n 0, 1) := by decide +kernel
theorem dX0_abandon_23 : decode cX0_abandon 23 = .ok (.getfield 45, 3) := by decide +kernel
theorem dX0_abandon_26 : decode cX0_abandon 26 = .ok (.istore_n 1, 1) := by decide +kernel
theorem dX0_abandon_27 : decode cX0_abandon 27 = .ok (.aload_n 0, 1) := by decide +kernel
theorem dX0_abandon_28 : decode cX0_abandon 28 = .ok (.invokevirtual 83, 3) := by decide +kernel
theorem dX0_abandon_31 : decode cX0_abandon 31 = .ok (.iload_n 1, 1) := by decide +kernel
theorem dX0_abandon_32 : decode cX0_abandon 32 = .ok (.ireturn, 1) := by decide +kernel
theorem dX0_left_0 : decode cX0_left 0 = .ok (.iload_n 1, 1) := by decide +kernel
theorem dX0_left_1 : decode cX0_left 1 = .ok (.tableswitch 51 0 3 #[31, 36, 41, 46], 31) := by decide +kernel
theorem dX0_left_32 : decode cX0_left 32 = .ok (.aload_n 0, 1) := by decide +kernel
theorem dX0_left_33 : decode cX0_left 33 = .ok (.invokevirtual 100, 3) := by decide +kernel
theorem dX0_left_36 : decode cX0_left 36 = .ok (.ireturn, 1) := by decide +kernel
theorem dX0_left_37 : decode cX0_left 37 = .ok (.aload_n 0, 1) := by decide +kernel
theorem dX0_left_38 : decode cX0_left 38 = .ok (.invokevirtual 103, 3) := by decide +kernel
theorem dX0_left_41 : decode cX0_left 41 = .ok (.ireturn, 1) := by decide +kernel
theorem dX0_left_42 : decode cX0_left 42 = .ok (.aload_n 0, 1) := by decide +kernel
theorem dX0_left_43 : decode cX0_left 43 = .ok (.getfield 19, 3) := by decide +kernel
theorem dX0_left_46 : decode cX0_left 46 = .ok (.ireturn, 1) := by decide +kernel
theorem dX0_left_47 : decode cX0_left 47 = .ok (.aload_n 0, 1) := by decide +kernel
theorem dX0_left_48 : decode cX0_left 48 = .ok (.getfield 23, 3) := by decide +kernel
theorem dX0_left_51 : decode cX0_left 51 = .ok (.ireturn, 1) := by decide +kernel
theorem dX0_left_52 : decode cX0_left 52 = .ok (.new 55, 3) := by decide +kernel
theorem dX0_left_55 : decode cX0_left 55 = .ok (.dup, 1) := by decide +kernel
theorem dX0_left_56 : decode cX0_left 56 = .ok (.invokespecial 57, 3) := by decide +kernel
theorem dX0_left_59 : decode cX0_left 59 = .ok (.athrow, 1) := by decide +kernel
theorem dX0_cell_0 : decode cX0_cell 0 = .ok (.iload_n 1, 1) := by decide +kernel
theorem dX0_cell_1 : decode cX0_cell 1 = .ok (.ifCond .ne 33, 3) := by decide +kernel
theorem dX0_cell_4 : decode cX0_cell 4 = .ok (.iload_n 2, 1) := by decide +kernel
theorem dX0_cell_5 : decode cX0_cell 5 = .ok (.sipush 160, 3) := by decide +kernel
theorem dX0_cell_8 : decode cX0_cell 8 = .ok (.invokestatic 106, 3) := by decide +kernel
theorem dX0_cell_11 : decode cX0_cell 11 = .ok (.ifCond .eq 23, 3) := by decide +kernel
theorem dX0_cell_14 : decode cX0_cell 14 = .ok (.iload_n 3, 1) := by decide +kernel
theorem dX0_cell_15 : decode cX0_cell 15 = .ok (.bipush 24, 2) := by decide +kernel
theorem dX0_cell_17 : decode cX0_cell 17 = .ok (.invokestatic 106, 3) := by decide +kernel
theorem dX0_cell_20 : decode cX0_cell 20 = .ok (.ifCond .eq 14, 3) := by decide +kernel
theorem dX0_cell_23 : decode cX0_cell 23 = .ok (.aload_n 0, 1) := by decide +kernel
theorem dX0_cell_24 : decode cX0_cell 24 = .ok (.getfield 9, 3) := by decide +kernel
theorem dX0_cell_27 : decode cX0_cell 27 = .ok (.iload_n 2, 1) := by decide +kernel
theorem dX0_cell_28 : decode cX0_cell 28 = .ok (.iaload, 1) := by decide +kernel
theorem dX0_cell_29 : decode cX0_cell 29 = .ok (.iload_n 3, 1) := by decide +kernel
theorem dX0_cell_30 : decode cX0_cell 30 = .ok (.iushr, 1) := by decide +kernel
theorem dX0_cell_31 : decode cX0_cell 31 = .ok (.iconst 1, 1) := by decide +kernel
theorem dX0_cell_32 : decode cX0_cell 32 = .ok (.iand, 1) := by decide +kernel
theorem dX0_cell_33 : decode cX0_cell 33 = .ok (.ireturn, 1) := by decide +kernel
theorem dX0_cell_34 : decode cX0_cell 34 = .ok (.iload_n 1, 1) := by decide +kernel
theorem dX0_cell_35 : decode cX0_cell 35 = .ok (.iconst 1, 1) := by decide +kernel
theorem dX0_cell_36 : decode cX0_cell 36 = .ok (.if_icmp .ne 33, 3) := by decide +kernel
theorem dX0_cell_39 : decode cX0_cell 39 = .ok (.iload_n 2, 1) := by decide +kernel
theorem dX0_cell_40 : decode cX0_cell 40 = .ok (.sipush 160, 3) := by decide +kernel
theorem dX0_cell_43 : decode cX0_cell 43 = .ok (.invokestatic 106, 3) := by decide +kernel
theorem dX0_cell_46 : decode cX0_cell 46 = .ok (.ifCond .eq 23, 3) := by decide +kernel
theorem dX0_cell_49 : decode cX0_cell 49 = .ok (.iload_n 3, 1) := by decide +kernel
theorem dX0_cell_50 : decode cX0_cell 50 = .ok (.bipush 8, 2) := by decide +kernel
theorem dX0_cell_52 : decode cX0_cell 52 = .ok (.invokestatic 106, 3) := by decide +kernel
theorem dX0_cell_55 : decode cX0_cell 55 = .ok (.ifCond .eq 14, 3) := by decide +kernel
theorem dX0_cell_58 : decode cX0_cell 58 = .ok (.aload_n 0, 1) := by decide +kernel
theorem dX0_cell_59 : decode cX0_cell 59 = .ok (.getfield 13, 3) := by decide +kernel
theorem dX0_cell_62 : decode cX0_cell 62 = .ok (.iload_n 2, 1) := by decide +kernel
theorem dX0_cell_63 : decode cX0_cell 63 = .ok (.iaload, 1) := by decide +kernel
theorem dX0_cell_64 : decode cX0_cell 64 = .ok (.iload_n 3, 1) := by decide +kernel
theorem dX0_cell_65 : decode cX0_cell 65 = .ok (.iushr, 1) := by decide +kernel
theorem dX0_cell_66 : decode cX0_cell 66 = .ok (.iconst 1, 1) := by decide +kernel
theorem dX0_cell_67 : decode cX0_cell 67 = .ok (.iand, 1) := by decide +kernel
theorem dX0_cell_68 : decode cX0_cell 68 = .ok (.ireturn, 1) := by decide +kernel
theorem dX0_cell_69 : decode cX0_cell 69 = .ok (.iload_n 1, 1) := by decide +kernel
theorem dX0_cell_70 : decode cX0_cell 70 = .ok (.iconst 2, 1) := by decide +kernel
theorem dX0_cell_71 : decode cX0_cell 71 = .ok (.if_icmp .ne 33, 3) := by decide +kernel
theorem dX0_cell_74 : decode cX0_cell 74 = .ok (.iload_n 2, 1) := by decide +kernel
theorem dX0_cell_75 : decode cX0_cell 75 = .ok (.sipush 360, 3) := by decide +kernel
theorem dX0_cell_78 : decode cX0_cell 78 = .ok (.invokestatic 106, 3) := by decide +kernel
theorem dX0_cell_81 : decode cX0_cell 81 = .ok (.ifCond .eq 23, 3) := by decide +kernel
theorem dX0_cell_84 : decode cX0_cell 84 = .ok (.iload_n 3, 1) := by decide +kernel
theorem dX0_cell_85 : decode cX0_cell 85 = .ok (.bipush 32, 2) := by decide +kernel
theorem dX0_cell_87 : decode cX0_cell 87 = .ok (.invokestatic 106, 3) := by decide +kernel
theorem dX0_cell_90 : decode cX0_cell 90 = .ok (.ifCond .eq 14, 3) := by decide +kernel
theorem dX0_cell_93 : decode cX0_cell 93 = .ok (.aload_n 0, 1) := by decide +kernel
theorem dX0_cell_94 : decode cX0_cell 94 = .ok (.getfield 16, 3) := by decide +kernel
theorem dX0_cell_97 : decode cX0_cell 97 = .ok (.iload_n 2, 1) := by decide +kernel
theorem dX0_cell_98 : decode cX0_cell 98 = .ok (.iaload, 1) := by decide +kernel
theorem dX0_cell_99 : decode cX0_cell 99 = .ok (.iload_n 3, 1) := by decide +kernel
theorem dX0_cell_100 : decode cX0_cell 100 = .ok (.iushr, 1) := by decide +kernel
theorem dX0_cell_101 : decode cX0_cell 101 = .ok (.iconst 1, 1) := by decide +kernel
theorem dX0_cell_102 : decode cX0_cell 102 = .ok (.iand, 1) := by decide +kernel
theorem dX0_cell_103 : decode cX0_cell 103 = .ok (.ireturn, 1) := by decide +kernel
theorem dX0_cell_104 : decode cX0_cell 104 = .ok (.new 109, 3) := by decide +kernel
theorem dX0_cell_107 : decode cX0_cell 107 = .ok (.dup, 1) := by decide +kernel
theorem dX0_cell_108 : decode cX0_cell 108 = .ok (.invokespecial 111, 3) := by decide +kernel
theorem dX0_cell_111 : decode cX0_cell 111 = .ok (.athrow, 1) := by decide +kernel
theorem dX0_failAfter_0 : decode cX0_failAfter 0 = .ok (.iload_n 1, 1) := by decide +kernel
theorem dX0_failAfter_1 : decode cX0_failAfter 1 = .ok (.iconst (-1), 1) := by decide +kernel
theorem dX0_failAfter_2 : decode cX0_failAfter 2 = .ok (.if_icmp .eq 22, 3) := by decide +kernel
theorem dX0_failAfter_5 : decode cX0_failAfter 5 = .ok (.iload_n 1, 1) := by decide +kernel
theorem dX0_failAfter_6 : decode cX0_failAfter 6 = .ok (.ifCond .lt 10, 3) := by decide +kernel
theorem dX0_failAfter_9 : decode cX0_failAfter 9 = .ok (.iload_n 1, 1) := by decide +kernel
theorem dX0_failAfter_10 : decode cX0_failAfter 10 = .ok (.sipush 1000, 3) := by decide +kernel
theorem dX0_failAfter_13 : decode cX0_failAfter 13 = .ok (.if_icmp .le 11, 3) := by decide +kernel
theorem dX0_failAfter_16 : decode cX0_failAfter 16 = .ok (.new 55, 3) := by decide +kernel
theorem dX0_failAfter_19 : decode cX0_failAfter 19 = .ok (.dup, 1) := by decide +kernel
theorem dX0_failAfter_20 : decode cX0_failAfter 20 = .ok (.invokespecial 57, 3) := by decide +kernel
theorem dX0_failAfter_23 : decode cX0_failAfter 23 = .ok (.athrow, 1) := by decide +kernel
theorem dX0_failAfter_24 : decode cX0_failAfter 24 = .ok (.aload_n 0, 1) := by decide +kernel
theorem dX0_failAfter_25 : decode cX0_failAfter 25 = .ok (.getfield 26, 3) := by decide +kernel
theorem dX0_failAfter_28 : decode cX0_failAfter 28 = .ok (.ifCond .ne 11, 3) := by decide +kernel
theorem dX0_failAfter_31 : decode cX0_failAfter 31 = .ok (.new 58, 3) := by decide +kernel
theorem dX0_failAfter_34 : decode cX0_failAfter 34 = .ok (.dup, 1) := by decide +kernel
theorem dX0_failAfter_35 : decode cX0_failAfter 35 = .ok (.invokespecial 60, 3) := by decide +kernel
theorem dX0_failAfter_38 : decode cX0_failAfter 38 = .ok (.athrow, 1) := by decide +kernel
theorem dX0_failAfter_39 : decode cX0_failAfter 39 = .ok (.aload_n 0, 1) := by decide +kernel
theorem dX0_failAfter_40 : decode cX0_failAfter 40 = .ok (.iload_n 1, 1) := by decide +kernel
theorem dX0_failAfter_41 : decode cX0_failAfter 41 = .ok (.putfield 30, 3) := by decide +kernel
theorem dX0_failAfter_44 : decode cX0_failAfter 44 = .ok (.return_, 1) := by decide +kernel
theorem dX0_isOn_0 : decode cX0_isOn 0 = .ok (.aload_n 0, 1) := by decide +kernel
theorem dX0_isOn_1 : decode cX0_isOn 1 = .ok (.getfield 26, 3) := by decide +kernel
theorem dX0_isOn_4 : decode cX0_isOn 4 = .ok (.ireturn, 1) := by decide +kernel
theorem dX0_mount_0 : decode cX0_mount 0 = .ok (.aload_n 0, 1) := by decide +kernel
theorem dX0_mount_1 : decode cX0_mount 1 = .ok (.getfield 26, 3) := by decide +kernel
theorem dX0_mount_4 : decode cX0_mount 4 = .ok (.ifCond .eq 11, 3) := by decide +kernel
theorem dX0_mount_7 : decode cX0_mount 7 = .ok (.new 58, 3) := by decide +kernel
theorem dX0_mount_10 : decode cX0_mount 10 = .ok (.dup, 1) := by decide +kernel
theorem dX0_mount_11 : decode cX0_mount 11 = .ok (.invokespecial 60, 3) := by decide +kernel
theorem dX0_mount_14 : decode cX0_mount 14 = .ok (.athrow, 1) := by decide +kernel
theorem dX0_mount_15 : decode cX0_mount 15 = .ok (.aload_n 0, 1) := by decide +kernel
theorem dX0_mount_16 : decode cX0_mount 16 = .ok (.iconst 1, 1) := by decide +kernel
theorem dX0_mount_17 : decode cX0_mount 17 = .ok (.putfield 26, 3) := by decide +kernel
theorem dX0_mount_20 : decode cX0_mount 20 = .ok (.aload_n 0, 1) := by decide +kernel
theorem dX0_mount_21 : decode cX0_mount 21 = .ok (.iconst (-1), 1) := by decide +kernel
theorem dX0_mount_22 : decode cX0_mount 22 = .ok (.putfield 30, 3) := by decide +kernel
theorem dX0_mount_25 : decode cX0_mount 25 = .ok (.aload_n 0, 1) := by decide +kernel
theorem dX0_mount_26 : decode cX0_mount 26 = .ok (.invokevirtual 83, 3) := by decide +kernel
theorem dX0_mount_29 : decode cX0_mount 29 = .ok (.iconst 0, 1) := by decide +kernel
theorem dX0_mount_30 : decode cX0_mount 30 = .ok (.istore_n 1, 1) := by decide +kernel
theorem dX0_mount_31 : decode cX0_mount 31 = .ok (.iload_n 1, 1) := by decide +kernel
theorem dX0_mount_32 : decode cX0_mount 32 = .ok (.bipush 40, 2) := by decide +kernel
theorem dX0_mount_34 : decode cX0_mount 34 = .ok (.if_icmp .ge 31, 3) := by decide +kernel
theorem dX0_mount_37 : decode cX0_mount 37 = .ok (.aload_n 0, 1) := by decide +kernel
theorem dX0_mount_38 : decode cX0_mount 38 = .ok (.getfield 16, 3) := by decide +kernel
theorem dX0_mount_41 : decode cX0_mount 41 = .ok (.iload_n 1, 1) := by decide +kernel
theorem dX0_mount_42 : decode cX0_mount 42 = .ok (.bipush 9, 2) := by decide +kernel
theorem dX0_mount_44 : decode cX0_mount 44 = .ok (.imul, 1) := by decide +kernel
theorem dX0_mount_45 : decode cX0_mount 45 = .ok (.bipush 8, 2) := by decide +kernel
theorem dX0_mount_47 : decode cX0_mount 47 = .ok (.iadd, 1) := by decide +kernel
theorem dX0_mount_48 : decode cX0_mount 48 = .ok (.iaload, 1) := by decide +kernel
theorem dX0_mount_49 : decode cX0_mount 49 = .ok (.iconst 1, 1) := by decide +kernel
theorem dX0_mount_50 : decode cX0_mount 50 = .ok (.if_icmp .ne 9, 3) := by decide +kernel
theorem dX0_mount_53 : decode cX0_mount 53 = .ok (.aload_n 0, 1) := by decide +kernel
theorem dX0_mount_54 : decode cX0_mount 54 = .ok (.iload_n 1, 1) := by decide +kernel
theorem dX0_mount_55 : decode cX0_mount 55 = .ok (.invokevirtual 97, 3) := by decide +kernel
theorem dX0_mount_58 : decode cX0_mount 58 = .ok (.pop, 1) := by decide +kernel
theorem dX0_mount_59 : decode cX0_mount 59 = .ok (.iinc 1 1, 3) := by decide +kernel
theorem dX0_mount_62 : decode cX0_mount 62 = .ok (.goto (-31), 3) := by decide +kernel
theorem dX0_mount_65 : decode cX0_mount 65 = .ok (.aload_n 0, 1) := by decide +kernel
theorem dX0_mount_66 : decode cX0_mount 66 = .ok (.invokevirtual 112, 3) := by decide +kernel
theorem dX0_mount_69 : decode cX0_mount 69 = .ok (.ireturn, 1) := by decide +kernel
theorem dX0_words_0 : decode cX0_words 0 = .ok (.iload_n 1, 1) := by decide +kernel
theorem dX0_words_1 : decode cX0_words 1 = .ok (.invokestatic 48, 3) := by decide +kernel
theorem dX0_words_4 : decode cX0_words 4 = .ok (.ifCond .ne 11, 3) := by decide +kernel
theorem dX0_words_7 : decode cX0_words 7 = .ok (.new 55, 3) := by decide +kernel
theorem dX0_words_10 : decode cX0_words 10 = .ok (.dup, 1) := by decide +kernel
theorem dX0_words_11 : decode cX0_words 11 = .ok (.invokespecial 57, 3) := by decide +kernel
theorem dX0_words_14 : decode cX0_words 14 = .ok (.athrow, 1) := by decide +kernel
theorem dX0_words_15 : decode cX0_words 15 = .ok (.aload_n 0, 1) := by decide +kernel
theorem dX0_words_16 : decode cX0_words 16 = .ok (.iload_n 1, 1) := by decide +kernel
theorem dX0_words_17 : decode cX0_words 17 = .ok (.invokevirtual 115, 3) := by decide +kernel
theorem dX0_words_20 : decode cX0_words 20 = .ok (.ireturn, 1) := by decide +kernel
theorem dX0_history_0 : decode cX0_history 0 = .ok (.iload_n 1, 1) := by decide +kernel
theorem dX0_history_1 : decode cX0_history 1 = .ok (.invokestatic 48, 3) := by decide +kernel
theorem dX0_history_4 : decode cX0_history 4 = .ok (.ifCond .ne 11, 3) := by decide +kernel
theorem dX0_history_7 : decode cX0_history 7 = .ok (.new 55, 3) := by decide +kernel
theorem dX0_history_10 : decode cX0_history 10 = .ok (.dup, 1) := by decide +kernel
theorem dX0_history_11 : decode cX0_history 11 = .ok (.invokespecial 57, 3) := by decide +kernel
theorem dX0_history_14 : decode cX0_history 14 = .ok (.athrow, 1) := by decide +kernel
theorem dX0_history_15 : decode cX0_history 15 = .ok (.aload_n 0, 1) := by decide +kernel
theorem dX0_history_16 : decode cX0_history 16 = .ok (.iload_n 1, 1) := by decide +kernel
theorem dX0_history_17 : decode cX0_history 17 = .ok (.iload_n 2, 1) := by decide +kernel
theorem dX0_history_18 : decode cX0_history 18 = .ok (.invokevirtual 118, 3) := by decide +kernel
theorem dX0_history_21 : decode cX0_history 21 = .ok (.istore_n 3, 1) := by decide +kernel
theorem dX0_history_22 : decode cX0_history 22 = .ok (.iload_n 3, 1) := by decide +kernel
theorem dX0_history_23 : decode cX0_history 23 = .ok (.iconst (-1), 1) := by decide +kernel
theorem dX0_history_24 : decode cX0_history 24 = .ok (.if_icmp .ne 11, 3) := by decide +kernel
theorem dX0_history_27 : decode cX0_history 27 = .ok (.new 109, 3) := by decide +kernel
theorem dX0_history_30 : decode cX0_history 30 = .ok (.dup, 1) := by decide +kernel
theorem dX0_history_31 : decode cX0_history 31 = .ok (.invokespecial 111, 3) := by decide +kernel
theorem dX0_history_34 : decode cX0_history 34 = .ok (.athrow, 1) := by decide +kernel
theorem dX0_history_35 : decode cX0_history 35 = .ok (.aload_n 0, 1) := by decide +kernel
theorem dX0_history_36 : decode cX0_history 36 = .ok (.getfield 9, 3) := by decide +kernel
theorem dX0_history_39 : decode cX0_history 39 = .ok (.iload_n 3, 1) := by decide +kernel
theorem dX0_history_40 : decode cX0_history 40 = .ok (.iaload, 1) := by decide +kernel
theorem dX0_history_41 : decode cX0_history 41 = .ok (.invokestatic 73, 3) := by decide +kernel
theorem dX0_history_44 : decode cX0_history 44 = .ok (.ireturn, 1) := by decide +kernel
theorem dX0_isBelow_0 : decode cX0_isBelow 0 = .ok (.iload_n 0, 1) := by decide +kernel
theorem dX0_isBelow_1 : decode cX0_isBelow 1 = .ok (.ifCond .lt 12, 3) := by decide +kernel
theorem dX0_isBelow_4 : decode cX0_isBelow 4 = .ok (.iload_n 0, 1) := by decide +kernel
theorem dX0_isBelow_5 : decode cX0_isBelow 5 = .ok (.iload_n 1, 1) := by decide +kernel
theorem dX0_isBelow_6 : decode cX0_isBelow 6 = .ok (.if_icmp .ge 7, 3) := by decide +kernel
theorem dX0_isBelow_9 : decode cX0_isBelow 9 = .ok (.iconst 1, 1) := by decide +kernel
theorem dX0_isBelow_10 : decode cX0_isBelow 10 = .ok (.goto 4, 3) := by decide +kernel
theorem dX0_isBelow_13 : decode cX0_isBelow 13 = .ok (.iconst 0, 1) := by decide +kernel
theorem dX0_isBelow_14 : decode cX0_isBelow 14 = .ok (.ireturn, 1) := by decide +kernel
theorem dX0_isKey_0 : decode cX0_isKey 0 = .ok (.iload_n 0, 1) := by decide +kernel
theorem dX0_isKey_1 : decode cX0_isKey 1 = .ok (.bipush 64, 2) := by decide +kernel
theorem dX0_isKey_3 : decode cX0_isKey 3 = .ok (.invokestatic 106, 3) := by decide +kernel
theorem dX0_isKey_6 : decode cX0_isKey 6 = .ok (.ireturn, 1) := by decide +kernel
theorem dX0_isValue_0 : decode cX0_isValue 0 = .ok (.iload_n 0, 1) := by decide +kernel
theorem dX0_isValue_1 : decode cX0_isValue 1 = .ok (.ldc 122, 2) := by decide +kernel
theorem dX0_isValue_3 : decode cX0_isValue 3 = .ok (.invokestatic 106, 3) := by decide +kernel
theorem dX0_isValue_6 : decode cX0_isValue 6 = .ok (.ireturn, 1) := by decide +kernel
theorem dX0_tagOf_0 : decode cX0_tagOf 0 = .ok (.iload_n 0, 1) := by decide +kernel
theorem dX0_tagOf_1 : decode cX0_tagOf 1 = .ok (.sipush 128, 3) := by decide +kernel
theorem dX0_tagOf_4 : decode cX0_tagOf 4 = .ok (.iadd, 1) := by decide +kernel
theorem dX0_tagOf_5 : decode cX0_tagOf 5 = .ok (.ireturn, 1) := by decide +kernel
theorem dX0_meaningOfGroup_0 : decode cX0_meaningOfGroup 0 = .ok (.iload_n 0, 1) := by decide +kernel
theorem dX0_meaningOfGroup_1 : decode cX0_meaningOfGroup 1 = .ok (.invokestatic 123, 3) := by decide +kernel
theorem dX0_meaningOfGroup_4 : decode cX0_meaningOfGroup 4 = .ok (.iconst 1, 1) := by decide +kernel
theorem dX0_meaningOfGroup_5 : decode cX0_meaningOfGroup 5 = .ok (.if_icmp .le 10, 3) := by decide +kernel
theorem dX0_meaningOfGroup_8 : decode cX0_meaningOfGroup 8 = .ok (.iload_n 0, 1) := by decide +kernel
theorem dX0_meaningOfGroup_9 : decode cX0_meaningOfGroup 9 = .ok (.bipush 7, 2) := by decide +kernel
theorem dX0_meaningOfGroup_11 : decode cX0_meaningOfGroup 11 = .ok (.ixor, 1) := by decide +kernel
theorem dX0_meaningOfGroup_12 : decode cX0_meaningOfGroup 12 = .ok (.goto 4, 3) := by decide +kernel
theorem dX0_meaningOfGroup_15 : decode cX0_meaningOfGroup 15 = .ok (.iload_n 0, 1) := by decide +kernel
theorem dX0_meaningOfGroup_16 : decode cX0_meaningOfGroup 16 = .ok (.istore_n 1, 1) := by decide +kernel
theorem dX0_meaningOfGroup_17 : decode cX0_meaningOfGroup 17 = .ok (.iload_n 1, 1) := by decide +kernel
theorem dX0_meaningOfGroup_18 : decode cX0_meaningOfGroup 18 = .ok (.iconst 4, 1) := by decide +kernel
theorem dX0_meaningOfGroup_19 : decode cX0_meaningOfGroup 19 = .ok (.if_icmp .ne 7, 3) := by decide +kernel
theorem dX0_meaningOfGroup_22 : decode cX0_meaningOfGroup 22 = .ok (.iconst 3, 1) := by decide +kernel
theorem dX0_meaningOfGroup_23 : decode cX0_meaningOfGroup 23 = .ok (.goto 4, 3) := by decide +kernel
theorem dX0_meaningOfGroup_26 : decode cX0_meaningOfGroup 26 = .ok (.iload_n 1, 1) := by decide +kernel
theorem dX0_meaningOfGroup_27 : decode cX0_meaningOfGroup 27 = .ok (.ireturn, 1) := by decide +kernel
theorem dX0_meaningOfWord_0 : decode cX0_meaningOfWord 0 = .ok (.iconst 0, 1) := by decide +kernel
theorem dX0_meaningOfWord_1 : decode cX0_meaningOfWord 1 = .ok (.istore_n 1, 1) := by decide +kernel
theorem dX0_meaningOfWord_2 : decode cX0_meaningOfWord 2 = .ok (.iconst 0, 1) := by decide +kernel
theorem dX0_meaningOfWord_3 : decode cX0_meaningOfWord 3 = .ok (.istore_n 2, 1) := by decide +kernel
theorem dX0_meaningOfWord_4 : decode cX0_meaningOfWord 4 = .ok (.iload_n 2, 1) := by decide +kernel
theorem dX0_meaningOfWord_5 : decode cX0_meaningOfWord 5 = .ok (.bipush 8, 2) := by decide +kernel
theorem dX0_meaningOfWord_7 : decode cX0_meaningOfWord 7 = .ok (.if_icmp .ge 29, 3) := by decide +kernel
theorem dX0_meaningOfWord_10 : decode cX0_meaningOfWord 10 = .ok (.iload_n 0, 1) := by decide +kernel
theorem dX0_meaningOfWord_11 : decode cX0_meaningOfWord 11 = .ok (.iconst 3, 1) := by decide +kernel
theorem dX0_meaningOfWord_12 : decode cX0_meaningOfWord 12 = .ok (.iload_n 2, 1) := by decide +kernel
theorem dX0_meaningOfWord_13 : decode cX0_meaningOfWord 13 = .ok (.imul, 1) := by decide +kernel
theorem dX0_meaningOfWord_14 : decode cX0_meaningOfWord 14 = .ok (.iushr, 1) := by decide +kernel
theorem dX0_meaningOfWord_15 : decode cX0_meaningOfWord 15 = .ok (.bipush 7, 2) := by decide +kernel
theorem dX0_meaningOfWord_17 : decode cX0_meaningOfWord 17 = .ok (.iand, 1) := by decide +kernel
theorem dX0_meaningOfWord_18 : decode cX0_meaningOfWord 18 = .ok (.istore_n 3, 1) := by decide +kernel
theorem dX0_meaningOfWord_19 : decode cX0_meaningOfWord 19 = .ok (.iload_n 1, 1) := by decide +kernel
theorem dX0_meaningOfWord_20 : decode cX0_meaningOfWord 20 = .ok (.iload_n 3, 1) := by decide +kernel
theorem dX0_meaningOfWord_21 : decode cX0_meaningOfWord 21 = .ok (.invokestatic 128, 3) := by decide +kernel
theorem dX0_meaningOfWord_24 : decode cX0_meaningOfWord 24 = .ok (.iconst 2, 1) := by decide +kernel
theorem dX0_meaningOfWord_25 : decode cX0_meaningOfWord 25 = .ok (.iload_n 2, 1) := by decide +kernel
theorem dX0_meaningOfWord_26 : decode cX0_meaningOfWord 26 = .ok (.imul, 1) := by decide +kernel
theorem dX0_meaningOfWord_27 : decode cX0_meaningOfWord 27 = .ok (.ishl, 1) := by decide +kernel
theorem dX0_meaningOfWord_28 : decode cX0_meaningOfWord 28 = .ok (.ior, 1) := by decide +kernel
theorem dX0_meaningOfWord_29 : decode cX0_meaningOfWord 29 = .ok (.istore_n 1, 1) := by decide +kernel
theorem dX0_meaningOfWord_30 : decode cX0_meaningOfWord 30 = .ok (.iinc 2 1, 3) := by decide +kernel
theorem dX0_meaningOfWord_33 : decode cX0_meaningOfWord 33 = .ok (.goto (-29), 3) := by decide +kernel
theorem dX0_meaningOfWord_36 : decode cX0_meaningOfWord 36 = .ok (.iload_n 1, 1) := by decide +kernel
theorem dX0_meaningOfWord_37 : decode cX0_meaningOfWord 37 = .ok (.ireturn, 1) := by decide +kernel
theorem dX0_patternOfGroup_0 : decode cX0_patternOfGroup 0 = .ok (.iload_n 1, 1) := by decide +kernel
theorem dX0_patternOfGroup_1 : decode cX0_patternOfGroup 1 = .ok (.ifCond .ne 7, 3) := by decide +kernel
theorem dX0_patternOfGroup_4 : decode cX0_patternOfGroup 4 = .ok (.iconst 0, 1) := by decide +kernel
theorem dX0_patternOfGroup_5 : decode cX0_patternOfGroup 5 = .ok (.goto 8, 3) := by decide +kernel
theorem dX0_patternOfGroup_8 : decode cX0_patternOfGroup 8 = .ok (.iconst 1, 1) := by decide +kernel
theorem dX0_patternOfGroup_9 : decode cX0_patternOfGroup 9 = .ok (.iload_n 1, 1) := by decide +kernel
theorem dX0_patternOfGroup_10 : decode cX0_patternOfGroup 10 = .ok (.iconst 1, 1) := by decide +kernel
theorem dX0_patternOfGroup_11 : decode cX0_patternOfGroup 11 = .ok (.isub, 1) := by decide +kernel
theorem dX0_patternOfGroup_12 : decode cX0_patternOfGroup 12 = .ok (.ishl, 1) := by decide +kernel
theorem dX0_patternOfGroup_13 : decode cX0_patternOfGroup 13 = .ok (.istore_n 2, 1) := by decide +kernel
theorem dX0_patternOfGroup_14 : decode cX0_patternOfGroup 14 = .ok (.iload_n 0, 1) := by decide +kernel
theorem dX0_patternOfGroup_15 : decode cX0_patternOfGroup 15 = .ok (.iload_n 2, 1) := by decide +kernel
theorem dX0_patternOfGroup_16 : decode cX0_patternOfGroup 16 = .ok (.iconst (-1), 1) := by decide +kernel
theorem dX0_patternOfGroup_17 : decode cX0_patternOfGroup 17 = .ok (.ixor, 1) := by decide +kernel
theorem dX0_patternOfGroup_18 : decode cX0_patternOfGroup 18 = .ok (.iand, 1) := by decide +kernel
theorem dX0_patternOfGroup_19 : decode cX0_patternOfGroup 19 = .ok (.ifCond .ne 5, 3) := by decide +kernel
theorem dX0_patternOfGroup_22 : decode cX0_patternOfGroup 22 = .ok (.iload_n 2, 1) := by decide +kernel
theorem dX0_patternOfGroup_23 : decode cX0_patternOfGroup 23 = .ok (.ireturn, 1) := by decide +kernel
theorem dX0_patternOfGroup_24 : decode cX0_patternOfGroup 24 = .ok (.iload_n 2, 1) := by decide +kernel
theorem dX0_patternOfGroup_25 : decode cX0_patternOfGroup 25 = .ok (.bipush 7, 2) := by decide +kernel
theorem dX0_patternOfGroup_27 : decode cX0_patternOfGroup 27 = .ok (.ixor, 1) := by decide +kernel
theorem dX0_patternOfGroup_28 : decode cX0_patternOfGroup 28 = .ok (.istore_n 3, 1) := by decide +kernel
theorem dX0_patternOfGroup_29 : decode cX0_patternOfGroup 29 = .ok (.iload_n 0, 1) := by decide +kernel
theorem dX0_patternOfGroup_30 : decode cX0_patternOfGroup 30 = .ok (.iload_n 3, 1) := by decide +kernel
theorem dX0_patternOfGroup_31 : decode cX0_patternOfGroup 31 = .ok (.iconst (-1), 1) := by decide +kernel
theorem dX0_patternOfGroup_32 : decode cX0_patternOfGroup 32 = .ok (.ixor, 1) := by decide +kernel
theorem dX0_patternOfGroup_33 : decode cX0_patternOfGroup 33 = .ok (.iand, 1) := by decide +kernel
theorem dX0_patternOfGroup_34 : decode cX0_patternOfGroup 34 = .ok (.ifCond .ne 7, 3) := by decide +kernel
theorem dX0_patternOfGroup_37 : decode cX0_patternOfGroup 37 = .ok (.iload_n 3, 1) := by decide +kernel
theorem dX0_patternOfGroup_38 : decode cX0_patternOfGroup 38 = .ok (.goto 4, 3) := by decide +kernel
theorem dX0_patternOfGroup_41 : decode cX0_patternOfGroup 41 = .ok (.iconst (-1), 1) := by decide +kernel
theorem dX0_patternOfGroup_42 : decode cX0_patternOfGroup 42 = .ok (.ireturn, 1) := by decide +kernel
theorem dX0_patternOfWord_0 : decode cX0_patternOfWord 0 = .ok (.iconst 0, 1) := by decide +kernel
theorem dX0_patternOfWord_1 : decode cX0_patternOfWord 1 = .ok (.istore_n 2, 1) := by decide +kernel
theorem dX0_patternOfWord_2 : decode cX0_patternOfWord 2 = .ok (.iconst 0, 1) := by decide +kernel
theorem dX0_patternOfWord_3 : decode cX0_patternOfWord 3 = .ok (.istore_n 3, 1) := by decide +kernel
theorem dX0_patternOfWord_4 : decode cX0_patternOfWord 4 = .ok (.iload_n 3, 1) := by decide +kernel
theorem dX0_patternOfWord_5 : decode cX0_patternOfWord 5 = .ok (.bipush 8, 2) := by decide +kernel
theorem dX0_patternOfWord_7 : decode cX0_patternOfWord 7 = .ok (.if_icmp .ge 54, 3) := by decide +kernel
theorem dX0_patternOfWord_10 : decode cX0_patternOfWord 10 = .ok (.iload_n 0, 1) := by decide +kernel
theorem dX0_patternOfWord_11 : decode cX0_patternOfWord 11 = .ok (.iconst 3, 1) := by decide +kernel
theorem dX0_patternOfWord_12 : decode cX0_patternOfWord 12 = .ok (.iload_n 3, 1) := by decide +kernel
theorem dX0_patternOfWord_13 : decode cX0_patternOfWord 13 = .ok (.imul, 1) := by decide +kernel
theorem dX0_patternOfWord_14 : decode cX0_patternOfWord 14 = .ok (.iushr, 1) := by decide +kernel
theorem dX0_patternOfWord_15 : decode cX0_patternOfWord 15 = .ok (.bipush 7, 2) := by decide +kernel
theorem dX0_patternOfWord_17 : decode cX0_patternOfWord 17 = .ok (.iand, 1) := by decide +kernel
theorem dX0_patternOfWord_18 : decode cX0_patternOfWord 18 = .ok (.istore 4, 2) := by decide +kernel
theorem dX0_patternOfWord_20 : decode cX0_patternOfWord 20 = .ok (.iload_n 1, 1) := by decide +kernel
theorem dX0_patternOfWord_21 : decode cX0_patternOfWord 21 = .ok (.iconst 2, 1) := by decide +kernel
theorem dX0_patternOfWord_22 : decode cX0_patternOfWord 22 = .ok (.iload_n 3, 1) := by decide +kernel
theorem dX0_patternOfWord_23 : decode cX0_patternOfWord 23 = .ok (.imul, 1) := by decide +kernel
theorem dX0_patternOfWord_24 : decode cX0_patternOfWord 24 = .ok (.iushr, 1) := by decide +kernel
theorem dX0_patternOfWord_25 : decode cX0_patternOfWord 25 = .ok (.iconst 3, 1) := by decide +kernel
theorem dX0_patternOfWord_26 : decode cX0_patternOfWord 26 = .ok (.iand, 1) := by decide +kernel
theorem dX0_patternOfWord_27 : decode cX0_patternOfWord 27 = .ok (.istore 5, 2) := by decide +kernel
theorem dX0_patternOfWord_29 : decode cX0_patternOfWord 29 = .ok (.iload 4, 2) := by decide +kernel
theorem dX0_patternOfWord_31 : decode cX0_patternOfWord 31 = .ok (.iload 5, 2) := by decide +kernel
theorem dX0_patternOfWord_33 : decode cX0_patternOfWord 33 = .ok (.invokestatic 131, 3) := by decide +kernel
theorem dX0_patternOfWord_36 : decode cX0_patternOfWord 36 = .ok (.istore 6, 2) := by decide +kernel
theorem dX0_patternOfWord_38 : decode cX0_patternOfWord 38 = .ok (.iload 6, 2) := by decide +kernel
theorem dX0_patternOfWord_40 : decode cX0_patternOfWord 40 = .ok (.iconst (-1), 1) := by decide +kernel
theorem dX0_patternOfWord_41 : decode cX0_patternOfWord 41 = .ok (.if_icmp .ne 5, 3) := by decide +kernel
theorem dX0_patternOfWord_44 : decode cX0_patternOfWord 44 = .ok (.iconst (-1), 1) := by decide +kernel
theorem dX0_patternOfWord_45 : decode cX0_patternOfWord 45 = .ok (.ireturn, 1) := by decide +kernel
theorem dX0_patternOfWord_46 : decode cX0_patternOfWord 46 = .ok (.iload_n 2, 1) := by decide +kernel
theorem dX0_patternOfWord_47 : decode cX0_patternOfWord 47 = .ok (.iload 6, 2) := by decide +kernel
theorem dX0_patternOfWord_49 : decode cX0_patternOfWord 49 = .ok (.iconst 3, 1) := by decide +kernel
theorem dX0_patternOfWord_50 : decode cX0_patternOfWord 50 = .ok (.iload_n 3, 1) := by decide +kernel
theorem dX0_patternOfWord_51 : decode cX0_patternOfWord 51 = .ok (.imul, 1) := by decide +kernel
theorem dX0_patternOfWord_52 : decode cX0_patternOfWord 52 = .ok (.ishl, 1) := by decide +kernel
theorem dX0_patternOfWord_53 : decode cX0_patternOfWord 53 = .ok (.ior, 1) := by decide +kernel
theorem dX0_patternOfWord_54 : decode cX0_patternOfWord 54 = .ok (.istore_n 2, 1) := by decide +kernel
theorem dX0_patternOfWord_55 : decode cX0_patternOfWord 55 = .ok (.iinc 3 1, 3) := by decide +kernel
theorem dX0_patternOfWord_58 : decode cX0_patternOfWord 58 = .ok (.goto (-54), 3) := by decide +kernel
theorem dX0_patternOfWord_61 : decode cX0_patternOfWord 61 = .ok (.iload_n 2, 1) := by decide +kernel
theorem dX0_patternOfWord_62 : decode cX0_patternOfWord 62 = .ok (.ireturn, 1) := by decide +kernel
theorem dX0_staysInPlace_0 : decode cX0_staysInPlace 0 = .ok (.iload_n 1, 1) := by decide +kernel
theorem dX0_staysInPlace_1 : decode cX0_staysInPlace 1 = .ok (.iconst (-1), 1) := by decide +kernel
theorem dX0_staysInPlace_2 : decode cX0_staysInPlace 2 = .ok (.if_icmp .eq 21, 3) := by decide +kernel
theorem dX0_staysInPlace_5 : decode cX0_staysInPlace 5 = .ok (.aload_n 0, 1) := by decide +kernel
theorem dX0_staysInPlace_6 : decode cX0_staysInPlace 6 = .ok (.getfield 9, 3) := by decide +kernel
theorem dX0_staysInPlace_9 : decode cX0_staysInPlace 9 = .ok (.iload_n 1, 1) := by decide +kernel
theorem dX0_staysInPlace_10 : decode cX0_staysInPlace 10 = .ok (.iaload, 1) := by decide +kernel
theorem dX0_staysInPlace_11 : decode cX0_staysInPlace 11 = .ok (.iload_n 2, 1) := by decide +kernel
theorem dX0_staysInPlace_12 : decode cX0_staysInPlace 12 = .ok (.invokestatic 134, 3) := by decide +kernel
theorem dX0_staysInPlace_15 : decode cX0_staysInPlace 15 = .ok (.iconst (-1), 1) := by decide +kernel
theorem dX0_staysInPlace_16 : decode cX0_staysInPlace 16 = .ok (.if_icmp .eq 7, 3) := by decide +kernel
theorem dX0_staysInPlace_19 : decode cX0_staysInPlace 19 = .ok (.iconst 1, 1) := by decide +kernel
theorem dX0_staysInPlace_20 : decode cX0_staysInPlace 20 = .ok (.goto 4, 3) := by decide +kernel
theorem dX0_staysInPlace_23 : decode cX0_staysInPlace 23 = .ok (.iconst 0, 1) := by decide +kernel
theorem dX0_staysInPlace_24 : decode cX0_staysInPlace 24 = .ok (.ireturn, 1) := by decide +kernel
theorem dX0_presentWord_0 : decode cX0_presentWord 0 = .ok (.sipush 159, 3) := by decide +kernel
theorem dX0_presentWord_3 : decode cX0_presentWord 3 = .ok (.istore_n 2, 1) := by decide +kernel
theorem dX0_presentWord_4 : decode cX0_presentWord 4 = .ok (.iload_n 2, 1) := by decide +kernel
theorem dX0_presentWord_5 : decode cX0_presentWord 5 = .ok (.ifCond .lt 24, 3) := by decide +kernel
theorem dX0_presentWord_8 : decode cX0_presentWord 8 = .ok (.aload_n 0, 1) := by decide +kernel
theorem dX0_presentWord_9 : decode cX0_presentWord 9 = .ok (.getfield 13, 3) := by decide +kernel
theorem dX0_presentWord_12 : decode cX0_presentWord 12 = .ok (.iload_n 2, 1) := by decide +kernel
theorem dX0_presentWord_13 : decode cX0_presentWord 13 = .ok (.iaload, 1) := by decide +kernel
theorem dX0_presentWord_14 : decode cX0_presentWord 14 = .ok (.iload_n 1, 1) := by decide +kernel
theorem dX0_presentWord_15 : decode cX0_presentWord 15 = .ok (.invokestatic 137, 3) := by decide +kernel
theorem dX0_presentWord_18 : decode cX0_presentWord 18 = .ok (.if_icmp .ne 5, 3) := by decide +kernel
theorem dX0_presentWord_21 : decode cX0_presentWord 21 = .ok (.iload_n 2, 1) := by decide +kernel
theorem dX0_presentWord_22 : decode cX0_presentWord 22 = .ok (.ireturn, 1) := by decide +kernel
theorem dX0_presentWord_23 : decode cX0_presentWord 23 = .ok (.iinc 2 (-1), 3) := by decide +kernel
theorem dX0_presentWord_26 : decode cX0_presentWord 26 = .ok (.goto (-22), 3) := by decide +kernel
theorem dX0_presentWord_29 : decode cX0_presentWord 29 = .ok (.iconst (-1), 1) := by decide +kernel
theorem dX0_presentWord_30 : decode cX0_presentWord 30 = .ok (.ireturn, 1) := by decide +kernel
theorem dX0_numberedWord_0 : decode cX0_numberedWord 0 = .ok (.iconst 0, 1) := by decide +kernel
theorem dX0_numberedWord_1 : decode cX0_numberedWord 1 = .ok (.istore_n 3, 1) := by decide +kernel
theorem dX0_numberedWord_2 : decode cX0_numberedWord 2 = .ok (.iconst 0, 1) := by decide +kernel
theorem dX0_numberedWord_3 : decode cX0_numberedWord 3 = .ok (.istore 4, 2) := by decide +kernel
theorem dX0_numberedWord_5 : decode cX0_numberedWord 5 = .ok (.iload 4, 2) := by decide +kernel
theorem dX0_numberedWord_7 : decode cX0_numberedWord 7 = .ok (.sipush 160, 3) := by decide +kernel
theorem dX0_numberedWord_10 : decode cX0_numberedWord 10 = .ok (.if_icmp .ge 34, 3) := by decide +kernel
theorem dX0_numberedWord_13 : decode cX0_numberedWord 13 = .ok (.aload_n 0, 1) := by decide +kernel
theorem dX0_numberedWord_14 : decode cX0_numberedWord 14 = .ok (.getfield 13, 3) := by decide +kernel
theorem dX0_numberedWord_17 : decode cX0_numberedWord 17 = .ok (.iload 4, 2) := by decide +kernel
theorem dX0_numberedWord_19 : decode cX0_numberedWord 19 = .ok (.iaload, 1) := by decide +kernel
theorem dX0_numberedWord_20 : decode cX0_numberedWord 20 = .ok (.iload_n 1, 1) := by decide +kernel
theorem dX0_numberedWord_21 : decode cX0_numberedWord 21 = .ok (.invokestatic 137, 3) := by decide +kernel
theorem dX0_numberedWord_24 : decode cX0_numberedWord 24 = .ok (.if_icmp .ne 14, 3) := by decide +kernel
theorem dX0_numberedWord_27 : decode cX0_numberedWord 27 = .ok (.iload_n 3, 1) := by decide +kernel
theorem dX0_numberedWord_28 : decode cX0_numberedWord 28 = .ok (.iload_n 2, 1) := by decide +kernel
theorem dX0_numberedWord_29 : decode cX0_numberedWord 29 = .ok (.if_icmp .ne 6, 3) := by decide +kernel
theorem dX0_numberedWord_32 : decode cX0_numberedWord 32 = .ok (.iload 4, 2) := by decide +kernel
theorem dX0_numberedWord_34 : decode cX0_numberedWord 34 = .ok (.ireturn, 1) := by decide +kernel
theorem dX0_numberedWord_35 : decode cX0_numberedWord 35 = .ok (.iinc 3 1, 3) := by decide +kernel
theorem dX0_numberedWord_38 : decode cX0_numberedWord 38 = .ok (.iinc 4 1, 3) := by decide +kernel
theorem dX0_numberedWord_41 : decode cX0_numberedWord 41 = .ok (.goto (-36), 3) := by decide +kernel
theorem dX0_numberedWord_44 : decode cX0_numberedWord 44 = .ok (.iconst (-1), 1) := by decide +kernel
theorem dX0_numberedWord_45 : decode cX0_numberedWord 45 = .ok (.ireturn, 1) := by decide +kernel
theorem dX0_countWords_0 : decode cX0_countWords 0 = .ok (.iconst 0, 1) := by decide +kernel
theorem dX0_countWords_1 : decode cX0_countWords 1 = .ok (.istore_n 2, 1) := by decide +kernel
theorem dX0_countWords_2 : decode cX0_countWords 2 = .ok (.iconst 0, 1) := by decide +kernel
theorem dX0_countWords_3 : decode cX0_countWords 3 = .ok (.istore_n 3, 1) := by decide +kernel
theorem dX0_countWords_4 : decode cX0_countWords 4 = .ok (.iload_n 3, 1) := by decide +kernel
theorem dX0_countWords_5 : decode cX0_countWords 5 = .ok (.sipush 160, 3) := by decide +kernel
theorem dX0_countWords_8 : decode cX0_countWords 8 = .ok (.if_icmp .ge 25, 3) := by decide +kernel
theorem dX0_countWords_11 : decode cX0_countWords 11 = .ok (.aload_n 0, 1) := by decide +kernel
theorem dX0_countWords_12 : decode cX0_countWords 12 = .ok (.getfield 13, 3) := by decide +kernel
theorem dX0_countWords_15 : decode cX0_countWords 15 = .ok (.iload_n 3, 1) := by decide +kernel
theorem dX0_countWords_16 : decode cX0_countWords 16 = .ok (.iaload, 1) := by decide +kernel
theorem dX0_countWords_17 : decode cX0_countWords 17 = .ok (.iload_n 1, 1) := by decide +kernel
theorem dX0_countWords_18 : decode cX0_countWords 18 = .ok (.invokestatic 137, 3) := by decide +kernel
theorem dX0_countWords_21 : decode cX0_countWords 21 = .ok (.if_icmp .ne 6, 3) := by decide +kernel
theorem dX0_countWords_24 : decode cX0_countWords 24 = .ok (.iinc 2 1, 3) := by decide +kernel
theorem dX0_countWords_27 : decode cX0_countWords 27 = .ok (.iinc 3 1, 3) := by decide +kernel
theorem dX0_countWords_30 : decode cX0_countWords 30 = .ok (.goto (-26), 3) := by decide +kernel
theorem dX0_countWords_33 : decode cX0_countWords 33 = .ok (.iload_n 2, 1) := by decide +kernel
theorem dX0_countWords_34 : decode cX0_countWords 34 = .ok (.ireturn, 1) := by decide +kernel
theorem dX0_countKeysWithWords_0 : decode cX0_countKeysWithWords 0 = .ok (.iconst 0, 1) := by decide +kernel
theorem dX0_countKeysWithWords_1 : decode cX0_countKeysWithWords 1 = .ok (.istore_n 1, 1) := by decide +kernel
theorem dX0_countKeysWithWords_2 : decode cX0_countKeysWithWords 2 = .ok (.iconst 0, 1) := by decide +kernel
theorem dX0_countKeysWithWords_3 : decode cX0_countKeysWithWords 3 = .ok (.istore_n 2, 1) := by decide +kernel
theorem dX0_countKeysWithWords_4 : decode cX0_countKeysWithWords 4 = .ok (.iload_n 2, 1) := by decide +kernel
theorem dX0_countKeysWithWords_5 : decode cX0_countKeysWithWords 5 = .ok (.bipush 64, 2) := by decide +kernel
theorem dX0_countKeysWithWords_7 : decode cX0_countKeysWithWords 7 = .ok (.if_icmp .ge 21, 3) := by decide +kernel
theorem dX0_countKeysWithWords_10 : decode cX0_countKeysWithWords 10 = .ok (.aload_n 0, 1) := by decide +kernel
theorem dX0_countKeysWithWords_11 : decode cX0_countKeysWithWords 11 = .ok (.iload_n 2, 1) := by decide +kernel
theorem dX0_countKeysWithWords_12 : decode cX0_countKeysWithWords 12 = .ok (.invokevirtual 69, 3) := by decide +kernel
theorem dX0_countKeysWithWords_15 : decode cX0_countKeysWithWords 15 = .ok (.iconst (-1), 1) := by decide +kernel
theorem dX0_countKeysWithWords_16 : decode cX0_countKeysWithWords 16 = .ok (.if_icmp .eq 6, 3) := by decide +kernel
theorem dX0_countKeysWithWords_19 : decode cX0_countKeysWithWords 19 = .ok (.iinc 1 1, 3) := by decide +kernel
theorem dX0_countKeysWithWords_22 : decode cX0_countKeysWithWords 22 = .ok (.iinc 2 1, 3) := by decide +kernel
theorem dX0_countKeysWithWords_25 : decode cX0_countKeysWithWords 25 = .ok (.goto (-21), 3) := by decide +kernel
theorem dX0_countKeysWithWords_28 : decode cX0_countKeysWithWords 28 = .ok (.iload_n 1, 1) := by decide +kernel
theorem dX0_countKeysWithWords_29 : decode cX0_countKeysWithWords 29 = .ok (.ireturn, 1) := by decide +kernel
theorem dX0_isFresh_0 : decode cX0_isFresh 0 = .ok (.aload_n 0, 1) := by decide +kernel
theorem dX0_isFresh_1 : decode cX0_isFresh 1 = .ok (.getfield 9, 3) := by decide +kernel
theorem dX0_isFresh_4 : decode cX0_isFresh 4 = .ok (.iload_n 1, 1) := by decide +kernel
theorem dX0_isFresh_5 : decode cX0_isFresh 5 = .ok (.iaload, 1) := by decide +kernel
theorem dX0_isFresh_6 : decode cX0_isFresh 6 = .ok (.ifCond .ne 16, 3) := by decide +kernel
theorem dX0_isFresh_9 : decode cX0_isFresh 9 = .ok (.aload_n 0, 1) := by decide +kernel
theorem dX0_isFresh_10 : decode cX0_isFresh 10 = .ok (.getfield 13, 3) := by decide +kernel
theorem dX0_isFresh_13 : decode cX0_isFresh 13 = .ok (.iload_n 1, 1) := by decide +kernel
theorem dX0_isFresh_14 : decode cX0_isFresh 14 = .ok (.iaload, 1) := by decide +kernel
theorem dX0_isFresh_15 : decode cX0_isFresh 15 = .ok (.ifCond .ne 7, 3) := by decide +kernel
theorem dX0_isFresh_18 : decode cX0_isFresh 18 = .ok (.iconst 1, 1) := by decide +kernel
theorem dX0_isFresh_19 : decode cX0_isFresh 19 = .ok (.goto 4, 3) := by decide +kernel
theorem dX0_isFresh_22 : decode cX0_isFresh 22 = .ok (.iconst 0, 1) := by decide +kernel
theorem dX0_isFresh_23 : decode cX0_isFresh 23 = .ok (.ireturn, 1) := by decide +kernel
theorem dX0_lowestFreshWord_0 : decode cX0_lowestFreshWord 0 = .ok (.iload_n 1, 1) := by decide +kernel
theorem dX0_lowestFreshWord_1 : decode cX0_lowestFreshWord 1 = .ok (.istore_n 2, 1) := by decide +kernel
theorem dX0_lowestFreshWord_2 : decode cX0_lowestFreshWord 2 = .ok (.iload_n 2, 1) := by decide +kernel
theorem dX0_lowestFreshWord_3 : decode cX0_lowestFreshWord 3 = .ok (.sipush 160, 3) := by decide +kernel
theorem dX0_lowestFreshWord_6 : decode cX0_lowestFreshWord 6 = .ok (.if_icmp .ge 19, 3) := by decide +kernel
theorem dX0_lowestFreshWord_9 : decode cX0_lowestFreshWord 9 = .ok (.aload_n 0, 1) := by decide +kernel
theorem dX0_lowestFreshWord_10 : decode cX0_lowestFreshWord 10 = .ok (.iload_n 2, 1) := by decide +kernel
theorem dX0_lowestFreshWord_11 : decode cX0_lowestFreshWord 11 = .ok (.invokevirtual 140, 3) := by decide +kernel
theorem dX0_lowestFreshWord_14 : decode cX0_lowestFreshWord 14 = .ok (.ifCond .eq 5, 3) := by decide +kernel
theorem dX0_lowestFreshWord_17 : decode cX0_lowestFreshWord 17 = .ok (.iload_n 2, 1) := by decide +kernel
theorem dX0_lowestFreshWord_18 : decode cX0_lowestFreshWord 18 = .ok (.ireturn, 1) := by decide +kernel
theorem dX0_lowestFreshWord_19 : decode cX0_lowestFreshWord 19 = .ok (.iinc 2 1, 3) := by decide +kernel
theorem dX0_lowestFreshWord_22 : decode cX0_lowestFreshWord 22 = .ok (.goto (-20), 3) := by decide +kernel
theorem dX0_lowestFreshWord_25 : decode cX0_lowestFreshWord 25 = .ok (.iconst (-1), 1) := by decide +kernel
theorem dX0_lowestFreshWord_26 : decode cX0_lowestFreshWord 26 = .ok (.ireturn, 1) := by decide +kernel
theorem dX0_countFreshWords_0 : decode cX0_countFreshWords 0 = .ok (.iconst 0, 1) := by decide +kernel
theorem dX0_countFreshWords_1 : decode cX0_countFreshWords 1 = .ok (.istore_n 1, 1) := by decide +kernel
theorem dX0_countFreshWords_2 : decode cX0_countFreshWords 2 = .ok (.iconst 0, 1) := by decide +kernel
theorem dX0_countFreshWords_3 : decode cX0_countFreshWords 3 = .ok (.istore_n 2, 1) := by decide +kernel
theorem dX0_countFreshWords_4 : decode cX0_countFreshWords 4 = .ok (.iload_n 2, 1) := by decide +kernel
theorem dX0_countFreshWords_5 : decode cX0_countFreshWords 5 = .ok (.sipush 160, 3) := by decide +kernel
theorem dX0_countFreshWords_8 : decode cX0_countFreshWords 8 = .ok (.if_icmp .ge 20, 3) := by decide +kernel
theorem dX0_countFreshWords_11 : decode cX0_countFreshWords 11 = .ok (.aload_n 0, 1) := by decide +kernel
theorem dX0_countFreshWords_12 : decode cX0_countFreshWords 12 = .ok (.iload_n 2, 1) := by decide +kernel
theorem dX0_countFreshWords_13 : decode cX0_countFreshWords 13 = .ok (.invokevirtual 140, 3) := by decide +kernel
theorem dX0_countFreshWords_16 : decode cX0_countFreshWords 16 = .ok (.ifCond .eq 6, 3) := by decide +kernel
theorem dX0_countFreshWords_19 : decode cX0_countFreshWords 19 = .ok (.iinc 1 1, 3) := by decide +kernel
theorem dX0_countFreshWords_22 : decode cX0_countFreshWords 22 = .ok (.iinc 2 1, 3) := by decide +kernel
theorem dX0_countFreshWords_25 : decode cX0_countFreshWords 25 = .ok (.goto (-21), 3) := by decide +kernel
theorem dX0_countFreshWords_28 : decode cX0_countFreshWords 28 = .ok (.iload_n 1, 1) := by decide +kernel
theorem dX0_countFreshWords_29 : decode cX0_countFreshWords 29 = .ok (.ireturn, 1) := by decide +kernel
theorem dX0_isEmptyNote_0 : decode cX0_isEmptyNote 0 = .ok (.iconst 0, 1) := by decide +kernel
theorem dX0_isEmptyNote_1 : decode cX0_isEmptyNote 1 = .ok (.istore_n 2, 1) := by decide +kernel
theorem dX0_isEmptyNote_2 : decode cX0_isEmptyNote 2 = .ok (.iload_n 2, 1) := by decide +kernel
theorem dX0_isEmptyNote_3 : decode cX0_isEmptyNote 3 = .ok (.bipush 9, 2) := by decide +kernel
theorem dX0_isEmptyNote_5 : decode cX0_isEmptyNote 5 = .ok (.if_icmp .ge 25, 3) := by decide +kernel
theorem dX0_isEmptyNote_8 : decode cX0_isEmptyNote 8 = .ok (.aload_n 0, 1) := by decide +kernel
theorem dX0_isEmptyNote_9 : decode cX0_isEmptyNote 9 = .ok (.getfield 16, 3) := by decide +kernel
theorem dX0_isEmptyNote_12 : decode cX0_isEmptyNote 12 = .ok (.iload_n 1, 1) := by decide +kernel
theorem dX0_isEmptyNote_13 : decode cX0_isEmptyNote 13 = .ok (.bipush 9, 2) := by decide +kernel
theorem dX0_isEmptyNote_15 : decode cX0_isEmptyNote 15 = .ok (.imul, 1) := by decide +kernel
theorem dX0_isEmptyNote_16 : decode cX0_isEmptyNote 16 = .ok (.iload_n 2, 1) := by decide +kernel
theorem dX0_isEmptyNote_17 : decode cX0_isEmptyNote 17 = .ok (.iadd, 1) := by decide +kernel
theorem dX0_isEmptyNote_18 : decode cX0_isEmptyNote 18 = .ok (.iaload, 1) := by decide +kernel
theorem dX0_isEmptyNote_19 : decode cX0_isEmptyNote 19 = .ok (.ifCond .eq 5, 3) := by decide +kernel
theorem dX0_isEmptyNote_22 : decode cX0_isEmptyNote 22 = .ok (.iconst 0, 1) := by decide +kernel
theorem dX0_isEmptyNote_23 : decode cX0_isEmptyNote 23 = .ok (.ireturn, 1) := by decide +kernel
theorem dX0_isEmptyNote_24 : decode cX0_isEmptyNote 24 = .ok (.iinc 2 1, 3) := by decide +kernel
theorem dX0_isEmptyNote_27 : decode cX0_isEmptyNote 27 = .ok (.goto (-25), 3) := by decide +kernel
theorem dX0_isEmptyNote_30 : decode cX0_isEmptyNote 30 = .ok (.iconst 1, 1) := by decide +kernel
theorem dX0_isEmptyNote_31 : decode cX0_isEmptyNote 31 = .ok (.ireturn, 1) := by decide +kernel
theorem dX0_lowestEmptyNote_0 : decode cX0_lowestEmptyNote 0 = .ok (.iconst 0, 1) := by decide +kernel
theorem dX0_lowestEmptyNote_1 : decode cX0_lowestEmptyNote 1 = .ok (.istore_n 1, 1) := by decide +kernel
theorem dX0_lowestEmptyNote_2 : decode cX0_lowestEmptyNote 2 = .ok (.iload_n 1, 1) := by decide +kernel
theorem dX0_lowestEmptyNote_3 : decode cX0_lowestEmptyNote 3 = .ok (.bipush 40, 2) := by decide +kernel
theorem dX0_lowestEmptyNote_5 : decode cX0_lowestEmptyNote 5 = .ok (.if_icmp .ge 19, 3) := by decide +kernel
theorem dX0_lowestEmptyNote_8 : decode cX0_lowestEmptyNote 8 = .ok (.aload_n 0, 1) := by decide +kernel
theorem dX0_lowestEmptyNote_9 : decode cX0_lowestEmptyNote 9 = .ok (.iload_n 1, 1) := by decide +kernel
theorem dX0_lowestEmptyNote_10 : decode cX0_lowestEmptyNote 10 = .ok (.invokevirtual 143, 3) := by decide +kernel
theorem dX0_lowestEmptyNote_13 : decode cX0_lowestEmptyNote 13 = .ok (.ifCond .eq 5, 3) := by decide +kernel
theorem dX0_lowestEmptyNote_16 : decode cX0_lowestEmptyNote 16 = .ok (.iload_n 1, 1) := by decide +kernel
theorem dX0_lowestEmptyNote_17 : decode cX0_lowestEmptyNote 17 = .ok (.ireturn, 1) := by decide +kernel
theorem dX0_lowestEmptyNote_18 : decode cX0_lowestEmptyNote 18 = .ok (.iinc 1 1, 3) := by decide +kernel
theorem dX0_lowestEmptyNote_21 : decode cX0_lowestEmptyNote 21 = .ok (.goto (-19), 3) := by decide +kernel
theorem dX0_lowestEmptyNote_24 : decode cX0_lowestEmptyNote 24 = .ok (.iconst (-1), 1) := by decide +kernel
theorem dX0_lowestEmptyNote_25 : decode cX0_lowestEmptyNote 25 = .ok (.ireturn, 1) := by decide +kernel
theorem dX0_countEmptyNotes_0 : decode cX0_countEmptyNotes 0 = .ok (.iconst 0, 1) := by decide +kernel
theorem dX0_countEmptyNotes_1 : decode cX0_countEmptyNotes 1 = .ok (.istore_n 1, 1) := by decide +kernel
theorem dX0_countEmptyNotes_2 : decode cX0_countEmptyNotes 2 = .ok (.iconst 0, 1) := by decide +kernel
theorem dX0_countEmptyNotes_3 : decode cX0_countEmptyNotes 3 = .ok (.istore_n 2, 1) := by decide +kernel
theorem dX0_countEmptyNotes_4 : decode cX0_countEmptyNotes 4 = .ok (.iload_n 2, 1) := by decide +kernel
theorem dX0_countEmptyNotes_5 : decode cX0_countEmptyNotes 5 = .ok (.bipush 40, 2) := by decide +kernel
theorem dX0_countEmptyNotes_7 : decode cX0_countEmptyNotes 7 = .ok (.if_icmp .ge 20, 3) := by decide +kernel
theorem dX0_countEmptyNotes_10 : decode cX0_countEmptyNotes 10 = .ok (.aload_n 0, 1) := by decide +kernel
theorem dX0_countEmptyNotes_11 : decode cX0_countEmptyNotes 11 = .ok (.iload_n 2, 1) := by decide +kernel
theorem dX0_countEmptyNotes_12 : decode cX0_countEmptyNotes 12 = .ok (.invokevirtual 143, 3) := by decide +kernel
theorem dX0_countEmptyNotes_15 : decode cX0_countEmptyNotes 15 = .ok (.ifCond .eq 6, 3) := by decide +kernel
theorem dX0_countEmptyNotes_18 : decode cX0_countEmptyNotes 18 = .ok (.iinc 1 1, 3) := by decide +kernel
theorem dX0_countEmptyNotes_21 : decode cX0_countEmptyNotes 21 = .ok (.iinc 2 1, 3) := by decide +kernel
theorem dX0_countEmptyNotes_24 : decode cX0_countEmptyNotes 24 = .ok (.goto (-20), 3) := by decide +kernel
theorem dX0_countEmptyNotes_27 : decode cX0_countEmptyNotes 27 = .ok (.iload_n 1, 1) := by decide +kernel
theorem dX0_countEmptyNotes_28 : decode cX0_countEmptyNotes 28 = .ok (.ireturn, 1) := by decide +kernel
theorem dX0_wordThatTakes_0 : decode cX0_wordThatTakes 0 = .ok (.aload_n 0, 1) := by decide +kernel
theorem dX0_wordThatTakes_1 : decode cX0_wordThatTakes 1 = .ok (.iload_n 1, 1) := by decide +kernel
theorem dX0_wordThatTakes_2 : decode cX0_wordThatTakes 2 = .ok (.invokevirtual 69, 3) := by decide +kernel
theorem dX0_wordThatTakes_5 : decode cX0_wordThatTakes 5 = .ok (.istore 4, 2) := by decide +kernel
theorem dX0_wordThatTakes_7 : decode cX0_wordThatTakes 7 = .ok (.aload_n 0, 1) := by decide +kernel
theorem dX0_wordThatTakes_8 : decode cX0_wordThatTakes 8 = .ok (.iload 4, 2) := by decide +kernel
theorem dX0_wordThatTakes_10 : decode cX0_wordThatTakes 10 = .ok (.iload_n 2, 1) := by decide +kernel
theorem dX0_wordThatTakes_11 : decode cX0_wordThatTakes 11 = .ok (.invokevirtual 76, 3) := by decide +kernel
theorem dX0_wordThatTakes_14 : decode cX0_wordThatTakes 14 = .ok (.ifCond .eq 8, 3) := by decide +kernel
theorem dX0_wordThatTakes_17 : decode cX0_wordThatTakes 17 = .ok (.iload 4, 2) := by decide +kernel
theorem dX0_wordThatTakes_19 : decode cX0_wordThatTakes 19 = .ok (.goto 8, 3) := by decide +kernel
theorem dX0_wordThatTakes_22 : decode cX0_wordThatTakes 22 = .ok (.aload_n 0, 1) := by decide +kernel
theorem dX0_wordThatTakes_23 : decode cX0_wordThatTakes 23 = .ok (.iload_n 3, 1) := by decide +kernel
theorem dX0_wordThatTakes_24 : decode cX0_wordThatTakes 24 = .ok (.invokevirtual 146, 3) := by decide +kernel
theorem dX0_wordThatTakes_27 : decode cX0_wordThatTakes 27 = .ok (.ireturn, 1) := by decide +kernel
theorem dX0_isStaged_0 : decode cX0_isStaged 0 = .ok (.iconst 0, 1) := by decide +kernel
theorem dX0_isStaged_1 : decode cX0_isStaged 1 = .ok (.istore_n 2, 1) := by decide +kernel
theorem dX0_isStaged_2 : decode cX0_isStaged 2 = .ok (.iload_n 2, 1) := by decide +kernel
theorem dX0_isStaged_3 : decode cX0_isStaged 3 = .ok (.aload_n 0, 1) := by decide +kernel
theorem dX0_isStaged_4 : decode cX0_isStaged 4 = .ok (.getfield 45, 3) := by decide +kernel
theorem dX0_isStaged_7 : decode cX0_isStaged 7 = .ok (.if_icmp .ge 21, 3) := by decide +kernel
theorem dX0_isStaged_10 : decode cX0_isStaged 10 = .ok (.aload_n 0, 1) := by decide +kernel
theorem dX0_isStaged_11 : decode cX0_isStaged 11 = .ok (.getfield 33, 3) := by decide +kernel
theorem dX0_isStaged_14 : decode cX0_isStaged 14 = .ok (.iload_n 2, 1) := by decide +kernel
theorem dX0_isStaged_15 : decode cX0_isStaged 15 = .ok (.iaload, 1) := by decide +kernel
theorem dX0_isStaged_16 : decode cX0_isStaged 16 = .ok (.iload_n 1, 1) := by decide +kernel
theorem dX0_isStaged_17 : decode cX0_isStaged 17 = .ok (.if_icmp .ne 5, 3) := by decide +kernel
theorem dX0_isStaged_20 : decode cX0_isStaged 20 = .ok (.iconst 1, 1) := by decide +kernel
theorem dX0_isStaged_21 : decode cX0_isStaged 21 = .ok (.ireturn, 1) := by decide +kernel
theorem dX0_isStaged_22 : decode cX0_isStaged 22 = .ok (.iinc 2 1, 3) := by decide +kernel
theorem dX0_isStaged_25 : decode cX0_isStaged 25 = .ok (.goto (-23), 3) := by decide +kernel
theorem dX0_isStaged_28 : decode cX0_isStaged 28 = .ok (.iconst 0, 1) := by decide +kernel
theorem dX0_isStaged_29 : decode cX0_isStaged 29 = .ok (.ireturn, 1) := by decide +kernel
theorem dX0_closeBatch_0 : decode cX0_closeBatch 0 = .ok (.aload_n 0, 1) := by decide +kernel
theorem dX0_closeBatch_1 : decode cX0_closeBatch 1 = .ok (.iconst 0, 1) := by decide +kernel
theorem dX0_closeBatch_2 : decode cX0_closeBatch 2 = .ok (.putfield 42, 3) := by decide +kernel
theorem dX0_closeBatch_5 : decode cX0_closeBatch 5 = .ok (.aload_n 0, 1) := by decide +kernel
theorem dX0_closeBatch_6 : decode cX0_closeBatch 6 = .ok (.iconst 0, 1) := by decide +kernel
theorem dX0_closeBatch_7 : decode cX0_closeBatch 7 = .ok (.putfield 45, 3) := by decide +kernel
theorem dX0_closeBatch_10 : decode cX0_closeBatch 10 = .ok (.return_, 1) := by decide +kernel
theorem dX0_planLines_0 : decode cX0_planLines 0 = .ok (.iconst 0, 1) := by decide +kernel
theorem dX0_planLines_1 : decode cX0_planLines 1 = .ok (.istore_n 1, 1) := by decide +kernel
theorem dX0_planLines_2 : decode cX0_planLines 2 = .ok (.iconst 0, 1) := by decide +kernel
theorem dX0_planLines_3 : decode cX0_planLines 3 = .ok (.istore_n 2, 1) := by decide +kernel
theorem dX0_planLines_4 : decode cX0_planLines 4 = .ok (.iload_n 2, 1) := by decide +kernel
theorem dX0_planLines_5 : decode cX0_planLines 5 = .ok (.aload_n 0, 1) := by decide +kernel
theorem dX0_planLines_6 : decode cX0_planLines 6 = .ok (.getfield 45, 3) := by decide +kernel
theorem dX0_planLines_9 : decode cX0_planLines 9 = .ok (.if_icmp .ge 70, 3) := by decide +kernel
theorem dX0_planLines_12 : decode cX0_planLines 12 = .ok (.aload_n 0, 1) := by decide +kernel
theorem dX0_planLines_13 : decode cX0_planLines 13 = .ok (.getfield 33, 3) := by decide +kernel
theorem dX0_planLines_16 : decode cX0_planLines 16 = .ok (.iload_n 2, 1) := by decide +kernel
theorem dX0_planLines_17 : decode cX0_planLines 17 = .ok (.iaload, 1) := by decide +kernel
theorem dX0_planLines_18 : decode cX0_planLines 18 = .ok (.istore_n 3, 1) := by decide +kernel
theorem dX0_planLines_19 : decode cX0_planLines 19 = .ok (.aload_n 0, 1) := by decide +kernel
theorem dX0_planLines_20 : decode cX0_planLines 20 = .ok (.iload_n 3, 1) := by decide +kernel
theorem dX0_planLines_21 : decode cX0_planLines 21 = .ok (.aload_n 0, 1) := by decide +kernel
theorem dX0_planLines_22 : decode cX0_planLines 22 = .ok (.getfield 36, 3) := by decide +kernel
theorem dX0_planLines_25 : decode cX0_planLines 25 = .ok (.iload_n 2, 1) := by decide +kernel
theorem dX0_planLines_26 : decode cX0_planLines 26 = .ok (.iaload, 1) := by decide +kernel
theorem dX0_planLines_27 : decode cX0_planLines 27 = .ok (.iload_n 1, 1) := by decide +kernel
theorem dX0_planLines_28 : decode cX0_planLines 28 = .ok (.invokevirtual 61, 3) := by decide +kernel
theorem dX0_planLines_31 : decode cX0_planLines 31 = .ok (.istore 4, 2) := by decide +kernel
theorem dX0_planLines_33 : decode cX0_planLines 33 = .ok (.iload 4, 2) := by decide +kernel
theorem dX0_planLines_35 : decode cX0_planLines 35 = .ok (.iconst (-1), 1) := by decide +kernel
theorem dX0_planLines_36 : decode cX0_planLines 36 = .ok (.if_icmp .ne 5, 3) := by decide +kernel
theorem dX0_planLines_39 : decode cX0_planLines 39 = .ok (.iconst 0, 1) := by decide +kernel
theorem dX0_planLines_40 : decode cX0_planLines 40 = .ok (.ireturn, 1) := by decide +kernel
theorem dX0_planLines_41 : decode cX0_planLines 41 = .ok (.aload_n 0, 1) := by decide +kernel
theorem dX0_planLines_42 : decode cX0_planLines 42 = .ok (.iload 4, 2) := by decide +kernel
theorem dX0_planLines_44 : decode cX0_planLines 44 = .ok (.invokevirtual 140, 3) := by decide +kernel
theorem dX0_planLines_47 : decode cX0_planLines 47 = .ok (.ifCond .eq 8, 3) := by decide +kernel
theorem dX0_planLines_50 : decode cX0_planLines 50 = .ok (.iload 4, 2) := by decide +kernel
theorem dX0_planLines_52 : decode cX0_planLines 52 = .ok (.iconst 1, 1) := by decide +kernel
theorem dX0_planLines_53 : decode cX0_planLines 53 = .ok (.iadd, 1) := by decide +kernel
theorem dX0_planLines_54 : decode cX0_planLines 54 = .ok (.istore_n 1, 1) := by decide +kernel
theorem dX0_planLines_55 : decode cX0_planLines 55 = .ok (.aload_n 0, 1) := by decide +kernel
theorem dX0_planLines_56 : decode cX0_planLines 56 = .ok (.getfield 39, 3) := by decide +kernel
theorem dX0_planLines_59 : decode cX0_planLines 59 = .ok (.iload_n 2, 1) := by decide +kernel
theorem dX0_planLines_60 : decode cX0_planLines 60 = .ok (.iload_n 3, 1) := by decide +kernel
theorem dX0_planLines_61 : decode cX0_planLines 61 = .ok (.aload_n 0, 1) := by decide +kernel
theorem dX0_planLines_62 : decode cX0_planLines 62 = .ok (.getfield 36, 3) := by decide +kernel
theorem dX0_planLines_65 : decode cX0_planLines 65 = .ok (.iload_n 2, 1) := by decide +kernel
theorem dX0_planLines_66 : decode cX0_planLines 66 = .ok (.iaload, 1) := by decide +kernel
theorem dX0_planLines_67 : decode cX0_planLines 67 = .ok (.iload 4, 2) := by decide +kernel
theorem dX0_planLines_69 : decode cX0_planLines 69 = .ok (.invokestatic 149, 3) := by decide +kernel
theorem dX0_planLines_72 : decode cX0_planLines 72 = .ok (.iastore, 1) := by decide +kernel
theorem dX0_planLines_73 : decode cX0_planLines 73 = .ok (.iinc 2 1, 3) := by decide +kernel
theorem dX0_planLines_76 : decode cX0_planLines 76 = .ok (.goto (-72), 3) := by decide +kernel
theorem dX0_planLines_79 : decode cX0_planLines 79 = .ok (.iconst 1, 1) := by decide +kernel
theorem dX0_planLines_80 : decode cX0_planLines 80 = .ok (.ireturn, 1) := by decide +kernel
theorem dX0_writeNote_0 : decode cX0_writeNote 0 = .ok (.iload_n 1, 1) := by decide +kernel
theorem dX0_writeNote_1 : decode cX0_writeNote 1 = .ok (.bipush 9, 2) := by decide +kernel
theorem dX0_writeNote_3 : decode cX0_writeNote 3 = .ok (.imul, 1) := by decide +kernel
theorem dX0_writeNote_4 : decode cX0_writeNote 4 = .ok (.istore_n 2, 1) := by decide +kernel
theorem dX0_writeNote_5 : decode cX0_writeNote 5 = .ok (.iconst 0, 1) := by decide +kernel
theorem dX0_writeNote_6 : decode cX0_writeNote 6 = .ok (.istore_n 3, 1) := by decide +kernel
theorem dX0_writeNote_7 : decode cX0_writeNote 7 = .ok (.iload_n 3, 1) := by decide +kernel
theorem dX0_writeNote_8 : decode cX0_writeNote 8 = .ok (.aload_n 0, 1) := by decide +kernel
theorem dX0_writeNote_9 : decode cX0_writeNote 9 = .ok (.getfield 45, 3) := by decide +kernel
theorem dX0_writeNote_12 : decode cX0_writeNote 12 = .ok (.if_icmp .ge 31, 3) := by decide +kernel
theorem dX0_writeNote_15 : decode cX0_writeNote 15 = .ok (.aload_n 0, 1) := by decide +kernel
theorem dX0_writeNote_16 : decode cX0_writeNote 16 = .ok (.aload_n 0, 1) := by decide +kernel
theorem dX0_writeNote_17 : decode cX0_writeNote 17 = .ok (.getfield 16, 3) := by decide +kernel
theorem dX0_writeNote_20 : decode cX0_writeNote 20 = .ok (.iload_n 2, 1) := by decide +kernel
theorem dX0_writeNote_21 : decode cX0_writeNote 21 = .ok (.iload_n 3, 1) := by decide +kernel
theorem dX0_writeNote_22 : decode cX0_writeNote 22 = .ok (.iadd, 1) := by decide +kernel
theorem dX0_writeNote_23 : decode cX0_writeNote 23 = .ok (.aload_n 0, 1) := by decide +kernel
theorem dX0_writeNote_24 : decode cX0_writeNote 24 = .ok (.getfield 39, 3) := by decide +kernel
theorem dX0_writeNote_27 : decode cX0_writeNote 27 = .ok (.iload_n 3, 1) := by decide +kernel
theorem dX0_writeNote_28 : decode cX0_writeNote 28 = .ok (.iaload, 1) := by decide +kernel
theorem dX0_writeNote_29 : decode cX0_writeNote 29 = .ok (.invokevirtual 152, 3) := by decide +kernel
theorem dX0_writeNote_32 : decode cX0_writeNote 32 = .ok (.ifCond .ne 5, 3) := by decide +kernel
theorem dX0_writeNote_35 : decode cX0_writeNote 35 = .ok (.iconst 0, 1) := by decide +kernel
theorem dX0_writeNote_36 : decode cX0_writeNote 36 = .ok (.ireturn, 1) := by decide +kernel
theorem dX0_writeNote_37 : decode cX0_writeNote 37 = .ok (.iinc 3 1, 3) := by decide +kernel
theorem dX0_writeNote_40 : decode cX0_writeNote 40 = .ok (.goto (-33), 3) := by decide +kernel
theorem dX0_writeNote_43 : decode cX0_writeNote 43 = .ok (.aload_n 0, 1) := by decide +kernel
theorem dX0_writeNote_44 : decode cX0_writeNote 44 = .ok (.aload_n 0, 1) := by decide +kernel
theorem dX0_writeNote_45 : decode cX0_writeNote 45 = .ok (.getfield 16, 3) := by decide +kernel
theorem dX0_writeNote_48 : decode cX0_writeNote 48 = .ok (.iload_n 2, 1) := by decide +kernel
theorem dX0_writeNote_49 : decode cX0_writeNote 49 = .ok (.bipush 8, 2) := by decide +kernel
theorem dX0_writeNote_51 : decode cX0_writeNote 51 = .ok (.iadd, 1) := by decide +kernel
theorem dX0_writeNote_52 : decode cX0_writeNote 52 = .ok (.iconst 1, 1) := by decide +kernel
theorem dX0_writeNote_53 : decode cX0_writeNote 53 = .ok (.invokevirtual 152, 3) := by decide +kernel
theorem dX0_writeNote_56 : decode cX0_writeNote 56 = .ok (.ireturn, 1) := by decide +kernel
theorem dX0_carryOutNote_0 : decode cX0_carryOutNote 0 = .ok (.iload_n 1, 1) := by decide +kernel
theorem dX0_carryOutNote_1 : decode cX0_carryOutNote 1 = .ok (.bipush 9, 2) := by decide +kernel
theorem dX0_carryOutNote_3 : decode cX0_carryOutNote 3 = .ok (.imul, 1) := by decide +kernel
theorem dX0_carryOutNote_4 : decode cX0_carryOutNote 4 = .ok (.istore_n 2, 1) := by decide +kernel
theorem dX0_carryOutNote_5 : decode cX0_carryOutNote 5 = .ok (.iconst 0, 1) := by decide +kernel
theorem dX0_carryOutNote_6 : decode cX0_carryOutNote 6 = .ok (.istore_n 3, 1) := by decide +kernel
theorem dX0_carryOutNote_7 : decode cX0_carryOutNote 7 = .ok (.iload_n 3, 1) := by decide +kernel
theorem dX0_carryOutNote_8 : decode cX0_carryOutNote 8 = .ok (.bipush 8, 2) := by decide +kernel
theorem dX0_carryOutNote_10 : decode cX0_carryOutNote 10 = .ok (.if_icmp .ge 51, 3) := by decide +kernel
theorem dX0_carryOutNote_13 : decode cX0_carryOutNote 13 = .ok (.aload_n 0, 1) := by decide +kernel
theorem dX0_carryOutNote_14 : decode cX0_carryOutNote 14 = .ok (.getfield 16, 3) := by decide +kernel
theorem dX0_carryOutNote_17 : decode cX0_carryOutNote 17 = .ok (.iload_n 2, 1) := by decide +kernel
theorem dX0_carryOutNote_18 : decode cX0_carryOutNote 18 = .ok (.iload_n 3, 1) := by decide +kernel
theorem dX0_carryOutNote_19 : decode cX0_carryOutNote 19 = .ok (.iadd, 1) := by decide +kernel
theorem dX0_carryOutNote_20 : decode cX0_carryOutNote 20 = .ok (.iaload, 1) := by decide +kernel
theorem dX0_carryOutNote_21 : decode cX0_carryOutNote 21 = .ok (.istore 4, 2) := by decide +kernel
theorem dX0_carryOutNote_23 : decode cX0_carryOutNote 23 = .ok (.iload 4, 2) := by decide +kernel
theorem dX0_carryOutNote_25 : decode cX0_carryOutNote 25 = .ok (.invokestatic 156, 3) := by decide +kernel
theorem dX0_carryOutNote_28 : decode cX0_carryOutNote 28 = .ok (.ifCond .eq 27, 3) := by decide +kernel
theorem dX0_carryOutNote_31 : decode cX0_carryOutNote 31 = .ok (.aload_n 0, 1) := by decide +kernel
theorem dX0_carryOutNote_32 : decode cX0_carryOutNote 32 = .ok (.iload 4, 2) := by decide +kernel
theorem dX0_carryOutNote_34 : decode cX0_carryOutNote 34 = .ok (.invokestatic 159, 3) := by decide +kernel
theorem dX0_carryOutNote_37 : decode cX0_carryOutNote 37 = .ok (.iload 4, 2) := by decide +kernel
theorem dX0_carryOutNote_39 : decode cX0_carryOutNote 39 = .ok (.invokestatic 162, 3) := by decide +kernel
theorem dX0_carryOutNote_42 : decode cX0_carryOutNote 42 = .ok (.iload 4, 2) := by decide +kernel
theorem dX0_carryOutNote_44 : decode cX0_carryOutNote 44 = .ok (.invokestatic 165, 3) := by decide +kernel
theorem dX0_carryOutNote_47 : decode cX0_carryOutNote 47 = .ok (.invokevirtual 65, 3) := by decide +kernel
theorem dX0_carryOutNote_50 : decode cX0_carryOutNote 50 = .ok (.ifCond .ne 5, 3) := by decide +kernel
theorem dX0_carryOutNote_53 : decode cX0_carryOutNote 53 = .ok (.iconst 0, 1) := by decide +kernel
theorem dX0_carryOutNote_54 : decode cX0_carryOutNote 54 = .ok (.ireturn, 1) := by decide +kernel
theorem dX0_carryOutNote_55 : decode cX0_carryOutNote 55 = .ok (.iinc 3 1, 3) := by decide +kernel
theorem dX0_carryOutNote_58 : decode cX0_carryOutNote 58 = .ok (.goto (-51), 3) := by decide +kernel
theorem dX0_carryOutNote_61 : decode cX0_carryOutNote 61 = .ok (.aload_n 0, 1) := by decide +kernel
theorem dX0_carryOutNote_62 : decode cX0_carryOutNote 62 = .ok (.aload_n 0, 1) := by decide +kernel
theorem dX0_carryOutNote_63 : decode cX0_carryOutNote 63 = .ok (.getfield 16, 3) := by decide +kernel
theorem dX0_carryOutNote_66 : decode cX0_carryOutNote 66 = .ok (.iload_n 2, 1) := by decide +kernel
theorem dX0_carryOutNote_67 : decode cX0_carryOutNote 67 = .ok (.bipush 8, 2) := by decide +kernel
theorem dX0_carryOutNote_69 : decode cX0_carryOutNote 69 = .ok (.iadd, 1) := by decide +kernel
theorem dX0_carryOutNote_70 : decode cX0_carryOutNote 70 = .ok (.iconst 3, 1) := by decide +kernel
theorem dX0_carryOutNote_71 : decode cX0_carryOutNote 71 = .ok (.invokevirtual 152, 3) := by decide +kernel
theorem dX0_carryOutNote_74 : decode cX0_carryOutNote 74 = .ok (.ireturn, 1) := by decide +kernel
theorem dX0_lineFor_0 : decode cX0_lineFor 0 = .ok (.iload_n 1, 1) := by decide +kernel
theorem dX0_lineFor_1 : decode cX0_lineFor 1 = .ok (.iload_n 0, 1) := by decide +kernel
theorem dX0_lineFor_2 : decode cX0_lineFor 2 = .ok (.bipush 16, 2) := by decide +kernel
theorem dX0_lineFor_4 : decode cX0_lineFor 4 = .ok (.ishl, 1) := by decide +kernel
theorem dX0_lineFor_5 : decode cX0_lineFor 5 = .ok (.ior, 1) := by decide +kernel
theorem dX0_lineFor_6 : decode cX0_lineFor 6 = .ok (.iload_n 2, 1) := by decide +kernel
theorem dX0_lineFor_7 : decode cX0_lineFor 7 = .ok (.bipush 22, 2) := by decide +kernel
theorem dX0_lineFor_9 : decode cX0_lineFor 9 = .ok (.ishl, 1) := by decide +kernel
theorem dX0_lineFor_10 : decode cX0_lineFor 10 = .ok (.ior, 1) := by decide +kernel
theorem dX0_lineFor_11 : decode cX0_lineFor 11 = .ok (.ldc 168, 2) := by decide +kernel
theorem dX0_lineFor_13 : decode cX0_lineFor 13 = .ok (.ior, 1) := by decide +kernel
theorem dX0_lineFor_14 : decode cX0_lineFor 14 = .ok (.ireturn, 1) := by decide +kernel
theorem dX0_namesWord_0 : decode cX0_namesWord 0 = .ok (.iload_n 0, 1) := by decide +kernel
theorem dX0_namesWord_1 : decode cX0_namesWord 1 = .ok (.ldc 168, 2) := by decide +kernel
theorem dX0_namesWord_3 : decode cX0_namesWord 3 = .ok (.iand, 1) := by decide +kernel
theorem dX0_namesWord_4 : decode cX0_namesWord 4 = .ok (.ifCond .eq 17, 3) := by decide +kernel
theorem dX0_namesWord_7 : decode cX0_namesWord 7 = .ok (.iload_n 0, 1) := by decide +kernel
theorem dX0_namesWord_8 : decode cX0_namesWord 8 = .ok (.invokestatic 165, 3) := by decide +kernel
theorem dX0_namesWord_11 : decode cX0_namesWord 11 = .ok (.sipush 160, 3) := by decide +kernel
theorem dX0_namesWord_14 : decode cX0_namesWord 14 = .ok (.if_icmp .ge 7, 3) := by decide +kernel
theorem dX0_namesWord_17 : decode cX0_namesWord 17 = .ok (.iconst 1, 1) := by decide +kernel
theorem dX0_namesWord_18 : decode cX0_namesWord 18 = .ok (.goto 4, 3) := by decide +kernel
theorem dX0_namesWord_21 : decode cX0_namesWord 21 = .ok (.iconst 0, 1) := by decide +kernel
theorem dX0_namesWord_22 : decode cX0_namesWord 22 = .ok (.ireturn, 1) := by decide +kernel
theorem dX0_valueOfLine_0 : decode cX0_valueOfLine 0 = .ok (.iload_n 0, 1) := by decide +kernel
theorem dX0_valueOfLine_1 : decode cX0_valueOfLine 1 = .ok (.ldc 169, 2) := by decide +kernel
theorem dX0_valueOfLine_3 : decode cX0_valueOfLine 3 = .ok (.iand, 1) := by decide +kernel
theorem dX0_valueOfLine_4 : decode cX0_valueOfLine 4 = .ok (.ireturn, 1) := by decide +kernel
theorem dX0_keyOfLine_0 : decode cX0_keyOfLine 0 = .ok (.iload_n 0, 1) := by decide +kernel
theorem dX0_keyOfLine_1 : decode cX0_keyOfLine 1 = .ok (.bipush 16, 2) := by decide +kernel
theorem dX0_keyOfLine_3 : decode cX0_keyOfLine 3 = .ok (.iushr, 1) := by decide +kernel
theorem dX0_keyOfLine_4 : decode cX0_keyOfLine 4 = .ok (.bipush 63, 2) := by decide +kernel
theorem dX0_keyOfLine_6 : decode cX0_keyOfLine 6 = .ok (.iand, 1) := by decide +kernel
theorem dX0_keyOfLine_7 : decode cX0_keyOfLine 7 = .ok (.ireturn, 1) := by decide +kernel
theorem dX0_wordOfLine_0 : decode cX0_wordOfLine 0 = .ok (.iload_n 0, 1) := by decide +kernel
theorem dX0_wordOfLine_1 : decode cX0_wordOfLine 1 = .ok (.bipush 22, 2) := by decide +kernel
theorem dX0_wordOfLine_3 : decode cX0_wordOfLine 3 = .ok (.iushr, 1) := by decide +kernel
theorem dX0_wordOfLine_4 : decode cX0_wordOfLine 4 = .ok (.sipush 255, 3) := by decide +kernel
theorem dX0_wordOfLine_7 : decode cX0_wordOfLine 7 = .ok (.iand, 1) := by decide +kernel
theorem dX0_wordOfLine_8 : decode cX0_wordOfLine 8 = .ok (.ireturn, 1) := by decide +kernel
theorem dX0_writePut_0 : decode cX0_writePut 0 = .ok (.aload_n 0, 1) := by decide +kernel
theorem dX0_writePut_1 : decode cX0_writePut 1 = .ok (.aload_n 0, 1) := by decide +kernel
theorem dX0_writePut_2 : decode cX0_writePut 2 = .ok (.getfield 9, 3) := by decide +kernel
theorem dX0_writePut_5 : decode cX0_writePut 5 = .ok (.iload_n 3, 1) := by decide +kernel
theorem dX0_writePut_6 : decode cX0_writePut 6 = .ok (.aload_n 0, 1) := by decide +kernel
theorem dX0_writePut_7 : decode cX0_writePut 7 = .ok (.getfield 9, 3) := by decide +kernel
theorem dX0_writePut_10 : decode cX0_writePut 10 = .ok (.iload_n 3, 1) := by decide +kernel
theorem dX0_writePut_11 : decode cX0_writePut 11 = .ok (.iaload, 1) := by decide +kernel
theorem dX0_writePut_12 : decode cX0_writePut 12 = .ok (.iload_n 2, 1) := by decide +kernel
theorem dX0_writePut_13 : decode cX0_writePut 13 = .ok (.invokestatic 134, 3) := by decide +kernel
theorem dX0_writePut_16 : decode cX0_writePut 16 = .ok (.invokevirtual 152, 3) := by decide +kernel
theorem dX0_writePut_19 : decode cX0_writePut 19 = .ok (.ifCond .eq 23, 3) := by decide +kernel
theorem dX0_writePut_22 : decode cX0_writePut 22 = .ok (.aload_n 0, 1) := by decide +kernel
theorem dX0_writePut_23 : decode cX0_writePut 23 = .ok (.aload_n 0, 1) := by decide +kernel
theorem dX0_writePut_24 : decode cX0_writePut 24 = .ok (.getfield 13, 3) := by decide +kernel
theorem dX0_writePut_27 : decode cX0_writePut 27 = .ok (.iload_n 3, 1) := by decide +kernel
theorem dX0_writePut_28 : decode cX0_writePut 28 = .ok (.iload_n 1, 1) := by decide +kernel
theorem dX0_writePut_29 : decode cX0_writePut 29 = .ok (.invokestatic 137, 3) := by decide +kernel
theorem dX0_writePut_32 : decode cX0_writePut 32 = .ok (.invokevirtual 152, 3) := by decide +kernel
theorem dX0_writePut_35 : decode cX0_writePut 35 = .ok (.ifCond .eq 7, 3) := by decide +kernel
theorem dX0_writePut_38 : decode cX0_writePut 38 = .ok (.iconst 1, 1) := by decide +kernel
theorem dX0_writePut_39 : decode cX0_writePut 39 = .ok (.goto 4, 3) := by decide +kernel
theorem dX0_writePut_42 : decode cX0_writePut 42 = .ok (.iconst 0, 1) := by decide +kernel
theorem dX0_writePut_43 : decode cX0_writePut 43 = .ok (.ireturn, 1) := by decide +kernel
theorem dX0_write_0 : decode cX0_write 0 = .ok (.iload_n 3, 1) := by decide +kernel
theorem dX0_write_1 : decode cX0_write 1 = .ok (.aload_n 1, 1) := by decide +kernel
theorem dX0_write_2 : decode cX0_write 2 = .ok (.iload_n 2, 1) := by decide +kernel
theorem dX0_write_3 : decode cX0_write 3 = .ok (.iaload, 1) := by decide +kernel
theorem dX0_write_4 : decode cX0_write 4 = .ok (.iconst (-1), 1) := by decide +kernel
theorem dX0_write_5 : decode cX0_write 5 = .ok (.ixor, 1) := by decide +kernel
theorem dX0_write_6 : decode cX0_write 6 = .ok (.iand, 1) := by decide +kernel
theorem dX0_write_7 : decode cX0_write 7 = .ok (.istore 4, 2) := by decide +kernel
theorem dX0_write_9 : decode cX0_write 9 = .ok (.iload 4, 2) := by decide +kernel
theorem dX0_write_11 : decode cX0_write 11 = .ok (.ifCond .ne 5, 3) := by decide +kernel
theorem dX0_write_14 : decode cX0_write 14 = .ok (.iconst 1, 1) := by decide +kernel
theorem dX0_write_15 : decode cX0_write 15 = .ok (.ireturn, 1) := by decide +kernel
theorem dX0_write_16 : decode cX0_write 16 = .ok (.aload_n 0, 1) := by decide +kernel
theorem dX0_write_17 : decode cX0_write 17 = .ok (.getfield 30, 3) := by decide +kernel
theorem dX0_write_20 : decode cX0_write 20 = .ok (.ifCond .ne 10, 3) := by decide +kernel
theorem dX0_write_23 : decode cX0_write 23 = .ok (.aload_n 0, 1) := by decide +kernel
theorem dX0_write_24 : decode cX0_write 24 = .ok (.iconst 0, 1) := by decide +kernel
theorem dX0_write_25 : decode cX0_write 25 = .ok (.putfield 26, 3) := by decide +kernel
theorem dX0_write_28 : decode cX0_write 28 = .ok (.iconst 0, 1) := by decide +kernel
theorem dX0_write_29 : decode cX0_write 29 = .ok (.ireturn, 1) := by decide +kernel
theorem dX0_write_30 : decode cX0_write 30 = .ok (.aload_n 0, 1) := by decide +kernel
theorem dX0_write_31 : decode cX0_write 31 = .ok (.getfield 30, 3) := by decide +kernel
theorem dX0_write_34 : decode cX0_write 34 = .ok (.ifCond .le 13, 3) := by decide +kernel
theorem dX0_write_37 : decode cX0_write 37 = .ok (.aload_n 0, 1) := by decide +kernel
theorem dX0_write_38 : decode cX0_write 38 = .ok (.dup, 1) := by decide +kernel
theorem dX0_write_39 : decode cX0_write 39 = .ok (.getfield 30, 3) := by decide +kernel
theorem dX0_write_42 : decode cX0_write 42 = .ok (.iconst 1, 1) := by decide +kernel
theorem dX0_write_43 : decode cX0_write 43 = .ok (.isub, 1) := by decide +kernel
theorem dX0_write_44 : decode cX0_write 44 = .ok (.putfield 30, 3) := by decide +kernel
theorem dX0_write_47 : decode cX0_write 47 = .ok (.aload_n 1, 1) := by decide +kernel
theorem dX0_write_48 : decode cX0_write 48 = .ok (.iload_n 2, 1) := by decide +kernel
theorem dX0_write_49 : decode cX0_write 49 = .ok (.dup2, 1) := by decide +kernel
theorem dX0_write_50 : decode cX0_write 50 = .ok (.iaload, 1) := by decide +kernel
theorem dX0_write_51 : decode cX0_write 51 = .ok (.iload 4, 2) := by decide +kernel
theorem dX0_write_53 : decode cX0_write 53 = .ok (.ior, 1) := by decide +kernel
theorem dX0_write_54 : decode cX0_write 54 = .ok (.iastore, 1) := by decide +kernel
theorem dX0_write_55 : decode cX0_write 55 = .ok (.aload_n 0, 1) := by decide +kernel
theorem dX0_write_56 : decode cX0_write 56 = .ok (.dup, 1) := by decide +kernel
theorem dX0_write_57 : decode cX0_write 57 = .ok (.getfield 19, 3) := by decide +kernel
theorem dX0_write_60 : decode cX0_write 60 = .ok (.iload 4, 2) := by decide +kernel
theorem dX0_write_62 : decode cX0_write 62 = .ok (.invokestatic 123, 3) := by decide +kernel
theorem dX0_write_65 : decode cX0_write 65 = .ok (.iadd, 1) := by decide +kernel
theorem dX0_write_66 : decode cX0_write 66 = .ok (.putfield 19, 3) := by decide +kernel
theorem dX0_write_69 : decode cX0_write 69 = .ok (.aload_n 0, 1) := by decide +kernel
theorem dX0_write_70 : decode cX0_write 70 = .ok (.dup, 1) := by decide +kernel
theorem dX0_write_71 : decode cX0_write 71 = .ok (.getfield 23, 3) := by decide +kernel
theorem dX0_write_74 : decode cX0_write 74 = .ok (.iconst 1, 1) := by decide +kernel
theorem dX0_write_75 : decode cX0_write 75 = .ok (.iadd, 1) := by decide +kernel
theorem dX0_write_76 : decode cX0_write 76 = .ok (.putfield 23, 3) := by decide +kernel
theorem dX0_write_79 : decode cX0_write 79 = .ok (.iconst 1, 1) := by decide +kernel
theorem dX0_write_80 : decode cX0_write 80 = .ok (.ireturn, 1) := by decide +kernel
