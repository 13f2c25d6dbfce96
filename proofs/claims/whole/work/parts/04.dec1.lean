theorem d_PF_isWithin_0 : decode b_PF_isWithin 0 = .ok (.lload_n 0, 1) := by decide +kernel
theorem d_PF_isWithin_1 : decode b_PF_isWithin 1 = .ok (.lload_n 2, 1) := by decide +kernel
theorem d_PF_isWithin_2 : decode b_PF_isWithin 2 = .ok (.lcmp, 1) := by decide +kernel
theorem d_PF_isWithin_3 : decode b_PF_isWithin 3 = .ok (.ifCond .lt 14, 3) := by decide +kernel
theorem d_PF_isWithin_6 : decode b_PF_isWithin 6 = .ok (.lload_n 0, 1) := by decide +kernel
theorem d_PF_isWithin_7 : decode b_PF_isWithin 7 = .ok (.lload 4, 2) := by decide +kernel
theorem d_PF_isWithin_9 : decode b_PF_isWithin 9 = .ok (.lcmp, 1) := by decide +kernel
theorem d_PF_isWithin_10 : decode b_PF_isWithin 10 = .ok (.ifCond .gt 7, 3) := by decide +kernel
theorem d_PF_isWithin_13 : decode b_PF_isWithin 13 = .ok (.iconst 1, 1) := by decide +kernel
theorem d_PF_isWithin_14 : decode b_PF_isWithin 14 = .ok (.goto 4, 3) := by decide +kernel
theorem d_PF_isWithin_17 : decode b_PF_isWithin 17 = .ok (.iconst 0, 1) := by decide +kernel
theorem d_PF_isWithin_18 : decode b_PF_isWithin 18 = .ok (.ireturn, 1) := by decide +kernel
theorem d_PF_isPartLength_0 : decode b_PF_isPartLength 0 = .ok (.iload_n 0, 1) := by decide +kernel
theorem d_PF_isPartLength_1 : decode b_PF_isPartLength 1 = .ok (.i2l, 1) := by decide +kernel
theorem d_PF_isPartLength_2 : decode b_PF_isPartLength 2 = .ok (.lconst 1, 1) := by decide +kernel
theorem d_PF_isPartLength_3 : decode b_PF_isPartLength 3 = .ok (.ldc2_w 53, 3) := by decide +kernel
theorem d_PF_isPartLength_6 : decode b_PF_isPartLength 6 = .ok (.invokestatic 180, 3) := by decide +kernel
theorem d_PF_isPartLength_9 : decode b_PF_isPartLength 9 = .ok (.ireturn, 1) := by decide +kernel
theorem d_PF_isOrder_0 : decode b_PF_isOrder 0 = .ok (.iload_n 0, 1) := by decide +kernel
theorem d_PF_isOrder_1 : decode b_PF_isOrder 1 = .ok (.bipush 73, 2) := by decide +kernel
theorem d_PF_isOrder_3 : decode b_PF_isOrder 3 = .ok (.if_icmp .eq 9, 3) := by decide +kernel
theorem d_PF_isOrder_6 : decode b_PF_isOrder 6 = .ok (.iload_n 0, 1) := by decide +kernel
theorem d_PF_isOrder_7 : decode b_PF_isOrder 7 = .ok (.bipush 77, 2) := by decide +kernel
theorem d_PF_isOrder_9 : decode b_PF_isOrder 9 = .ok (.if_icmp .ne 7, 3) := by decide +kernel
theorem d_PF_isOrder_12 : decode b_PF_isOrder 12 = .ok (.iconst 1, 1) := by decide +kernel
theorem d_PF_isOrder_13 : decode b_PF_isOrder 13 = .ok (.goto 4, 3) := by decide +kernel
theorem d_PF_isOrder_16 : decode b_PF_isOrder 16 = .ok (.iconst 0, 1) := by decide +kernel
theorem d_PF_isOrder_17 : decode b_PF_isOrder 17 = .ok (.ireturn, 1) := by decide +kernel
theorem d_PF_isFineness_0 : decode b_PF_isFineness 0 = .ok (.iload_n 0, 1) := by decide +kernel
theorem d_PF_isFineness_1 : decode b_PF_isFineness 1 = .ok (.i2l, 1) := by decide +kernel
theorem d_PF_isFineness_2 : decode b_PF_isFineness 2 = .ok (.lconst 1, 1) := by decide +kernel
theorem d_PF_isFineness_3 : decode b_PF_isFineness 3 = .ok (.ldc2_w 184, 3) := by decide +kernel
theorem d_PF_isFineness_6 : decode b_PF_isFineness 6 = .ok (.invokestatic 180, 3) := by decide +kernel
theorem d_PF_isFineness_9 : decode b_PF_isFineness 9 = .ok (.ireturn, 1) := by decide +kernel
theorem d_PF_stripsOf_0 : decode b_PF_stripsOf 0 = .ok (.lload_n 2, 1) := by decide +kernel
theorem d_PF_stripsOf_1 : decode b_PF_stripsOf 1 = .ok (.lconst 1, 1) := by decide +kernel
theorem d_PF_stripsOf_2 : decode b_PF_stripsOf 2 = .ok (.lcmp, 1) := by decide +kernel
theorem d_PF_stripsOf_3 : decode b_PF_stripsOf 3 = .ok (.ifCond .ge 7, 3) := by decide +kernel
theorem d_PF_stripsOf_6 : decode b_PF_stripsOf 6 = .ok (.lconst 0, 1) := by decide +kernel
theorem d_PF_stripsOf_7 : decode b_PF_stripsOf 7 = .ok (.goto 10, 3) := by decide +kernel
theorem d_PF_stripsOf_10 : decode b_PF_stripsOf 10 = .ok (.lload_n 0, 1) := by decide +kernel
theorem d_PF_stripsOf_11 : decode b_PF_stripsOf 11 = .ok (.lload_n 2, 1) := by decide +kernel
theorem d_PF_stripsOf_12 : decode b_PF_stripsOf 12 = .ok (.ladd, 1) := by decide +kernel
theorem d_PF_stripsOf_13 : decode b_PF_stripsOf 13 = .ok (.lconst 1, 1) := by decide +kernel
theorem d_PF_stripsOf_14 : decode b_PF_stripsOf 14 = .ok (.lsub, 1) := by decide +kernel
theorem d_PF_stripsOf_15 : decode b_PF_stripsOf 15 = .ok (.lload_n 2, 1) := by decide +kernel
theorem d_PF_stripsOf_16 : decode b_PF_stripsOf 16 = .ok (.ldiv, 1) := by decide +kernel
theorem d_PF_stripsOf_17 : decode b_PF_stripsOf 17 = .ok (.lreturn, 1) := by decide +kernel
theorem d_PF_isSheet_0 : decode b_PF_isSheet 0 = .ok (.iload_n 0, 1) := by decide +kernel
theorem d_PF_isSheet_1 : decode b_PF_isSheet 1 = .ok (.i2l, 1) := by decide +kernel
theorem d_PF_isSheet_2 : decode b_PF_isSheet 2 = .ok (.lconst 1, 1) := by decide +kernel
theorem d_PF_isSheet_3 : decode b_PF_isSheet 3 = .ok (.ldc2_w 186, 3) := by decide +kernel
theorem d_PF_isSheet_6 : decode b_PF_isSheet 6 = .ok (.invokestatic 180, 3) := by decide +kernel
theorem d_PF_isSheet_9 : decode b_PF_isSheet 9 = .ok (.ifCond .eq 44, 3) := by decide +kernel
theorem d_PF_isSheet_12 : decode b_PF_isSheet 12 = .ok (.iload_n 1, 1) := by decide +kernel
theorem d_PF_isSheet_13 : decode b_PF_isSheet 13 = .ok (.i2l, 1) := by decide +kernel
theorem d_PF_isSheet_14 : decode b_PF_isSheet 14 = .ok (.lconst 1, 1) := by decide +kernel
theorem d_PF_isSheet_15 : decode b_PF_isSheet 15 = .ok (.ldc2_w 186, 3) := by decide +kernel
theorem d_PF_isSheet_18 : decode b_PF_isSheet 18 = .ok (.invokestatic 180, 3) := by decide +kernel
theorem d_PF_isSheet_21 : decode b_PF_isSheet 21 = .ok (.ifCond .eq 32, 3) := by decide +kernel
theorem d_PF_isSheet_24 : decode b_PF_isSheet 24 = .ok (.iload_n 2, 1) := by decide +kernel
theorem d_PF_isSheet_25 : decode b_PF_isSheet 25 = .ok (.i2l, 1) := by decide +kernel
theorem d_PF_isSheet_26 : decode b_PF_isSheet 26 = .ok (.lconst 1, 1) := by decide +kernel
theorem d_PF_isSheet_27 : decode b_PF_isSheet 27 = .ok (.iload_n 1, 1) := by decide +kernel
theorem d_PF_isSheet_28 : decode b_PF_isSheet 28 = .ok (.i2l, 1) := by decide +kernel
theorem d_PF_isSheet_29 : decode b_PF_isSheet 29 = .ok (.invokestatic 180, 3) := by decide +kernel
theorem d_PF_isSheet_32 : decode b_PF_isSheet 32 = .ok (.ifCond .eq 21, 3) := by decide +kernel
theorem d_PF_isSheet_35 : decode b_PF_isSheet 35 = .ok (.iload_n 1, 1) := by decide +kernel
theorem d_PF_isSheet_36 : decode b_PF_isSheet 36 = .ok (.i2l, 1) := by decide +kernel
theorem d_PF_isSheet_37 : decode b_PF_isSheet 37 = .ok (.iload_n 2, 1) := by decide +kernel
theorem d_PF_isSheet_38 : decode b_PF_isSheet 38 = .ok (.i2l, 1) := by decide +kernel
theorem d_PF_isSheet_39 : decode b_PF_isSheet 39 = .ok (.invokestatic 188, 3) := by decide +kernel
theorem d_PF_isSheet_42 : decode b_PF_isSheet 42 = .ok (.ldc2_w 192, 3) := by decide +kernel
theorem d_PF_isSheet_45 : decode b_PF_isSheet 45 = .ok (.lcmp, 1) := by decide +kernel
theorem d_PF_isSheet_46 : decode b_PF_isSheet 46 = .ok (.ifCond .gt 7, 3) := by decide +kernel
theorem d_PF_isSheet_49 : decode b_PF_isSheet 49 = .ok (.iconst 1, 1) := by decide +kernel
theorem d_PF_isSheet_50 : decode b_PF_isSheet 50 = .ok (.goto 4, 3) := by decide +kernel
theorem d_PF_isSheet_53 : decode b_PF_isSheet 53 = .ok (.iconst 0, 1) := by decide +kernel
theorem d_PF_isSheet_54 : decode b_PF_isSheet 54 = .ok (.ireturn, 1) := by decide +kernel
theorem d_Row_at_0 : decode b_Row_at 0 = .ok (.lload_n 1, 1) := by decide +kernel
theorem d_Row_at_1 : decode b_Row_at 1 = .ok (.lconst 0, 1) := by decide +kernel
theorem d_Row_at_2 : decode b_Row_at 2 = .ok (.lcmp, 1) := by decide +kernel
theorem d_Row_at_3 : decode b_Row_at 3 = .ok (.ifCond .lt 38, 3) := by decide +kernel
theorem d_Row_at_6 : decode b_Row_at 6 = .ok (.lload_n 1, 1) := by decide +kernel
theorem d_Row_at_7 : decode b_Row_at 7 = .ok (.aload_n 0, 1) := by decide +kernel
theorem d_Row_at_8 : decode b_Row_at 8 = .ok (.getfield 15, 3) := by decide +kernel
theorem d_Row_at_11 : decode b_Row_at 11 = .ok (.i2l, 1) := by decide +kernel
theorem d_Row_at_12 : decode b_Row_at 12 = .ok (.lcmp, 1) := by decide +kernel
theorem d_Row_at_13 : decode b_Row_at 13 = .ok (.ifCond .ge 28, 3) := by decide +kernel
theorem d_Row_at_16 : decode b_Row_at 16 = .ok (.lload_n 1, 1) := by decide +kernel
theorem d_Row_at_17 : decode b_Row_at 17 = .ok (.aload_n 0, 1) := by decide +kernel
theorem d_Row_at_18 : decode b_Row_at 18 = .ok (.getfield 11, 3) := by decide +kernel
theorem d_Row_at_21 : decode b_Row_at 21 = .ok (.arraylength, 1) := by decide +kernel
theorem d_Row_at_22 : decode b_Row_at 22 = .ok (.i2l, 1) := by decide +kernel
theorem d_Row_at_23 : decode b_Row_at 23 = .ok (.lcmp, 1) := by decide +kernel
theorem d_Row_at_24 : decode b_Row_at 24 = .ok (.ifCond .ge 17, 3) := by decide +kernel
theorem d_Row_at_27 : decode b_Row_at 27 = .ok (.aload_n 0, 1) := by decide +kernel
theorem d_Row_at_28 : decode b_Row_at 28 = .ok (.getfield 11, 3) := by decide +kernel
theorem d_Row_at_31 : decode b_Row_at 31 = .ok (.lload_n 1, 1) := by decide +kernel
theorem d_Row_at_32 : decode b_Row_at 32 = .ok (.l2i, 1) := by decide +kernel
theorem d_Row_at_33 : decode b_Row_at 33 = .ok (.baload, 1) := by decide +kernel
theorem d_Row_at_34 : decode b_Row_at 34 = .ok (.sipush 255, 3) := by decide +kernel
theorem d_Row_at_37 : decode b_Row_at 37 = .ok (.iand, 1) := by decide +kernel
theorem d_Row_at_38 : decode b_Row_at 38 = .ok (.goto 4, 3) := by decide +kernel
theorem d_Row_at_41 : decode b_Row_at 41 = .ok (.iconst 0, 1) := by decide +kernel
theorem d_Row_at_42 : decode b_Row_at 42 = .ok (.ireturn, 1) := by decide +kernel
theorem d_Row_shiftOf_0 : decode b_Row_shiftOf 0 = .ok (.bipush 8, 2) := by decide +kernel
theorem d_Row_shiftOf_2 : decode b_Row_shiftOf 2 = .ok (.iload_n 2, 1) := by decide +kernel
theorem d_Row_shiftOf_3 : decode b_Row_shiftOf 3 = .ok (.bipush 77, 2) := by decide +kernel
theorem d_Row_shiftOf_5 : decode b_Row_shiftOf 5 = .ok (.if_icmp .ne 11, 3) := by decide +kernel
theorem d_Row_shiftOf_8 : decode b_Row_shiftOf 8 = .ok (.iload_n 1, 1) := by decide +kernel
theorem d_Row_shiftOf_9 : decode b_Row_shiftOf 9 = .ok (.iconst 1, 1) := by decide +kernel
theorem d_Row_shiftOf_10 : decode b_Row_shiftOf 10 = .ok (.isub, 1) := by decide +kernel
theorem d_Row_shiftOf_11 : decode b_Row_shiftOf 11 = .ok (.iload_n 0, 1) := by decide +kernel
theorem d_Row_shiftOf_12 : decode b_Row_shiftOf 12 = .ok (.isub, 1) := by decide +kernel
theorem d_Row_shiftOf_13 : decode b_Row_shiftOf 13 = .ok (.goto 4, 3) := by decide +kernel
theorem d_Row_shiftOf_16 : decode b_Row_shiftOf 16 = .ok (.iload_n 0, 1) := by decide +kernel
theorem d_Row_shiftOf_17 : decode b_Row_shiftOf 17 = .ok (.imul, 1) := by decide +kernel
theorem d_Row_shiftOf_18 : decode b_Row_shiftOf 18 = .ok (.ireturn, 1) := by decide +kernel
theorem d_Row_replace_0 : decode b_Row_replace 0 = .ok (.iload_n 1, 1) := by decide +kernel
theorem d_Row_replace_1 : decode b_Row_replace 1 = .ok (.ifCond .lt 28, 3) := by decide +kernel
theorem d_Row_replace_4 : decode b_Row_replace 4 = .ok (.iload_n 1, 1) := by decide +kernel
theorem d_Row_replace_5 : decode b_Row_replace 5 = .ok (.aload_n 0, 1) := by decide +kernel
theorem d_Row_replace_6 : decode b_Row_replace 6 = .ok (.getfield 15, 3) := by decide +kernel
theorem d_Row_replace_9 : decode b_Row_replace 9 = .ok (.if_icmp .ge 20, 3) := by decide +kernel
theorem d_Row_replace_12 : decode b_Row_replace 12 = .ok (.iload_n 1, 1) := by decide +kernel
theorem d_Row_replace_13 : decode b_Row_replace 13 = .ok (.aload_n 0, 1) := by decide +kernel
theorem d_Row_replace_14 : decode b_Row_replace 14 = .ok (.getfield 11, 3) := by decide +kernel
theorem d_Row_replace_17 : decode b_Row_replace 17 = .ok (.arraylength, 1) := by decide +kernel
theorem d_Row_replace_18 : decode b_Row_replace 18 = .ok (.if_icmp .ge 11, 3) := by decide +kernel
theorem d_Row_replace_21 : decode b_Row_replace 21 = .ok (.aload_n 0, 1) := by decide +kernel
theorem d_Row_replace_22 : decode b_Row_replace 22 = .ok (.getfield 11, 3) := by decide +kernel
theorem d_Row_replace_25 : decode b_Row_replace 25 = .ok (.iload_n 1, 1) := by decide +kernel
theorem d_Row_replace_26 : decode b_Row_replace 26 = .ok (.iload_n 2, 1) := by decide +kernel
theorem d_Row_replace_27 : decode b_Row_replace 27 = .ok (.i2b, 1) := by decide +kernel
theorem d_Row_replace_28 : decode b_Row_replace 28 = .ok (.bastore, 1) := by decide +kernel
theorem d_Row_replace_29 : decode b_Row_replace 29 = .ok (.return_, 1) := by decide +kernel
theorem d_Row_add_0 : decode b_Row_add 0 = .ok (.aload_n 0, 1) := by decide +kernel
theorem d_Row_add_1 : decode b_Row_add 1 = .ok (.getfield 15, 3) := by decide +kernel
theorem d_Row_add_4 : decode b_Row_add 4 = .ok (.aload_n 0, 1) := by decide +kernel
theorem d_Row_add_5 : decode b_Row_add 5 = .ok (.getfield 11, 3) := by decide +kernel
theorem d_Row_add_8 : decode b_Row_add 8 = .ok (.arraylength, 1) := by decide +kernel
theorem d_Row_add_9 : decode b_Row_add 9 = .ok (.if_icmp .lt 34, 3) := by decide +kernel
theorem d_Row_add_12 : decode b_Row_add 12 = .ok (.aload_n 0, 1) := by decide +kernel
theorem d_Row_add_13 : decode b_Row_add 13 = .ok (.getfield 15, 3) := by decide +kernel
theorem d_Row_add_16 : decode b_Row_add 16 = .ok (.ldc 19, 2) := by decide +kernel
theorem d_Row_add_18 : decode b_Row_add 18 = .ok (.if_icmp .ge 25, 3) := by decide +kernel
theorem d_Row_add_21 : decode b_Row_add 21 = .ok (.aload_n 0, 1) := by decide +kernel
theorem d_Row_add_22 : decode b_Row_add 22 = .ok (.aload_n 0, 1) := by decide +kernel
theorem d_Row_add_23 : decode b_Row_add 23 = .ok (.getfield 11, 3) := by decide +kernel
theorem d_Row_add_26 : decode b_Row_add 26 = .ok (.iconst 2, 1) := by decide +kernel
theorem d_Row_add_27 : decode b_Row_add 27 = .ok (.aload_n 0, 1) := by decide +kernel
theorem d_Row_add_28 : decode b_Row_add 28 = .ok (.getfield 15, 3) := by decide +kernel
theorem d_Row_add_31 : decode b_Row_add 31 = .ok (.imul, 1) := by decide +kernel
theorem d_Row_add_32 : decode b_Row_add 32 = .ok (.ldc 19, 2) := by decide +kernel
theorem d_Row_add_34 : decode b_Row_add 34 = .ok (.invokestatic 20, 3) := by decide +kernel
theorem d_Row_add_37 : decode b_Row_add 37 = .ok (.invokestatic 26, 3) := by decide +kernel
theorem d_Row_add_40 : decode b_Row_add 40 = .ok (.putfield 11, 3) := by decide +kernel
theorem d_Row_add_43 : decode b_Row_add 43 = .ok (.aload_n 0, 1) := by decide +kernel
theorem d_Row_add_44 : decode b_Row_add 44 = .ok (.getfield 15, 3) := by decide +kernel
theorem d_Row_add_47 : decode b_Row_add 47 = .ok (.ifCond .lt 36, 3) := by decide +kernel
theorem d_Row_add_50 : decode b_Row_add 50 = .ok (.aload_n 0, 1) := by decide +kernel
theorem d_Row_add_51 : decode b_Row_add 51 = .ok (.getfield 15, 3) := by decide +kernel
theorem d_Row_add_54 : decode b_Row_add 54 = .ok (.aload_n 0, 1) := by decide +kernel
theorem d_Row_add_55 : decode b_Row_add 55 = .ok (.getfield 11, 3) := by decide +kernel
theorem d_Row_add_58 : decode b_Row_add 58 = .ok (.arraylength, 1) := by decide +kernel
theorem d_Row_add_59 : decode b_Row_add 59 = .ok (.if_icmp .ge 24, 3) := by decide +kernel
theorem d_Row_add_62 : decode b_Row_add 62 = .ok (.aload_n 0, 1) := by decide +kernel
theorem d_Row_add_63 : decode b_Row_add 63 = .ok (.getfield 11, 3) := by decide +kernel
theorem d_Row_add_66 : decode b_Row_add 66 = .ok (.aload_n 0, 1) := by decide +kernel
theorem d_Row_add_67 : decode b_Row_add 67 = .ok (.getfield 15, 3) := by decide +kernel
theorem d_Row_add_70 : decode b_Row_add 70 = .ok (.iload_n 1, 1) := by decide +kernel
theorem d_Row_add_71 : decode b_Row_add 71 = .ok (.i2b, 1) := by decide +kernel
theorem d_Row_add_72 : decode b_Row_add 72 = .ok (.bastore, 1) := by decide +kernel
theorem d_Row_add_73 : decode b_Row_add 73 = .ok (.aload_n 0, 1) := by decide +kernel
theorem d_Row_add_74 : decode b_Row_add 74 = .ok (.dup, 1) := by decide +kernel
theorem d_Row_add_75 : decode b_Row_add 75 = .ok (.getfield 15, 3) := by decide +kernel
theorem d_Row_add_78 : decode b_Row_add 78 = .ok (.iconst 1, 1) := by decide +kernel
theorem d_Row_add_79 : decode b_Row_add 79 = .ok (.iadd, 1) := by decide +kernel
theorem d_Row_add_80 : decode b_Row_add 80 = .ok (.putfield 15, 3) := by decide +kernel
theorem d_Row_add_83 : decode b_Row_add 83 = .ok (.return_, 1) := by decide +kernel
theorem d_Row_number_0 : decode b_Row_number 0 = .ok (.lconst 0, 1) := by decide +kernel
theorem d_Row_number_1 : decode b_Row_number 1 = .ok (.lstore 5, 2) := by decide +kernel
theorem d_Row_number_3 : decode b_Row_number 3 = .ok (.iconst 0, 1) := by decide +kernel
theorem d_Row_number_4 : decode b_Row_number 4 = .ok (.istore 7, 2) := by decide +kernel
theorem d_Row_number_6 : decode b_Row_number 6 = .ok (.iload 7, 2) := by decide +kernel
theorem d_Row_number_8 : decode b_Row_number 8 = .ok (.iload_n 3, 1) := by decide +kernel
theorem d_Row_number_9 : decode b_Row_number 9 = .ok (.if_icmp .ge 33, 3) := by decide +kernel
theorem d_Row_number_12 : decode b_Row_number 12 = .ok (.lload 5, 2) := by decide +kernel
theorem d_Row_number_14 : decode b_Row_number 14 = .ok (.aload_n 0, 1) := by decide +kernel
theorem d_Row_number_15 : decode b_Row_number 15 = .ok (.lload_n 1, 1) := by decide +kernel
theorem d_Row_number_16 : decode b_Row_number 16 = .ok (.iload 7, 2) := by decide +kernel
theorem d_Row_number_18 : decode b_Row_number 18 = .ok (.i2l, 1) := by decide +kernel
theorem d_Row_number_19 : decode b_Row_number 19 = .ok (.ladd, 1) := by decide +kernel
theorem d_Row_number_20 : decode b_Row_number 20 = .ok (.invokevirtual 32, 3) := by decide +kernel
theorem d_Row_number_23 : decode b_Row_number 23 = .ok (.i2l, 1) := by decide +kernel
theorem d_Row_number_24 : decode b_Row_number 24 = .ok (.iload 7, 2) := by decide +kernel
theorem d_Row_number_26 : decode b_Row_number 26 = .ok (.iload_n 3, 1) := by decide +kernel
theorem d_Row_number_27 : decode b_Row_number 27 = .ok (.iload 4, 2) := by decide +kernel
theorem d_Row_number_29 : decode b_Row_number 29 = .ok (.invokestatic 36, 3) := by decide +kernel
theorem d_Row_number_32 : decode b_Row_number 32 = .ok (.lshl, 1) := by decide +kernel
theorem d_Row_number_33 : decode b_Row_number 33 = .ok (.lor, 1) := by decide +kernel
theorem d_Row_number_34 : decode b_Row_number 34 = .ok (.lstore 5, 2) := by decide +kernel
theorem d_Row_number_36 : decode b_Row_number 36 = .ok (.iinc 7 1, 3) := by decide +kernel
theorem d_Row_number_39 : decode b_Row_number 39 = .ok (.goto (-33), 3) := by decide +kernel
theorem d_Row_number_42 : decode b_Row_number 42 = .ok (.lload 5, 2) := by decide +kernel
theorem d_Row_number_44 : decode b_Row_number 44 = .ok (.lreturn, 1) := by decide +kernel
theorem d_Row_append_0 : decode b_Row_append 0 = .ok (.iconst 0, 1) := by decide +kernel
theorem d_Row_append_1 : decode b_Row_append 1 = .ok (.istore 5, 2) := by decide +kernel
theorem d_Row_append_3 : decode b_Row_append 3 = .ok (.iload 5, 2) := by decide +kernel
theorem d_Row_append_5 : decode b_Row_append 5 = .ok (.iload_n 3, 1) := by decide +kernel
theorem d_Row_append_6 : decode b_Row_append 6 = .ok (.if_icmp .ge 24, 3) := by decide +kernel
theorem d_Row_append_9 : decode b_Row_append 9 = .ok (.aload_n 0, 1) := by decide +kernel
theorem d_Row_append_10 : decode b_Row_append 10 = .ok (.lload_n 1, 1) := by decide +kernel
theorem d_Row_append_11 : decode b_Row_append 11 = .ok (.iload 5, 2) := by decide +kernel
theorem d_Row_append_13 : decode b_Row_append 13 = .ok (.iload_n 3, 1) := by decide +kernel
theorem d_Row_append_14 : decode b_Row_append 14 = .ok (.iload 4, 2) := by decide +kernel
theorem d_Row_append_16 : decode b_Row_append 16 = .ok (.invokestatic 36, 3) := by decide +kernel
theorem d_Row_append_19 : decode b_Row_append 19 = .ok (.lshr, 1) := by decide +kernel
theorem d_Row_append_20 : decode b_Row_append 20 = .ok (.l2i, 1) := by decide +kernel
theorem d_Row_append_21 : decode b_Row_append 21 = .ok (.invokevirtual 40, 3) := by decide +kernel
theorem d_Row_append_24 : decode b_Row_append 24 = .ok (.iinc 5 1, 3) := by decide +kernel
theorem d_Row_append_27 : decode b_Row_append 27 = .ok (.goto (-24), 3) := by decide +kernel
theorem d_Row_append_30 : decode b_Row_append 30 = .ok (.return_, 1) := by decide +kernel
theorem d_Row_replaceLong_0 : decode b_Row_replaceLong 0 = .ok (.iconst 0, 1) := by decide +kernel
theorem d_Row_replaceLong_1 : decode b_Row_replaceLong 1 = .ok (.istore 5, 2) := by decide +kernel
theorem d_Row_replaceLong_3 : decode b_Row_replaceLong 3 = .ok (.iload 5, 2) := by decide +kernel
theorem d_Row_replaceLong_5 : decode b_Row_replaceLong 5 = .ok (.iconst 4, 1) := by decide +kernel
theorem d_Row_replaceLong_6 : decode b_Row_replaceLong 6 = .ok (.if_icmp .ge 28, 3) := by decide +kernel
theorem d_Row_replaceLong_9 : decode b_Row_replaceLong 9 = .ok (.aload_n 0, 1) := by decide +kernel
theorem d_Row_replaceLong_10 : decode b_Row_replaceLong 10 = .ok (.iload_n 1, 1) := by decide +kernel
theorem d_Row_replaceLong_11 : decode b_Row_replaceLong 11 = .ok (.iload 5, 2) := by decide +kernel
theorem d_Row_replaceLong_13 : decode b_Row_replaceLong 13 = .ok (.iadd, 1) := by decide +kernel
theorem d_Row_replaceLong_14 : decode b_Row_replaceLong 14 = .ok (.lload_n 2, 1) := by decide +kernel
theorem d_Row_replaceLong_15 : decode b_Row_replaceLong 15 = .ok (.iload 5, 2) := by decide +kernel
theorem d_Row_replaceLong_17 : decode b_Row_replaceLong 17 = .ok (.iconst 4, 1) := by decide +kernel
theorem d_Row_replaceLong_18 : decode b_Row_replaceLong 18 = .ok (.iload 4, 2) := by decide +kernel
theorem d_Row_replaceLong_20 : decode b_Row_replaceLong 20 = .ok (.invokestatic 36, 3) := by decide +kernel
theorem d_Row_replaceLong_23 : decode b_Row_replaceLong 23 = .ok (.lshr, 1) := by decide +kernel
theorem d_Row_replaceLong_24 : decode b_Row_replaceLong 24 = .ok (.l2i, 1) := by decide +kernel
theorem d_Row_replaceLong_25 : decode b_Row_replaceLong 25 = .ok (.invokevirtual 44, 3) := by decide +kernel
theorem d_Row_replaceLong_28 : decode b_Row_replaceLong 28 = .ok (.iinc 5 1, 3) := by decide +kernel
theorem d_Row_replaceLong_31 : decode b_Row_replaceLong 31 = .ok (.goto (-28), 3) := by decide +kernel
theorem d_Row_replaceLong_34 : decode b_Row_replaceLong 34 = .ok (.return_, 1) := by decide +kernel
theorem d_Row_makeEven_0 : decode b_Row_makeEven 0 = .ok (.aload_n 0, 1) := by decide +kernel
theorem d_Row_makeEven_1 : decode b_Row_makeEven 1 = .ok (.getfield 15, 3) := by decide +kernel
theorem d_Row_makeEven_4 : decode b_Row_makeEven 4 = .ok (.iconst 2, 1) := by decide +kernel
theorem d_Row_makeEven_5 : decode b_Row_makeEven 5 = .ok (.irem, 1) := by decide +kernel
theorem d_Row_makeEven_6 : decode b_Row_makeEven 6 = .ok (.ifCond .eq 8, 3) := by decide +kernel
theorem d_Row_makeEven_9 : decode b_Row_makeEven 9 = .ok (.aload_n 0, 1) := by decide +kernel
theorem d_Row_makeEven_10 : decode b_Row_makeEven 10 = .ok (.iconst 0, 1) := by decide +kernel
theorem d_Row_makeEven_11 : decode b_Row_makeEven 11 = .ok (.invokevirtual 40, 3) := by decide +kernel
theorem d_Row_makeEven_14 : decode b_Row_makeEven 14 = .ok (.return_, 1) := by decide +kernel
theorem d_St_get_0 : decode b_St_get 0 = .ok (.iconst 2, 1) := by decide +kernel
theorem d_St_get_1 : decode b_St_get 1 = .ok (.iload_n 1, 1) := by decide +kernel
theorem d_St_get_2 : decode b_St_get 2 = .ok (.imul, 1) := by decide +kernel
theorem d_St_get_3 : decode b_St_get 3 = .ok (.iload_n 2, 1) := by decide +kernel
theorem d_St_get_4 : decode b_St_get 4 = .ok (.iadd, 1) := by decide +kernel
theorem d_St_get_5 : decode b_St_get 5 = .ok (.istore_n 3, 1) := by decide +kernel
theorem d_St_get_6 : decode b_St_get 6 = .ok (.iload_n 3, 1) := by decide +kernel
theorem d_St_get_7 : decode b_St_get 7 = .ok (.ifCond .lt 21, 3) := by decide +kernel
theorem d_St_get_10 : decode b_St_get 10 = .ok (.iload_n 3, 1) := by decide +kernel
theorem d_St_get_11 : decode b_St_get 11 = .ok (.aload_n 0, 1) := by decide +kernel
theorem d_St_get_12 : decode b_St_get 12 = .ok (.getfield 9, 3) := by decide +kernel
theorem d_St_get_15 : decode b_St_get 15 = .ok (.arraylength, 1) := by decide +kernel
theorem d_St_get_16 : decode b_St_get 16 = .ok (.if_icmp .ge 12, 3) := by decide +kernel
theorem d_St_get_19 : decode b_St_get 19 = .ok (.aload_n 0, 1) := by decide +kernel
theorem d_St_get_20 : decode b_St_get 20 = .ok (.getfield 9, 3) := by decide +kernel
theorem d_St_get_23 : decode b_St_get 23 = .ok (.iload_n 3, 1) := by decide +kernel
theorem d_St_get_24 : decode b_St_get 24 = .ok (.iaload, 1) := by decide +kernel
theorem d_St_get_25 : decode b_St_get 25 = .ok (.goto 4, 3) := by decide +kernel
theorem d_St_get_28 : decode b_St_get 28 = .ok (.iconst 0, 1) := by decide +kernel
theorem d_St_get_29 : decode b_St_get 29 = .ok (.ireturn, 1) := by decide +kernel
theorem d_St_add_0 : decode b_St_add 0 = .ok (.iconst 2, 1) := by decide +kernel
theorem d_St_add_1 : decode b_St_add 1 = .ok (.aload_n 0, 1) := by decide +kernel
theorem d_St_add_2 : decode b_St_add 2 = .ok (.getfield 17, 3) := by decide +kernel
theorem d_St_add_5 : decode b_St_add 5 = .ok (.imul, 1) := by decide +kernel
theorem d_St_add_6 : decode b_St_add 6 = .ok (.aload_n 0, 1) := by decide +kernel
theorem d_St_add_7 : decode b_St_add 7 = .ok (.getfield 9, 3) := by decide +kernel
theorem d_St_add_10 : decode b_St_add 10 = .ok (.arraylength, 1) := by decide +kernel
theorem d_St_add_11 : decode b_St_add 11 = .ok (.if_icmp .lt 40, 3) := by decide +kernel
theorem d_St_add_14 : decode b_St_add 14 = .ok (.aload_n 0, 1) := by decide +kernel
theorem d_St_add_15 : decode b_St_add 15 = .ok (.getfield 17, 3) := by decide +kernel
theorem d_St_add_18 : decode b_St_add 18 = .ok (.aload_n 0, 1) := by decide +kernel
theorem d_St_add_19 : decode b_St_add 19 = .ok (.getfield 13, 3) := by decide +kernel
theorem d_St_add_22 : decode b_St_add 22 = .ok (.if_icmp .ge 29, 3) := by decide +kernel
theorem d_St_add_25 : decode b_St_add 25 = .ok (.aload_n 0, 1) := by decide +kernel
theorem d_St_add_26 : decode b_St_add 26 = .ok (.aload_n 0, 1) := by decide +kernel
theorem d_St_add_27 : decode b_St_add 27 = .ok (.getfield 9, 3) := by decide +kernel
theorem d_St_add_30 : decode b_St_add 30 = .ok (.iconst 2, 1) := by decide +kernel
theorem d_St_add_31 : decode b_St_add 31 = .ok (.iconst 2, 1) := by decide +kernel
theorem d_St_add_32 : decode b_St_add 32 = .ok (.aload_n 0, 1) := by decide +kernel
theorem d_St_add_33 : decode b_St_add 33 = .ok (.getfield 17, 3) := by decide +kernel
theorem d_St_add_36 : decode b_St_add 36 = .ok (.imul, 1) := by decide +kernel
theorem d_St_add_37 : decode b_St_add 37 = .ok (.aload_n 0, 1) := by decide +kernel
theorem d_St_add_38 : decode b_St_add 38 = .ok (.getfield 13, 3) := by decide +kernel
theorem d_St_add_41 : decode b_St_add 41 = .ok (.invokestatic 20, 3) := by decide +kernel
theorem d_St_add_44 : decode b_St_add 44 = .ok (.imul, 1) := by decide +kernel
theorem d_St_add_45 : decode b_St_add 45 = .ok (.invokestatic 26, 3) := by decide +kernel
theorem d_St_add_48 : decode b_St_add 48 = .ok (.putfield 9, 3) := by decide +kernel
theorem d_St_add_51 : decode b_St_add 51 = .ok (.iconst 2, 1) := by decide +kernel
theorem d_St_add_52 : decode b_St_add 52 = .ok (.aload_n 0, 1) := by decide +kernel
theorem d_St_add_53 : decode b_St_add 53 = .ok (.getfield 17, 3) := by decide +kernel
theorem d_St_add_56 : decode b_St_add 56 = .ok (.imul, 1) := by decide +kernel
theorem d_St_add_57 : decode b_St_add 57 = .ok (.istore_n 3, 1) := by decide +kernel
theorem d_St_add_58 : decode b_St_add 58 = .ok (.iload_n 3, 1) := by decide +kernel
theorem d_St_add_59 : decode b_St_add 59 = .ok (.ifCond .lt 40, 3) := by decide +kernel
theorem d_St_add_62 : decode b_St_add 62 = .ok (.iload_n 3, 1) := by decide +kernel
theorem d_St_add_63 : decode b_St_add 63 = .ok (.iconst 1, 1) := by decide +kernel
theorem d_St_add_64 : decode b_St_add 64 = .ok (.iadd, 1) := by decide +kernel
theorem d_St_add_65 : decode b_St_add 65 = .ok (.aload_n 0, 1) := by decide +kernel
theorem d_St_add_66 : decode b_St_add 66 = .ok (.getfield 9, 3) := by decide +kernel
theorem d_St_add_69 : decode b_St_add 69 = .ok (.arraylength, 1) := by decide +kernel
theorem d_St_add_70 : decode b_St_add 70 = .ok (.if_icmp .ge 29, 3) := by decide +kernel
theorem d_St_add_73 : decode b_St_add 73 = .ok (.aload_n 0, 1) := by decide +kernel
theorem d_St_add_74 : decode b_St_add 74 = .ok (.getfield 9, 3) := by decide +kernel
theorem d_St_add_77 : decode b_St_add 77 = .ok (.iload_n 3, 1) := by decide +kernel
theorem d_St_add_78 : decode b_St_add 78 = .ok (.iload_n 1, 1) := by decide +kernel
theorem d_St_add_79 : decode b_St_add 79 = .ok (.iastore, 1) := by decide +kernel
theorem d_St_add_80 : decode b_St_add 80 = .ok (.aload_n 0, 1) := by decide +kernel
theorem d_St_add_81 : decode b_St_add 81 = .ok (.getfield 9, 3) := by decide +kernel
theorem d_St_add_84 : decode b_St_add 84 = .ok (.iload_n 3, 1) := by decide +kernel
theorem d_St_add_85 : decode b_St_add 85 = .ok (.iconst 1, 1) := by decide +kernel
theorem d_St_add_86 : decode b_St_add 86 = .ok (.iadd, 1) := by decide +kernel
theorem d_St_add_87 : decode b_St_add 87 = .ok (.iload_n 2, 1) := by decide +kernel
theorem d_St_add_88 : decode b_St_add 88 = .ok (.iastore, 1) := by decide +kernel
theorem d_St_add_89 : decode b_St_add 89 = .ok (.aload_n 0, 1) := by decide +kernel
theorem d_St_add_90 : decode b_St_add 90 = .ok (.dup, 1) := by decide +kernel
theorem d_St_add_91 : decode b_St_add 91 = .ok (.getfield 17, 3) := by decide +kernel
theorem d_St_add_94 : decode b_St_add 94 = .ok (.iconst 1, 1) := by decide +kernel
theorem d_St_add_95 : decode b_St_add 95 = .ok (.iadd, 1) := by decide +kernel
theorem d_St_add_96 : decode b_St_add 96 = .ok (.putfield 17, 3) := by decide +kernel
theorem d_St_add_99 : decode b_St_add 99 = .ok (.return_, 1) := by decide +kernel
theorem d_Mk_addShort_0 : decode b_Mk_addShort 0 = .ok (.aload_n 0, 1) := by decide +kernel
theorem d_Mk_addShort_1 : decode b_Mk_addShort 1 = .ok (.getfield 20, 3) := by decide +kernel
theorem d_Mk_addShort_4 : decode b_Mk_addShort 4 = .ok (.iload_n 1, 1) := by decide +kernel
theorem d_Mk_addShort_5 : decode b_Mk_addShort 5 = .ok (.i2l, 1) := by decide +kernel
theorem d_Mk_addShort_6 : decode b_Mk_addShort 6 = .ok (.iconst 2, 1) := by decide +kernel
theorem d_Mk_addShort_7 : decode b_Mk_addShort 7 = .ok (.aload_n 0, 1) := by decide +kernel
theorem d_Mk_addShort_8 : decode b_Mk_addShort 8 = .ok (.getfield 28, 3) := by decide +kernel
theorem d_Mk_addShort_11 : decode b_Mk_addShort 11 = .ok (.invokevirtual 46, 3) := by decide +kernel
theorem d_Mk_addShort_14 : decode b_Mk_addShort 14 = .ok (.return_, 1) := by decide +kernel
theorem d_Mk_addLong_0 : decode b_Mk_addLong 0 = .ok (.aload_n 0, 1) := by decide +kernel
theorem d_Mk_addLong_1 : decode b_Mk_addLong 1 = .ok (.getfield 20, 3) := by decide +kernel
theorem d_Mk_addLong_4 : decode b_Mk_addLong 4 = .ok (.iload_n 1, 1) := by decide +kernel
theorem d_Mk_addLong_5 : decode b_Mk_addLong 5 = .ok (.i2l, 1) := by decide +kernel
theorem d_Mk_addLong_6 : decode b_Mk_addLong 6 = .ok (.iconst 4, 1) := by decide +kernel
theorem d_Mk_addLong_7 : decode b_Mk_addLong 7 = .ok (.aload_n 0, 1) := by decide +kernel
theorem d_Mk_addLong_8 : decode b_Mk_addLong 8 = .ok (.getfield 28, 3) := by decide +kernel
theorem d_Mk_addLong_11 : decode b_Mk_addLong 11 = .ok (.invokevirtual 46, 3) := by decide +kernel
theorem d_Mk_addLong_14 : decode b_Mk_addLong 14 = .ok (.return_, 1) := by decide +kernel
theorem d_Mk_leavePage_0 : decode b_Mk_leavePage 0 = .ok (.aload_n 0, 1) := by decide +kernel
theorem d_Mk_leavePage_1 : decode b_Mk_leavePage 1 = .ok (.iconst 0, 1) := by decide +kernel
theorem d_Mk_leavePage_2 : decode b_Mk_leavePage 2 = .ok (.putfield 78, 3) := by decide +kernel
theorem d_Mk_leavePage_5 : decode b_Mk_leavePage 5 = .ok (.aload_n 0, 1) := by decide +kernel
theorem d_Mk_leavePage_6 : decode b_Mk_leavePage 6 = .ok (.iconst 0, 1) := by decide +kernel
theorem d_Mk_leavePage_7 : decode b_Mk_leavePage 7 = .ok (.putfield 75, 3) := by decide +kernel
theorem d_Mk_leavePage_10 : decode b_Mk_leavePage 10 = .ok (.aload_n 0, 1) := by decide +kernel
theorem d_Mk_leavePage_11 : decode b_Mk_leavePage 11 = .ok (.iconst 0, 1) := by decide +kernel
theorem d_Mk_leavePage_12 : decode b_Mk_leavePage 12 = .ok (.putfield 81, 3) := by decide +kernel
theorem d_Mk_leavePage_15 : decode b_Mk_leavePage 15 = .ok (.aload_n 0, 1) := by decide +kernel
theorem d_Mk_leavePage_16 : decode b_Mk_leavePage 16 = .ok (.getfield 16, 3) := by decide +kernel
theorem d_Mk_leavePage_19 : decode b_Mk_leavePage 19 = .ok (.iconst 0, 1) := by decide +kernel
theorem d_Mk_leavePage_20 : decode b_Mk_leavePage 20 = .ok (.putfield 84, 3) := by decide +kernel
theorem d_Mk_leavePage_23 : decode b_Mk_leavePage 23 = .ok (.return_, 1) := by decide +kernel
theorem d_Mk_startFile_0 : decode b_Mk_startFile 0 = .ok (.aload_n 0, 1) := by decide +kernel
theorem d_Mk_startFile_1 : decode b_Mk_startFile 1 = .ok (.iconst 1, 1) := by decide +kernel
theorem d_Mk_startFile_2 : decode b_Mk_startFile 2 = .ok (.putfield 24, 3) := by decide +kernel
theorem d_Mk_startFile_5 : decode b_Mk_startFile 5 = .ok (.aload_n 0, 1) := by decide +kernel
theorem d_Mk_startFile_6 : decode b_Mk_startFile 6 = .ok (.iload_n 1, 1) := by decide +kernel
theorem d_Mk_startFile_7 : decode b_Mk_startFile 7 = .ok (.putfield 28, 3) := by decide +kernel
theorem d_Mk_startFile_10 : decode b_Mk_startFile 10 = .ok (.aload_n 0, 1) := by decide +kernel
theorem d_Mk_startFile_11 : decode b_Mk_startFile 11 = .ok (.iconst 0, 1) := by decide +kernel
theorem d_Mk_startFile_12 : decode b_Mk_startFile 12 = .ok (.putfield 32, 3) := by decide +kernel
theorem d_Mk_startFile_15 : decode b_Mk_startFile 15 = .ok (.aload_n 0, 1) := by decide +kernel
theorem d_Mk_startFile_16 : decode b_Mk_startFile 16 = .ok (.iconst 4, 1) := by decide +kernel
theorem d_Mk_startFile_17 : decode b_Mk_startFile 17 = .ok (.putfield 35, 3) := by decide +kernel
theorem d_Mk_startFile_20 : decode b_Mk_startFile 20 = .ok (.aload_n 0, 1) := by decide +kernel
theorem d_Mk_startFile_21 : decode b_Mk_startFile 21 = .ok (.invokevirtual 38, 3) := by decide +kernel
theorem d_Mk_startFile_24 : decode b_Mk_startFile 24 = .ok (.aload_n 0, 1) := by decide +kernel
theorem d_Mk_startFile_25 : decode b_Mk_startFile 25 = .ok (.getfield 20, 3) := by decide +kernel
theorem d_Mk_startFile_28 : decode b_Mk_startFile 28 = .ok (.iconst 0, 1) := by decide +kernel
theorem d_Mk_startFile_29 : decode b_Mk_startFile 29 = .ok (.putfield 41, 3) := by decide +kernel
theorem d_Mk_startFile_32 : decode b_Mk_startFile 32 = .ok (.aload_n 0, 1) := by decide +kernel
theorem d_Mk_startFile_33 : decode b_Mk_startFile 33 = .ok (.getfield 20, 3) := by decide +kernel
theorem d_Mk_startFile_36 : decode b_Mk_startFile 36 = .ok (.aload_n 0, 1) := by decide +kernel
theorem d_Mk_startFile_37 : decode b_Mk_startFile 37 = .ok (.getfield 28, 3) := by decide +kernel
theorem d_Mk_startFile_40 : decode b_Mk_startFile 40 = .ok (.i2l, 1) := by decide +kernel
theorem d_Mk_startFile_41 : decode b_Mk_startFile 41 = .ok (.iconst 1, 1) := by decide +kernel
theorem d_Mk_startFile_42 : decode b_Mk_startFile 42 = .ok (.aload_n 0, 1) := by decide +kernel
theorem d_Mk_startFile_43 : decode b_Mk_startFile 43 = .ok (.getfield 28, 3) := by decide +kernel
theorem d_Mk_startFile_46 : decode b_Mk_startFile 46 = .ok (.invokevirtual 46, 3) := by decide +kernel
theorem d_Mk_startFile_49 : decode b_Mk_startFile 49 = .ok (.aload_n 0, 1) := by decide +kernel
theorem d_Mk_startFile_50 : decode b_Mk_startFile 50 = .ok (.getfield 20, 3) := by decide +kernel
theorem d_Mk_startFile_53 : decode b_Mk_startFile 53 = .ok (.aload_n 0, 1) := by decide +kernel
theorem d_Mk_startFile_54 : decode b_Mk_startFile 54 = .ok (.getfield 28, 3) := by decide +kernel
theorem d_Mk_startFile_57 : decode b_Mk_startFile 57 = .ok (.i2l, 1) := by decide +kernel
theorem d_Mk_startFile_58 : decode b_Mk_startFile 58 = .ok (.iconst 1, 1) := by decide +kernel
theorem d_Mk_startFile_59 : decode b_Mk_startFile 59 = .ok (.aload_n 0, 1) := by decide +kernel
theorem d_Mk_startFile_60 : decode b_Mk_startFile 60 = .ok (.getfield 28, 3) := by decide +kernel
theorem d_Mk_startFile_63 : decode b_Mk_startFile 63 = .ok (.invokevirtual 46, 3) := by decide +kernel
theorem d_Mk_startFile_66 : decode b_Mk_startFile 66 = .ok (.aload_n 0, 1) := by decide +kernel
theorem d_Mk_startFile_67 : decode b_Mk_startFile 67 = .ok (.bipush 42, 2) := by decide +kernel
theorem d_Mk_startFile_69 : decode b_Mk_startFile 69 = .ok (.invokevirtual 50, 3) := by decide +kernel
theorem d_Mk_startFile_72 : decode b_Mk_startFile 72 = .ok (.aload_n 0, 1) := by decide +kernel
theorem d_Mk_startFile_73 : decode b_Mk_startFile 73 = .ok (.iconst 0, 1) := by decide +kernel
theorem d_Mk_startFile_74 : decode b_Mk_startFile 74 = .ok (.invokevirtual 53, 3) := by decide +kernel
theorem d_Mk_startFile_77 : decode b_Mk_startFile 77 = .ok (.return_, 1) := by decide +kernel
theorem d_Mk_startPage_0 : decode b_Mk_startPage 0 = .ok (.aload_n 0, 1) := by decide +kernel
theorem d_Mk_startPage_1 : decode b_Mk_startPage 1 = .ok (.iload_n 1, 1) := by decide +kernel
theorem d_Mk_startPage_2 : decode b_Mk_startPage 2 = .ok (.putfield 56, 3) := by decide +kernel
theorem d_Mk_startPage_5 : decode b_Mk_startPage 5 = .ok (.aload_n 0, 1) := by decide +kernel
theorem d_Mk_startPage_6 : decode b_Mk_startPage 6 = .ok (.iload_n 2, 1) := by decide +kernel
theorem d_Mk_startPage_7 : decode b_Mk_startPage 7 = .ok (.putfield 59, 3) := by decide +kernel
theorem d_Mk_startPage_10 : decode b_Mk_startPage 10 = .ok (.aload_n 0, 1) := by decide +kernel
theorem d_Mk_startPage_11 : decode b_Mk_startPage 11 = .ok (.iload_n 3, 1) := by decide +kernel
theorem d_Mk_startPage_12 : decode b_Mk_startPage 12 = .ok (.putfield 62, 3) := by decide +kernel
theorem d_Mk_startPage_15 : decode b_Mk_startPage 15 = .ok (.aload_n 0, 1) := by decide +kernel
theorem d_Mk_startPage_16 : decode b_Mk_startPage 16 = .ok (.iload 4, 2) := by decide +kernel
theorem d_Mk_startPage_18 : decode b_Mk_startPage 18 = .ok (.putfield 65, 3) := by decide +kernel
theorem d_Mk_startPage_21 : decode b_Mk_startPage 21 = .ok (.aload_n 0, 1) := by decide +kernel
theorem d_Mk_startPage_22 : decode b_Mk_startPage 22 = .ok (.iload 5, 2) := by decide +kernel
theorem d_Mk_startPage_24 : decode b_Mk_startPage 24 = .ok (.putfield 68, 3) := by decide +kernel
theorem d_Mk_startPage_27 : decode b_Mk_startPage 27 = .ok (.aload_n 0, 1) := by decide +kernel
theorem d_Mk_startPage_28 : decode b_Mk_startPage 28 = .ok (.aload_n 0, 1) := by decide +kernel
theorem d_Mk_startPage_29 : decode b_Mk_startPage 29 = .ok (.getfield 59, 3) := by decide +kernel
theorem d_Mk_startPage_32 : decode b_Mk_startPage 32 = .ok (.i2l, 1) := by decide +kernel
theorem d_Mk_startPage_33 : decode b_Mk_startPage 33 = .ok (.aload_n 0, 1) := by decide +kernel
theorem d_Mk_startPage_34 : decode b_Mk_startPage 34 = .ok (.getfield 62, 3) := by decide +kernel
theorem d_Mk_startPage_37 : decode b_Mk_startPage 37 = .ok (.i2l, 1) := by decide +kernel
theorem d_Mk_startPage_38 : decode b_Mk_startPage 38 = .ok (.invokestatic 71, 3) := by decide +kernel
theorem d_Mk_startPage_41 : decode b_Mk_startPage 41 = .ok (.l2i, 1) := by decide +kernel
theorem d_Mk_startPage_42 : decode b_Mk_startPage 42 = .ok (.putfield 75, 3) := by decide +kernel
theorem d_Mk_startPage_45 : decode b_Mk_startPage 45 = .ok (.aload_n 0, 1) := by decide +kernel
theorem d_Mk_startPage_46 : decode b_Mk_startPage 46 = .ok (.iconst 1, 1) := by decide +kernel
theorem d_Mk_startPage_47 : decode b_Mk_startPage 47 = .ok (.putfield 78, 3) := by decide +kernel
theorem d_Mk_startPage_50 : decode b_Mk_startPage 50 = .ok (.return_, 1) := by decide +kernel
theorem d_Mk_stripsToCome_0 : decode b_Mk_stripsToCome 0 = .ok (.aload_n 0, 1) := by decide +kernel
theorem d_Mk_stripsToCome_1 : decode b_Mk_stripsToCome 1 = .ok (.getfield 75, 3) := by decide +kernel
theorem d_Mk_stripsToCome_4 : decode b_Mk_stripsToCome 4 = .ok (.aload_n 0, 1) := by decide +kernel
theorem d_Mk_stripsToCome_5 : decode b_Mk_stripsToCome 5 = .ok (.getfield 16, 3) := by decide +kernel
theorem d_Mk_stripsToCome_8 : decode b_Mk_stripsToCome 8 = .ok (.getfield 84, 3) := by decide +kernel
theorem d_Mk_stripsToCome_11 : decode b_Mk_stripsToCome 11 = .ok (.isub, 1) := by decide +kernel
theorem d_Mk_stripsToCome_12 : decode b_Mk_stripsToCome 12 = .ok (.ireturn, 1) := by decide +kernel
theorem d_Mk_hasRoomFor_0 : decode b_Mk_hasRoomFor 0 = .ok (.aload_n 0, 1) := by decide +kernel
theorem d_Mk_hasRoomFor_1 : decode b_Mk_hasRoomFor 1 = .ok (.getfield 81, 3) := by decide +kernel
theorem d_Mk_hasRoomFor_4 : decode b_Mk_hasRoomFor 4 = .ok (.ifCond .ne 15, 3) := by decide +kernel
theorem d_Mk_hasRoomFor_7 : decode b_Mk_hasRoomFor 7 = .ok (.aload_n 0, 1) := by decide +kernel
theorem d_Mk_hasRoomFor_8 : decode b_Mk_hasRoomFor 8 = .ok (.getfield 20, 3) := by decide +kernel
theorem d_Mk_hasRoomFor_11 : decode b_Mk_hasRoomFor 11 = .ok (.getfield 41, 3) := by decide +kernel
theorem d_Mk_hasRoomFor_14 : decode b_Mk_hasRoomFor 14 = .ok (.iconst 2, 1) := by decide +kernel
theorem d_Mk_hasRoomFor_15 : decode b_Mk_hasRoomFor 15 = .ok (.irem, 1) := by decide +kernel
theorem d_Mk_hasRoomFor_16 : decode b_Mk_hasRoomFor 16 = .ok (.goto 4, 3) := by decide +kernel
theorem d_Mk_hasRoomFor_19 : decode b_Mk_hasRoomFor 19 = .ok (.iconst 0, 1) := by decide +kernel
theorem d_Mk_hasRoomFor_20 : decode b_Mk_hasRoomFor 20 = .ok (.istore_n 2, 1) := by decide +kernel
theorem d_Mk_hasRoomFor_21 : decode b_Mk_hasRoomFor 21 = .ok (.aload_n 0, 1) := by decide +kernel
theorem d_Mk_hasRoomFor_22 : decode b_Mk_hasRoomFor 22 = .ok (.getfield 20, 3) := by decide +kernel
theorem d_Mk_hasRoomFor_25 : decode b_Mk_hasRoomFor 25 = .ok (.getfield 41, 3) := by decide +kernel
theorem d_Mk_hasRoomFor_28 : decode b_Mk_hasRoomFor 28 = .ok (.iload_n 2, 1) := by decide +kernel
theorem d_Mk_hasRoomFor_29 : decode b_Mk_hasRoomFor 29 = .ok (.iadd, 1) := by decide +kernel
theorem d_Mk_hasRoomFor_30 : decode b_Mk_hasRoomFor 30 = .ok (.iload_n 1, 1) := by decide +kernel
theorem d_Mk_hasRoomFor_31 : decode b_Mk_hasRoomFor 31 = .ok (.iadd, 1) := by decide +kernel
theorem d_Mk_hasRoomFor_32 : decode b_Mk_hasRoomFor 32 = .ok (.ldc 87, 2) := by decide +kernel
theorem d_Mk_hasRoomFor_34 : decode b_Mk_hasRoomFor 34 = .ok (.if_icmp .gt 7, 3) := by decide +kernel
theorem d_Mk_hasRoomFor_37 : decode b_Mk_hasRoomFor 37 = .ok (.iconst 1, 1) := by decide +kernel
theorem d_Mk_hasRoomFor_38 : decode b_Mk_hasRoomFor 38 = .ok (.goto 4, 3) := by decide +kernel
theorem d_Mk_hasRoomFor_41 : decode b_Mk_hasRoomFor 41 = .ok (.iconst 0, 1) := by decide +kernel
theorem d_Mk_hasRoomFor_42 : decode b_Mk_hasRoomFor 42 = .ok (.ireturn, 1) := by decide +kernel
theorem d_Mk_addToStrip_0 : decode b_Mk_addToStrip 0 = .ok (.aload_n 0, 1) := by decide +kernel
theorem d_Mk_addToStrip_1 : decode b_Mk_addToStrip 1 = .ok (.getfield 81, 3) := by decide +kernel
theorem d_Mk_addToStrip_4 : decode b_Mk_addToStrip 4 = .ok (.ifCond .ne 10, 3) := by decide +kernel
theorem d_Mk_addToStrip_7 : decode b_Mk_addToStrip 7 = .ok (.aload_n 0, 1) := by decide +kernel
theorem d_Mk_addToStrip_8 : decode b_Mk_addToStrip 8 = .ok (.getfield 20, 3) := by decide +kernel
theorem d_Mk_addToStrip_11 : decode b_Mk_addToStrip 11 = .ok (.invokevirtual 88, 3) := by decide +kernel
theorem d_Mk_addToStrip_14 : decode b_Mk_addToStrip 14 = .ok (.aload_n 0, 1) := by decide +kernel
theorem d_Mk_addToStrip_15 : decode b_Mk_addToStrip 15 = .ok (.getfield 20, 3) := by decide +kernel
theorem d_Mk_addToStrip_18 : decode b_Mk_addToStrip 18 = .ok (.lload_n 1, 1) := by decide +kernel
theorem d_Mk_addToStrip_19 : decode b_Mk_addToStrip 19 = .ok (.iload_n 3, 1) := by decide +kernel
theorem d_Mk_addToStrip_20 : decode b_Mk_addToStrip 20 = .ok (.bipush 77, 2) := by decide +kernel
theorem d_Mk_addToStrip_22 : decode b_Mk_addToStrip 22 = .ok (.invokevirtual 46, 3) := by decide +kernel
theorem d_Mk_addToStrip_25 : decode b_Mk_addToStrip 25 = .ok (.aload_n 0, 1) := by decide +kernel
theorem d_Mk_addToStrip_26 : decode b_Mk_addToStrip 26 = .ok (.dup, 1) := by decide +kernel
theorem d_Mk_addToStrip_27 : decode b_Mk_addToStrip 27 = .ok (.getfield 81, 3) := by decide +kernel
theorem d_Mk_addToStrip_30 : decode b_Mk_addToStrip 30 = .ok (.iload_n 3, 1) := by decide +kernel
theorem d_Mk_addToStrip_31 : decode b_Mk_addToStrip 31 = .ok (.iadd, 1) := by decide +kernel
theorem d_Mk_addToStrip_32 : decode b_Mk_addToStrip 32 = .ok (.putfield 81, 3) := by decide +kernel
theorem d_Mk_addToStrip_35 : decode b_Mk_addToStrip 35 = .ok (.return_, 1) := by decide +kernel
theorem d_Mk_finishStrip_0 : decode b_Mk_finishStrip 0 = .ok (.aload_n 0, 1) := by decide +kernel
theorem d_Mk_finishStrip_1 : decode b_Mk_finishStrip 1 = .ok (.getfield 81, 3) := by decide +kernel
theorem d_Mk_finishStrip_4 : decode b_Mk_finishStrip 4 = .ok (.ifCond .ne 10, 3) := by decide +kernel
theorem d_Mk_finishStrip_7 : decode b_Mk_finishStrip 7 = .ok (.aload_n 0, 1) := by decide +kernel
theorem d_Mk_finishStrip_8 : decode b_Mk_finishStrip 8 = .ok (.getfield 20, 3) := by decide +kernel
theorem d_Mk_finishStrip_11 : decode b_Mk_finishStrip 11 = .ok (.invokevirtual 88, 3) := by decide +kernel
theorem d_Mk_finishStrip_14 : decode b_Mk_finishStrip 14 = .ok (.aload_n 0, 1) := by decide +kernel
theorem d_Mk_finishStrip_15 : decode b_Mk_finishStrip 15 = .ok (.getfield 16, 3) := by decide +kernel
theorem d_Mk_finishStrip_18 : decode b_Mk_finishStrip 18 = .ok (.aload_n 0, 1) := by decide +kernel
theorem d_Mk_finishStrip_19 : decode b_Mk_finishStrip 19 = .ok (.getfield 20, 3) := by decide +kernel
theorem d_Mk_finishStrip_22 : decode b_Mk_finishStrip 22 = .ok (.getfield 41, 3) := by decide +kernel
theorem d_Mk_finishStrip_25 : decode b_Mk_finishStrip 25 = .ok (.aload_n 0, 1) := by decide +kernel
theorem d_Mk_finishStrip_26 : decode b_Mk_finishStrip 26 = .ok (.getfield 81, 3) := by decide +kernel
theorem d_Mk_finishStrip_29 : decode b_Mk_finishStrip 29 = .ok (.isub, 1) := by decide +kernel
theorem d_Mk_finishStrip_30 : decode b_Mk_finishStrip 30 = .ok (.aload_n 0, 1) := by decide +kernel
theorem d_Mk_finishStrip_31 : decode b_Mk_finishStrip 31 = .ok (.getfield 81, 3) := by decide +kernel
theorem d_Mk_finishStrip_34 : decode b_Mk_finishStrip 34 = .ok (.invokevirtual 91, 3) := by decide +kernel
theorem d_Mk_finishStrip_37 : decode b_Mk_finishStrip 37 = .ok (.aload_n 0, 1) := by decide +kernel
theorem d_Mk_finishStrip_38 : decode b_Mk_finishStrip 38 = .ok (.iconst 0, 1) := by decide +kernel
theorem d_Mk_finishStrip_39 : decode b_Mk_finishStrip 39 = .ok (.putfield 81, 3) := by decide +kernel
theorem d_Mk_finishStrip_42 : decode b_Mk_finishStrip 42 = .ok (.return_, 1) := by decide +kernel
theorem d_Mk_hasLists_0 : decode b_Mk_hasLists 0 = .ok (.aload_n 0, 1) := by decide +kernel
theorem d_Mk_hasLists_1 : decode b_Mk_hasLists 1 = .ok (.getfield 16, 3) := by decide +kernel
theorem d_Mk_hasLists_4 : decode b_Mk_hasLists 4 = .ok (.getfield 84, 3) := by decide +kernel
theorem d_Mk_hasLists_7 : decode b_Mk_hasLists 7 = .ok (.iconst 2, 1) := by decide +kernel
theorem d_Mk_hasLists_8 : decode b_Mk_hasLists 8 = .ok (.if_icmp .lt 7, 3) := by decide +kernel
theorem d_Mk_hasLists_11 : decode b_Mk_hasLists 11 = .ok (.iconst 1, 1) := by decide +kernel
theorem d_Mk_hasLists_12 : decode b_Mk_hasLists 12 = .ok (.goto 4, 3) := by decide +kernel
theorem d_Mk_hasLists_15 : decode b_Mk_hasLists 15 = .ok (.iconst 0, 1) := by decide +kernel
theorem d_Mk_hasLists_16 : decode b_Mk_hasLists 16 = .ok (.ireturn, 1) := by decide +kernel
theorem d_Mk_sizeWithPage_0 : decode b_Mk_sizeWithPage 0 = .ok (.aload_n 0, 1) := by decide +kernel
theorem d_Mk_sizeWithPage_1 : decode b_Mk_sizeWithPage 1 = .ok (.invokevirtual 95, 3) := by decide +kernel
theorem d_Mk_sizeWithPage_4 : decode b_Mk_sizeWithPage 4 = .ok (.ifCond .eq 16, 3) := by decide +kernel
theorem d_Mk_sizeWithPage_7 : decode b_Mk_sizeWithPage 7 = .ok (.bipush 8, 2) := by decide +kernel
theorem d_Mk_sizeWithPage_9 : decode b_Mk_sizeWithPage 9 = .ok (.aload_n 0, 1) := by decide +kernel
theorem d_Mk_sizeWithPage_10 : decode b_Mk_sizeWithPage 10 = .ok (.getfield 16, 3) := by decide +kernel
theorem d_Mk_sizeWithPage_13 : decode b_Mk_sizeWithPage 13 = .ok (.getfield 84, 3) := by decide +kernel
theorem d_Mk_sizeWithPage_16 : decode b_Mk_sizeWithPage 16 = .ok (.imul, 1) := by decide +kernel
theorem d_Mk_sizeWithPage_17 : decode b_Mk_sizeWithPage 17 = .ok (.goto 4, 3) := by decide +kernel
theorem d_Mk_sizeWithPage_20 : decode b_Mk_sizeWithPage 20 = .ok (.iconst 0, 1) := by decide +kernel
theorem d_Mk_sizeWithPage_21 : decode b_Mk_sizeWithPage 21 = .ok (.istore_n 1, 1) := by decide +kernel
theorem d_Mk_sizeWithPage_22 : decode b_Mk_sizeWithPage 22 = .ok (.aload_n 0, 1) := by decide +kernel
theorem d_Mk_sizeWithPage_23 : decode b_Mk_sizeWithPage 23 = .ok (.getfield 20, 3) := by decide +kernel
theorem d_Mk_sizeWithPage_26 : decode b_Mk_sizeWithPage 26 = .ok (.getfield 41, 3) := by decide +kernel
theorem d_Mk_sizeWithPage_29 : decode b_Mk_sizeWithPage 29 = .ok (.aload_n 0, 1) := by decide +kernel
theorem d_Mk_sizeWithPage_30 : decode b_Mk_sizeWithPage 30 = .ok (.getfield 20, 3) := by decide +kernel
theorem d_Mk_sizeWithPage_33 : decode b_Mk_sizeWithPage 33 = .ok (.getfield 41, 3) := by decide +kernel
theorem d_Mk_sizeWithPage_36 : decode b_Mk_sizeWithPage 36 = .ok (.iconst 2, 1) := by decide +kernel
theorem d_Mk_sizeWithPage_37 : decode b_Mk_sizeWithPage 37 = .ok (.irem, 1) := by decide +kernel
theorem d_Mk_sizeWithPage_38 : decode b_Mk_sizeWithPage 38 = .ok (.iadd, 1) := by decide +kernel
theorem d_Mk_sizeWithPage_39 : decode b_Mk_sizeWithPage 39 = .ok (.iload_n 1, 1) := by decide +kernel
theorem d_Mk_sizeWithPage_40 : decode b_Mk_sizeWithPage 40 = .ok (.iadd, 1) := by decide +kernel
theorem d_Mk_sizeWithPage_41 : decode b_Mk_sizeWithPage 41 = .ok (.bipush 16, 2) := by decide +kernel
theorem d_Mk_sizeWithPage_43 : decode b_Mk_sizeWithPage 43 = .ok (.iadd, 1) := by decide +kernel
theorem d_Mk_sizeWithPage_44 : decode b_Mk_sizeWithPage 44 = .ok (.bipush 122, 2) := by decide +kernel
theorem d_Mk_sizeWithPage_46 : decode b_Mk_sizeWithPage 46 = .ok (.iadd, 1) := by decide +kernel
theorem d_Mk_sizeWithPage_47 : decode b_Mk_sizeWithPage 47 = .ok (.iconst 4, 1) := by decide +kernel
theorem d_Mk_sizeWithPage_48 : decode b_Mk_sizeWithPage 48 = .ok (.iadd, 1) := by decide +kernel
theorem d_Mk_sizeWithPage_49 : decode b_Mk_sizeWithPage 49 = .ok (.ireturn, 1) := by decide +kernel
theorem d_Mk_addList_0 : decode b_Mk_addList 0 = .ok (.iconst 0, 1) := by decide +kernel
theorem d_Mk_addList_1 : decode b_Mk_addList 1 = .ok (.istore_n 2, 1) := by decide +kernel
theorem d_Mk_addList_2 : decode b_Mk_addList 2 = .ok (.iload_n 2, 1) := by decide +kernel
theorem d_Mk_addList_3 : decode b_Mk_addList 3 = .ok (.aload_n 0, 1) := by decide +kernel
theorem d_Mk_addList_4 : decode b_Mk_addList 4 = .ok (.getfield 16, 3) := by decide +kernel
theorem d_Mk_addList_7 : decode b_Mk_addList 7 = .ok (.getfield 84, 3) := by decide +kernel
theorem d_Mk_addList_10 : decode b_Mk_addList 10 = .ok (.if_icmp .ge 22, 3) := by decide +kernel
theorem d_Mk_addList_13 : decode b_Mk_addList 13 = .ok (.aload_n 0, 1) := by decide +kernel
theorem d_Mk_addList_14 : decode b_Mk_addList 14 = .ok (.aload_n 0, 1) := by decide +kernel
theorem d_Mk_addList_15 : decode b_Mk_addList 15 = .ok (.getfield 16, 3) := by decide +kernel
theorem d_Mk_addList_18 : decode b_Mk_addList 18 = .ok (.iload_n 2, 1) := by decide +kernel
theorem d_Mk_addList_19 : decode b_Mk_addList 19 = .ok (.iload_n 1, 1) := by decide +kernel
theorem d_Mk_addList_20 : decode b_Mk_addList 20 = .ok (.invokevirtual 112, 3) := by decide +kernel
theorem d_Mk_addList_23 : decode b_Mk_addList 23 = .ok (.invokevirtual 53, 3) := by decide +kernel
theorem d_Mk_addList_26 : decode b_Mk_addList 26 = .ok (.iinc 2 1, 3) := by decide +kernel
theorem d_Mk_addList_29 : decode b_Mk_addList 29 = .ok (.goto (-27), 3) := by decide +kernel
theorem d_Mk_addList_32 : decode b_Mk_addList 32 = .ok (.return_, 1) := by decide +kernel
theorem d_Mk_addFineness_0 : decode b_Mk_addFineness 0 = .ok (.aload_n 0, 1) := by decide +kernel
theorem d_Mk_addFineness_1 : decode b_Mk_addFineness 1 = .ok (.iload_n 1, 1) := by decide +kernel
theorem d_Mk_addFineness_2 : decode b_Mk_addFineness 2 = .ok (.invokevirtual 53, 3) := by decide +kernel
theorem d_Mk_addFineness_5 : decode b_Mk_addFineness 5 = .ok (.aload_n 0, 1) := by decide +kernel
theorem d_Mk_addFineness_6 : decode b_Mk_addFineness 6 = .ok (.iconst 1, 1) := by decide +kernel
theorem d_Mk_addFineness_7 : decode b_Mk_addFineness 7 = .ok (.invokevirtual 53, 3) := by decide +kernel
theorem d_Mk_addFineness_10 : decode b_Mk_addFineness 10 = .ok (.return_, 1) := by decide +kernel
theorem d_Mk_addEntry_0 : decode b_Mk_addEntry 0 = .ok (.aload_n 0, 1) := by decide +kernel
theorem d_Mk_addEntry_1 : decode b_Mk_addEntry 1 = .ok (.iload_n 1, 1) := by decide +kernel
theorem d_Mk_addEntry_2 : decode b_Mk_addEntry 2 = .ok (.invokevirtual 50, 3) := by decide +kernel
theorem d_Mk_addEntry_5 : decode b_Mk_addEntry 5 = .ok (.aload_n 0, 1) := by decide +kernel
theorem d_Mk_addEntry_6 : decode b_Mk_addEntry 6 = .ok (.iload_n 2, 1) := by decide +kernel
theorem d_Mk_addEntry_7 : decode b_Mk_addEntry 7 = .ok (.invokevirtual 50, 3) := by decide +kernel
theorem d_Mk_addEntry_10 : decode b_Mk_addEntry 10 = .ok (.aload_n 0, 1) := by decide +kernel
theorem d_Mk_addEntry_11 : decode b_Mk_addEntry 11 = .ok (.iload_n 3, 1) := by decide +kernel
theorem d_Mk_addEntry_12 : decode b_Mk_addEntry 12 = .ok (.invokevirtual 53, 3) := by decide +kernel
theorem d_Mk_addEntry_15 : decode b_Mk_addEntry 15 = .ok (.iload_n 2, 1) := by decide +kernel
theorem d_Mk_addEntry_16 : decode b_Mk_addEntry 16 = .ok (.iconst 3, 1) := by decide +kernel
theorem d_Mk_addEntry_17 : decode b_Mk_addEntry 17 = .ok (.if_icmp .ne 17, 3) := by decide +kernel
theorem d_Mk_addEntry_20 : decode b_Mk_addEntry 20 = .ok (.aload_n 0, 1) := by decide +kernel
theorem d_Mk_addEntry_21 : decode b_Mk_addEntry 21 = .ok (.iload 4, 2) := by decide +kernel
theorem d_Mk_addEntry_23 : decode b_Mk_addEntry 23 = .ok (.invokevirtual 50, 3) := by decide +kernel
theorem d_Mk_addEntry_26 : decode b_Mk_addEntry 26 = .ok (.aload_n 0, 1) := by decide +kernel
theorem d_Mk_addEntry_27 : decode b_Mk_addEntry 27 = .ok (.iconst 0, 1) := by decide +kernel
theorem d_Mk_addEntry_28 : decode b_Mk_addEntry 28 = .ok (.invokevirtual 50, 3) := by decide +kernel
theorem d_Mk_addEntry_31 : decode b_Mk_addEntry 31 = .ok (.goto 9, 3) := by decide +kernel
theorem d_Mk_addEntry_34 : decode b_Mk_addEntry 34 = .ok (.aload_n 0, 1) := by decide +kernel
theorem d_Mk_addEntry_35 : decode b_Mk_addEntry 35 = .ok (.iload 4, 2) := by decide +kernel
theorem d_Mk_addEntry_37 : decode b_Mk_addEntry 37 = .ok (.invokevirtual 53, 3) := by decide +kernel
theorem d_Mk_addEntry_40 : decode b_Mk_addEntry 40 = .ok (.return_, 1) := by decide +kernel
theorem d_Mk_addDirectory_0 : decode b_Mk_addDirectory 0 = .ok (.aload_n 0, 1) := by decide +kernel
theorem d_Mk_addDirectory_1 : decode b_Mk_addDirectory 1 = .ok (.getfield 16, 3) := by decide +kernel
theorem d_Mk_addDirectory_4 : decode b_Mk_addDirectory 4 = .ok (.getfield 84, 3) := by decide +kernel
theorem d_Mk_addDirectory_7 : decode b_Mk_addDirectory 7 = .ok (.istore_n 3, 1) := by decide +kernel
theorem d_Mk_addDirectory_8 : decode b_Mk_addDirectory 8 = .ok (.aload_n 0, 1) := by decide +kernel
theorem d_Mk_addDirectory_9 : decode b_Mk_addDirectory 9 = .ok (.bipush 10, 2) := by decide +kernel
theorem d_Mk_addDirectory_11 : decode b_Mk_addDirectory 11 = .ok (.invokevirtual 50, 3) := by decide +kernel
theorem d_Mk_addDirectory_14 : decode b_Mk_addDirectory 14 = .ok (.aload_n 0, 1) := by decide +kernel
theorem d_Mk_addDirectory_15 : decode b_Mk_addDirectory 15 = .ok (.sipush 256, 3) := by decide +kernel
theorem d_Mk_addDirectory_18 : decode b_Mk_addDirectory 18 = .ok (.iconst 4, 1) := by decide +kernel
theorem d_Mk_addDirectory_19 : decode b_Mk_addDirectory 19 = .ok (.iconst 1, 1) := by decide +kernel
theorem d_Mk_addDirectory_20 : decode b_Mk_addDirectory 20 = .ok (.aload_n 0, 1) := by decide +kernel
theorem d_Mk_addDirectory_21 : decode b_Mk_addDirectory 21 = .ok (.getfield 56, 3) := by decide +kernel
theorem d_Mk_addDirectory_24 : decode b_Mk_addDirectory 24 = .ok (.invokevirtual 116, 3) := by decide +kernel
theorem d_Mk_addDirectory_27 : decode b_Mk_addDirectory 27 = .ok (.aload_n 0, 1) := by decide +kernel
theorem d_Mk_addDirectory_28 : decode b_Mk_addDirectory 28 = .ok (.sipush 257, 3) := by decide +kernel
theorem d_Mk_addDirectory_31 : decode b_Mk_addDirectory 31 = .ok (.iconst 4, 1) := by decide +kernel
theorem d_Mk_addDirectory_32 : decode b_Mk_addDirectory 32 = .ok (.iconst 1, 1) := by decide +kernel
theorem d_Mk_addDirectory_33 : decode b_Mk_addDirectory 33 = .ok (.aload_n 0, 1) := by decide +kernel
theorem d_Mk_addDirectory_34 : decode b_Mk_addDirectory 34 = .ok (.getfield 59, 3) := by decide +kernel
theorem d_Mk_addDirectory_37 : decode b_Mk_addDirectory 37 = .ok (.invokevirtual 116, 3) := by decide +kernel
theorem d_Mk_addDirectory_40 : decode b_Mk_addDirectory 40 = .ok (.aload_n 0, 1) := by decide +kernel
theorem d_Mk_addDirectory_41 : decode b_Mk_addDirectory 41 = .ok (.sipush 259, 3) := by decide +kernel
theorem d_Mk_addDirectory_44 : decode b_Mk_addDirectory 44 = .ok (.iconst 3, 1) := by decide +kernel
theorem d_Mk_addDirectory_45 : decode b_Mk_addDirectory 45 = .ok (.iconst 1, 1) := by decide +kernel
theorem d_Mk_addDirectory_46 : decode b_Mk_addDirectory 46 = .ok (.iconst 4, 1) := by decide +kernel
theorem d_Mk_addDirectory_47 : decode b_Mk_addDirectory 47 = .ok (.invokevirtual 116, 3) := by decide +kernel
theorem d_Mk_addDirectory_50 : decode b_Mk_addDirectory 50 = .ok (.aload_n 0, 1) := by decide +kernel
theorem d_Mk_addDirectory_51 : decode b_Mk_addDirectory 51 = .ok (.sipush 262, 3) := by decide +kernel
theorem d_Mk_addDirectory_54 : decode b_Mk_addDirectory 54 = .ok (.iconst 3, 1) := by decide +kernel
theorem d_Mk_addDirectory_55 : decode b_Mk_addDirectory 55 = .ok (.iconst 1, 1) := by decide +kernel
theorem d_Mk_addDirectory_56 : decode b_Mk_addDirectory 56 = .ok (.iconst 0, 1) := by decide +kernel
theorem d_Mk_addDirectory_57 : decode b_Mk_addDirectory 57 = .ok (.invokevirtual 116, 3) := by decide +kernel
theorem d_Mk_addDirectory_60 : decode b_Mk_addDirectory 60 = .ok (.aload_n 0, 1) := by decide +kernel
theorem d_Mk_addDirectory_61 : decode b_Mk_addDirectory 61 = .ok (.sipush 273, 3) := by decide +kernel
theorem d_Mk_addDirectory_64 : decode b_Mk_addDirectory 64 = .ok (.iconst 4, 1) := by decide +kernel
theorem d_Mk_addDirectory_65 : decode b_Mk_addDirectory 65 = .ok (.iload_n 3, 1) := by decide +kernel
theorem d_Mk_addDirectory_66 : decode b_Mk_addDirectory 66 = .ok (.aload_n 0, 1) := by decide +kernel
theorem d_Mk_addDirectory_67 : decode b_Mk_addDirectory 67 = .ok (.invokevirtual 95, 3) := by decide +kernel
theorem d_Mk_addDirectory_70 : decode b_Mk_addDirectory 70 = .ok (.ifCond .eq 7, 3) := by decide +kernel
theorem d_Mk_addDirectory_73 : decode b_Mk_addDirectory 73 = .ok (.iload_n 1, 1) := by decide +kernel
theorem d_Mk_addDirectory_74 : decode b_Mk_addDirectory 74 = .ok (.goto 12, 3) := by decide +kernel
theorem d_Mk_addDirectory_77 : decode b_Mk_addDirectory 77 = .ok (.aload_n 0, 1) := by decide +kernel
theorem d_Mk_addDirectory_78 : decode b_Mk_addDirectory 78 = .ok (.getfield 16, 3) := by decide +kernel
theorem d_Mk_addDirectory_81 : decode b_Mk_addDirectory 81 = .ok (.iconst 0, 1) := by decide +kernel
theorem d_Mk_addDirectory_82 : decode b_Mk_addDirectory 82 = .ok (.iconst 0, 1) := by decide +kernel
theorem d_Mk_addDirectory_83 : decode b_Mk_addDirectory 83 = .ok (.invokevirtual 112, 3) := by decide +kernel
theorem d_Mk_addDirectory_86 : decode b_Mk_addDirectory 86 = .ok (.invokevirtual 116, 3) := by decide +kernel
theorem d_Mk_addDirectory_89 : decode b_Mk_addDirectory 89 = .ok (.aload_n 0, 1) := by decide +kernel
theorem d_Mk_addDirectory_90 : decode b_Mk_addDirectory 90 = .ok (.sipush 278, 3) := by decide +kernel
theorem d_Mk_addDirectory_93 : decode b_Mk_addDirectory 93 = .ok (.iconst 4, 1) := by decide +kernel
theorem d_Mk_addDirectory_94 : decode b_Mk_addDirectory 94 = .ok (.iconst 1, 1) := by decide +kernel
theorem d_Mk_addDirectory_95 : decode b_Mk_addDirectory 95 = .ok (.aload_n 0, 1) := by decide +kernel
theorem d_Mk_addDirectory_96 : decode b_Mk_addDirectory 96 = .ok (.getfield 62, 3) := by decide +kernel
theorem d_Mk_addDirectory_99 : decode b_Mk_addDirectory 99 = .ok (.invokevirtual 116, 3) := by decide +kernel
theorem d_Mk_addDirectory_102 : decode b_Mk_addDirectory 102 = .ok (.aload_n 0, 1) := by decide +kernel
theorem d_Mk_addDirectory_103 : decode b_Mk_addDirectory 103 = .ok (.sipush 279, 3) := by decide +kernel
theorem d_Mk_addDirectory_106 : decode b_Mk_addDirectory 106 = .ok (.iconst 4, 1) := by decide +kernel
theorem d_Mk_addDirectory_107 : decode b_Mk_addDirectory 107 = .ok (.iload_n 3, 1) := by decide +kernel
theorem d_Mk_addDirectory_108 : decode b_Mk_addDirectory 108 = .ok (.aload_n 0, 1) := by decide +kernel
theorem d_Mk_addDirectory_109 : decode b_Mk_addDirectory 109 = .ok (.invokevirtual 95, 3) := by decide +kernel
theorem d_Mk_addDirectory_112 : decode b_Mk_addDirectory 112 = .ok (.ifCond .eq 11, 3) := by decide +kernel
theorem d_Mk_addDirectory_115 : decode b_Mk_addDirectory 115 = .ok (.iload_n 1, 1) := by decide +kernel
theorem d_Mk_addDirectory_116 : decode b_Mk_addDirectory 116 = .ok (.iconst 4, 1) := by decide +kernel
theorem d_Mk_addDirectory_117 : decode b_Mk_addDirectory 117 = .ok (.iload_n 3, 1) := by decide +kernel
theorem d_Mk_addDirectory_118 : decode b_Mk_addDirectory 118 = .ok (.imul, 1) := by decide +kernel
theorem d_Mk_addDirectory_119 : decode b_Mk_addDirectory 119 = .ok (.iadd, 1) := by decide +kernel
theorem d_Mk_addDirectory_120 : decode b_Mk_addDirectory 120 = .ok (.goto 12, 3) := by decide +kernel
theorem d_Mk_addDirectory_123 : decode b_Mk_addDirectory 123 = .ok (.aload_n 0, 1) := by decide +kernel
theorem d_Mk_addDirectory_124 : decode b_Mk_addDirectory 124 = .ok (.getfield 16, 3) := by decide +kernel
theorem d_Mk_addDirectory_127 : decode b_Mk_addDirectory 127 = .ok (.iconst 0, 1) := by decide +kernel
theorem d_Mk_addDirectory_128 : decode b_Mk_addDirectory 128 = .ok (.iconst 1, 1) := by decide +kernel
theorem d_Mk_addDirectory_129 : decode b_Mk_addDirectory 129 = .ok (.invokevirtual 112, 3) := by decide +kernel
theorem d_Mk_addDirectory_132 : decode b_Mk_addDirectory 132 = .ok (.invokevirtual 116, 3) := by decide +kernel
theorem d_Mk_addDirectory_135 : decode b_Mk_addDirectory 135 = .ok (.aload_n 0, 1) := by decide +kernel
theorem d_Mk_addDirectory_136 : decode b_Mk_addDirectory 136 = .ok (.sipush 282, 3) := by decide +kernel
theorem d_Mk_addDirectory_139 : decode b_Mk_addDirectory 139 = .ok (.iconst 5, 1) := by decide +kernel
theorem d_Mk_addDirectory_140 : decode b_Mk_addDirectory 140 = .ok (.iconst 1, 1) := by decide +kernel
theorem d_Mk_addDirectory_141 : decode b_Mk_addDirectory 141 = .ok (.iload_n 2, 1) := by decide +kernel
theorem d_Mk_addDirectory_142 : decode b_Mk_addDirectory 142 = .ok (.invokevirtual 116, 3) := by decide +kernel
theorem d_Mk_addDirectory_145 : decode b_Mk_addDirectory 145 = .ok (.aload_n 0, 1) := by decide +kernel
theorem d_Mk_addDirectory_146 : decode b_Mk_addDirectory 146 = .ok (.sipush 283, 3) := by decide +kernel
theorem d_Mk_addDirectory_149 : decode b_Mk_addDirectory 149 = .ok (.iconst 5, 1) := by decide +kernel
theorem d_Mk_addDirectory_150 : decode b_Mk_addDirectory 150 = .ok (.iconst 1, 1) := by decide +kernel
theorem d_Mk_addDirectory_151 : decode b_Mk_addDirectory 151 = .ok (.iload_n 2, 1) := by decide +kernel
theorem d_Mk_addDirectory_152 : decode b_Mk_addDirectory 152 = .ok (.bipush 8, 2) := by decide +kernel
theorem d_Mk_addDirectory_154 : decode b_Mk_addDirectory 154 = .ok (.iadd, 1) := by decide +kernel
theorem d_Mk_addDirectory_155 : decode b_Mk_addDirectory 155 = .ok (.invokevirtual 116, 3) := by decide +kernel
theorem d_Mk_addDirectory_158 : decode b_Mk_addDirectory 158 = .ok (.aload_n 0, 1) := by decide +kernel
theorem d_Mk_addDirectory_159 : decode b_Mk_addDirectory 159 = .ok (.sipush 296, 3) := by decide +kernel
theorem d_Mk_addDirectory_162 : decode b_Mk_addDirectory 162 = .ok (.iconst 3, 1) := by decide +kernel
theorem d_Mk_addDirectory_163 : decode b_Mk_addDirectory 163 = .ok (.iconst 1, 1) := by decide +kernel
theorem d_Mk_addDirectory_164 : decode b_Mk_addDirectory 164 = .ok (.iconst 2, 1) := by decide +kernel
theorem d_Mk_addDirectory_165 : decode b_Mk_addDirectory 165 = .ok (.invokevirtual 116, 3) := by decide +kernel
theorem d_Mk_addDirectory_168 : decode b_Mk_addDirectory 168 = .ok (.aload_n 0, 1) := by decide +kernel
theorem d_Mk_addDirectory_169 : decode b_Mk_addDirectory 169 = .ok (.iconst 0, 1) := by decide +kernel
theorem d_Mk_addDirectory_170 : decode b_Mk_addDirectory 170 = .ok (.invokevirtual 53, 3) := by decide +kernel
theorem d_Mk_addDirectory_173 : decode b_Mk_addDirectory 173 = .ok (.return_, 1) := by decide +kernel
theorem d_Mk_finishPage_0 : decode b_Mk_finishPage 0 = .ok (.aload_n 0, 1) := by decide +kernel
theorem d_Mk_finishPage_1 : decode b_Mk_finishPage 1 = .ok (.getfield 20, 3) := by decide +kernel
theorem d_Mk_finishPage_4 : decode b_Mk_finishPage 4 = .ok (.invokevirtual 88, 3) := by decide +kernel
theorem d_Mk_finishPage_7 : decode b_Mk_finishPage 7 = .ok (.aload_n 0, 1) := by decide +kernel
theorem d_Mk_finishPage_8 : decode b_Mk_finishPage 8 = .ok (.getfield 20, 3) := by decide +kernel
theorem d_Mk_finishPage_11 : decode b_Mk_finishPage 11 = .ok (.getfield 41, 3) := by decide +kernel
theorem d_Mk_finishPage_14 : decode b_Mk_finishPage 14 = .ok (.istore_n 1, 1) := by decide +kernel
theorem d_Mk_finishPage_15 : decode b_Mk_finishPage 15 = .ok (.aload_n 0, 1) := by decide +kernel
theorem d_Mk_finishPage_16 : decode b_Mk_finishPage 16 = .ok (.invokevirtual 95, 3) := by decide +kernel
