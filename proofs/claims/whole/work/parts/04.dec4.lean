theorem d_PF_close_35 : decode b_PF_close 35 = .ok (.dup, 1) := by decide +kernel
theorem d_PF_close_36 : decode b_PF_close 36 = .ok (.ldc 116, 2) := by decide +kernel
theorem d_PF_close_38 : decode b_PF_close 38 = .ok (.invokespecial 83, 3) := by decide +kernel
theorem d_PF_close_41 : decode b_PF_close 41 = .ok (.athrow, 1) := by decide +kernel
theorem d_PF_close_42 : decode b_PF_close 42 = .ok (.aload_n 0, 1) := by decide +kernel
theorem d_PF_close_43 : decode b_PF_close 43 = .ok (.getfield 21, 3) := by decide +kernel
theorem d_PF_close_46 : decode b_PF_close 46 = .ok (.invokevirtual 118, 3) := by decide +kernel
theorem d_PF_close_49 : decode b_PF_close 49 = .ok (.aload_n 0, 1) := by decide +kernel
theorem d_PF_close_50 : decode b_PF_close 50 = .ok (.getfield 10, 3) := by decide +kernel
theorem d_PF_close_53 : decode b_PF_close 53 = .ok (.getfield 40, 3) := by decide +kernel
theorem d_PF_close_56 : decode b_PF_close 56 = .ok (.ireturn, 1) := by decide +kernel
theorem d_PF_end_0 : decode b_PF_end 0 = .ok (.aload_n 0, 1) := by decide +kernel
theorem d_PF_end_1 : decode b_PF_end 1 = .ok (.getfield 21, 3) := by decide +kernel
theorem d_PF_end_4 : decode b_PF_end 4 = .ok (.getfield 32, 3) := by decide +kernel
theorem d_PF_end_7 : decode b_PF_end 7 = .ok (.ifCond .eq 13, 3) := by decide +kernel
theorem d_PF_end_10 : decode b_PF_end 10 = .ok (.aload_n 0, 1) := by decide +kernel
theorem d_PF_end_11 : decode b_PF_end 11 = .ok (.getfield 21, 3) := by decide +kernel
theorem d_PF_end_14 : decode b_PF_end 14 = .ok (.getfield 73, 3) := by decide +kernel
theorem d_PF_end_17 : decode b_PF_end 17 = .ok (.ifCond .eq 13, 3) := by decide +kernel
theorem d_PF_end_20 : decode b_PF_end 20 = .ok (.new 79, 3) := by decide +kernel
theorem d_PF_end_23 : decode b_PF_end 23 = .ok (.dup, 1) := by decide +kernel
theorem d_PF_end_24 : decode b_PF_end 24 = .ok (.ldc 121, 2) := by decide +kernel
theorem d_PF_end_26 : decode b_PF_end 26 = .ok (.invokespecial 83, 3) := by decide +kernel
theorem d_PF_end_29 : decode b_PF_end 29 = .ok (.athrow, 1) := by decide +kernel
theorem d_PF_end_30 : decode b_PF_end 30 = .ok (.aload_n 0, 1) := by decide +kernel
theorem d_PF_end_31 : decode b_PF_end 31 = .ok (.getfield 21, 3) := by decide +kernel
theorem d_PF_end_34 : decode b_PF_end 34 = .ok (.iconst 0, 1) := by decide +kernel
theorem d_PF_end_35 : decode b_PF_end 35 = .ok (.putfield 32, 3) := by decide +kernel
theorem d_PF_end_38 : decode b_PF_end 38 = .ok (.aload_n 0, 1) := by decide +kernel
theorem d_PF_end_39 : decode b_PF_end 39 = .ok (.getfield 21, 3) := by decide +kernel
theorem d_PF_end_42 : decode b_PF_end 42 = .ok (.getfield 76, 3) := by decide +kernel
theorem d_PF_end_45 : decode b_PF_end 45 = .ok (.ireturn, 1) := by decide +kernel
theorem d_PF_read_0 : decode b_PF_read 0 = .ok (.aload_n 0, 1) := by decide +kernel
theorem d_PF_read_1 : decode b_PF_read 1 = .ok (.getfield 21, 3) := by decide +kernel
theorem d_PF_read_4 : decode b_PF_read 4 = .ok (.getfield 32, 3) := by decide +kernel
theorem d_PF_read_7 : decode b_PF_read 7 = .ok (.ifCond .eq 13, 3) := by decide +kernel
theorem d_PF_read_10 : decode b_PF_read 10 = .ok (.new 79, 3) := by decide +kernel
theorem d_PF_read_13 : decode b_PF_read 13 = .ok (.dup, 1) := by decide +kernel
theorem d_PF_read_14 : decode b_PF_read 14 = .ok (.ldc 123, 2) := by decide +kernel
theorem d_PF_read_16 : decode b_PF_read 16 = .ok (.invokespecial 83, 3) := by decide +kernel
theorem d_PF_read_19 : decode b_PF_read 19 = .ok (.athrow, 1) := by decide +kernel
theorem d_PF_read_20 : decode b_PF_read 20 = .ok (.aload_n 0, 1) := by decide +kernel
theorem d_PF_read_21 : decode b_PF_read 21 = .ok (.getfield 28, 3) := by decide +kernel
theorem d_PF_read_24 : decode b_PF_read 24 = .ok (.invokevirtual 125, 3) := by decide +kernel
theorem d_PF_read_27 : decode b_PF_read 27 = .ok (.aload_n 0, 1) := by decide +kernel
theorem d_PF_read_28 : decode b_PF_read 28 = .ok (.getfield 28, 3) := by decide +kernel
theorem d_PF_read_31 : decode b_PF_read 31 = .ok (.getfield 128, 3) := by decide +kernel
theorem d_PF_read_34 : decode b_PF_read 34 = .ok (.ifCond .ne 13, 3) := by decide +kernel
theorem d_PF_read_37 : decode b_PF_read 37 = .ok (.aload_n 0, 1) := by decide +kernel
theorem d_PF_read_38 : decode b_PF_read 38 = .ok (.getfield 28, 3) := by decide +kernel
theorem d_PF_read_41 : decode b_PF_read 41 = .ok (.getfield 131, 3) := by decide +kernel
theorem d_PF_read_44 : decode b_PF_read 44 = .ok (.goto 11, 3) := by decide +kernel
theorem d_PF_read_47 : decode b_PF_read 47 = .ok (.aload_n 0, 1) := by decide +kernel
theorem d_PF_read_48 : decode b_PF_read 48 = .ok (.getfield 28, 3) := by decide +kernel
theorem d_PF_read_51 : decode b_PF_read 51 = .ok (.getfield 128, 3) := by decide +kernel
theorem d_PF_read_54 : decode b_PF_read 54 = .ok (.ineg, 1) := by decide +kernel
theorem d_PF_read_55 : decode b_PF_read 55 = .ok (.ireturn, 1) := by decide +kernel
theorem d_PF_of_0 : decode b_PF_of 0 = .ok (.aload_n 0, 1) := by decide +kernel
theorem d_PF_of_1 : decode b_PF_of 1 = .ok (.getfield 28, 3) := by decide +kernel
theorem d_PF_of_4 : decode b_PF_of 4 = .ok (.iload_n 1, 1) := by decide +kernel
theorem d_PF_of_5 : decode b_PF_of 5 = .ok (.invokevirtual 136, 3) := by decide +kernel
theorem d_PF_of_8 : decode b_PF_of 8 = .ok (.ifCond .eq 13, 3) := by decide +kernel
theorem d_PF_of_11 : decode b_PF_of 11 = .ok (.iload_n 2, 1) := by decide +kernel
theorem d_PF_of_12 : decode b_PF_of 12 = .ok (.ifCond .lt 9, 3) := by decide +kernel
theorem d_PF_of_15 : decode b_PF_of 15 = .ok (.iload_n 2, 1) := by decide +kernel
theorem d_PF_of_16 : decode b_PF_of 16 = .ok (.bipush 13, 2) := by decide +kernel
theorem d_PF_of_18 : decode b_PF_of 18 = .ok (.if_icmp .lt 13, 3) := by decide +kernel
theorem d_PF_of_21 : decode b_PF_of 21 = .ok (.new 141, 3) := by decide +kernel
theorem d_PF_of_24 : decode b_PF_of 24 = .ok (.dup, 1) := by decide +kernel
theorem d_PF_of_25 : decode b_PF_of 25 = .ok (.ldc 143, 2) := by decide +kernel
theorem d_PF_of_27 : decode b_PF_of 27 = .ok (.invokespecial 145, 3) := by decide +kernel
theorem d_PF_of_30 : decode b_PF_of 30 = .ok (.athrow, 1) := by decide +kernel
theorem d_PF_of_31 : decode b_PF_of 31 = .ok (.aload_n 0, 1) := by decide +kernel
theorem d_PF_of_32 : decode b_PF_of 32 = .ok (.getfield 28, 3) := by decide +kernel
theorem d_PF_of_35 : decode b_PF_of 35 = .ok (.getfield 146, 3) := by decide +kernel
theorem d_PF_of_38 : decode b_PF_of 38 = .ok (.iload_n 1, 1) := by decide +kernel
theorem d_PF_of_39 : decode b_PF_of 39 = .ok (.iload_n 2, 1) := by decide +kernel
theorem d_PF_of_40 : decode b_PF_of 40 = .ok (.invokevirtual 150, 3) := by decide +kernel
theorem d_PF_of_43 : decode b_PF_of 43 = .ok (.lreturn, 1) := by decide +kernel
theorem d_PF_where_0 : decode b_PF_where 0 = .ok (.aload_n 0, 1) := by decide +kernel
theorem d_PF_where_1 : decode b_PF_where 1 = .ok (.getfield 28, 3) := by decide +kernel
theorem d_PF_where_4 : decode b_PF_where 4 = .ok (.iload_n 1, 1) := by decide +kernel
theorem d_PF_where_5 : decode b_PF_where 5 = .ok (.iload_n 2, 1) := by decide +kernel
theorem d_PF_where_6 : decode b_PF_where 6 = .ok (.invokevirtual 154, 3) := by decide +kernel
theorem d_PF_where_9 : decode b_PF_where 9 = .ok (.ifCond .eq 12, 3) := by decide +kernel
theorem d_PF_where_12 : decode b_PF_where 12 = .ok (.iload_n 3, 1) := by decide +kernel
theorem d_PF_where_13 : decode b_PF_where 13 = .ok (.ifCond .lt 8, 3) := by decide +kernel
theorem d_PF_where_16 : decode b_PF_where 16 = .ok (.iload_n 3, 1) := by decide +kernel
theorem d_PF_where_17 : decode b_PF_where 17 = .ok (.iconst 1, 1) := by decide +kernel
theorem d_PF_where_18 : decode b_PF_where 18 = .ok (.if_icmp .le 13, 3) := by decide +kernel
theorem d_PF_where_21 : decode b_PF_where 21 = .ok (.new 141, 3) := by decide +kernel
theorem d_PF_where_24 : decode b_PF_where 24 = .ok (.dup, 1) := by decide +kernel
theorem d_PF_where_25 : decode b_PF_where 25 = .ok (.ldc 160, 2) := by decide +kernel
theorem d_PF_where_27 : decode b_PF_where 27 = .ok (.invokespecial 145, 3) := by decide +kernel
theorem d_PF_where_30 : decode b_PF_where 30 = .ok (.athrow, 1) := by decide +kernel
theorem d_PF_where_31 : decode b_PF_where 31 = .ok (.aload_n 0, 1) := by decide +kernel
theorem d_PF_where_32 : decode b_PF_where 32 = .ok (.getfield 28, 3) := by decide +kernel
theorem d_PF_where_35 : decode b_PF_where 35 = .ok (.iload_n 1, 1) := by decide +kernel
theorem d_PF_where_36 : decode b_PF_where 36 = .ok (.iload_n 2, 1) := by decide +kernel
theorem d_PF_where_37 : decode b_PF_where 37 = .ok (.iload_n 3, 1) := by decide +kernel
theorem d_PF_where_38 : decode b_PF_where 38 = .ok (.invokevirtual 162, 3) := by decide +kernel
theorem d_PF_where_41 : decode b_PF_where 41 = .ok (.ireturn, 1) := by decide +kernel
theorem d_PF_dots_0 : decode b_PF_dots 0 = .ok (.aload_n 0, 1) := by decide +kernel
theorem d_PF_dots_1 : decode b_PF_dots 1 = .ok (.getfield 28, 3) := by decide +kernel
theorem d_PF_dots_4 : decode b_PF_dots 4 = .ok (.iload_n 1, 1) := by decide +kernel
theorem d_PF_dots_5 : decode b_PF_dots 5 = .ok (.iload_n 2, 1) := by decide +kernel
theorem d_PF_dots_6 : decode b_PF_dots 6 = .ok (.invokevirtual 154, 3) := by decide +kernel
theorem d_PF_dots_9 : decode b_PF_dots 9 = .ok (.ifCond .eq 21, 3) := by decide +kernel
theorem d_PF_dots_12 : decode b_PF_dots 12 = .ok (.iload_n 3, 1) := by decide +kernel
theorem d_PF_dots_13 : decode b_PF_dots 13 = .ok (.ifCond .lt 17, 3) := by decide +kernel
theorem d_PF_dots_16 : decode b_PF_dots 16 = .ok (.iload_n 3, 1) := by decide +kernel
theorem d_PF_dots_17 : decode b_PF_dots 17 = .ok (.aload_n 0, 1) := by decide +kernel
theorem d_PF_dots_18 : decode b_PF_dots 18 = .ok (.getfield 28, 3) := by decide +kernel
theorem d_PF_dots_21 : decode b_PF_dots 21 = .ok (.iload_n 1, 1) := by decide +kernel
theorem d_PF_dots_22 : decode b_PF_dots 22 = .ok (.iload_n 2, 1) := by decide +kernel
theorem d_PF_dots_23 : decode b_PF_dots 23 = .ok (.iconst 1, 1) := by decide +kernel
theorem d_PF_dots_24 : decode b_PF_dots 24 = .ok (.invokevirtual 162, 3) := by decide +kernel
theorem d_PF_dots_27 : decode b_PF_dots 27 = .ok (.if_icmp .lt 13, 3) := by decide +kernel
theorem d_PF_dots_30 : decode b_PF_dots 30 = .ok (.new 141, 3) := by decide +kernel
theorem d_PF_dots_33 : decode b_PF_dots 33 = .ok (.dup, 1) := by decide +kernel
theorem d_PF_dots_34 : decode b_PF_dots 34 = .ok (.ldc 166, 2) := by decide +kernel
theorem d_PF_dots_36 : decode b_PF_dots 36 = .ok (.invokespecial 145, 3) := by decide +kernel
theorem d_PF_dots_39 : decode b_PF_dots 39 = .ok (.athrow, 1) := by decide +kernel
theorem d_PF_dots_40 : decode b_PF_dots 40 = .ok (.aload_n 0, 1) := by decide +kernel
theorem d_PF_dots_41 : decode b_PF_dots 41 = .ok (.getfield 28, 3) := by decide +kernel
theorem d_PF_dots_44 : decode b_PF_dots 44 = .ok (.iload_n 1, 1) := by decide +kernel
theorem d_PF_dots_45 : decode b_PF_dots 45 = .ok (.iload_n 2, 1) := by decide +kernel
theorem d_PF_dots_46 : decode b_PF_dots 46 = .ok (.iconst 0, 1) := by decide +kernel
theorem d_PF_dots_47 : decode b_PF_dots 47 = .ok (.invokevirtual 162, 3) := by decide +kernel
theorem d_PF_dots_50 : decode b_PF_dots 50 = .ok (.iload_n 3, 1) := by decide +kernel
theorem d_PF_dots_51 : decode b_PF_dots 51 = .ok (.iadd, 1) := by decide +kernel
theorem d_PF_dots_52 : decode b_PF_dots 52 = .ok (.istore 4, 2) := by decide +kernel
theorem d_PF_dots_54 : decode b_PF_dots 54 = .ok (.iload 4, 2) := by decide +kernel
theorem d_PF_dots_56 : decode b_PF_dots 56 = .ok (.aload_n 0, 1) := by decide +kernel
theorem d_PF_dots_57 : decode b_PF_dots 57 = .ok (.getfield 10, 3) := by decide +kernel
theorem d_PF_dots_60 : decode b_PF_dots 60 = .ok (.getfield 40, 3) := by decide +kernel
theorem d_PF_dots_63 : decode b_PF_dots 63 = .ok (.if_icmp .lt 13, 3) := by decide +kernel
theorem d_PF_dots_66 : decode b_PF_dots 66 = .ok (.new 141, 3) := by decide +kernel
theorem d_PF_dots_69 : decode b_PF_dots 69 = .ok (.dup, 1) := by decide +kernel
theorem d_PF_dots_70 : decode b_PF_dots 70 = .ok (.ldc 168, 2) := by decide +kernel
theorem d_PF_dots_72 : decode b_PF_dots 72 = .ok (.invokespecial 145, 3) := by decide +kernel
theorem d_PF_dots_75 : decode b_PF_dots 75 = .ok (.athrow, 1) := by decide +kernel
theorem d_PF_dots_76 : decode b_PF_dots 76 = .ok (.aload_n 0, 1) := by decide +kernel
theorem d_PF_dots_77 : decode b_PF_dots 77 = .ok (.getfield 10, 3) := by decide +kernel
theorem d_PF_dots_80 : decode b_PF_dots 80 = .ok (.iload 4, 2) := by decide +kernel
theorem d_PF_dots_82 : decode b_PF_dots 82 = .ok (.i2l, 1) := by decide +kernel
theorem d_PF_dots_83 : decode b_PF_dots 83 = .ok (.invokevirtual 170, 3) := by decide +kernel
theorem d_PF_dots_86 : decode b_PF_dots 86 = .ok (.ireturn, 1) := by decide +kernel
