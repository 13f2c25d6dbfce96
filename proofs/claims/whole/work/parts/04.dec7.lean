theorem d_PF_close_41 : decode b_PF_close 41 = .ok (.athrow, 1) := by decide +kernel
theorem d_PF_close_42 : decode b_PF_close 42 = .ok (.aload_n 0, 1) := by decide +kernel
theorem d_PF_close_43 : decode b_PF_close 43 = .ok (.getfield 21, 3) := by decide +kernel
theorem d_PF_close_46 : decode b_PF_close 46 = .ok (.invokevirtual 118, 3) := by decide +kernel
theorem d_PF_close_49 : decode b_PF_close 49 = .ok (.aload_n 0, 1) := by decide +kernel
theorem d_PF_close_50 : decode b_PF_close 50 = .ok (.getfield 10, 3) := by decide +kernel
theorem d_PF_close_53 : decode b_PF_close 53 = .ok (.getfield 40, 3) := by decide +kernel
theorem d_PF_close_56 : decode b_PF_close 56 = .ok (.ireturn, 1) := by decide +kernel
theorem d_PF_end_0 : decode b_PF_end 0 = .ok (.aload_n 0, 1) := by decide +kernel
theorem d_PF_end_1 : decode b_PF_end 1 = .ok (.getfield 21, 3) := by decide +kernel
theorem d_PF_end_4 : decode b_PF_end 4 = .ok (.getfield 32, 3) := by decide +kernel
theorem d_PF_end_7 : decode b_PF_end 7 = .ok (.ifCond .eq 13, 3) := by decide +kernel
theorem d_PF_end_10 : decode b_PF_end 10 = .ok (.aload_n 0, 1) := by decide +kernel
theorem d_PF_end_11 : decode b_PF_end 11 = .ok (.getfield 21, 3) := by decide +kernel
theorem d_PF_end_14 : decode b_PF_end 14 = .ok (.getfield 73, 3) := by decide +kernel
theorem d_PF_end_17 : decode b_PF_end 17 = .ok (.ifCond .eq 13, 3) := by decide +kernel
theorem d_PF_end_20 : decode b_PF_end 20 = .ok (.new 79, 3) := by decide +kernel
theorem d_PF_end_23 : decode b_PF_end 23 = .ok (.dup, 1) := by decide +kernel
theorem d_PF_end_24 : decode b_PF_end 24 = .ok (.ldc 121, 2) := by decide +kernel
theorem d_PF_end_26 : decode b_PF_end 26 = .ok (.invokespecial 83, 3) := by decide +kernel
theorem d_PF_end_29 : decode b_PF_end 29 = .ok (.athrow, 1) := by decide +kernel
theorem d_PF_end_30 : decode b_PF_end 30 = .ok (.aload_n 0, 1) := by decide +kernel
theorem d_PF_end_31 : decode b_PF_end 31 = .ok (.getfield 21, 3) := by decide +kernel
theorem d_PF_end_34 : decode b_PF_end 34 = .ok (.iconst 0, 1) := by decide +kernel
theorem d_PF_end_35 : decode b_PF_end 35 = .ok (.putfield 32, 3) := by decide +kernel
theorem d_PF_end_38 : decode b_PF_end 38 = .ok (.aload_n 0, 1) := by decide +kernel
theorem d_PF_end_39 : decode b_PF_end 39 = .ok (.getfield 21, 3) := by decide +kernel
theorem d_PF_end_42 : decode b_PF_end 42 = .ok (.getfield 76, 3) := by decide +kernel
theorem d_PF_end_45 : decode b_PF_end 45 = .ok (.ireturn, 1) := by decide +kernel
theorem d_PF_read_0 : decode b_PF_read 0 = .ok (.aload_n 0, 1) := by decide +kernel
theorem d_PF_read_1 : decode b_PF_read 1 = .ok (.getfield 21, 3) := by decide +kernel
theorem d_PF_read_4 : decode b_PF_read 4 = .ok (.getfield 32, 3) := by decide +kernel
theorem d_PF_read_7 : decode b_PF_read 7 = .ok (.ifCond .eq 13, 3) := by decide +kernel
theorem d_PF_read_10 : decode b_PF_read 10 = .ok (.new 79, 3) := by decide +kernel
theorem d_PF_read_13 : decode b_PF_read 13 = .ok (.dup, 1) := by decide +kernel
theorem d_PF_read_14 : decode b_PF_read 14 = .ok (.ldc 123, 2) := by decide +kernel
theorem d_PF_read_16 : decode b_PF_read 16 = .ok (.invokespecial 83, 3) := by decide +kernel
theorem d_PF_read_19 : decode b_PF_read 19 = .ok (.athrow, 1) := by decide +kernel
theorem d_PF_read_20 : decode b_PF_read 20 = .ok (.aload_n 0, 1) := by decide +kernel
theorem d_PF_read_21 : decode b_PF_read 21 = .ok (.getfield 28, 3) := by decide +kernel
theorem d_PF_read_24 : decode b_PF_read 24 = .ok (.invokevirtual 125, 3) := by decide +kernel
theorem d_PF_read_27 : decode b_PF_read 27 = .ok (.aload_n 0, 1) := by decide +kernel
theorem d_PF_read_28 : decode b_PF_read 28 = .ok (.getfield 28, 3) := by decide +kernel
theorem d_PF_read_31 : decode b_PF_read 31 = .ok (.getfield 128, 3) := by decide +kernel
theorem d_PF_read_34 : decode b_PF_read 34 = .ok (.ifCond .ne 13, 3) := by decide +kernel
theorem d_PF_read_37 : decode b_PF_read 37 = .ok (.aload_n 0, 1) := by decide +kernel
theorem d_PF_read_38 : decode b_PF_read 38 = .ok (.getfield 28, 3) := by decide +kernel
theorem d_PF_read_41 : decode b_PF_read 41 = .ok (.getfield 131, 3) := by decide +kernel
theorem d_PF_read_44 : decode b_PF_read 44 = .ok (.goto 11, 3) := by decide +kernel
theorem d_PF_read_47 : decode b_PF_read 47 = .ok (.aload_n 0, 1) := by decide +kernel
theorem d_PF_read_48 : decode b_PF_read 48 = .ok (.getfield 28, 3) := by decide +kernel
theorem d_PF_read_51 : decode b_PF_read 51 = .ok (.getfield 128, 3) := by decide +kernel
theorem d_PF_read_54 : decode b_PF_read 54 = .ok (.ineg, 1) := by decide +kernel
theorem d_PF_read_55 : decode b_PF_read 55 = .ok (.ireturn, 1) := by decide +kernel
theorem d_PF_of_0 : decode b_PF_of 0 = .ok (.aload_n 0, 1) := by decide +kernel
theorem d_PF_of_1 : decode b_PF_of 1 = .ok (.getfield 28, 3) := by decide +kernel
theorem d_PF_of_4 : decode b_PF_of 4 = .ok (.iload_n 1, 1) := by decide +kernel
theorem d_PF_of_5 : decode b_PF_of 5 = .ok (.invokevirtual 136, 3) := by decide +kernel
theorem d_PF_of_8 : decode b_PF_of 8 = .ok (.ifCond .eq 13, 3) := by decide +kernel
theorem d_PF_of_11 : decode b_PF_of 11 = .ok (.iload_n 2, 1) := by decide +kernel
theorem d_PF_of_12 : decode b_PF_of 12 = .ok (.ifCond .lt 9, 3) := by decide +kernel
theorem d_PF_of_15 : decode b_PF_of 15 = .ok (.iload_n 2, 1) := by decide +kernel
theorem d_PF_of_16 : decode b_PF_of 16 = .ok (.bipush 13, 2) := by decide +kernel
theorem d_PF_of_18 : decode b_PF_of 18 = .ok (.if_icmp .lt 13, 3) := by decide +kernel
theorem d_PF_of_21 : decode b_PF_of 21 = .ok (.new 141, 3) := by decide +kernel
theorem d_PF_of_24 : decode b_PF_of 24 = .ok (.dup, 1) := by decide +kernel
theorem d_PF_of_25 : decode b_PF_of 25 = .ok (.ldc 143, 2) := by decide +kernel
theorem d_PF_of_27 : decode b_PF_of 27 = .ok (.invokespecial 145, 3) := by decide +kernel
theorem d_PF_of_30 : decode b_PF_of 30 = .ok (.athrow, 1) := by decide +kernel
theorem d_PF_of_31 : decode b_PF_of 31 = .ok (.aload_n 0, 1) := by decide +kernel
theorem d_PF_of_32 : decode b_PF_of 32 = .ok (.getfield 28, 3) := by decide +kernel
theorem d_PF_of_35 : decode b_PF_of 35 = .ok (.getfield 146, 3) := by decide +kernel
theorem d_PF_of_38 : decode b_PF_of 38 = .ok (.iload_n 1, 1) := by decide +kernel
theorem d_PF_of_39 : decode b_PF_of 39 = .ok (.iload_n 2, 1) := by decide +kernel
theorem d_PF_of_40 : decode b_PF_of 40 = .ok (.invokevirtual 150, 3) := by decide +kernel
theorem d_PF_of_43 : decode b_PF_of 43 = .ok (.lreturn, 1) := by decide +kernel
theorem d_PF_where_0 : decode b_PF_where 0 = .ok (.aload_n 0, 1) := by decide +kernel
theorem d_PF_where_1 : decode b_PF_where 1 = .ok (.getfield 28, 3) := by decide +kernel
theorem d_PF_where_4 : decode b_PF_where 4 = .ok (.iload_n 1, 1) := by decide +kernel
theorem d_PF_where_5 : decode b_PF_where 5 = .ok (.iload_n 2, 1) := by decide +kernel
theorem d_PF_where_6 : decode b_PF_where 6 = .ok (.invokevirtual 154, 3) := by decide +kernel
theorem d_PF_where_9 : decode b_PF_where 9 = .ok (.ifCond .eq 12, 3) := by decide +kernel
theorem d_PF_where_12 : decode b_PF_where 12 = .ok (.iload_n 3, 1) := by decide +kernel
theorem d_PF_where_13 : decode b_PF_where 13 = .ok (.ifCond .lt 8, 3) := by decide +kernel
theorem d_PF_where_16 : decode b_PF_where 16 = .ok (.iload_n 3, 1) := by decide +kernel
theorem d_PF_where_17 : decode b_PF_where 17 = .ok (.iconst 1, 1) := by decide +kernel
theorem d_PF_where_18 : decode b_PF_where 18 = .ok (.if_icmp .le 13, 3) := by decide +kernel
theorem d_PF_where_21 : decode b_PF_where 21 = .ok (.new 141, 3) := by decide +kernel
theorem d_PF_where_24 : decode b_PF_where 24 = .ok (.dup, 1) := by decide +kernel
theorem d_PF_where_25 : decode b_PF_where 25 = .ok (.ldc 160, 2) := by decide +kernel
theorem d_PF_where_27 : decode b_PF_where 27 = .ok (.invokespecial 145, 3) := by decide +kernel
theorem d_PF_where_30 : decode b_PF_where 30 = .ok (.athrow, 1) := by decide +kernel
theorem d_PF_where_31 : decode b_PF_where 31 = .ok (.aload_n 0, 1) := by decide +kernel
theorem d_PF_where_32 : decode b_PF_where 32 = .ok (.getfield 28, 3) := by decide +kernel
theorem d_PF_where_35 : decode b_PF_where 35 = .ok (.iload_n 1, 1) := by decide +kernel
theorem d_PF_where_36 : decode b_PF_where 36 = .ok (.iload_n 2, 1) := by decide +kernel
theorem d_PF_where_37 : decode b_PF_where 37 = .ok (.iload_n 3, 1) := by decide +kernel
theorem d_PF_where_38 : decode b_PF_where 38 = .ok (.invokevirtual 162, 3) := by decide +kernel
theorem d_PF_where_41 : decode b_PF_where 41 = .ok (.ireturn, 1) := by decide +kernel
theorem d_PF_dots_0 : decode b_PF_dots 0 = .ok (.aload_n 0, 1) := by decide +kernel
theorem d_PF_dots_1 : decode b_PF_dots 1 = .ok (.getfield 28, 3) := by decide +kernel
theorem d_PF_dots_4 : decode b_PF_dots 4 = .ok (.iload_n 1, 1) := by decide +kernel
theorem d_PF_dots_5 : decode b_PF_dots 5 = .ok (.iload_n 2, 1) := by decide +kernel
theorem d_PF_dots_6 : decode b_PF_dots 6 = .ok (.invokevirtual 154, 3) := by decide +kernel
theorem d_PF_dots_9 : decode b_PF_dots 9 = .ok (.ifCond .eq 21, 3) := by decide +kernel
theorem d_PF_dots_12 : decode b_PF_dots 12 = .ok (.iload_n 3, 1) := by decide +kernel
theorem d_PF_dots_13 : decode b_PF_dots 13 = .ok (.ifCond .lt 17, 3) := by decide +kernel
theorem d_PF_dots_16 : decode b_PF_dots 16 = .ok (.iload_n 3, 1) := by decide +kernel
theorem d_PF_dots_17 : decode b_PF_dots 17 = .ok (.aload_n 0, 1) := by decide +kernel
theorem d_PF_dots_18 : decode b_PF_dots 18 = .ok (.getfield 28, 3) := by decide +kernel
theorem d_PF_dots_21 : decode b_PF_dots 21 = .ok (.iload_n 1, 1) := by decide +kernel
theorem d_PF_dots_22 : decode b_PF_dots 22 = .ok (.iload_n 2, 1) := by decide +kernel
theorem d_PF_dots_23 : decode b_PF_dots 23 = .ok (.iconst 1, 1) := by decide +kernel
theorem d_PF_dots_24 : decode b_PF_dots 24 = .ok (.invokevirtual 162, 3) := by decide +kernel
theorem d_PF_dots_27 : decode b_PF_dots 27 = .ok (.if_icmp .lt 13, 3) := by decide +kernel
theorem d_PF_dots_30 : decode b_PF_dots 30 = .ok (.new 141, 3) := by decide +kernel
theorem d_PF_dots_33 : decode b_PF_dots 33 = .ok (.dup, 1) := by decide +kernel
theorem d_PF_dots_34 : decode b_PF_dots 34 = .ok (.ldc 166, 2) := by decide +kernel
theorem d_PF_dots_36 : decode b_PF_dots 36 = .ok (.invokespecial 145, 3) := by decide +kernel
theorem d_PF_dots_39 : decode b_PF_dots 39 = .ok (.athrow, 1) := by decide +kernel
theorem d_PF_dots_40 : decode b_PF_dots 40 = .ok (.aload_n 0, 1) := by decide +kernel
theorem d_PF_dots_41 : decode b_PF_dots 41 = .ok (.getfield 28, 3) := by decide +kernel
theorem d_PF_dots_44 : decode b_PF_dots 44 = .ok (.iload_n 1, 1) := by decide +kernel
theorem d_PF_dots_45 : decode b_PF_dots 45 = .ok (.iload_n 2, 1) := by decide +kernel
theorem d_PF_dots_46 : decode b_PF_dots 46 = .ok (.iconst 0, 1) := by decide +kernel
theorem d_PF_dots_47 : decode b_PF_dots 47 = .ok (.invokevirtual 162, 3) := by decide +kernel
theorem d_PF_dots_50 : decode b_PF_dots 50 = .ok (.iload_n 3, 1) := by decide +kernel
theorem d_PF_dots_51 : decode b_PF_dots 51 = .ok (.iadd, 1) := by decide +kernel
theorem d_PF_dots_52 : decode b_PF_dots 52 = .ok (.istore 4, 2) := by decide +kernel
theorem d_PF_dots_54 : decode b_PF_dots 54 = .ok (.iload 4, 2) := by decide +kernel
theorem d_PF_dots_56 : decode b_PF_dots 56 = .ok (.aload_n 0, 1) := by decide +kernel
theorem d_PF_dots_57 : decode b_PF_dots 57 = .ok (.getfield 10, 3) := by decide +kernel
theorem d_PF_dots_60 : decode b_PF_dots 60 = .ok (.getfield 40, 3) := by decide +kernel
theorem d_PF_dots_63 : decode b_PF_dots 63 = .ok (.if_icmp .lt 13, 3) := by decide +kernel
theorem d_PF_dots_66 : decode b_PF_dots 66 = .ok (.new 141, 3) := by decide +kernel
theorem d_PF_dots_69 : decode b_PF_dots 69 = .ok (.dup, 1) := by decide +kernel
theorem d_PF_dots_70 : decode b_PF_dots 70 = .ok (.ldc 168, 2) := by decide +kernel
theorem d_PF_dots_72 : decode b_PF_dots 72 = .ok (.invokespecial 145, 3) := by decide +kernel
theorem d_PF_dots_75 : decode b_PF_dots 75 = .ok (.athrow, 1) := by decide +kernel
theorem d_PF_dots_76 : decode b_PF_dots 76 = .ok (.aload_n 0, 1) := by decide +kernel
theorem d_PF_dots_77 : decode b_PF_dots 77 = .ok (.getfield 10, 3) := by decide +kernel
theorem d_PF_dots_80 : decode b_PF_dots 80 = .ok (.iload 4, 2) := by decide +kernel
theorem d_PF_dots_82 : decode b_PF_dots 82 = .ok (.i2l, 1) := by decide +kernel
theorem d_PF_dots_83 : decode b_PF_dots 83 = .ok (.invokevirtual 170, 3) := by decide +kernel
theorem d_PF_dots_86 : decode b_PF_dots 86 = .ok (.ireturn, 1) := by decide +kernel
theorem d_Lw_begin_0 : decode b_Lw_begin 0 = .ok (.aload_n 0, 1) := by decide +kernel
theorem d_Lw_begin_1 : decode b_Lw_begin 1 = .ok (.iload_n 1, 1) := by decide +kernel
theorem d_Lw_begin_2 : decode b_Lw_begin 2 = .ok (.invokevirtual 7, 3) := by decide +kernel
theorem d_Lw_begin_5 : decode b_Lw_begin 5 = .ok (.goto 6, 3) := by decide +kernel
theorem d_Lw_begin_8 : decode b_Lw_begin 8 = .ok (.astore_n 2, 1) := by decide +kernel
theorem d_Lw_begin_9 : decode b_Lw_begin 9 = .ok (.iconst 1, 1) := by decide +kernel
theorem d_Lw_begin_10 : decode b_Lw_begin 10 = .ok (.ireturn, 1) := by decide +kernel
theorem d_Lw_begin_11 : decode b_Lw_begin 11 = .ok (.iconst 0, 1) := by decide +kernel
theorem d_Lw_begin_12 : decode b_Lw_begin 12 = .ok (.ireturn, 1) := by decide +kernel
theorem d_Lw_page_0 : decode b_Lw_page 0 = .ok (.aload 6, 2) := by decide +kernel
theorem d_Lw_page_2 : decode b_Lw_page 2 = .ok (.iconst 0, 1) := by decide +kernel
theorem d_Lw_page_3 : decode b_Lw_page 3 = .ok (.aload_n 0, 1) := by decide +kernel
theorem d_Lw_page_4 : decode b_Lw_page 4 = .ok (.iload_n 1, 1) := by decide +kernel
theorem d_Lw_page_5 : decode b_Lw_page 5 = .ok (.iload_n 2, 1) := by decide +kernel
theorem d_Lw_page_6 : decode b_Lw_page 6 = .ok (.iload_n 3, 1) := by decide +kernel
theorem d_Lw_page_7 : decode b_Lw_page 7 = .ok (.iload 4, 2) := by decide +kernel
theorem d_Lw_page_9 : decode b_Lw_page 9 = .ok (.iload 5, 2) := by decide +kernel
theorem d_Lw_page_11 : decode b_Lw_page 11 = .ok (.invokevirtual 15, 3) := by decide +kernel
theorem d_Lw_page_14 : decode b_Lw_page 14 = .ok (.i2l, 1) := by decide +kernel
theorem d_Lw_page_15 : decode b_Lw_page 15 = .ok (.lastore, 1) := by decide +kernel
theorem d_Lw_page_16 : decode b_Lw_page 16 = .ok (.goto 11, 3) := by decide +kernel
theorem d_Lw_page_19 : decode b_Lw_page 19 = .ok (.astore 7, 2) := by decide +kernel
theorem d_Lw_page_21 : decode b_Lw_page 21 = .ok (.iconst 1, 1) := by decide +kernel
theorem d_Lw_page_22 : decode b_Lw_page 22 = .ok (.ireturn, 1) := by decide +kernel
theorem d_Lw_page_23 : decode b_Lw_page 23 = .ok (.astore 7, 2) := by decide +kernel
theorem d_Lw_page_25 : decode b_Lw_page 25 = .ok (.iconst 2, 1) := by decide +kernel
theorem d_Lw_page_26 : decode b_Lw_page 26 = .ok (.ireturn, 1) := by decide +kernel
theorem d_Lw_page_27 : decode b_Lw_page 27 = .ok (.iconst 0, 1) := by decide +kernel
theorem d_Lw_page_28 : decode b_Lw_page 28 = .ok (.ireturn, 1) := by decide +kernel
theorem d_Lw_strip_0 : decode b_Lw_strip 0 = .ok (.aload_n 1, 1) := by decide +kernel
theorem d_Lw_strip_1 : decode b_Lw_strip 1 = .ok (.iconst 0, 1) := by decide +kernel
theorem d_Lw_strip_2 : decode b_Lw_strip 2 = .ok (.aload_n 0, 1) := by decide +kernel
theorem d_Lw_strip_3 : decode b_Lw_strip 3 = .ok (.invokevirtual 21, 3) := by decide +kernel
theorem d_Lw_strip_6 : decode b_Lw_strip 6 = .ok (.i2l, 1) := by decide +kernel
theorem d_Lw_strip_7 : decode b_Lw_strip 7 = .ok (.lastore, 1) := by decide +kernel
theorem d_Lw_strip_8 : decode b_Lw_strip 8 = .ok (.goto 6, 3) := by decide +kernel
theorem d_Lw_strip_11 : decode b_Lw_strip 11 = .ok (.astore_n 2, 1) := by decide +kernel
theorem d_Lw_strip_12 : decode b_Lw_strip 12 = .ok (.iconst 1, 1) := by decide +kernel
theorem d_Lw_strip_13 : decode b_Lw_strip 13 = .ok (.ireturn, 1) := by decide +kernel
theorem d_Lw_strip_14 : decode b_Lw_strip 14 = .ok (.iconst 0, 1) := by decide +kernel
theorem d_Lw_strip_15 : decode b_Lw_strip 15 = .ok (.ireturn, 1) := by decide +kernel
theorem d_Lw_close_0 : decode b_Lw_close 0 = .ok (.aload_n 1, 1) := by decide +kernel
theorem d_Lw_close_1 : decode b_Lw_close 1 = .ok (.iconst 0, 1) := by decide +kernel
theorem d_Lw_close_2 : decode b_Lw_close 2 = .ok (.aload_n 0, 1) := by decide +kernel
theorem d_Lw_close_3 : decode b_Lw_close 3 = .ok (.invokevirtual 25, 3) := by decide +kernel
theorem d_Lw_close_6 : decode b_Lw_close 6 = .ok (.i2l, 1) := by decide +kernel
theorem d_Lw_close_7 : decode b_Lw_close 7 = .ok (.lastore, 1) := by decide +kernel
theorem d_Lw_close_8 : decode b_Lw_close 8 = .ok (.goto 6, 3) := by decide +kernel
theorem d_Lw_close_11 : decode b_Lw_close 11 = .ok (.astore_n 2, 1) := by decide +kernel
theorem d_Lw_close_12 : decode b_Lw_close 12 = .ok (.iconst 1, 1) := by decide +kernel
theorem d_Lw_close_13 : decode b_Lw_close 13 = .ok (.ireturn, 1) := by decide +kernel
theorem d_Lw_close_14 : decode b_Lw_close 14 = .ok (.iconst 0, 1) := by decide +kernel
theorem d_Lw_close_15 : decode b_Lw_close 15 = .ok (.ireturn, 1) := by decide +kernel
theorem d_Lw_end_0 : decode b_Lw_end 0 = .ok (.aload_n 1, 1) := by decide +kernel
theorem d_Lw_end_1 : decode b_Lw_end 1 = .ok (.iconst 0, 1) := by decide +kernel
theorem d_Lw_end_2 : decode b_Lw_end 2 = .ok (.aload_n 0, 1) := by decide +kernel
theorem d_Lw_end_3 : decode b_Lw_end 3 = .ok (.invokevirtual 28, 3) := by decide +kernel
theorem d_Lw_end_6 : decode b_Lw_end 6 = .ok (.i2l, 1) := by decide +kernel
theorem d_Lw_end_7 : decode b_Lw_end 7 = .ok (.lastore, 1) := by decide +kernel
theorem d_Lw_end_8 : decode b_Lw_end 8 = .ok (.goto 6, 3) := by decide +kernel
theorem d_Lw_end_11 : decode b_Lw_end 11 = .ok (.astore_n 2, 1) := by decide +kernel
theorem d_Lw_end_12 : decode b_Lw_end 12 = .ok (.iconst 1, 1) := by decide +kernel
theorem d_Lw_end_13 : decode b_Lw_end 13 = .ok (.ireturn, 1) := by decide +kernel
theorem d_Lw_end_14 : decode b_Lw_end 14 = .ok (.iconst 0, 1) := by decide +kernel
theorem d_Lw_end_15 : decode b_Lw_end 15 = .ok (.ireturn, 1) := by decide +kernel
theorem d_Lw_read_0 : decode b_Lw_read 0 = .ok (.aload_n 1, 1) := by decide +kernel
theorem d_Lw_read_1 : decode b_Lw_read 1 = .ok (.iconst 0, 1) := by decide +kernel
theorem d_Lw_read_2 : decode b_Lw_read 2 = .ok (.aload_n 0, 1) := by decide +kernel
theorem d_Lw_read_3 : decode b_Lw_read 3 = .ok (.invokevirtual 31, 3) := by decide +kernel
theorem d_Lw_read_6 : decode b_Lw_read 6 = .ok (.i2l, 1) := by decide +kernel
theorem d_Lw_read_7 : decode b_Lw_read 7 = .ok (.lastore, 1) := by decide +kernel
theorem d_Lw_read_8 : decode b_Lw_read 8 = .ok (.goto 6, 3) := by decide +kernel
theorem d_Lw_read_11 : decode b_Lw_read 11 = .ok (.astore_n 2, 1) := by decide +kernel
theorem d_Lw_read_12 : decode b_Lw_read 12 = .ok (.iconst 1, 1) := by decide +kernel
theorem d_Lw_read_13 : decode b_Lw_read 13 = .ok (.ireturn, 1) := by decide +kernel
theorem d_Lw_read_14 : decode b_Lw_read 14 = .ok (.iconst 0, 1) := by decide +kernel
theorem d_Lw_read_15 : decode b_Lw_read 15 = .ok (.ireturn, 1) := by decide +kernel
theorem d_Lw_of_0 : decode b_Lw_of 0 = .ok (.aload_n 3, 1) := by decide +kernel
theorem d_Lw_of_1 : decode b_Lw_of 1 = .ok (.iconst 0, 1) := by decide +kernel
theorem d_Lw_of_2 : decode b_Lw_of 2 = .ok (.aload_n 0, 1) := by decide +kernel
theorem d_Lw_of_3 : decode b_Lw_of 3 = .ok (.iload_n 1, 1) := by decide +kernel
theorem d_Lw_of_4 : decode b_Lw_of 4 = .ok (.iload_n 2, 1) := by decide +kernel
theorem d_Lw_of_5 : decode b_Lw_of 5 = .ok (.invokevirtual 34, 3) := by decide +kernel
theorem d_Lw_of_8 : decode b_Lw_of 8 = .ok (.lastore, 1) := by decide +kernel
theorem d_Lw_of_9 : decode b_Lw_of 9 = .ok (.goto 7, 3) := by decide +kernel
theorem d_Lw_of_12 : decode b_Lw_of 12 = .ok (.astore 4, 2) := by decide +kernel
theorem d_Lw_of_14 : decode b_Lw_of 14 = .ok (.iconst 1, 1) := by decide +kernel
theorem d_Lw_of_15 : decode b_Lw_of 15 = .ok (.ireturn, 1) := by decide +kernel
theorem d_Lw_of_16 : decode b_Lw_of 16 = .ok (.iconst 0, 1) := by decide +kernel
theorem d_Lw_of_17 : decode b_Lw_of 17 = .ok (.ireturn, 1) := by decide +kernel
theorem d_Lw_where_0 : decode b_Lw_where 0 = .ok (.aload 4, 2) := by decide +kernel
theorem d_Lw_where_2 : decode b_Lw_where 2 = .ok (.iconst 0, 1) := by decide +kernel
theorem d_Lw_where_3 : decode b_Lw_where 3 = .ok (.aload_n 0, 1) := by decide +kernel
theorem d_Lw_where_4 : decode b_Lw_where 4 = .ok (.iload_n 1, 1) := by decide +kernel
theorem d_Lw_where_5 : decode b_Lw_where 5 = .ok (.iload_n 2, 1) := by decide +kernel
theorem d_Lw_where_6 : decode b_Lw_where 6 = .ok (.iload_n 3, 1) := by decide +kernel
theorem d_Lw_where_7 : decode b_Lw_where 7 = .ok (.invokevirtual 40, 3) := by decide +kernel
theorem d_Lw_where_10 : decode b_Lw_where 10 = .ok (.i2l, 1) := by decide +kernel
theorem d_Lw_where_11 : decode b_Lw_where 11 = .ok (.lastore, 1) := by decide +kernel
theorem d_Lw_where_12 : decode b_Lw_where 12 = .ok (.goto 7, 3) := by decide +kernel
theorem d_Lw_where_15 : decode b_Lw_where 15 = .ok (.astore 5, 2) := by decide +kernel
theorem d_Lw_where_17 : decode b_Lw_where 17 = .ok (.iconst 1, 1) := by decide +kernel
theorem d_Lw_where_18 : decode b_Lw_where 18 = .ok (.ireturn, 1) := by decide +kernel
theorem d_Lw_where_19 : decode b_Lw_where 19 = .ok (.iconst 0, 1) := by decide +kernel
theorem d_Lw_where_20 : decode b_Lw_where 20 = .ok (.ireturn, 1) := by decide +kernel
theorem d_Lw_dots_0 : decode b_Lw_dots 0 = .ok (.aload 4, 2) := by decide +kernel
theorem d_Lw_dots_2 : decode b_Lw_dots 2 = .ok (.iconst 0, 1) := by decide +kernel
theorem d_Lw_dots_3 : decode b_Lw_dots 3 = .ok (.aload_n 0, 1) := by decide +kernel
theorem d_Lw_dots_4 : decode b_Lw_dots 4 = .ok (.iload_n 1, 1) := by decide +kernel
theorem d_Lw_dots_5 : decode b_Lw_dots 5 = .ok (.iload_n 2, 1) := by decide +kernel
theorem d_Lw_dots_6 : decode b_Lw_dots 6 = .ok (.iload_n 3, 1) := by decide +kernel
theorem d_Lw_dots_7 : decode b_Lw_dots 7 = .ok (.invokevirtual 44, 3) := by decide +kernel
theorem d_Lw_dots_10 : decode b_Lw_dots 10 = .ok (.i2l, 1) := by decide +kernel
theorem d_Lw_dots_11 : decode b_Lw_dots 11 = .ok (.lastore, 1) := by decide +kernel
theorem d_Lw_dots_12 : decode b_Lw_dots 12 = .ok (.goto 7, 3) := by decide +kernel
theorem d_Lw_dots_15 : decode b_Lw_dots 15 = .ok (.astore 5, 2) := by decide +kernel
theorem d_Lw_dots_17 : decode b_Lw_dots 17 = .ok (.iconst 1, 1) := by decide +kernel
theorem d_Lw_dots_18 : decode b_Lw_dots 18 = .ok (.ireturn, 1) := by decide +kernel
theorem d_Lw_dots_19 : decode b_Lw_dots 19 = .ok (.iconst 0, 1) := by decide +kernel
theorem d_Lw_dots_20 : decode b_Lw_dots 20 = .ok (.ireturn, 1) := by decide +kernel
theorem d_Lw_law_0 : decode code 0 = .ok (.new 8, 3) := by decide +kernel
theorem d_Lw_law_3 : decode code 3 = .ok (.dup, 1) := by decide +kernel
theorem d_Lw_law_4 : decode code 4 = .ok (.invokespecial 47, 3) := by decide +kernel
theorem d_Lw_law_7 : decode code 7 = .ok (.astore_n 1, 1) := by decide +kernel
theorem d_Lw_law_8 : decode code 8 = .ok (.new 48, 3) := by decide +kernel
theorem d_Lw_law_11 : decode code 11 = .ok (.dup, 1) := by decide +kernel
theorem d_Lw_law_12 : decode code 12 = .ok (.invokespecial 50, 3) := by decide +kernel
theorem d_Lw_law_15 : decode code 15 = .ok (.astore_n 2, 1) := by decide +kernel
theorem d_Lw_law_16 : decode code 16 = .ok (.iconst 1, 1) := by decide +kernel
theorem d_Lw_law_17 : decode code 17 = .ok (.newarray .long, 2) := by decide +kernel
theorem d_Lw_law_19 : decode code 19 = .ok (.astore_n 3, 1) := by decide +kernel
theorem d_Lw_law_20 : decode code 20 = .ok (.iconst 0, 1) := by decide +kernel
theorem d_Lw_law_21 : decode code 21 = .ok (.istore 4, 2) := by decide +kernel
theorem d_Lw_law_23 : decode code 23 = .ok (.iload 4, 2) := by decide +kernel
theorem d_Lw_law_25 : decode code 25 = .ok (.aload_n 0, 1) := by decide +kernel
theorem d_Lw_law_26 : decode code 26 = .ok (.arraylength, 1) := by decide +kernel
theorem d_Lw_law_27 : decode code 27 = .ok (.bipush 6, 2) := by decide +kernel
theorem d_Lw_law_29 : decode code 29 = .ok (.isub, 1) := by decide +kernel
theorem d_Lw_law_30 : decode code 30 = .ok (.if_icmp .gt 915, 3) := by decide +kernel
theorem d_Lw_law_33 : decode code 33 = .ok (.aload_n 0, 1) := by decide +kernel
theorem d_Lw_law_34 : decode code 34 = .ok (.iload 4, 2) := by decide +kernel
theorem d_Lw_law_36 : decode code 36 = .ok (.iaload, 1) := by decide +kernel
theorem d_Lw_law_37 : decode code 37 = .ok (.bipush 15, 2) := by decide +kernel
theorem d_Lw_law_39 : decode code 39 = .ok (.iand, 1) := by decide +kernel
theorem d_Lw_law_40 : decode code 40 = .ok (.tableswitch 899 0 15 #[80, 149, 186, 211, 237, 273, 377, 446, 490, 534, 578, 622, 647, 714, 794, 874], 80) := by decide +kernel
theorem d_Lw_law_120 : decode code 120 = .ok (.aload_n 1, 1) := by decide +kernel
theorem d_Lw_law_121 : decode code 121 = .ok (.aload_n 0, 1) := by decide +kernel
theorem d_Lw_law_122 : decode code 122 = .ok (.iload 4, 2) := by decide +kernel
theorem d_Lw_law_124 : decode code 124 = .ok (.iconst 1, 1) := by decide +kernel
theorem d_Lw_law_125 : decode code 125 = .ok (.iadd, 1) := by decide +kernel
theorem d_Lw_law_126 : decode code 126 = .ok (.iaload, 1) := by decide +kernel
theorem d_Lw_law_127 : decode code 127 = .ok (.i2l, 1) := by decide +kernel
theorem d_Lw_law_128 : decode code 128 = .ok (.bipush 32, 2) := by decide +kernel
theorem d_Lw_law_130 : decode code 130 = .ok (.lshl, 1) := by decide +kernel
theorem d_Lw_law_131 : decode code 131 = .ok (.aload_n 0, 1) := by decide +kernel
theorem d_Lw_law_132 : decode code 132 = .ok (.iload 4, 2) := by decide +kernel
theorem d_Lw_law_134 : decode code 134 = .ok (.iconst 2, 1) := by decide +kernel
theorem d_Lw_law_135 : decode code 135 = .ok (.iadd, 1) := by decide +kernel
theorem d_Lw_law_136 : decode code 136 = .ok (.iaload, 1) := by decide +kernel
theorem d_Lw_law_137 : decode code 137 = .ok (.i2l, 1) := by decide +kernel
theorem d_Lw_law_138 : decode code 138 = .ok (.ldc2_w 51, 3) := by decide +kernel
theorem d_Lw_law_141 : decode code 141 = .ok (.land, 1) := by decide +kernel
theorem d_Lw_law_142 : decode code 142 = .ok (.lor, 1) := by decide +kernel
theorem d_Lw_law_143 : decode code 143 = .ok (.aload_n 0, 1) := by decide +kernel
theorem d_Lw_law_144 : decode code 144 = .ok (.iload 4, 2) := by decide +kernel
theorem d_Lw_law_146 : decode code 146 = .ok (.iconst 3, 1) := by decide +kernel
theorem d_Lw_law_147 : decode code 147 = .ok (.iadd, 1) := by decide +kernel
theorem d_Lw_law_148 : decode code 148 = .ok (.iaload, 1) := by decide +kernel
theorem d_Lw_law_149 : decode code 149 = .ok (.invokevirtual 53, 3) := by decide +kernel
theorem d_Lw_law_152 : decode code 152 = .ok (.aload_n 2, 1) := by decide +kernel
theorem d_Lw_law_153 : decode code 153 = .ok (.aload_n 0, 1) := by decide +kernel
theorem d_Lw_law_154 : decode code 154 = .ok (.iload 4, 2) := by decide +kernel
theorem d_Lw_law_156 : decode code 156 = .ok (.iconst 1, 1) := by decide +kernel
theorem d_Lw_law_157 : decode code 157 = .ok (.iadd, 1) := by decide +kernel
theorem d_Lw_law_158 : decode code 158 = .ok (.iaload, 1) := by decide +kernel
theorem d_Lw_law_159 : decode code 159 = .ok (.i2l, 1) := by decide +kernel
theorem d_Lw_law_160 : decode code 160 = .ok (.bipush 32, 2) := by decide +kernel
theorem d_Lw_law_162 : decode code 162 = .ok (.lshl, 1) := by decide +kernel
theorem d_Lw_law_163 : decode code 163 = .ok (.aload_n 0, 1) := by decide +kernel
theorem d_Lw_law_164 : decode code 164 = .ok (.iload 4, 2) := by decide +kernel
theorem d_Lw_law_166 : decode code 166 = .ok (.iconst 2, 1) := by decide +kernel
theorem d_Lw_law_167 : decode code 167 = .ok (.iadd, 1) := by decide +kernel
theorem d_Lw_law_168 : decode code 168 = .ok (.iaload, 1) := by decide +kernel
theorem d_Lw_law_169 : decode code 169 = .ok (.i2l, 1) := by decide +kernel
theorem d_Lw_law_170 : decode code 170 = .ok (.ldc2_w 51, 3) := by decide +kernel
theorem d_Lw_law_173 : decode code 173 = .ok (.land, 1) := by decide +kernel
theorem d_Lw_law_174 : decode code 174 = .ok (.lor, 1) := by decide +kernel
theorem d_Lw_law_175 : decode code 175 = .ok (.aload_n 0, 1) := by decide +kernel
theorem d_Lw_law_176 : decode code 176 = .ok (.iload 4, 2) := by decide +kernel
theorem d_Lw_law_178 : decode code 178 = .ok (.iconst 3, 1) := by decide +kernel
theorem d_Lw_law_179 : decode code 179 = .ok (.iadd, 1) := by decide +kernel
theorem d_Lw_law_180 : decode code 180 = .ok (.iaload, 1) := by decide +kernel
theorem d_Lw_law_181 : decode code 181 = .ok (.invokevirtual 57, 3) := by decide +kernel
theorem d_Lw_law_184 : decode code 184 = .ok (.if_icmp .eq 755, 3) := by decide +kernel
theorem d_Lw_law_187 : decode code 187 = .ok (.iconst 0, 1) := by decide +kernel
theorem d_Lw_law_188 : decode code 188 = .ok (.ireturn, 1) := by decide +kernel
theorem d_Lw_law_189 : decode code 189 = .ok (.aload_n 1, 1) := by decide +kernel
theorem d_Lw_law_190 : decode code 190 = .ok (.aload_n 0, 1) := by decide +kernel
theorem d_Lw_law_191 : decode code 191 = .ok (.iload 4, 2) := by decide +kernel
theorem d_Lw_law_193 : decode code 193 = .ok (.iconst 1, 1) := by decide +kernel
theorem d_Lw_law_194 : decode code 194 = .ok (.iadd, 1) := by decide +kernel
theorem d_Lw_law_195 : decode code 195 = .ok (.iaload, 1) := by decide +kernel
theorem d_Lw_law_196 : decode code 196 = .ok (.aload_n 0, 1) := by decide +kernel
theorem d_Lw_law_197 : decode code 197 = .ok (.iload 4, 2) := by decide +kernel
theorem d_Lw_law_199 : decode code 199 = .ok (.iconst 2, 1) := by decide +kernel
theorem d_Lw_law_200 : decode code 200 = .ok (.iadd, 1) := by decide +kernel
theorem d_Lw_law_201 : decode code 201 = .ok (.iaload, 1) := by decide +kernel
theorem d_Lw_law_202 : decode code 202 = .ok (.invokevirtual 58, 3) := by decide +kernel
theorem d_Lw_law_205 : decode code 205 = .ok (.aload_n 2, 1) := by decide +kernel
theorem d_Lw_law_206 : decode code 206 = .ok (.aload_n 0, 1) := by decide +kernel
theorem d_Lw_law_207 : decode code 207 = .ok (.iload 4, 2) := by decide +kernel
theorem d_Lw_law_209 : decode code 209 = .ok (.iconst 1, 1) := by decide +kernel
theorem d_Lw_law_210 : decode code 210 = .ok (.iadd, 1) := by decide +kernel
theorem d_Lw_law_211 : decode code 211 = .ok (.iaload, 1) := by decide +kernel
theorem d_Lw_law_212 : decode code 212 = .ok (.aload_n 0, 1) := by decide +kernel
theorem d_Lw_law_213 : decode code 213 = .ok (.iload 4, 2) := by decide +kernel
theorem d_Lw_law_215 : decode code 215 = .ok (.iconst 2, 1) := by decide +kernel
theorem d_Lw_law_216 : decode code 216 = .ok (.iadd, 1) := by decide +kernel
theorem d_Lw_law_217 : decode code 217 = .ok (.iaload, 1) := by decide +kernel
theorem d_Lw_law_218 : decode code 218 = .ok (.invokevirtual 62, 3) := by decide +kernel
theorem d_Lw_law_221 : decode code 221 = .ok (.if_icmp .eq 718, 3) := by decide +kernel
theorem d_Lw_law_224 : decode code 224 = .ok (.iconst 0, 1) := by decide +kernel
theorem d_Lw_law_225 : decode code 225 = .ok (.ireturn, 1) := by decide +kernel
theorem d_Lw_law_226 : decode code 226 = .ok (.aload_n 1, 1) := by decide +kernel
theorem d_Lw_law_227 : decode code 227 = .ok (.aload_n 0, 1) := by decide +kernel
theorem d_Lw_law_228 : decode code 228 = .ok (.iload 4, 2) := by decide +kernel
theorem d_Lw_law_230 : decode code 230 = .ok (.iconst 1, 1) := by decide +kernel
theorem d_Lw_law_231 : decode code 231 = .ok (.iadd, 1) := by decide +kernel
theorem d_Lw_law_232 : decode code 232 = .ok (.iaload, 1) := by decide +kernel
theorem d_Lw_law_233 : decode code 233 = .ok (.invokevirtual 63, 3) := by decide +kernel
theorem d_Lw_law_236 : decode code 236 = .ok (.aload_n 2, 1) := by decide +kernel
theorem d_Lw_law_237 : decode code 237 = .ok (.aload_n 0, 1) := by decide +kernel
theorem d_Lw_law_238 : decode code 238 = .ok (.iload 4, 2) := by decide +kernel
theorem d_Lw_law_240 : decode code 240 = .ok (.iconst 1, 1) := by decide +kernel
theorem d_Lw_law_241 : decode code 241 = .ok (.iadd, 1) := by decide +kernel
theorem d_Lw_law_242 : decode code 242 = .ok (.iaload, 1) := by decide +kernel
theorem d_Lw_law_243 : decode code 243 = .ok (.invokevirtual 67, 3) := by decide +kernel
theorem d_Lw_law_246 : decode code 246 = .ok (.if_icmp .eq 693, 3) := by decide +kernel
theorem d_Lw_law_249 : decode code 249 = .ok (.iconst 0, 1) := by decide +kernel
theorem d_Lw_law_250 : decode code 250 = .ok (.ireturn, 1) := by decide +kernel
theorem d_Lw_law_251 : decode code 251 = .ok (.aload_n 1, 1) := by decide +kernel
theorem d_Lw_law_252 : decode code 252 = .ok (.aload_n 0, 1) := by decide +kernel
theorem d_Lw_law_253 : decode code 253 = .ok (.iload 4, 2) := by decide +kernel
theorem d_Lw_law_255 : decode code 255 = .ok (.iconst 1, 1) := by decide +kernel
theorem d_Lw_law_256 : decode code 256 = .ok (.iadd, 1) := by decide +kernel
theorem d_Lw_law_257 : decode code 257 = .ok (.iaload, 1) := by decide +kernel
theorem d_Lw_law_258 : decode code 258 = .ok (.invokevirtual 68, 3) := by decide +kernel
theorem d_Lw_law_261 : decode code 261 = .ok (.aload_n 2, 1) := by decide +kernel
theorem d_Lw_law_262 : decode code 262 = .ok (.aload_n 0, 1) := by decide +kernel
theorem d_Lw_law_263 : decode code 263 = .ok (.iload 4, 2) := by decide +kernel
theorem d_Lw_law_265 : decode code 265 = .ok (.iconst 1, 1) := by decide +kernel
theorem d_Lw_law_266 : decode code 266 = .ok (.iadd, 1) := by decide +kernel
theorem d_Lw_law_267 : decode code 267 = .ok (.iaload, 1) := by decide +kernel
theorem d_Lw_law_268 : decode code 268 = .ok (.invokevirtual 72, 3) := by decide +kernel
theorem d_Lw_law_271 : decode code 271 = .ok (.lcmp, 1) := by decide +kernel
theorem d_Lw_law_272 : decode code 272 = .ok (.ifCond .eq 667, 3) := by decide +kernel
theorem d_Lw_law_275 : decode code 275 = .ok (.iconst 0, 1) := by decide +kernel
theorem d_Lw_law_276 : decode code 276 = .ok (.ireturn, 1) := by decide +kernel
theorem d_Lw_law_277 : decode code 277 = .ok (.aload_n 1, 1) := by decide +kernel
theorem d_Lw_law_278 : decode code 278 = .ok (.aload_n 0, 1) := by decide +kernel
theorem d_Lw_law_279 : decode code 279 = .ok (.iload 4, 2) := by decide +kernel
theorem d_Lw_law_281 : decode code 281 = .ok (.iconst 1, 1) := by decide +kernel
theorem d_Lw_law_282 : decode code 282 = .ok (.iadd, 1) := by decide +kernel
theorem d_Lw_law_283 : decode code 283 = .ok (.iaload, 1) := by decide +kernel
theorem d_Lw_law_284 : decode code 284 = .ok (.invokestatic 73, 3) := by decide +kernel
theorem d_Lw_law_287 : decode code 287 = .ok (.istore 5, 2) := by decide +kernel
theorem d_Lw_law_289 : decode code 289 = .ok (.aload_n 2, 1) := by decide +kernel
theorem d_Lw_law_290 : decode code 290 = .ok (.aload_n 0, 1) := by decide +kernel
theorem d_Lw_law_291 : decode code 291 = .ok (.iload 4, 2) := by decide +kernel
theorem d_Lw_law_293 : decode code 293 = .ok (.iconst 1, 1) := by decide +kernel
theorem d_Lw_law_294 : decode code 294 = .ok (.iadd, 1) := by decide +kernel
theorem d_Lw_law_295 : decode code 295 = .ok (.iaload, 1) := by decide +kernel
theorem d_Lw_law_296 : decode code 296 = .ok (.invokevirtual 78, 3) := by decide +kernel
theorem d_Lw_law_299 : decode code 299 = .ok (.aload_n 2, 1) := by decide +kernel
theorem d_Lw_law_300 : decode code 300 = .ok (.invokevirtual 79, 3) := by decide +kernel
theorem d_Lw_law_303 : decode code 303 = .ok (.iload 5, 2) := by decide +kernel
theorem d_Lw_law_305 : decode code 305 = .ok (.if_icmp .eq 5, 3) := by decide +kernel
theorem d_Lw_law_308 : decode code 308 = .ok (.iconst 0, 1) := by decide +kernel
theorem d_Lw_law_309 : decode code 309 = .ok (.ireturn, 1) := by decide +kernel
theorem d_Lw_law_310 : decode code 310 = .ok (.goto 629, 3) := by decide +kernel
theorem d_Lw_law_313 : decode code 313 = .ok (.aload_n 1, 1) := by decide +kernel
theorem d_Lw_law_314 : decode code 314 = .ok (.aload_n 0, 1) := by decide +kernel
theorem d_Lw_law_315 : decode code 315 = .ok (.iload 4, 2) := by decide +kernel
theorem d_Lw_law_317 : decode code 317 = .ok (.iconst 1, 1) := by decide +kernel
theorem d_Lw_law_318 : decode code 318 = .ok (.iadd, 1) := by decide +kernel
theorem d_Lw_law_319 : decode code 319 = .ok (.iaload, 1) := by decide +kernel
theorem d_Lw_law_320 : decode code 320 = .ok (.aload_n 0, 1) := by decide +kernel
theorem d_Lw_law_321 : decode code 321 = .ok (.iload 4, 2) := by decide +kernel
theorem d_Lw_law_323 : decode code 323 = .ok (.iconst 2, 1) := by decide +kernel
theorem d_Lw_law_324 : decode code 324 = .ok (.iadd, 1) := by decide +kernel
theorem d_Lw_law_325 : decode code 325 = .ok (.iaload, 1) := by decide +kernel
theorem d_Lw_law_326 : decode code 326 = .ok (.aload_n 0, 1) := by decide +kernel
theorem d_Lw_law_327 : decode code 327 = .ok (.iload 4, 2) := by decide +kernel
theorem d_Lw_law_329 : decode code 329 = .ok (.iconst 3, 1) := by decide +kernel
theorem d_Lw_law_330 : decode code 330 = .ok (.iadd, 1) := by decide +kernel
theorem d_Lw_law_331 : decode code 331 = .ok (.iaload, 1) := by decide +kernel
theorem d_Lw_law_332 : decode code 332 = .ok (.aload_n 0, 1) := by decide +kernel
theorem d_Lw_law_333 : decode code 333 = .ok (.iload 4, 2) := by decide +kernel
theorem d_Lw_law_335 : decode code 335 = .ok (.iconst 4, 1) := by decide +kernel
theorem d_Lw_law_336 : decode code 336 = .ok (.iadd, 1) := by decide +kernel
theorem d_Lw_law_337 : decode code 337 = .ok (.iaload, 1) := by decide +kernel
theorem d_Lw_law_338 : decode code 338 = .ok (.aload_n 0, 1) := by decide +kernel
theorem d_Lw_law_339 : decode code 339 = .ok (.iload 4, 2) := by decide +kernel
theorem d_Lw_law_341 : decode code 341 = .ok (.iconst 5, 1) := by decide +kernel
theorem d_Lw_law_342 : decode code 342 = .ok (.iadd, 1) := by decide +kernel
theorem d_Lw_law_343 : decode code 343 = .ok (.iaload, 1) := by decide +kernel
theorem d_Lw_law_344 : decode code 344 = .ok (.aload_n 3, 1) := by decide +kernel
theorem d_Lw_law_345 : decode code 345 = .ok (.invokestatic 82, 3) := by decide +kernel
theorem d_Lw_law_348 : decode code 348 = .ok (.istore 5, 2) := by decide +kernel
theorem d_Lw_law_350 : decode code 350 = .ok (.aload_n 2, 1) := by decide +kernel
theorem d_Lw_law_351 : decode code 351 = .ok (.aload_n 0, 1) := by decide +kernel
theorem d_Lw_law_352 : decode code 352 = .ok (.iload 4, 2) := by decide +kernel
theorem d_Lw_law_354 : decode code 354 = .ok (.iconst 1, 1) := by decide +kernel
theorem d_Lw_law_355 : decode code 355 = .ok (.iadd, 1) := by decide +kernel
theorem d_Lw_law_356 : decode code 356 = .ok (.iaload, 1) := by decide +kernel
theorem d_Lw_law_357 : decode code 357 = .ok (.aload_n 0, 1) := by decide +kernel
theorem d_Lw_law_358 : decode code 358 = .ok (.iload 4, 2) := by decide +kernel
theorem d_Lw_law_360 : decode code 360 = .ok (.iconst 2, 1) := by decide +kernel
theorem d_Lw_law_361 : decode code 361 = .ok (.iadd, 1) := by decide +kernel
theorem d_Lw_law_362 : decode code 362 = .ok (.iaload, 1) := by decide +kernel
theorem d_Lw_law_363 : decode code 363 = .ok (.aload_n 0, 1) := by decide +kernel
theorem d_Lw_law_364 : decode code 364 = .ok (.iload 4, 2) := by decide +kernel
theorem d_Lw_law_366 : decode code 366 = .ok (.iconst 3, 1) := by decide +kernel
theorem d_Lw_law_367 : decode code 367 = .ok (.iadd, 1) := by decide +kernel
theorem d_Lw_law_368 : decode code 368 = .ok (.iaload, 1) := by decide +kernel
theorem d_Lw_law_369 : decode code 369 = .ok (.aload_n 0, 1) := by decide +kernel
theorem d_Lw_law_370 : decode code 370 = .ok (.iload 4, 2) := by decide +kernel
theorem d_Lw_law_372 : decode code 372 = .ok (.iconst 4, 1) := by decide +kernel
theorem d_Lw_law_373 : decode code 373 = .ok (.iadd, 1) := by decide +kernel
theorem d_Lw_law_374 : decode code 374 = .ok (.iaload, 1) := by decide +kernel
theorem d_Lw_law_375 : decode code 375 = .ok (.aload_n 0, 1) := by decide +kernel
theorem d_Lw_law_376 : decode code 376 = .ok (.iload 4, 2) := by decide +kernel
theorem d_Lw_law_378 : decode code 378 = .ok (.iconst 5, 1) := by decide +kernel
theorem d_Lw_law_379 : decode code 379 = .ok (.iadd, 1) := by decide +kernel
theorem d_Lw_law_380 : decode code 380 = .ok (.iaload, 1) := by decide +kernel
theorem d_Lw_law_381 : decode code 381 = .ok (.invokevirtual 85, 3) := by decide +kernel
theorem d_Lw_law_384 : decode code 384 = .ok (.istore 6, 2) := by decide +kernel
theorem d_Lw_law_386 : decode code 386 = .ok (.aload_n 2, 1) := by decide +kernel
theorem d_Lw_law_387 : decode code 387 = .ok (.invokevirtual 79, 3) := by decide +kernel
theorem d_Lw_law_390 : decode code 390 = .ok (.iload 5, 2) := by decide +kernel
theorem d_Lw_law_392 : decode code 392 = .ok (.if_icmp .eq 5, 3) := by decide +kernel
theorem d_Lw_law_395 : decode code 395 = .ok (.iconst 0, 1) := by decide +kernel
theorem d_Lw_law_396 : decode code 396 = .ok (.ireturn, 1) := by decide +kernel
theorem d_Lw_law_397 : decode code 397 = .ok (.iload 5, 2) := by decide +kernel
theorem d_Lw_law_399 : decode code 399 = .ok (.ifCond .ne 15, 3) := by decide +kernel
theorem d_Lw_law_402 : decode code 402 = .ok (.aload_n 3, 1) := by decide +kernel
theorem d_Lw_law_403 : decode code 403 = .ok (.iconst 0, 1) := by decide +kernel
theorem d_Lw_law_404 : decode code 404 = .ok (.laload, 1) := by decide +kernel
theorem d_Lw_law_405 : decode code 405 = .ok (.iload 6, 2) := by decide +kernel
theorem d_Lw_law_407 : decode code 407 = .ok (.i2l, 1) := by decide +kernel
theorem d_Lw_law_408 : decode code 408 = .ok (.lcmp, 1) := by decide +kernel
theorem d_Lw_law_409 : decode code 409 = .ok (.ifCond .eq 5, 3) := by decide +kernel
theorem d_Lw_law_412 : decode code 412 = .ok (.iconst 0, 1) := by decide +kernel
theorem d_Lw_law_413 : decode code 413 = .ok (.ireturn, 1) := by decide +kernel
theorem d_Lw_law_414 : decode code 414 = .ok (.goto 525, 3) := by decide +kernel
theorem d_Lw_law_417 : decode code 417 = .ok (.aload_n 1, 1) := by decide +kernel
theorem d_Lw_law_418 : decode code 418 = .ok (.aload_n 0, 1) := by decide +kernel
theorem d_Lw_law_419 : decode code 419 = .ok (.iload 4, 2) := by decide +kernel
theorem d_Lw_law_421 : decode code 421 = .ok (.iconst 1, 1) := by decide +kernel
theorem d_Lw_law_422 : decode code 422 = .ok (.iadd, 1) := by decide +kernel
theorem d_Lw_law_423 : decode code 423 = .ok (.iaload, 1) := by decide +kernel
theorem d_Lw_law_424 : decode code 424 = .ok (.i2l, 1) := by decide +kernel
theorem d_Lw_law_425 : decode code 425 = .ok (.bipush 32, 2) := by decide +kernel
theorem d_Lw_law_427 : decode code 427 = .ok (.lshl, 1) := by decide +kernel
theorem d_Lw_law_428 : decode code 428 = .ok (.aload_n 0, 1) := by decide +kernel
theorem d_Lw_law_429 : decode code 429 = .ok (.iload 4, 2) := by decide +kernel
theorem d_Lw_law_431 : decode code 431 = .ok (.iconst 2, 1) := by decide +kernel
theorem d_Lw_law_432 : decode code 432 = .ok (.iadd, 1) := by decide +kernel
theorem d_Lw_law_433 : decode code 433 = .ok (.iaload, 1) := by decide +kernel
theorem d_Lw_law_434 : decode code 434 = .ok (.i2l, 1) := by decide +kernel
theorem d_Lw_law_435 : decode code 435 = .ok (.ldc2_w 51, 3) := by decide +kernel
theorem d_Lw_law_438 : decode code 438 = .ok (.land, 1) := by decide +kernel
theorem d_Lw_law_439 : decode code 439 = .ok (.lor, 1) := by decide +kernel
theorem d_Lw_law_440 : decode code 440 = .ok (.aload_n 0, 1) := by decide +kernel
theorem d_Lw_law_441 : decode code 441 = .ok (.iload 4, 2) := by decide +kernel
theorem d_Lw_law_443 : decode code 443 = .ok (.iconst 3, 1) := by decide +kernel
theorem d_Lw_law_444 : decode code 444 = .ok (.iadd, 1) := by decide +kernel
theorem d_Lw_law_445 : decode code 445 = .ok (.iaload, 1) := by decide +kernel
theorem d_Lw_law_446 : decode code 446 = .ok (.invokevirtual 86, 3) := by decide +kernel
theorem d_Lw_law_449 : decode code 449 = .ok (.aload_n 2, 1) := by decide +kernel
theorem d_Lw_law_450 : decode code 450 = .ok (.aload_n 0, 1) := by decide +kernel
theorem d_Lw_law_451 : decode code 451 = .ok (.iload 4, 2) := by decide +kernel
theorem d_Lw_law_453 : decode code 453 = .ok (.iconst 1, 1) := by decide +kernel
theorem d_Lw_law_454 : decode code 454 = .ok (.iadd, 1) := by decide +kernel
theorem d_Lw_law_455 : decode code 455 = .ok (.iaload, 1) := by decide +kernel
theorem d_Lw_law_456 : decode code 456 = .ok (.i2l, 1) := by decide +kernel
theorem d_Lw_law_457 : decode code 457 = .ok (.bipush 32, 2) := by decide +kernel
theorem d_Lw_law_459 : decode code 459 = .ok (.lshl, 1) := by decide +kernel
theorem d_Lw_law_460 : decode code 460 = .ok (.aload_n 0, 1) := by decide +kernel
theorem d_Lw_law_461 : decode code 461 = .ok (.iload 4, 2) := by decide +kernel
theorem d_Lw_law_463 : decode code 463 = .ok (.iconst 2, 1) := by decide +kernel
theorem d_Lw_law_464 : decode code 464 = .ok (.iadd, 1) := by decide +kernel
theorem d_Lw_law_465 : decode code 465 = .ok (.iaload, 1) := by decide +kernel
theorem d_Lw_law_466 : decode code 466 = .ok (.i2l, 1) := by decide +kernel
theorem d_Lw_law_467 : decode code 467 = .ok (.ldc2_w 51, 3) := by decide +kernel
theorem d_Lw_law_470 : decode code 470 = .ok (.land, 1) := by decide +kernel
theorem d_Lw_law_471 : decode code 471 = .ok (.lor, 1) := by decide +kernel
theorem d_Lw_law_472 : decode code 472 = .ok (.aload_n 0, 1) := by decide +kernel
theorem d_Lw_law_473 : decode code 473 = .ok (.iload 4, 2) := by decide +kernel
theorem d_Lw_law_475 : decode code 475 = .ok (.iconst 3, 1) := by decide +kernel
theorem d_Lw_law_476 : decode code 476 = .ok (.iadd, 1) := by decide +kernel
theorem d_Lw_law_477 : decode code 477 = .ok (.iaload, 1) := by decide +kernel
theorem d_Lw_law_478 : decode code 478 = .ok (.invokevirtual 89, 3) := by decide +kernel
theorem d_Lw_law_481 : decode code 481 = .ok (.if_icmp .eq 458, 3) := by decide +kernel
theorem d_Lw_law_484 : decode code 484 = .ok (.iconst 0, 1) := by decide +kernel
theorem d_Lw_law_485 : decode code 485 = .ok (.ireturn, 1) := by decide +kernel
theorem d_Lw_law_486 : decode code 486 = .ok (.aload_n 1, 1) := by decide +kernel
theorem d_Lw_law_487 : decode code 487 = .ok (.aload_n 3, 1) := by decide +kernel
theorem d_Lw_law_488 : decode code 488 = .ok (.invokestatic 90, 3) := by decide +kernel
theorem d_Lw_law_491 : decode code 491 = .ok (.istore 5, 2) := by decide +kernel
theorem d_Lw_law_493 : decode code 493 = .ok (.aload_n 2, 1) := by decide +kernel
theorem d_Lw_law_494 : decode code 494 = .ok (.invokevirtual 93, 3) := by decide +kernel
theorem d_Lw_law_497 : decode code 497 = .ok (.istore 6, 2) := by decide +kernel
theorem d_Lw_law_499 : decode code 499 = .ok (.aload_n 2, 1) := by decide +kernel
theorem d_Lw_law_500 : decode code 500 = .ok (.invokevirtual 79, 3) := by decide +kernel
theorem d_Lw_law_503 : decode code 503 = .ok (.iload 5, 2) := by decide +kernel
theorem d_Lw_law_505 : decode code 505 = .ok (.if_icmp .eq 5, 3) := by decide +kernel
theorem d_Lw_law_508 : decode code 508 = .ok (.iconst 0, 1) := by decide +kernel
theorem d_Lw_law_509 : decode code 509 = .ok (.ireturn, 1) := by decide +kernel
theorem d_Lw_law_510 : decode code 510 = .ok (.iload 5, 2) := by decide +kernel
theorem d_Lw_law_512 : decode code 512 = .ok (.ifCond .ne 15, 3) := by decide +kernel
theorem d_Lw_law_515 : decode code 515 = .ok (.aload_n 3, 1) := by decide +kernel
theorem d_Lw_law_516 : decode code 516 = .ok (.iconst 0, 1) := by decide +kernel
theorem d_Lw_law_517 : decode code 517 = .ok (.laload, 1) := by decide +kernel
theorem d_Lw_law_518 : decode code 518 = .ok (.iload 6, 2) := by decide +kernel
theorem d_Lw_law_520 : decode code 520 = .ok (.i2l, 1) := by decide +kernel
theorem d_Lw_law_521 : decode code 521 = .ok (.lcmp, 1) := by decide +kernel
theorem d_Lw_law_522 : decode code 522 = .ok (.ifCond .eq 5, 3) := by decide +kernel
theorem d_Lw_law_525 : decode code 525 = .ok (.iconst 0, 1) := by decide +kernel
theorem d_Lw_law_526 : decode code 526 = .ok (.ireturn, 1) := by decide +kernel
theorem d_Lw_law_527 : decode code 527 = .ok (.goto 412, 3) := by decide +kernel
theorem d_Lw_law_530 : decode code 530 = .ok (.aload_n 1, 1) := by decide +kernel
theorem d_Lw_law_531 : decode code 531 = .ok (.aload_n 3, 1) := by decide +kernel
theorem d_Lw_law_532 : decode code 532 = .ok (.invokestatic 94, 3) := by decide +kernel
theorem d_Lw_law_535 : decode code 535 = .ok (.istore 5, 2) := by decide +kernel
theorem d_Lw_law_537 : decode code 537 = .ok (.aload_n 2, 1) := by decide +kernel
theorem d_Lw_law_538 : decode code 538 = .ok (.invokevirtual 96, 3) := by decide +kernel
theorem d_Lw_law_541 : decode code 541 = .ok (.istore 6, 2) := by decide +kernel
theorem d_Lw_law_543 : decode code 543 = .ok (.aload_n 2, 1) := by decide +kernel
theorem d_Lw_law_544 : decode code 544 = .ok (.invokevirtual 79, 3) := by decide +kernel
theorem d_Lw_law_547 : decode code 547 = .ok (.iload 5, 2) := by decide +kernel
theorem d_Lw_law_549 : decode code 549 = .ok (.if_icmp .eq 5, 3) := by decide +kernel
theorem d_Lw_law_552 : decode code 552 = .ok (.iconst 0, 1) := by decide +kernel
theorem d_Lw_law_553 : decode code 553 = .ok (.ireturn, 1) := by decide +kernel
theorem d_Lw_law_554 : decode code 554 = .ok (.iload 5, 2) := by decide +kernel
theorem d_Lw_law_556 : decode code 556 = .ok (.ifCond .ne 15, 3) := by decide +kernel
theorem d_Lw_law_559 : decode code 559 = .ok (.aload_n 3, 1) := by decide +kernel
theorem d_Lw_law_560 : decode code 560 = .ok (.iconst 0, 1) := by decide +kernel
theorem d_Lw_law_561 : decode code 561 = .ok (.laload, 1) := by decide +kernel
theorem d_Lw_law_562 : decode code 562 = .ok (.iload 6, 2) := by decide +kernel
theorem d_Lw_law_564 : decode code 564 = .ok (.i2l, 1) := by decide +kernel
theorem d_Lw_law_565 : decode code 565 = .ok (.lcmp, 1) := by decide +kernel
theorem d_Lw_law_566 : decode code 566 = .ok (.ifCond .eq 5, 3) := by decide +kernel
theorem d_Lw_law_569 : decode code 569 = .ok (.iconst 0, 1) := by decide +kernel
theorem d_Lw_law_570 : decode code 570 = .ok (.ireturn, 1) := by decide +kernel
theorem d_Lw_law_571 : decode code 571 = .ok (.goto 368, 3) := by decide +kernel
theorem d_Lw_law_574 : decode code 574 = .ok (.aload_n 1, 1) := by decide +kernel
theorem d_Lw_law_575 : decode code 575 = .ok (.aload_n 3, 1) := by decide +kernel
theorem d_Lw_law_576 : decode code 576 = .ok (.invokestatic 97, 3) := by decide +kernel
theorem d_Lw_law_579 : decode code 579 = .ok (.istore 5, 2) := by decide +kernel
theorem d_Lw_law_581 : decode code 581 = .ok (.aload_n 2, 1) := by decide +kernel
theorem d_Lw_law_582 : decode code 582 = .ok (.invokevirtual 99, 3) := by decide +kernel
theorem d_Lw_law_585 : decode code 585 = .ok (.istore 6, 2) := by decide +kernel
theorem d_Lw_law_587 : decode code 587 = .ok (.aload_n 2, 1) := by decide +kernel
theorem d_Lw_law_588 : decode code 588 = .ok (.invokevirtual 79, 3) := by decide +kernel
theorem d_Lw_law_591 : decode code 591 = .ok (.iload 5, 2) := by decide +kernel
theorem d_Lw_law_593 : decode code 593 = .ok (.if_icmp .eq 5, 3) := by decide +kernel
theorem d_Lw_law_596 : decode code 596 = .ok (.iconst 0, 1) := by decide +kernel
theorem d_Lw_law_597 : decode code 597 = .ok (.ireturn, 1) := by decide +kernel
theorem d_Lw_law_598 : decode code 598 = .ok (.iload 5, 2) := by decide +kernel
theorem d_Lw_law_600 : decode code 600 = .ok (.ifCond .ne 15, 3) := by decide +kernel
theorem d_Lw_law_603 : decode code 603 = .ok (.aload_n 3, 1) := by decide +kernel
theorem d_Lw_law_604 : decode code 604 = .ok (.iconst 0, 1) := by decide +kernel
theorem d_Lw_law_605 : decode code 605 = .ok (.laload, 1) := by decide +kernel
theorem d_Lw_law_606 : decode code 606 = .ok (.iload 6, 2) := by decide +kernel
theorem d_Lw_law_608 : decode code 608 = .ok (.i2l, 1) := by decide +kernel
theorem d_Lw_law_609 : decode code 609 = .ok (.lcmp, 1) := by decide +kernel
theorem d_Lw_law_610 : decode code 610 = .ok (.ifCond .eq 5, 3) := by decide +kernel
theorem d_Lw_law_613 : decode code 613 = .ok (.iconst 0, 1) := by decide +kernel
theorem d_Lw_law_614 : decode code 614 = .ok (.ireturn, 1) := by decide +kernel
theorem d_Lw_law_615 : decode code 615 = .ok (.goto 324, 3) := by decide +kernel
theorem d_Lw_law_618 : decode code 618 = .ok (.aload_n 1, 1) := by decide +kernel
theorem d_Lw_law_619 : decode code 619 = .ok (.aload_n 3, 1) := by decide +kernel
theorem d_Lw_law_620 : decode code 620 = .ok (.invokestatic 100, 3) := by decide +kernel
theorem d_Lw_law_623 : decode code 623 = .ok (.istore 5, 2) := by decide +kernel
theorem d_Lw_law_625 : decode code 625 = .ok (.aload_n 2, 1) := by decide +kernel
theorem d_Lw_law_626 : decode code 626 = .ok (.invokevirtual 102, 3) := by decide +kernel
theorem d_Lw_law_629 : decode code 629 = .ok (.istore 6, 2) := by decide +kernel
theorem d_Lw_law_631 : decode code 631 = .ok (.aload_n 2, 1) := by decide +kernel
theorem d_Lw_law_632 : decode code 632 = .ok (.invokevirtual 79, 3) := by decide +kernel
theorem d_Lw_law_635 : decode code 635 = .ok (.iload 5, 2) := by decide +kernel
theorem d_Lw_law_637 : decode code 637 = .ok (.if_icmp .eq 5, 3) := by decide +kernel
theorem d_Lw_law_640 : decode code 640 = .ok (.iconst 0, 1) := by decide +kernel
theorem d_Lw_law_641 : decode code 641 = .ok (.ireturn, 1) := by decide +kernel
theorem d_Lw_law_642 : decode code 642 = .ok (.iload 5, 2) := by decide +kernel
theorem d_Lw_law_644 : decode code 644 = .ok (.ifCond .ne 15, 3) := by decide +kernel
theorem d_Lw_law_647 : decode code 647 = .ok (.aload_n 3, 1) := by decide +kernel
theorem d_Lw_law_648 : decode code 648 = .ok (.iconst 0, 1) := by decide +kernel
theorem d_Lw_law_649 : decode code 649 = .ok (.laload, 1) := by decide +kernel
theorem d_Lw_law_650 : decode code 650 = .ok (.iload 6, 2) := by decide +kernel
theorem d_Lw_law_652 : decode code 652 = .ok (.i2l, 1) := by decide +kernel
theorem d_Lw_law_653 : decode code 653 = .ok (.lcmp, 1) := by decide +kernel
theorem d_Lw_law_654 : decode code 654 = .ok (.ifCond .eq 5, 3) := by decide +kernel
theorem d_Lw_law_657 : decode code 657 = .ok (.iconst 0, 1) := by decide +kernel
theorem d_Lw_law_658 : decode code 658 = .ok (.ireturn, 1) := by decide +kernel
theorem d_Lw_law_659 : decode code 659 = .ok (.goto 280, 3) := by decide +kernel
theorem d_Lw_law_662 : decode code 662 = .ok (.aload_n 1, 1) := by decide +kernel
theorem d_Lw_law_663 : decode code 663 = .ok (.aload_n 0, 1) := by decide +kernel
theorem d_Lw_law_664 : decode code 664 = .ok (.iload 4, 2) := by decide +kernel
theorem d_Lw_law_666 : decode code 666 = .ok (.iconst 1, 1) := by decide +kernel
theorem d_Lw_law_667 : decode code 667 = .ok (.iadd, 1) := by decide +kernel
theorem d_Lw_law_668 : decode code 668 = .ok (.iaload, 1) := by decide +kernel
theorem d_Lw_law_669 : decode code 669 = .ok (.invokevirtual 103, 3) := by decide +kernel
theorem d_Lw_law_672 : decode code 672 = .ok (.aload_n 2, 1) := by decide +kernel
theorem d_Lw_law_673 : decode code 673 = .ok (.aload_n 0, 1) := by decide +kernel
theorem d_Lw_law_674 : decode code 674 = .ok (.iload 4, 2) := by decide +kernel
theorem d_Lw_law_676 : decode code 676 = .ok (.iconst 1, 1) := by decide +kernel
theorem d_Lw_law_677 : decode code 677 = .ok (.iadd, 1) := by decide +kernel
theorem d_Lw_law_678 : decode code 678 = .ok (.iaload, 1) := by decide +kernel
theorem d_Lw_law_679 : decode code 679 = .ok (.invokevirtual 107, 3) := by decide +kernel
theorem d_Lw_law_682 : decode code 682 = .ok (.if_icmp .eq 257, 3) := by decide +kernel
theorem d_Lw_law_685 : decode code 685 = .ok (.iconst 0, 1) := by decide +kernel
theorem d_Lw_law_686 : decode code 686 = .ok (.ireturn, 1) := by decide +kernel
theorem d_Lw_law_687 : decode code 687 = .ok (.aload_n 1, 1) := by decide +kernel
theorem d_Lw_law_688 : decode code 688 = .ok (.aload_n 0, 1) := by decide +kernel
theorem d_Lw_law_689 : decode code 689 = .ok (.iload 4, 2) := by decide +kernel
theorem d_Lw_law_691 : decode code 691 = .ok (.iconst 1, 1) := by decide +kernel
theorem d_Lw_law_692 : decode code 692 = .ok (.iadd, 1) := by decide +kernel
theorem d_Lw_law_693 : decode code 693 = .ok (.iaload, 1) := by decide +kernel
theorem d_Lw_law_694 : decode code 694 = .ok (.aload_n 0, 1) := by decide +kernel
theorem d_Lw_law_695 : decode code 695 = .ok (.iload 4, 2) := by decide +kernel
theorem d_Lw_law_697 : decode code 697 = .ok (.iconst 2, 1) := by decide +kernel
theorem d_Lw_law_698 : decode code 698 = .ok (.iadd, 1) := by decide +kernel
theorem d_Lw_law_699 : decode code 699 = .ok (.iaload, 1) := by decide +kernel
theorem d_Lw_law_700 : decode code 700 = .ok (.aload_n 3, 1) := by decide +kernel
theorem d_Lw_law_701 : decode code 701 = .ok (.invokestatic 108, 3) := by decide +kernel
theorem d_Lw_law_704 : decode code 704 = .ok (.istore 5, 2) := by decide +kernel
theorem d_Lw_law_706 : decode code 706 = .ok (.aload_n 2, 1) := by decide +kernel
theorem d_Lw_law_707 : decode code 707 = .ok (.aload_n 0, 1) := by decide +kernel
theorem d_Lw_law_708 : decode code 708 = .ok (.iload 4, 2) := by decide +kernel
theorem d_Lw_law_710 : decode code 710 = .ok (.iconst 1, 1) := by decide +kernel
theorem d_Lw_law_711 : decode code 711 = .ok (.iadd, 1) := by decide +kernel
theorem d_Lw_law_712 : decode code 712 = .ok (.iaload, 1) := by decide +kernel
theorem d_Lw_law_713 : decode code 713 = .ok (.aload_n 0, 1) := by decide +kernel
theorem d_Lw_law_714 : decode code 714 = .ok (.iload 4, 2) := by decide +kernel
theorem d_Lw_law_716 : decode code 716 = .ok (.iconst 2, 1) := by decide +kernel
theorem d_Lw_law_717 : decode code 717 = .ok (.iadd, 1) := by decide +kernel
theorem d_Lw_law_718 : decode code 718 = .ok (.iaload, 1) := by decide +kernel
theorem d_Lw_law_719 : decode code 719 = .ok (.invokevirtual 111, 3) := by decide +kernel
theorem d_Lw_law_722 : decode code 722 = .ok (.lstore 6, 2) := by decide +kernel
theorem d_Lw_law_724 : decode code 724 = .ok (.aload_n 2, 1) := by decide +kernel
theorem d_Lw_law_725 : decode code 725 = .ok (.invokevirtual 79, 3) := by decide +kernel
theorem d_Lw_law_728 : decode code 728 = .ok (.iload 5, 2) := by decide +kernel
theorem d_Lw_law_730 : decode code 730 = .ok (.if_icmp .eq 5, 3) := by decide +kernel
theorem d_Lw_law_733 : decode code 733 = .ok (.iconst 0, 1) := by decide +kernel
