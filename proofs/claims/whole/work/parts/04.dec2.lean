theorem d_Mk_finishPage_19 : decode b_Mk_finishPage 19 = .ok (.ifCond .eq 13, 3) := by decide +kernel
theorem d_Mk_finishPage_22 : decode b_Mk_finishPage 22 = .ok (.aload_n 0, 1) := by decide +kernel
theorem d_Mk_finishPage_23 : decode b_Mk_finishPage 23 = .ok (.iconst 0, 1) := by decide +kernel
theorem d_Mk_finishPage_24 : decode b_Mk_finishPage 24 = .ok (.invokevirtual 99, 3) := by decide +kernel
theorem d_Mk_finishPage_27 : decode b_Mk_finishPage 27 = .ok (.aload_n 0, 1) := by decide +kernel
theorem d_Mk_finishPage_28 : decode b_Mk_finishPage 28 = .ok (.iconst 1, 1) := by decide +kernel
theorem d_Mk_finishPage_29 : decode b_Mk_finishPage 29 = .ok (.invokevirtual 99, 3) := by decide +kernel
theorem d_Mk_finishPage_32 : decode b_Mk_finishPage 32 = .ok (.aload_n 0, 1) := by decide +kernel
theorem d_Mk_finishPage_33 : decode b_Mk_finishPage 33 = .ok (.getfield 20, 3) := by decide +kernel
theorem d_Mk_finishPage_36 : decode b_Mk_finishPage 36 = .ok (.getfield 41, 3) := by decide +kernel
theorem d_Mk_finishPage_39 : decode b_Mk_finishPage 39 = .ok (.istore_n 2, 1) := by decide +kernel
theorem d_Mk_finishPage_40 : decode b_Mk_finishPage 40 = .ok (.aload_n 0, 1) := by decide +kernel
theorem d_Mk_finishPage_41 : decode b_Mk_finishPage 41 = .ok (.aload_n 0, 1) := by decide +kernel
theorem d_Mk_finishPage_42 : decode b_Mk_finishPage 42 = .ok (.getfield 65, 3) := by decide +kernel
theorem d_Mk_finishPage_45 : decode b_Mk_finishPage 45 = .ok (.invokevirtual 102, 3) := by decide +kernel
theorem d_Mk_finishPage_48 : decode b_Mk_finishPage 48 = .ok (.aload_n 0, 1) := by decide +kernel
theorem d_Mk_finishPage_49 : decode b_Mk_finishPage 49 = .ok (.aload_n 0, 1) := by decide +kernel
theorem d_Mk_finishPage_50 : decode b_Mk_finishPage 50 = .ok (.getfield 68, 3) := by decide +kernel
theorem d_Mk_finishPage_53 : decode b_Mk_finishPage 53 = .ok (.invokevirtual 102, 3) := by decide +kernel
theorem d_Mk_finishPage_56 : decode b_Mk_finishPage 56 = .ok (.aload_n 0, 1) := by decide +kernel
theorem d_Mk_finishPage_57 : decode b_Mk_finishPage 57 = .ok (.getfield 20, 3) := by decide +kernel
theorem d_Mk_finishPage_60 : decode b_Mk_finishPage 60 = .ok (.getfield 41, 3) := by decide +kernel
theorem d_Mk_finishPage_63 : decode b_Mk_finishPage 63 = .ok (.istore_n 3, 1) := by decide +kernel
theorem d_Mk_finishPage_64 : decode b_Mk_finishPage 64 = .ok (.aload_n 0, 1) := by decide +kernel
theorem d_Mk_finishPage_65 : decode b_Mk_finishPage 65 = .ok (.iload_n 1, 1) := by decide +kernel
theorem d_Mk_finishPage_66 : decode b_Mk_finishPage 66 = .ok (.iload_n 2, 1) := by decide +kernel
theorem d_Mk_finishPage_67 : decode b_Mk_finishPage 67 = .ok (.invokevirtual 105, 3) := by decide +kernel
theorem d_Mk_finishPage_70 : decode b_Mk_finishPage 70 = .ok (.aload_n 0, 1) := by decide +kernel
theorem d_Mk_finishPage_71 : decode b_Mk_finishPage 71 = .ok (.getfield 20, 3) := by decide +kernel
theorem d_Mk_finishPage_74 : decode b_Mk_finishPage 74 = .ok (.aload_n 0, 1) := by decide +kernel
theorem d_Mk_finishPage_75 : decode b_Mk_finishPage 75 = .ok (.getfield 35, 3) := by decide +kernel
theorem d_Mk_finishPage_78 : decode b_Mk_finishPage 78 = .ok (.iload_n 3, 1) := by decide +kernel
theorem d_Mk_finishPage_79 : decode b_Mk_finishPage 79 = .ok (.i2l, 1) := by decide +kernel
theorem d_Mk_finishPage_80 : decode b_Mk_finishPage 80 = .ok (.aload_n 0, 1) := by decide +kernel
theorem d_Mk_finishPage_81 : decode b_Mk_finishPage 81 = .ok (.getfield 28, 3) := by decide +kernel
theorem d_Mk_finishPage_84 : decode b_Mk_finishPage 84 = .ok (.invokevirtual 108, 3) := by decide +kernel
theorem d_Mk_finishPage_87 : decode b_Mk_finishPage 87 = .ok (.aload_n 0, 1) := by decide +kernel
theorem d_Mk_finishPage_88 : decode b_Mk_finishPage 88 = .ok (.iload_n 3, 1) := by decide +kernel
theorem d_Mk_finishPage_89 : decode b_Mk_finishPage 89 = .ok (.bipush 122, 2) := by decide +kernel
theorem d_Mk_finishPage_91 : decode b_Mk_finishPage 91 = .ok (.iadd, 1) := by decide +kernel
theorem d_Mk_finishPage_92 : decode b_Mk_finishPage 92 = .ok (.putfield 35, 3) := by decide +kernel
theorem d_Mk_finishPage_95 : decode b_Mk_finishPage 95 = .ok (.aload_n 0, 1) := by decide +kernel
theorem d_Mk_finishPage_96 : decode b_Mk_finishPage 96 = .ok (.dup, 1) := by decide +kernel
theorem d_Mk_finishPage_97 : decode b_Mk_finishPage 97 = .ok (.getfield 32, 3) := by decide +kernel
theorem d_Mk_finishPage_100 : decode b_Mk_finishPage 100 = .ok (.iconst 1, 1) := by decide +kernel
theorem d_Mk_finishPage_101 : decode b_Mk_finishPage 101 = .ok (.iadd, 1) := by decide +kernel
theorem d_Mk_finishPage_102 : decode b_Mk_finishPage 102 = .ok (.putfield 32, 3) := by decide +kernel
theorem d_Mk_finishPage_105 : decode b_Mk_finishPage 105 = .ok (.aload_n 0, 1) := by decide +kernel
theorem d_Mk_finishPage_106 : decode b_Mk_finishPage 106 = .ok (.invokevirtual 38, 3) := by decide +kernel
theorem d_Mk_finishPage_109 : decode b_Mk_finishPage 109 = .ok (.return_, 1) := by decide +kernel
theorem d_Pn_get_0 : decode b_Pn_get 0 = .ok (.iload_n 1, 1) := by decide +kernel
theorem d_Pn_get_1 : decode b_Pn_get 1 = .ok (.bipush 13, 2) := by decide +kernel
theorem d_Pn_get_3 : decode b_Pn_get 3 = .ok (.imul, 1) := by decide +kernel
theorem d_Pn_get_4 : decode b_Pn_get 4 = .ok (.iload_n 2, 1) := by decide +kernel
theorem d_Pn_get_5 : decode b_Pn_get 5 = .ok (.iadd, 1) := by decide +kernel
theorem d_Pn_get_6 : decode b_Pn_get 6 = .ok (.istore_n 3, 1) := by decide +kernel
theorem d_Pn_get_7 : decode b_Pn_get 7 = .ok (.iload_n 3, 1) := by decide +kernel
theorem d_Pn_get_8 : decode b_Pn_get 8 = .ok (.ifCond .lt 21, 3) := by decide +kernel
theorem d_Pn_get_11 : decode b_Pn_get 11 = .ok (.iload_n 3, 1) := by decide +kernel
theorem d_Pn_get_12 : decode b_Pn_get 12 = .ok (.aload_n 0, 1) := by decide +kernel
theorem d_Pn_get_13 : decode b_Pn_get 13 = .ok (.getfield 11, 3) := by decide +kernel
theorem d_Pn_get_16 : decode b_Pn_get 16 = .ok (.arraylength, 1) := by decide +kernel
theorem d_Pn_get_17 : decode b_Pn_get 17 = .ok (.if_icmp .ge 12, 3) := by decide +kernel
theorem d_Pn_get_20 : decode b_Pn_get 20 = .ok (.aload_n 0, 1) := by decide +kernel
theorem d_Pn_get_21 : decode b_Pn_get 21 = .ok (.getfield 11, 3) := by decide +kernel
theorem d_Pn_get_24 : decode b_Pn_get 24 = .ok (.iload_n 3, 1) := by decide +kernel
theorem d_Pn_get_25 : decode b_Pn_get 25 = .ok (.laload, 1) := by decide +kernel
theorem d_Pn_get_26 : decode b_Pn_get 26 = .ok (.goto 4, 3) := by decide +kernel
theorem d_Pn_get_29 : decode b_Pn_get 29 = .ok (.lconst 0, 1) := by decide +kernel
theorem d_Pn_get_30 : decode b_Pn_get 30 = .ok (.lreturn, 1) := by decide +kernel
theorem d_Pn_set_0 : decode b_Pn_set 0 = .ok (.iload_n 1, 1) := by decide +kernel
theorem d_Pn_set_1 : decode b_Pn_set 1 = .ok (.bipush 13, 2) := by decide +kernel
theorem d_Pn_set_3 : decode b_Pn_set 3 = .ok (.imul, 1) := by decide +kernel
theorem d_Pn_set_4 : decode b_Pn_set 4 = .ok (.iload_n 2, 1) := by decide +kernel
theorem d_Pn_set_5 : decode b_Pn_set 5 = .ok (.iadd, 1) := by decide +kernel
theorem d_Pn_set_6 : decode b_Pn_set 6 = .ok (.istore 5, 2) := by decide +kernel
theorem d_Pn_set_8 : decode b_Pn_set 8 = .ok (.iload 5, 2) := by decide +kernel
theorem d_Pn_set_10 : decode b_Pn_set 10 = .ok (.ifCond .lt 21, 3) := by decide +kernel
theorem d_Pn_set_13 : decode b_Pn_set 13 = .ok (.iload 5, 2) := by decide +kernel
theorem d_Pn_set_15 : decode b_Pn_set 15 = .ok (.aload_n 0, 1) := by decide +kernel
theorem d_Pn_set_16 : decode b_Pn_set 16 = .ok (.getfield 11, 3) := by decide +kernel
theorem d_Pn_set_19 : decode b_Pn_set 19 = .ok (.arraylength, 1) := by decide +kernel
theorem d_Pn_set_20 : decode b_Pn_set 20 = .ok (.if_icmp .ge 11, 3) := by decide +kernel
theorem d_Pn_set_23 : decode b_Pn_set 23 = .ok (.aload_n 0, 1) := by decide +kernel
theorem d_Pn_set_24 : decode b_Pn_set 24 = .ok (.getfield 11, 3) := by decide +kernel
theorem d_Pn_set_27 : decode b_Pn_set 27 = .ok (.iload 5, 2) := by decide +kernel
theorem d_Pn_set_29 : decode b_Pn_set 29 = .ok (.lload_n 3, 1) := by decide +kernel
theorem d_Pn_set_30 : decode b_Pn_set 30 = .ok (.lastore, 1) := by decide +kernel
theorem d_Pn_set_31 : decode b_Pn_set 31 = .ok (.return_, 1) := by decide +kernel
theorem d_Pn_wrongTag_0 : decode b_Pn_wrongTag 0 = .ok (.aload_n 0, 1) := by decide +kernel
theorem d_Pn_wrongTag_1 : decode b_Pn_wrongTag 1 = .ok (.iload_n 1, 1) := by decide +kernel
theorem d_Pn_wrongTag_2 : decode b_Pn_wrongTag 2 = .ok (.iconst 0, 1) := by decide +kernel
theorem d_Pn_wrongTag_3 : decode b_Pn_wrongTag 3 = .ok (.invokevirtual 15, 3) := by decide +kernel
theorem d_Pn_wrongTag_6 : decode b_Pn_wrongTag 6 = .ok (.lconst 1, 1) := by decide +kernel
theorem d_Pn_wrongTag_7 : decode b_Pn_wrongTag 7 = .ok (.ldc2_w 19, 3) := by decide +kernel
theorem d_Pn_wrongTag_10 : decode b_Pn_wrongTag 10 = .ok (.invokestatic 21, 3) := by decide +kernel
theorem d_Pn_wrongTag_13 : decode b_Pn_wrongTag 13 = .ok (.ifCond .ne 7, 3) := by decide +kernel
theorem d_Pn_wrongTag_16 : decode b_Pn_wrongTag 16 = .ok (.sipush 256, 3) := by decide +kernel
theorem d_Pn_wrongTag_19 : decode b_Pn_wrongTag 19 = .ok (.ireturn, 1) := by decide +kernel
theorem d_Pn_wrongTag_20 : decode b_Pn_wrongTag 20 = .ok (.aload_n 0, 1) := by decide +kernel
theorem d_Pn_wrongTag_21 : decode b_Pn_wrongTag 21 = .ok (.iload_n 1, 1) := by decide +kernel
theorem d_Pn_wrongTag_22 : decode b_Pn_wrongTag 22 = .ok (.iconst 1, 1) := by decide +kernel
theorem d_Pn_wrongTag_23 : decode b_Pn_wrongTag 23 = .ok (.invokevirtual 15, 3) := by decide +kernel
theorem d_Pn_wrongTag_26 : decode b_Pn_wrongTag 26 = .ok (.lconst 1, 1) := by decide +kernel
theorem d_Pn_wrongTag_27 : decode b_Pn_wrongTag 27 = .ok (.ldc2_w 19, 3) := by decide +kernel
theorem d_Pn_wrongTag_30 : decode b_Pn_wrongTag 30 = .ok (.invokestatic 21, 3) := by decide +kernel
theorem d_Pn_wrongTag_33 : decode b_Pn_wrongTag 33 = .ok (.ifCond .ne 7, 3) := by decide +kernel
theorem d_Pn_wrongTag_36 : decode b_Pn_wrongTag 36 = .ok (.sipush 257, 3) := by decide +kernel
theorem d_Pn_wrongTag_39 : decode b_Pn_wrongTag 39 = .ok (.ireturn, 1) := by decide +kernel
theorem d_Pn_wrongTag_40 : decode b_Pn_wrongTag 40 = .ok (.aload_n 0, 1) := by decide +kernel
theorem d_Pn_wrongTag_41 : decode b_Pn_wrongTag 41 = .ok (.iload_n 1, 1) := by decide +kernel
theorem d_Pn_wrongTag_42 : decode b_Pn_wrongTag 42 = .ok (.iconst 2, 1) := by decide +kernel
theorem d_Pn_wrongTag_43 : decode b_Pn_wrongTag 43 = .ok (.invokevirtual 15, 3) := by decide +kernel
theorem d_Pn_wrongTag_46 : decode b_Pn_wrongTag 46 = .ok (.lstore_n 2, 1) := by decide +kernel
theorem d_Pn_wrongTag_47 : decode b_Pn_wrongTag 47 = .ok (.lload_n 2, 1) := by decide +kernel
theorem d_Pn_wrongTag_48 : decode b_Pn_wrongTag 48 = .ok (.lconst 1, 1) := by decide +kernel
theorem d_Pn_wrongTag_49 : decode b_Pn_wrongTag 49 = .ok (.lcmp, 1) := by decide +kernel
theorem d_Pn_wrongTag_50 : decode b_Pn_wrongTag 50 = .ok (.ifCond .eq 15, 3) := by decide +kernel
theorem d_Pn_wrongTag_53 : decode b_Pn_wrongTag 53 = .ok (.lload_n 2, 1) := by decide +kernel
theorem d_Pn_wrongTag_54 : decode b_Pn_wrongTag 54 = .ok (.ldc2_w 25, 3) := by decide +kernel
theorem d_Pn_wrongTag_57 : decode b_Pn_wrongTag 57 = .ok (.lcmp, 1) := by decide +kernel
theorem d_Pn_wrongTag_58 : decode b_Pn_wrongTag 58 = .ok (.ifCond .eq 7, 3) := by decide +kernel
theorem d_Pn_wrongTag_61 : decode b_Pn_wrongTag 61 = .ok (.sipush 259, 3) := by decide +kernel
theorem d_Pn_wrongTag_64 : decode b_Pn_wrongTag 64 = .ok (.ireturn, 1) := by decide +kernel
theorem d_Pn_wrongTag_65 : decode b_Pn_wrongTag 65 = .ok (.aload_n 0, 1) := by decide +kernel
theorem d_Pn_wrongTag_66 : decode b_Pn_wrongTag 66 = .ok (.iload_n 1, 1) := by decide +kernel
theorem d_Pn_wrongTag_67 : decode b_Pn_wrongTag 67 = .ok (.iconst 3, 1) := by decide +kernel
theorem d_Pn_wrongTag_68 : decode b_Pn_wrongTag 68 = .ok (.invokevirtual 15, 3) := by decide +kernel
theorem d_Pn_wrongTag_71 : decode b_Pn_wrongTag 71 = .ok (.lconst 0, 1) := by decide +kernel
theorem d_Pn_wrongTag_72 : decode b_Pn_wrongTag 72 = .ok (.lconst 1, 1) := by decide +kernel
theorem d_Pn_wrongTag_73 : decode b_Pn_wrongTag 73 = .ok (.invokestatic 21, 3) := by decide +kernel
theorem d_Pn_wrongTag_76 : decode b_Pn_wrongTag 76 = .ok (.ifCond .ne 7, 3) := by decide +kernel
theorem d_Pn_wrongTag_79 : decode b_Pn_wrongTag 79 = .ok (.sipush 262, 3) := by decide +kernel
theorem d_Pn_wrongTag_82 : decode b_Pn_wrongTag 82 = .ok (.ireturn, 1) := by decide +kernel
theorem d_Pn_wrongTag_83 : decode b_Pn_wrongTag 83 = .ok (.aload_n 0, 1) := by decide +kernel
theorem d_Pn_wrongTag_84 : decode b_Pn_wrongTag 84 = .ok (.iload_n 1, 1) := by decide +kernel
theorem d_Pn_wrongTag_85 : decode b_Pn_wrongTag 85 = .ok (.iconst 4, 1) := by decide +kernel
theorem d_Pn_wrongTag_86 : decode b_Pn_wrongTag 86 = .ok (.invokevirtual 15, 3) := by decide +kernel
theorem d_Pn_wrongTag_89 : decode b_Pn_wrongTag 89 = .ok (.lconst 1, 1) := by decide +kernel
theorem d_Pn_wrongTag_90 : decode b_Pn_wrongTag 90 = .ok (.ldc2_w 27, 3) := by decide +kernel
theorem d_Pn_wrongTag_93 : decode b_Pn_wrongTag 93 = .ok (.invokestatic 21, 3) := by decide +kernel
theorem d_Pn_wrongTag_96 : decode b_Pn_wrongTag 96 = .ok (.ifCond .ne 7, 3) := by decide +kernel
theorem d_Pn_wrongTag_99 : decode b_Pn_wrongTag 99 = .ok (.sipush 266, 3) := by decide +kernel
theorem d_Pn_wrongTag_102 : decode b_Pn_wrongTag 102 = .ok (.ireturn, 1) := by decide +kernel
theorem d_Pn_wrongTag_103 : decode b_Pn_wrongTag 103 = .ok (.aload_n 0, 1) := by decide +kernel
theorem d_Pn_wrongTag_104 : decode b_Pn_wrongTag 104 = .ok (.iload_n 1, 1) := by decide +kernel
theorem d_Pn_wrongTag_105 : decode b_Pn_wrongTag 105 = .ok (.iconst 5, 1) := by decide +kernel
theorem d_Pn_wrongTag_106 : decode b_Pn_wrongTag 106 = .ok (.invokevirtual 15, 3) := by decide +kernel
theorem d_Pn_wrongTag_109 : decode b_Pn_wrongTag 109 = .ok (.lconst 0, 1) := by decide +kernel
theorem d_Pn_wrongTag_110 : decode b_Pn_wrongTag 110 = .ok (.lcmp, 1) := by decide +kernel
theorem d_Pn_wrongTag_111 : decode b_Pn_wrongTag 111 = .ok (.ifCond .ne 7, 3) := by decide +kernel
theorem d_Pn_wrongTag_114 : decode b_Pn_wrongTag 114 = .ok (.sipush 278, 3) := by decide +kernel
theorem d_Pn_wrongTag_117 : decode b_Pn_wrongTag 117 = .ok (.ireturn, 1) := by decide +kernel
theorem d_Pn_wrongTag_118 : decode b_Pn_wrongTag 118 = .ok (.aload_n 0, 1) := by decide +kernel
theorem d_Pn_wrongTag_119 : decode b_Pn_wrongTag 119 = .ok (.iload_n 1, 1) := by decide +kernel
theorem d_Pn_wrongTag_120 : decode b_Pn_wrongTag 120 = .ok (.bipush 7, 2) := by decide +kernel
theorem d_Pn_wrongTag_122 : decode b_Pn_wrongTag 122 = .ok (.invokevirtual 15, 3) := by decide +kernel
theorem d_Pn_wrongTag_125 : decode b_Pn_wrongTag 125 = .ok (.lconst 1, 1) := by decide +kernel
theorem d_Pn_wrongTag_126 : decode b_Pn_wrongTag 126 = .ok (.ldc2_w 29, 3) := by decide +kernel
theorem d_Pn_wrongTag_129 : decode b_Pn_wrongTag 129 = .ok (.invokestatic 21, 3) := by decide +kernel
theorem d_Pn_wrongTag_132 : decode b_Pn_wrongTag 132 = .ok (.ifCond .ne 7, 3) := by decide +kernel
theorem d_Pn_wrongTag_135 : decode b_Pn_wrongTag 135 = .ok (.sipush 296, 3) := by decide +kernel
theorem d_Pn_wrongTag_138 : decode b_Pn_wrongTag 138 = .ok (.ireturn, 1) := by decide +kernel
theorem d_Pn_wrongTag_139 : decode b_Pn_wrongTag 139 = .ok (.aload_n 0, 1) := by decide +kernel
theorem d_Pn_wrongTag_140 : decode b_Pn_wrongTag 140 = .ok (.iload_n 1, 1) := by decide +kernel
theorem d_Pn_wrongTag_141 : decode b_Pn_wrongTag 141 = .ok (.bipush 9, 2) := by decide +kernel
theorem d_Pn_wrongTag_143 : decode b_Pn_wrongTag 143 = .ok (.invokevirtual 15, 3) := by decide +kernel
theorem d_Pn_wrongTag_146 : decode b_Pn_wrongTag 146 = .ok (.lconst 0, 1) := by decide +kernel
theorem d_Pn_wrongTag_147 : decode b_Pn_wrongTag 147 = .ok (.lcmp, 1) := by decide +kernel
theorem d_Pn_wrongTag_148 : decode b_Pn_wrongTag 148 = .ok (.ifCond .ne 7, 3) := by decide +kernel
theorem d_Pn_wrongTag_151 : decode b_Pn_wrongTag 151 = .ok (.sipush 282, 3) := by decide +kernel
theorem d_Pn_wrongTag_154 : decode b_Pn_wrongTag 154 = .ok (.ireturn, 1) := by decide +kernel
theorem d_Pn_wrongTag_155 : decode b_Pn_wrongTag 155 = .ok (.aload_n 0, 1) := by decide +kernel
theorem d_Pn_wrongTag_156 : decode b_Pn_wrongTag 156 = .ok (.iload_n 1, 1) := by decide +kernel
theorem d_Pn_wrongTag_157 : decode b_Pn_wrongTag 157 = .ok (.bipush 11, 2) := by decide +kernel
theorem d_Pn_wrongTag_159 : decode b_Pn_wrongTag 159 = .ok (.invokevirtual 15, 3) := by decide +kernel
theorem d_Pn_wrongTag_162 : decode b_Pn_wrongTag 162 = .ok (.lconst 0, 1) := by decide +kernel
theorem d_Pn_wrongTag_163 : decode b_Pn_wrongTag 163 = .ok (.lcmp, 1) := by decide +kernel
theorem d_Pn_wrongTag_164 : decode b_Pn_wrongTag 164 = .ok (.ifCond .ne 9, 3) := by decide +kernel
theorem d_Pn_wrongTag_167 : decode b_Pn_wrongTag 167 = .ok (.sipush 283, 3) := by decide +kernel
theorem d_Pn_wrongTag_170 : decode b_Pn_wrongTag 170 = .ok (.goto 4, 3) := by decide +kernel
theorem d_Pn_wrongTag_173 : decode b_Pn_wrongTag 173 = .ok (.iconst 0, 1) := by decide +kernel
theorem d_Pn_wrongTag_174 : decode b_Pn_wrongTag 174 = .ok (.ireturn, 1) := by decide +kernel
theorem d_En_forgetAll_0 : decode b_En_forgetAll 0 = .ok (.aload_n 0, 1) := by decide +kernel
theorem d_En_forgetAll_1 : decode b_En_forgetAll 1 = .ok (.getfield 15, 3) := by decide +kernel
theorem d_En_forgetAll_4 : decode b_En_forgetAll 4 = .ok (.iconst 0, 1) := by decide +kernel
theorem d_En_forgetAll_5 : decode b_En_forgetAll 5 = .ok (.invokestatic 25, 3) := by decide +kernel
theorem d_En_forgetAll_8 : decode b_En_forgetAll 8 = .ok (.return_, 1) := by decide +kernel
theorem d_En_widestType_0 : decode b_En_widestType 0 = .ok (.iload_n 0, 1) := by decide +kernel
theorem d_En_widestType_1 : decode b_En_widestType 1 = .ok (.tableswitch 185 256 296 #[181, 181, 185, 183, 185, 185, 183, 185, 185, 185, 183, 185, 185, 185, 185, 185, 185, 181, 185, 185, 185, 185, 181, 181, 185, 185, 179, 179, 185, 185, 185, 185, 185, 185, 185, 185, 185, 185, 185, 185, 183], 179) := by decide +kernel
theorem d_En_widestType_180 : decode b_En_widestType 180 = .ok (.iconst 5, 1) := by decide +kernel
theorem d_En_widestType_181 : decode b_En_widestType 181 = .ok (.ireturn, 1) := by decide +kernel
theorem d_En_widestType_182 : decode b_En_widestType 182 = .ok (.iconst 4, 1) := by decide +kernel
theorem d_En_widestType_183 : decode b_En_widestType 183 = .ok (.ireturn, 1) := by decide +kernel
theorem d_En_widestType_184 : decode b_En_widestType 184 = .ok (.iconst 3, 1) := by decide +kernel
theorem d_En_widestType_185 : decode b_En_widestType 185 = .ok (.ireturn, 1) := by decide +kernel
theorem d_En_widestType_186 : decode b_En_widestType 186 = .ok (.iconst 0, 1) := by decide +kernel
theorem d_En_widestType_187 : decode b_En_widestType 187 = .ok (.ireturn, 1) := by decide +kernel
theorem d_En_canHaveType_0 : decode b_En_canHaveType 0 = .ok (.iload_n 0, 1) := by decide +kernel
theorem d_En_canHaveType_1 : decode b_En_canHaveType 1 = .ok (.invokestatic 31, 3) := by decide +kernel
theorem d_En_canHaveType_4 : decode b_En_canHaveType 4 = .ok (.istore_n 2, 1) := by decide +kernel
theorem d_En_canHaveType_5 : decode b_En_canHaveType 5 = .ok (.iload_n 1, 1) := by decide +kernel
theorem d_En_canHaveType_6 : decode b_En_canHaveType 6 = .ok (.iload_n 2, 1) := by decide +kernel
theorem d_En_canHaveType_7 : decode b_En_canHaveType 7 = .ok (.if_icmp .eq 13, 3) := by decide +kernel
theorem d_En_canHaveType_10 : decode b_En_canHaveType 10 = .ok (.iload_n 2, 1) := by decide +kernel
theorem d_En_canHaveType_11 : decode b_En_canHaveType 11 = .ok (.iconst 4, 1) := by decide +kernel
theorem d_En_canHaveType_12 : decode b_En_canHaveType 12 = .ok (.if_icmp .ne 12, 3) := by decide +kernel
theorem d_En_canHaveType_15 : decode b_En_canHaveType 15 = .ok (.iload_n 1, 1) := by decide +kernel
theorem d_En_canHaveType_16 : decode b_En_canHaveType 16 = .ok (.iconst 3, 1) := by decide +kernel
theorem d_En_canHaveType_17 : decode b_En_canHaveType 17 = .ok (.if_icmp .ne 7, 3) := by decide +kernel
theorem d_En_canHaveType_20 : decode b_En_canHaveType 20 = .ok (.iconst 1, 1) := by decide +kernel
theorem d_En_canHaveType_21 : decode b_En_canHaveType 21 = .ok (.goto 4, 3) := by decide +kernel
theorem d_En_canHaveType_24 : decode b_En_canHaveType 24 = .ok (.iconst 0, 1) := by decide +kernel
theorem d_En_canHaveType_25 : decode b_En_canHaveType 25 = .ok (.ireturn, 1) := by decide +kernel
theorem d_En_canHaveCount_0 : decode b_En_canHaveCount 0 = .ok (.lload_n 1, 1) := by decide +kernel
theorem d_En_canHaveCount_1 : decode b_En_canHaveCount 1 = .ok (.lconst 1, 1) := by decide +kernel
theorem d_En_canHaveCount_2 : decode b_En_canHaveCount 2 = .ok (.iload_n 0, 1) := by decide +kernel
theorem d_En_canHaveCount_3 : decode b_En_canHaveCount 3 = .ok (.sipush 273, 3) := by decide +kernel
theorem d_En_canHaveCount_6 : decode b_En_canHaveCount 6 = .ok (.if_icmp .eq 10, 3) := by decide +kernel
theorem d_En_canHaveCount_9 : decode b_En_canHaveCount 9 = .ok (.iload_n 0, 1) := by decide +kernel
theorem d_En_canHaveCount_10 : decode b_En_canHaveCount 10 = .ok (.sipush 279, 3) := by decide +kernel
theorem d_En_canHaveCount_13 : decode b_En_canHaveCount 13 = .ok (.if_icmp .ne 9, 3) := by decide +kernel
theorem d_En_canHaveCount_16 : decode b_En_canHaveCount 16 = .ok (.ldc2_w 35, 3) := by decide +kernel
theorem d_En_canHaveCount_19 : decode b_En_canHaveCount 19 = .ok (.goto 4, 3) := by decide +kernel
theorem d_En_canHaveCount_22 : decode b_En_canHaveCount 22 = .ok (.lconst 1, 1) := by decide +kernel
theorem d_En_canHaveCount_23 : decode b_En_canHaveCount 23 = .ok (.invokestatic 37, 3) := by decide +kernel
theorem d_En_canHaveCount_26 : decode b_En_canHaveCount 26 = .ok (.ireturn, 1) := by decide +kernel
theorem d_En_bytesOf_0 : decode b_En_bytesOf 0 = .ok (.iload_n 0, 1) := by decide +kernel
theorem d_En_bytesOf_1 : decode b_En_bytesOf 1 = .ok (.iconst 3, 1) := by decide +kernel
theorem d_En_bytesOf_2 : decode b_En_bytesOf 2 = .ok (.if_icmp .ne 7, 3) := by decide +kernel
theorem d_En_bytesOf_5 : decode b_En_bytesOf 5 = .ok (.iconst 2, 1) := by decide +kernel
theorem d_En_bytesOf_6 : decode b_En_bytesOf 6 = .ok (.goto 14, 3) := by decide +kernel
theorem d_En_bytesOf_9 : decode b_En_bytesOf 9 = .ok (.iload_n 0, 1) := by decide +kernel
theorem d_En_bytesOf_10 : decode b_En_bytesOf 10 = .ok (.iconst 4, 1) := by decide +kernel
theorem d_En_bytesOf_11 : decode b_En_bytesOf 11 = .ok (.if_icmp .ne 7, 3) := by decide +kernel
theorem d_En_bytesOf_14 : decode b_En_bytesOf 14 = .ok (.iconst 4, 1) := by decide +kernel
theorem d_En_bytesOf_15 : decode b_En_bytesOf 15 = .ok (.goto 5, 3) := by decide +kernel
theorem d_En_bytesOf_18 : decode b_En_bytesOf 18 = .ok (.bipush 8, 2) := by decide +kernel
theorem d_En_bytesOf_20 : decode b_En_bytesOf 20 = .ok (.ireturn, 1) := by decide +kernel
theorem d_En_keepEntry_0 : decode b_En_keepEntry 0 = .ok (.iload_n 1, 1) := by decide +kernel
theorem d_En_keepEntry_1 : decode b_En_keepEntry 1 = .ok (.ifCond .lt 31, 3) := by decide +kernel
theorem d_En_keepEntry_4 : decode b_En_keepEntry 4 = .ok (.iload_n 1, 1) := by decide +kernel
theorem d_En_keepEntry_5 : decode b_En_keepEntry 5 = .ok (.bipush 41, 2) := by decide +kernel
theorem d_En_keepEntry_7 : decode b_En_keepEntry 7 = .ok (.if_icmp .ge 25, 3) := by decide +kernel
theorem d_En_keepEntry_10 : decode b_En_keepEntry 10 = .ok (.aload_n 0, 1) := by decide +kernel
theorem d_En_keepEntry_11 : decode b_En_keepEntry 11 = .ok (.getfield 11, 3) := by decide +kernel
theorem d_En_keepEntry_14 : decode b_En_keepEntry 14 = .ok (.iload_n 1, 1) := by decide +kernel
theorem d_En_keepEntry_15 : decode b_En_keepEntry 15 = .ok (.iload_n 2, 1) := by decide +kernel
theorem d_En_keepEntry_16 : decode b_En_keepEntry 16 = .ok (.iastore, 1) := by decide +kernel
theorem d_En_keepEntry_17 : decode b_En_keepEntry 17 = .ok (.aload_n 0, 1) := by decide +kernel
theorem d_En_keepEntry_18 : decode b_En_keepEntry 18 = .ok (.getfield 15, 3) := by decide +kernel
theorem d_En_keepEntry_21 : decode b_En_keepEntry 21 = .ok (.iload_n 1, 1) := by decide +kernel
theorem d_En_keepEntry_22 : decode b_En_keepEntry 22 = .ok (.iload_n 3, 1) := by decide +kernel
theorem d_En_keepEntry_23 : decode b_En_keepEntry 23 = .ok (.iastore, 1) := by decide +kernel
theorem d_En_keepEntry_24 : decode b_En_keepEntry 24 = .ok (.aload_n 0, 1) := by decide +kernel
theorem d_En_keepEntry_25 : decode b_En_keepEntry 25 = .ok (.getfield 18, 3) := by decide +kernel
theorem d_En_keepEntry_28 : decode b_En_keepEntry 28 = .ok (.iload_n 1, 1) := by decide +kernel
theorem d_En_keepEntry_29 : decode b_En_keepEntry 29 = .ok (.iload 4, 2) := by decide +kernel
theorem d_En_keepEntry_31 : decode b_En_keepEntry 31 = .ok (.iastore, 1) := by decide +kernel
theorem d_En_keepEntry_32 : decode b_En_keepEntry 32 = .ok (.return_, 1) := by decide +kernel
theorem d_En_take_0 : decode b_En_take 0 = .ok (.iload_n 2, 1) := by decide +kernel
theorem d_En_take_1 : decode b_En_take 1 = .ok (.invokestatic 31, 3) := by decide +kernel
theorem d_En_take_4 : decode b_En_take 4 = .ok (.ifCond .ne 5, 3) := by decide +kernel
theorem d_En_take_7 : decode b_En_take 7 = .ok (.iconst 0, 1) := by decide +kernel
theorem d_En_take_8 : decode b_En_take 8 = .ok (.ireturn, 1) := by decide +kernel
theorem d_En_take_9 : decode b_En_take 9 = .ok (.aload_n 0, 1) := by decide +kernel
theorem d_En_take_10 : decode b_En_take 10 = .ok (.getfield 21, 3) := by decide +kernel
theorem d_En_take_13 : decode b_En_take 13 = .ok (.iload_n 1, 1) := by decide +kernel
theorem d_En_take_14 : decode b_En_take 14 = .ok (.iconst 2, 1) := by decide +kernel
theorem d_En_take_15 : decode b_En_take 15 = .ok (.iadd, 1) := by decide +kernel
theorem d_En_take_16 : decode b_En_take 16 = .ok (.i2l, 1) := by decide +kernel
theorem d_En_take_17 : decode b_En_take 17 = .ok (.iconst 2, 1) := by decide +kernel
theorem d_En_take_18 : decode b_En_take 18 = .ok (.iload_n 3, 1) := by decide +kernel
theorem d_En_take_19 : decode b_En_take 19 = .ok (.invokevirtual 41, 3) := by decide +kernel
theorem d_En_take_22 : decode b_En_take 22 = .ok (.l2i, 1) := by decide +kernel
theorem d_En_take_23 : decode b_En_take 23 = .ok (.istore 4, 2) := by decide +kernel
theorem d_En_take_25 : decode b_En_take 25 = .ok (.aload_n 0, 1) := by decide +kernel
theorem d_En_take_26 : decode b_En_take 26 = .ok (.getfield 21, 3) := by decide +kernel
theorem d_En_take_29 : decode b_En_take 29 = .ok (.iload_n 1, 1) := by decide +kernel
theorem d_En_take_30 : decode b_En_take 30 = .ok (.iconst 4, 1) := by decide +kernel
theorem d_En_take_31 : decode b_En_take 31 = .ok (.iadd, 1) := by decide +kernel
theorem d_En_take_32 : decode b_En_take 32 = .ok (.i2l, 1) := by decide +kernel
theorem d_En_take_33 : decode b_En_take 33 = .ok (.iconst 4, 1) := by decide +kernel
theorem d_En_take_34 : decode b_En_take 34 = .ok (.iload_n 3, 1) := by decide +kernel
theorem d_En_take_35 : decode b_En_take 35 = .ok (.invokevirtual 41, 3) := by decide +kernel
theorem d_En_take_38 : decode b_En_take 38 = .ok (.lstore 5, 2) := by decide +kernel
theorem d_En_take_40 : decode b_En_take 40 = .ok (.iload_n 2, 1) := by decide +kernel
theorem d_En_take_41 : decode b_En_take 41 = .ok (.iload 4, 2) := by decide +kernel
theorem d_En_take_43 : decode b_En_take 43 = .ok (.invokestatic 47, 3) := by decide +kernel
theorem d_En_take_46 : decode b_En_take 46 = .ok (.ifCond .eq 12, 3) := by decide +kernel
theorem d_En_take_49 : decode b_En_take 49 = .ok (.iload_n 2, 1) := by decide +kernel
theorem d_En_take_50 : decode b_En_take 50 = .ok (.lload 5, 2) := by decide +kernel
theorem d_En_take_52 : decode b_En_take 52 = .ok (.invokestatic 51, 3) := by decide +kernel
theorem d_En_take_55 : decode b_En_take 55 = .ok (.ifCond .ne 5, 3) := by decide +kernel
theorem d_En_take_58 : decode b_En_take 58 = .ok (.iconst 4, 1) := by decide +kernel
theorem d_En_take_59 : decode b_En_take 59 = .ok (.ireturn, 1) := by decide +kernel
theorem d_En_take_60 : decode b_En_take 60 = .ok (.lload 5, 2) := by decide +kernel
theorem d_En_take_62 : decode b_En_take 62 = .ok (.iload 4, 2) := by decide +kernel
theorem d_En_take_64 : decode b_En_take 64 = .ok (.invokestatic 55, 3) := by decide +kernel
theorem d_En_take_67 : decode b_En_take 67 = .ok (.i2l, 1) := by decide +kernel
theorem d_En_take_68 : decode b_En_take 68 = .ok (.lmul, 1) := by decide +kernel
theorem d_En_take_69 : decode b_En_take 69 = .ok (.lstore 7, 2) := by decide +kernel
theorem d_En_take_71 : decode b_En_take 71 = .ok (.lload 7, 2) := by decide +kernel
theorem d_En_take_73 : decode b_En_take 73 = .ok (.ldc2_w 58, 3) := by decide +kernel
theorem d_En_take_76 : decode b_En_take 76 = .ok (.lcmp, 1) := by decide +kernel
theorem d_En_take_77 : decode b_En_take 77 = .ok (.ifCond .gt 11, 3) := by decide +kernel
theorem d_En_take_80 : decode b_En_take 80 = .ok (.iload_n 1, 1) := by decide +kernel
theorem d_En_take_81 : decode b_En_take 81 = .ok (.bipush 8, 2) := by decide +kernel
theorem d_En_take_83 : decode b_En_take 83 = .ok (.iadd, 1) := by decide +kernel
theorem d_En_take_84 : decode b_En_take 84 = .ok (.i2l, 1) := by decide +kernel
theorem d_En_take_85 : decode b_En_take 85 = .ok (.goto 17, 3) := by decide +kernel
theorem d_En_take_88 : decode b_En_take 88 = .ok (.aload_n 0, 1) := by decide +kernel
theorem d_En_take_89 : decode b_En_take 89 = .ok (.getfield 21, 3) := by decide +kernel
theorem d_En_take_92 : decode b_En_take 92 = .ok (.iload_n 1, 1) := by decide +kernel
theorem d_En_take_93 : decode b_En_take 93 = .ok (.bipush 8, 2) := by decide +kernel
theorem d_En_take_95 : decode b_En_take 95 = .ok (.iadd, 1) := by decide +kernel
theorem d_En_take_96 : decode b_En_take 96 = .ok (.i2l, 1) := by decide +kernel
theorem d_En_take_97 : decode b_En_take 97 = .ok (.iconst 4, 1) := by decide +kernel
theorem d_En_take_98 : decode b_En_take 98 = .ok (.iload_n 3, 1) := by decide +kernel
theorem d_En_take_99 : decode b_En_take 99 = .ok (.invokevirtual 41, 3) := by decide +kernel
theorem d_En_take_102 : decode b_En_take 102 = .ok (.lstore 9, 2) := by decide +kernel
theorem d_En_take_104 : decode b_En_take 104 = .ok (.lload 9, 2) := by decide +kernel
theorem d_En_take_106 : decode b_En_take 106 = .ok (.lload 7, 2) := by decide +kernel
theorem d_En_take_108 : decode b_En_take 108 = .ok (.ladd, 1) := by decide +kernel
theorem d_En_take_109 : decode b_En_take 109 = .ok (.aload_n 0, 1) := by decide +kernel
theorem d_En_take_110 : decode b_En_take 110 = .ok (.getfield 21, 3) := by decide +kernel
theorem d_En_take_113 : decode b_En_take 113 = .ok (.getfield 60, 3) := by decide +kernel
theorem d_En_take_116 : decode b_En_take 116 = .ok (.i2l, 1) := by decide +kernel
theorem d_En_take_117 : decode b_En_take 117 = .ok (.lcmp, 1) := by decide +kernel
theorem d_En_take_118 : decode b_En_take 118 = .ok (.ifCond .le 5, 3) := by decide +kernel
theorem d_En_take_121 : decode b_En_take 121 = .ok (.iconst 5, 1) := by decide +kernel
theorem d_En_take_122 : decode b_En_take 122 = .ok (.ireturn, 1) := by decide +kernel
theorem d_En_take_123 : decode b_En_take 123 = .ok (.aload_n 0, 1) := by decide +kernel
theorem d_En_take_124 : decode b_En_take 124 = .ok (.iload_n 2, 1) := by decide +kernel
theorem d_En_take_125 : decode b_En_take 125 = .ok (.sipush 256, 3) := by decide +kernel
theorem d_En_take_128 : decode b_En_take 128 = .ok (.isub, 1) := by decide +kernel
theorem d_En_take_129 : decode b_En_take 129 = .ok (.iload 4, 2) := by decide +kernel
theorem d_En_take_131 : decode b_En_take 131 = .ok (.lload 5, 2) := by decide +kernel
theorem d_En_take_133 : decode b_En_take 133 = .ok (.l2i, 1) := by decide +kernel
theorem d_En_take_134 : decode b_En_take 134 = .ok (.lload 9, 2) := by decide +kernel
theorem d_En_take_136 : decode b_En_take 136 = .ok (.l2i, 1) := by decide +kernel
theorem d_En_take_137 : decode b_En_take 137 = .ok (.invokevirtual 64, 3) := by decide +kernel
theorem d_En_take_140 : decode b_En_take 140 = .ok (.iconst 0, 1) := by decide +kernel
theorem d_En_take_141 : decode b_En_take 141 = .ok (.ireturn, 1) := by decide +kernel
theorem d_En_countOf_0 : decode b_En_countOf 0 = .ok (.iload_n 1, 1) := by decide +kernel
theorem d_En_countOf_1 : decode b_En_countOf 1 = .ok (.sipush 256, 3) := by decide +kernel
theorem d_En_countOf_4 : decode b_En_countOf 4 = .ok (.isub, 1) := by decide +kernel
theorem d_En_countOf_5 : decode b_En_countOf 5 = .ok (.istore_n 2, 1) := by decide +kernel
theorem d_En_countOf_6 : decode b_En_countOf 6 = .ok (.iload_n 2, 1) := by decide +kernel
theorem d_En_countOf_7 : decode b_En_countOf 7 = .ok (.ifCond .lt 18, 3) := by decide +kernel
theorem d_En_countOf_10 : decode b_En_countOf 10 = .ok (.iload_n 2, 1) := by decide +kernel
theorem d_En_countOf_11 : decode b_En_countOf 11 = .ok (.bipush 41, 2) := by decide +kernel
theorem d_En_countOf_13 : decode b_En_countOf 13 = .ok (.if_icmp .ge 12, 3) := by decide +kernel
theorem d_En_countOf_16 : decode b_En_countOf 16 = .ok (.aload_n 0, 1) := by decide +kernel
theorem d_En_countOf_17 : decode b_En_countOf 17 = .ok (.getfield 15, 3) := by decide +kernel
theorem d_En_countOf_20 : decode b_En_countOf 20 = .ok (.iload_n 2, 1) := by decide +kernel
theorem d_En_countOf_21 : decode b_En_countOf 21 = .ok (.iaload, 1) := by decide +kernel
theorem d_En_countOf_22 : decode b_En_countOf 22 = .ok (.goto 4, 3) := by decide +kernel
theorem d_En_countOf_25 : decode b_En_countOf 25 = .ok (.iconst 0, 1) := by decide +kernel
theorem d_En_countOf_26 : decode b_En_countOf 26 = .ok (.ireturn, 1) := by decide +kernel
theorem d_En_firstMissing_0 : decode b_En_firstMissing 0 = .ok (.aload_n 0, 1) := by decide +kernel
theorem d_En_firstMissing_1 : decode b_En_firstMissing 1 = .ok (.sipush 256, 3) := by decide +kernel
theorem d_En_firstMissing_4 : decode b_En_firstMissing 4 = .ok (.invokevirtual 68, 3) := by decide +kernel
theorem d_En_firstMissing_7 : decode b_En_firstMissing 7 = .ok (.ifCond .ne 7, 3) := by decide +kernel
theorem d_En_firstMissing_10 : decode b_En_firstMissing 10 = .ok (.sipush 256, 3) := by decide +kernel
theorem d_En_firstMissing_13 : decode b_En_firstMissing 13 = .ok (.ireturn, 1) := by decide +kernel
theorem d_En_firstMissing_14 : decode b_En_firstMissing 14 = .ok (.aload_n 0, 1) := by decide +kernel
theorem d_En_firstMissing_15 : decode b_En_firstMissing 15 = .ok (.sipush 257, 3) := by decide +kernel
theorem d_En_firstMissing_18 : decode b_En_firstMissing 18 = .ok (.invokevirtual 68, 3) := by decide +kernel
theorem d_En_firstMissing_21 : decode b_En_firstMissing 21 = .ok (.ifCond .ne 7, 3) := by decide +kernel
theorem d_En_firstMissing_24 : decode b_En_firstMissing 24 = .ok (.sipush 257, 3) := by decide +kernel
theorem d_En_firstMissing_27 : decode b_En_firstMissing 27 = .ok (.ireturn, 1) := by decide +kernel
theorem d_En_firstMissing_28 : decode b_En_firstMissing 28 = .ok (.aload_n 0, 1) := by decide +kernel
theorem d_En_firstMissing_29 : decode b_En_firstMissing 29 = .ok (.sipush 273, 3) := by decide +kernel
theorem d_En_firstMissing_32 : decode b_En_firstMissing 32 = .ok (.invokevirtual 68, 3) := by decide +kernel
theorem d_En_firstMissing_35 : decode b_En_firstMissing 35 = .ok (.ifCond .ne 7, 3) := by decide +kernel
theorem d_En_firstMissing_38 : decode b_En_firstMissing 38 = .ok (.sipush 273, 3) := by decide +kernel
theorem d_En_firstMissing_41 : decode b_En_firstMissing 41 = .ok (.ireturn, 1) := by decide +kernel
theorem d_En_firstMissing_42 : decode b_En_firstMissing 42 = .ok (.aload_n 0, 1) := by decide +kernel
theorem d_En_firstMissing_43 : decode b_En_firstMissing 43 = .ok (.sipush 279, 3) := by decide +kernel
theorem d_En_firstMissing_46 : decode b_En_firstMissing 46 = .ok (.invokevirtual 68, 3) := by decide +kernel
theorem d_En_firstMissing_49 : decode b_En_firstMissing 49 = .ok (.ifCond .ne 9, 3) := by decide +kernel
theorem d_En_firstMissing_52 : decode b_En_firstMissing 52 = .ok (.sipush 279, 3) := by decide +kernel
theorem d_En_firstMissing_55 : decode b_En_firstMissing 55 = .ok (.goto 4, 3) := by decide +kernel
theorem d_En_firstMissing_58 : decode b_En_firstMissing 58 = .ok (.iconst 0, 1) := by decide +kernel
theorem d_En_firstMissing_59 : decode b_En_firstMissing 59 = .ok (.ireturn, 1) := by decide +kernel
theorem d_En_number_0 : decode b_En_number 0 = .ok (.iload_n 1, 1) := by decide +kernel
theorem d_En_number_1 : decode b_En_number 1 = .ok (.sipush 256, 3) := by decide +kernel
theorem d_En_number_4 : decode b_En_number 4 = .ok (.isub, 1) := by decide +kernel
theorem d_En_number_5 : decode b_En_number 5 = .ok (.istore 6, 2) := by decide +kernel
theorem d_En_number_7 : decode b_En_number 7 = .ok (.iload 6, 2) := by decide +kernel
theorem d_En_number_9 : decode b_En_number 9 = .ok (.ifCond .lt 20, 3) := by decide +kernel
theorem d_En_number_12 : decode b_En_number 12 = .ok (.iload 6, 2) := by decide +kernel
theorem d_En_number_14 : decode b_En_number 14 = .ok (.bipush 41, 2) := by decide +kernel
theorem d_En_number_16 : decode b_En_number 16 = .ok (.if_icmp .ge 13, 3) := by decide +kernel
theorem d_En_number_19 : decode b_En_number 19 = .ok (.aload_n 0, 1) := by decide +kernel
theorem d_En_number_20 : decode b_En_number 20 = .ok (.getfield 15, 3) := by decide +kernel
theorem d_En_number_23 : decode b_En_number 23 = .ok (.iload 6, 2) := by decide +kernel
theorem d_En_number_25 : decode b_En_number 25 = .ok (.iaload, 1) := by decide +kernel
theorem d_En_number_26 : decode b_En_number 26 = .ok (.ifCond .ne 6, 3) := by decide +kernel
theorem d_En_number_29 : decode b_En_number 29 = .ok (.lload 4, 2) := by decide +kernel
theorem d_En_number_31 : decode b_En_number 31 = .ok (.lreturn, 1) := by decide +kernel
theorem d_En_number_32 : decode b_En_number 32 = .ok (.aload_n 0, 1) := by decide +kernel
theorem d_En_number_33 : decode b_En_number 33 = .ok (.getfield 11, 3) := by decide +kernel
theorem d_En_number_36 : decode b_En_number 36 = .ok (.iload 6, 2) := by decide +kernel
theorem d_En_number_38 : decode b_En_number 38 = .ok (.iaload, 1) := by decide +kernel
theorem d_En_number_39 : decode b_En_number 39 = .ok (.iconst 3, 1) := by decide +kernel
theorem d_En_number_40 : decode b_En_number 40 = .ok (.if_icmp .ne 7, 3) := by decide +kernel
theorem d_En_number_43 : decode b_En_number 43 = .ok (.iconst 2, 1) := by decide +kernel
theorem d_En_number_44 : decode b_En_number 44 = .ok (.goto 4, 3) := by decide +kernel
theorem d_En_number_47 : decode b_En_number 47 = .ok (.iconst 4, 1) := by decide +kernel
theorem d_En_number_48 : decode b_En_number 48 = .ok (.istore 7, 2) := by decide +kernel
theorem d_En_number_50 : decode b_En_number 50 = .ok (.aload_n 0, 1) := by decide +kernel
theorem d_En_number_51 : decode b_En_number 51 = .ok (.getfield 21, 3) := by decide +kernel
theorem d_En_number_54 : decode b_En_number 54 = .ok (.aload_n 0, 1) := by decide +kernel
theorem d_En_number_55 : decode b_En_number 55 = .ok (.getfield 18, 3) := by decide +kernel
theorem d_En_number_58 : decode b_En_number 58 = .ok (.iload 6, 2) := by decide +kernel
theorem d_En_number_60 : decode b_En_number 60 = .ok (.iaload, 1) := by decide +kernel
theorem d_En_number_61 : decode b_En_number 61 = .ok (.i2l, 1) := by decide +kernel
theorem d_En_number_62 : decode b_En_number 62 = .ok (.iload 7, 2) := by decide +kernel
theorem d_En_number_64 : decode b_En_number 64 = .ok (.i2l, 1) := by decide +kernel
theorem d_En_number_65 : decode b_En_number 65 = .ok (.iload_n 2, 1) := by decide +kernel
theorem d_En_number_66 : decode b_En_number 66 = .ok (.i2l, 1) := by decide +kernel
theorem d_En_number_67 : decode b_En_number 67 = .ok (.lmul, 1) := by decide +kernel
theorem d_En_number_68 : decode b_En_number 68 = .ok (.ladd, 1) := by decide +kernel
theorem d_En_number_69 : decode b_En_number 69 = .ok (.iload 7, 2) := by decide +kernel
theorem d_En_number_71 : decode b_En_number 71 = .ok (.iload_n 3, 1) := by decide +kernel
theorem d_En_number_72 : decode b_En_number 72 = .ok (.invokevirtual 41, 3) := by decide +kernel
theorem d_En_number_75 : decode b_En_number 75 = .ok (.lreturn, 1) := by decide +kernel
theorem d_Rd_hasPage_0 : decode b_Rd_hasPage 0 = .ok (.iload_n 1, 1) := by decide +kernel
theorem d_Rd_hasPage_1 : decode b_Rd_hasPage 1 = .ok (.ifCond .lt 15, 3) := by decide +kernel
theorem d_Rd_hasPage_4 : decode b_Rd_hasPage 4 = .ok (.iload_n 1, 1) := by decide +kernel
theorem d_Rd_hasPage_5 : decode b_Rd_hasPage 5 = .ok (.aload_n 0, 1) := by decide +kernel
theorem d_Rd_hasPage_6 : decode b_Rd_hasPage 6 = .ok (.getfield 44, 3) := by decide +kernel
theorem d_Rd_hasPage_9 : decode b_Rd_hasPage 9 = .ok (.if_icmp .ge 7, 3) := by decide +kernel
theorem d_Rd_hasPage_12 : decode b_Rd_hasPage 12 = .ok (.iconst 1, 1) := by decide +kernel
theorem d_Rd_hasPage_13 : decode b_Rd_hasPage 13 = .ok (.goto 4, 3) := by decide +kernel
theorem d_Rd_hasPage_16 : decode b_Rd_hasPage 16 = .ok (.iconst 0, 1) := by decide +kernel
theorem d_Rd_hasPage_17 : decode b_Rd_hasPage 17 = .ok (.ireturn, 1) := by decide +kernel
theorem d_Rd_hasStrip_0 : decode b_Rd_hasStrip 0 = .ok (.aload_n 0, 1) := by decide +kernel
theorem d_Rd_hasStrip_1 : decode b_Rd_hasStrip 1 = .ok (.iload_n 1, 1) := by decide +kernel
theorem d_Rd_hasStrip_2 : decode b_Rd_hasStrip 2 = .ok (.invokevirtual 48, 3) := by decide +kernel
theorem d_Rd_hasStrip_5 : decode b_Rd_hasStrip 5 = .ok (.ifCond .eq 27, 3) := by decide +kernel
theorem d_Rd_hasStrip_8 : decode b_Rd_hasStrip 8 = .ok (.iload_n 2, 1) := by decide +kernel
theorem d_Rd_hasStrip_9 : decode b_Rd_hasStrip 9 = .ok (.ifCond .lt 23, 3) := by decide +kernel
theorem d_Rd_hasStrip_12 : decode b_Rd_hasStrip 12 = .ok (.iload_n 2, 1) := by decide +kernel
theorem d_Rd_hasStrip_13 : decode b_Rd_hasStrip 13 = .ok (.i2l, 1) := by decide +kernel
theorem d_Rd_hasStrip_14 : decode b_Rd_hasStrip 14 = .ok (.aload_n 0, 1) := by decide +kernel
theorem d_Rd_hasStrip_15 : decode b_Rd_hasStrip 15 = .ok (.getfield 12, 3) := by decide +kernel
theorem d_Rd_hasStrip_18 : decode b_Rd_hasStrip 18 = .ok (.iload_n 1, 1) := by decide +kernel
theorem d_Rd_hasStrip_19 : decode b_Rd_hasStrip 19 = .ok (.bipush 6, 2) := by decide +kernel
theorem d_Rd_hasStrip_21 : decode b_Rd_hasStrip 21 = .ok (.invokevirtual 52, 3) := by decide +kernel
theorem d_Rd_hasStrip_24 : decode b_Rd_hasStrip 24 = .ok (.lcmp, 1) := by decide +kernel
theorem d_Rd_hasStrip_25 : decode b_Rd_hasStrip 25 = .ok (.ifCond .ge 7, 3) := by decide +kernel
theorem d_Rd_hasStrip_28 : decode b_Rd_hasStrip 28 = .ok (.iconst 1, 1) := by decide +kernel
theorem d_Rd_hasStrip_29 : decode b_Rd_hasStrip 29 = .ok (.goto 4, 3) := by decide +kernel
theorem d_Rd_hasStrip_32 : decode b_Rd_hasStrip 32 = .ok (.iconst 0, 1) := by decide +kernel
theorem d_Rd_hasStrip_33 : decode b_Rd_hasStrip 33 = .ok (.ireturn, 1) := by decide +kernel
theorem d_Rd_ofStrip_0 : decode b_Rd_ofStrip 0 = .ok (.iload_n 1, 1) := by decide +kernel
theorem d_Rd_ofStrip_1 : decode b_Rd_ofStrip 1 = .ok (.ifCond .lt 31, 3) := by decide +kernel
theorem d_Rd_ofStrip_4 : decode b_Rd_ofStrip 4 = .ok (.iload_n 1, 1) := by decide +kernel
theorem d_Rd_ofStrip_5 : decode b_Rd_ofStrip 5 = .ok (.aload_n 0, 1) := by decide +kernel
theorem d_Rd_ofStrip_6 : decode b_Rd_ofStrip 6 = .ok (.getfield 27, 3) := by decide +kernel
theorem d_Rd_ofStrip_9 : decode b_Rd_ofStrip 9 = .ok (.arraylength, 1) := by decide +kernel
theorem d_Rd_ofStrip_10 : decode b_Rd_ofStrip 10 = .ok (.if_icmp .ge 22, 3) := by decide +kernel
theorem d_Rd_ofStrip_13 : decode b_Rd_ofStrip 13 = .ok (.aload_n 0, 1) := by decide +kernel
theorem d_Rd_ofStrip_14 : decode b_Rd_ofStrip 14 = .ok (.getfield 23, 3) := by decide +kernel
theorem d_Rd_ofStrip_17 : decode b_Rd_ofStrip 17 = .ok (.aload_n 0, 1) := by decide +kernel
theorem d_Rd_ofStrip_18 : decode b_Rd_ofStrip 18 = .ok (.getfield 27, 3) := by decide +kernel
theorem d_Rd_ofStrip_21 : decode b_Rd_ofStrip 21 = .ok (.iload_n 1, 1) := by decide +kernel
theorem d_Rd_ofStrip_22 : decode b_Rd_ofStrip 22 = .ok (.iaload, 1) := by decide +kernel
theorem d_Rd_ofStrip_23 : decode b_Rd_ofStrip 23 = .ok (.iload_n 2, 1) := by decide +kernel
theorem d_Rd_ofStrip_24 : decode b_Rd_ofStrip 24 = .ok (.iadd, 1) := by decide +kernel
theorem d_Rd_ofStrip_25 : decode b_Rd_ofStrip 25 = .ok (.iload_n 3, 1) := by decide +kernel
theorem d_Rd_ofStrip_26 : decode b_Rd_ofStrip 26 = .ok (.invokevirtual 56, 3) := by decide +kernel
theorem d_Rd_ofStrip_29 : decode b_Rd_ofStrip 29 = .ok (.goto 4, 3) := by decide +kernel
theorem d_Rd_ofStrip_32 : decode b_Rd_ofStrip 32 = .ok (.iconst 0, 1) := by decide +kernel
theorem d_Rd_ofStrip_33 : decode b_Rd_ofStrip 33 = .ok (.ireturn, 1) := by decide +kernel
theorem d_Rd_faultNumber_0 : decode b_Rd_faultNumber 0 = .ok (.aload_n 0, 1) := by decide +kernel
theorem d_Rd_faultNumber_1 : decode b_Rd_faultNumber 1 = .ok (.getfield 59, 3) := by decide +kernel
theorem d_Rd_faultNumber_4 : decode b_Rd_faultNumber 4 = .ok (.ifCond .ne 5, 3) := by decide +kernel
theorem d_Rd_faultNumber_7 : decode b_Rd_faultNumber 7 = .ok (.iconst (-1), 1) := by decide +kernel
theorem d_Rd_faultNumber_8 : decode b_Rd_faultNumber 8 = .ok (.ireturn, 1) := by decide +kernel
theorem d_Rd_faultNumber_9 : decode b_Rd_faultNumber 9 = .ok (.iload_n 1, 1) := by decide +kernel
theorem d_Rd_faultNumber_10 : decode b_Rd_faultNumber 10 = .ok (.tableswitch 41 0 2 #[26, 31, 36], 26) := by decide +kernel
theorem d_Rd_faultNumber_36 : decode b_Rd_faultNumber 36 = .ok (.aload_n 0, 1) := by decide +kernel
theorem d_Rd_faultNumber_37 : decode b_Rd_faultNumber 37 = .ok (.getfield 62, 3) := by decide +kernel
theorem d_Rd_faultNumber_40 : decode b_Rd_faultNumber 40 = .ok (.ireturn, 1) := by decide +kernel
theorem d_Rd_faultNumber_41 : decode b_Rd_faultNumber 41 = .ok (.aload_n 0, 1) := by decide +kernel
theorem d_Rd_faultNumber_42 : decode b_Rd_faultNumber 42 = .ok (.getfield 65, 3) := by decide +kernel
theorem d_Rd_faultNumber_45 : decode b_Rd_faultNumber 45 = .ok (.ireturn, 1) := by decide +kernel
theorem d_Rd_faultNumber_46 : decode b_Rd_faultNumber 46 = .ok (.aload_n 0, 1) := by decide +kernel
theorem d_Rd_faultNumber_47 : decode b_Rd_faultNumber 47 = .ok (.getfield 68, 3) := by decide +kernel
theorem d_Rd_faultNumber_50 : decode b_Rd_faultNumber 50 = .ok (.ireturn, 1) := by decide +kernel
theorem d_Rd_faultNumber_51 : decode b_Rd_faultNumber 51 = .ok (.iconst (-1), 1) := by decide +kernel
theorem d_Rd_faultNumber_52 : decode b_Rd_faultNumber 52 = .ok (.ireturn, 1) := by decide +kernel
theorem d_Rd_forgetAll_0 : decode b_Rd_forgetAll 0 = .ok (.aload_n 0, 1) := by decide +kernel
theorem d_Rd_forgetAll_1 : decode b_Rd_forgetAll 1 = .ok (.iconst 0, 1) := by decide +kernel
theorem d_Rd_forgetAll_2 : decode b_Rd_forgetAll 2 = .ok (.putfield 44, 3) := by decide +kernel
theorem d_Rd_forgetAll_5 : decode b_Rd_forgetAll 5 = .ok (.aload_n 0, 1) := by decide +kernel
theorem d_Rd_forgetAll_6 : decode b_Rd_forgetAll 6 = .ok (.iconst 0, 1) := by decide +kernel
theorem d_Rd_forgetAll_7 : decode b_Rd_forgetAll 7 = .ok (.putfield 80, 3) := by decide +kernel
theorem d_Rd_forgetAll_10 : decode b_Rd_forgetAll 10 = .ok (.aload_n 0, 1) := by decide +kernel
theorem d_Rd_forgetAll_11 : decode b_Rd_forgetAll 11 = .ok (.iconst 0, 1) := by decide +kernel
theorem d_Rd_forgetAll_12 : decode b_Rd_forgetAll 12 = .ok (.putfield 89, 3) := by decide +kernel
theorem d_Rd_forgetAll_15 : decode b_Rd_forgetAll 15 = .ok (.aload_n 0, 1) := by decide +kernel
theorem d_Rd_forgetAll_16 : decode b_Rd_forgetAll 16 = .ok (.iconst 0, 1) := by decide +kernel
theorem d_Rd_forgetAll_17 : decode b_Rd_forgetAll 17 = .ok (.putfield 59, 3) := by decide +kernel
theorem d_Rd_forgetAll_20 : decode b_Rd_forgetAll 20 = .ok (.aload_n 0, 1) := by decide +kernel
theorem d_Rd_forgetAll_21 : decode b_Rd_forgetAll 21 = .ok (.getfield 23, 3) := by decide +kernel
theorem d_Rd_forgetAll_24 : decode b_Rd_forgetAll 24 = .ok (.iconst 0, 1) := by decide +kernel
theorem d_Rd_forgetAll_25 : decode b_Rd_forgetAll 25 = .ok (.putfield 100, 3) := by decide +kernel
theorem d_Rd_forgetAll_28 : decode b_Rd_forgetAll 28 = .ok (.return_, 1) := by decide +kernel
theorem d_Rd_refuse_0 : decode b_Rd_refuse 0 = .ok (.aload_n 0, 1) := by decide +kernel
theorem d_Rd_refuse_1 : decode b_Rd_refuse 1 = .ok (.iconst 0, 1) := by decide +kernel
theorem d_Rd_refuse_2 : decode b_Rd_refuse 2 = .ok (.putfield 80, 3) := by decide +kernel
theorem d_Rd_refuse_5 : decode b_Rd_refuse 5 = .ok (.aload_n 0, 1) := by decide +kernel
theorem d_Rd_refuse_6 : decode b_Rd_refuse 6 = .ok (.iload_n 1, 1) := by decide +kernel
theorem d_Rd_refuse_7 : decode b_Rd_refuse 7 = .ok (.putfield 59, 3) := by decide +kernel
theorem d_Rd_refuse_10 : decode b_Rd_refuse 10 = .ok (.aload_n 0, 1) := by decide +kernel
theorem d_Rd_refuse_11 : decode b_Rd_refuse 11 = .ok (.aload_n 0, 1) := by decide +kernel
theorem d_Rd_refuse_12 : decode b_Rd_refuse 12 = .ok (.getfield 89, 3) := by decide +kernel
theorem d_Rd_refuse_15 : decode b_Rd_refuse 15 = .ok (.putfield 62, 3) := by decide +kernel
theorem d_Rd_refuse_18 : decode b_Rd_refuse 18 = .ok (.aload_n 0, 1) := by decide +kernel
theorem d_Rd_refuse_19 : decode b_Rd_refuse 19 = .ok (.iload_n 2, 1) := by decide +kernel
theorem d_Rd_refuse_20 : decode b_Rd_refuse 20 = .ok (.putfield 65, 3) := by decide +kernel
theorem d_Rd_refuse_23 : decode b_Rd_refuse 23 = .ok (.aload_n 0, 1) := by decide +kernel
theorem d_Rd_refuse_24 : decode b_Rd_refuse 24 = .ok (.iload_n 3, 1) := by decide +kernel
theorem d_Rd_refuse_25 : decode b_Rd_refuse 25 = .ok (.putfield 68, 3) := by decide +kernel
theorem d_Rd_refuse_28 : decode b_Rd_refuse 28 = .ok (.iconst 0, 1) := by decide +kernel
theorem d_Rd_refuse_29 : decode b_Rd_refuse 29 = .ok (.ireturn, 1) := by decide +kernel
theorem d_Rd_takeHead_0 : decode b_Rd_takeHead 0 = .ok (.aload_n 0, 1) := by decide +kernel
theorem d_Rd_takeHead_1 : decode b_Rd_takeHead 1 = .ok (.getfield 31, 3) := by decide +kernel
theorem d_Rd_takeHead_4 : decode b_Rd_takeHead 4 = .ok (.lconst 0, 1) := by decide +kernel
theorem d_Rd_takeHead_5 : decode b_Rd_takeHead 5 = .ok (.invokevirtual 103, 3) := by decide +kernel
theorem d_Rd_takeHead_8 : decode b_Rd_takeHead 8 = .ok (.istore_n 1, 1) := by decide +kernel
theorem d_Rd_takeHead_9 : decode b_Rd_takeHead 9 = .ok (.aload_n 0, 1) := by decide +kernel
theorem d_Rd_takeHead_10 : decode b_Rd_takeHead 10 = .ok (.getfield 31, 3) := by decide +kernel
theorem d_Rd_takeHead_13 : decode b_Rd_takeHead 13 = .ok (.getfield 107, 3) := by decide +kernel
theorem d_Rd_takeHead_16 : decode b_Rd_takeHead 16 = .ok (.bipush 8, 2) := by decide +kernel
theorem d_Rd_takeHead_18 : decode b_Rd_takeHead 18 = .ok (.if_icmp .lt 41, 3) := by decide +kernel
theorem d_Rd_takeHead_21 : decode b_Rd_takeHead 21 = .ok (.iload_n 1, 1) := by decide +kernel
theorem d_Rd_takeHead_22 : decode b_Rd_takeHead 22 = .ok (.invokestatic 110, 3) := by decide +kernel
theorem d_Rd_takeHead_25 : decode b_Rd_takeHead 25 = .ok (.ifCond .eq 34, 3) := by decide +kernel
theorem d_Rd_takeHead_28 : decode b_Rd_takeHead 28 = .ok (.aload_n 0, 1) := by decide +kernel
theorem d_Rd_takeHead_29 : decode b_Rd_takeHead 29 = .ok (.getfield 31, 3) := by decide +kernel
theorem d_Rd_takeHead_32 : decode b_Rd_takeHead 32 = .ok (.lconst 1, 1) := by decide +kernel
theorem d_Rd_takeHead_33 : decode b_Rd_takeHead 33 = .ok (.invokevirtual 103, 3) := by decide +kernel
theorem d_Rd_takeHead_36 : decode b_Rd_takeHead 36 = .ok (.iload_n 1, 1) := by decide +kernel
theorem d_Rd_takeHead_37 : decode b_Rd_takeHead 37 = .ok (.if_icmp .ne 22, 3) := by decide +kernel
theorem d_Rd_takeHead_40 : decode b_Rd_takeHead 40 = .ok (.aload_n 0, 1) := by decide +kernel
theorem d_Rd_takeHead_41 : decode b_Rd_takeHead 41 = .ok (.getfield 31, 3) := by decide +kernel
theorem d_Rd_takeHead_44 : decode b_Rd_takeHead 44 = .ok (.ldc2_w 113, 3) := by decide +kernel
theorem d_Rd_takeHead_47 : decode b_Rd_takeHead 47 = .ok (.iconst 2, 1) := by decide +kernel
theorem d_Rd_takeHead_48 : decode b_Rd_takeHead 48 = .ok (.iload_n 1, 1) := by decide +kernel
theorem d_Rd_takeHead_49 : decode b_Rd_takeHead 49 = .ok (.invokevirtual 83, 3) := by decide +kernel
theorem d_Rd_takeHead_52 : decode b_Rd_takeHead 52 = .ok (.ldc2_w 115, 3) := by decide +kernel
theorem d_Rd_takeHead_55 : decode b_Rd_takeHead 55 = .ok (.lcmp, 1) := by decide +kernel
theorem d_Rd_takeHead_56 : decode b_Rd_takeHead 56 = .ok (.ifCond .eq 11, 3) := by decide +kernel
theorem d_Rd_takeHead_59 : decode b_Rd_takeHead 59 = .ok (.aload_n 0, 1) := by decide +kernel
theorem d_Rd_takeHead_60 : decode b_Rd_takeHead 60 = .ok (.iconst 1, 1) := by decide +kernel
theorem d_Rd_takeHead_61 : decode b_Rd_takeHead 61 = .ok (.iconst 0, 1) := by decide +kernel
theorem d_Rd_takeHead_62 : decode b_Rd_takeHead 62 = .ok (.iconst 0, 1) := by decide +kernel
theorem d_Rd_takeHead_63 : decode b_Rd_takeHead 63 = .ok (.invokevirtual 117, 3) := by decide +kernel
theorem d_Rd_takeHead_66 : decode b_Rd_takeHead 66 = .ok (.ireturn, 1) := by decide +kernel
theorem d_Rd_takeHead_67 : decode b_Rd_takeHead 67 = .ok (.aload_n 0, 1) := by decide +kernel
theorem d_Rd_takeHead_68 : decode b_Rd_takeHead 68 = .ok (.iload_n 1, 1) := by decide +kernel
theorem d_Rd_takeHead_69 : decode b_Rd_takeHead 69 = .ok (.putfield 80, 3) := by decide +kernel
theorem d_Rd_takeHead_72 : decode b_Rd_takeHead 72 = .ok (.iconst 1, 1) := by decide +kernel
theorem d_Rd_takeHead_73 : decode b_Rd_takeHead 73 = .ok (.ireturn, 1) := by decide +kernel
theorem d_Rd_entriesAt_0 : decode b_Rd_entriesAt 0 = .ok (.aload_n 0, 1) := by decide +kernel
theorem d_Rd_entriesAt_1 : decode b_Rd_entriesAt 1 = .ok (.getfield 31, 3) := by decide +kernel
theorem d_Rd_entriesAt_4 : decode b_Rd_entriesAt 4 = .ok (.lload_n 1, 1) := by decide +kernel
theorem d_Rd_entriesAt_5 : decode b_Rd_entriesAt 5 = .ok (.iconst 2, 1) := by decide +kernel
theorem d_Rd_entriesAt_6 : decode b_Rd_entriesAt 6 = .ok (.aload_n 0, 1) := by decide +kernel
theorem d_Rd_entriesAt_7 : decode b_Rd_entriesAt 7 = .ok (.getfield 80, 3) := by decide +kernel
theorem d_Rd_entriesAt_10 : decode b_Rd_entriesAt 10 = .ok (.invokevirtual 83, 3) := by decide +kernel
theorem d_Rd_entriesAt_13 : decode b_Rd_entriesAt 13 = .ok (.l2i, 1) := by decide +kernel
theorem d_Rd_entriesAt_14 : decode b_Rd_entriesAt 14 = .ok (.ireturn, 1) := by decide +kernel
theorem d_Rd_linkOf_0 : decode b_Rd_linkOf 0 = .ok (.lload_n 1, 1) := by decide +kernel
theorem d_Rd_linkOf_1 : decode b_Rd_linkOf 1 = .ok (.ldc2_w 113, 3) := by decide +kernel
theorem d_Rd_linkOf_4 : decode b_Rd_linkOf 4 = .ok (.ladd, 1) := by decide +kernel
theorem d_Rd_linkOf_5 : decode b_Rd_linkOf 5 = .ok (.bipush 12, 2) := by decide +kernel
theorem d_Rd_linkOf_7 : decode b_Rd_linkOf 7 = .ok (.aload_n 0, 1) := by decide +kernel
theorem d_Rd_linkOf_8 : decode b_Rd_linkOf 8 = .ok (.lload_n 1, 1) := by decide +kernel
theorem d_Rd_linkOf_9 : decode b_Rd_linkOf 9 = .ok (.invokevirtual 136, 3) := by decide +kernel
theorem d_Rd_linkOf_12 : decode b_Rd_linkOf 12 = .ok (.imul, 1) := by decide +kernel
theorem d_Rd_linkOf_13 : decode b_Rd_linkOf 13 = .ok (.i2l, 1) := by decide +kernel
theorem d_Rd_linkOf_14 : decode b_Rd_linkOf 14 = .ok (.ladd, 1) := by decide +kernel
theorem d_Rd_linkOf_15 : decode b_Rd_linkOf 15 = .ok (.lreturn, 1) := by decide +kernel
theorem d_Rd_isDirectory_0 : decode b_Rd_isDirectory 0 = .ok (.lload_n 1, 1) := by decide +kernel
theorem d_Rd_isDirectory_1 : decode b_Rd_isDirectory 1 = .ok (.ldc2_w 139, 3) := by decide +kernel
theorem d_Rd_isDirectory_4 : decode b_Rd_isDirectory 4 = .ok (.lcmp, 1) := by decide +kernel
theorem d_Rd_isDirectory_5 : decode b_Rd_isDirectory 5 = .ok (.ifCond .lt 46, 3) := by decide +kernel
theorem d_Rd_isDirectory_8 : decode b_Rd_isDirectory 8 = .ok (.lload_n 1, 1) := by decide +kernel
theorem d_Rd_isDirectory_9 : decode b_Rd_isDirectory 9 = .ok (.ldc2_w 113, 3) := by decide +kernel
theorem d_Rd_isDirectory_12 : decode b_Rd_isDirectory 12 = .ok (.lrem, 1) := by decide +kernel
theorem d_Rd_isDirectory_13 : decode b_Rd_isDirectory 13 = .ok (.lconst 0, 1) := by decide +kernel
theorem d_Rd_isDirectory_14 : decode b_Rd_isDirectory 14 = .ok (.lcmp, 1) := by decide +kernel
theorem d_Rd_isDirectory_15 : decode b_Rd_isDirectory 15 = .ok (.ifCond .ne 36, 3) := by decide +kernel
theorem d_Rd_isDirectory_18 : decode b_Rd_isDirectory 18 = .ok (.aload_n 0, 1) := by decide +kernel
theorem d_Rd_isDirectory_19 : decode b_Rd_isDirectory 19 = .ok (.lload_n 1, 1) := by decide +kernel
theorem d_Rd_isDirectory_20 : decode b_Rd_isDirectory 20 = .ok (.invokevirtual 136, 3) := by decide +kernel
theorem d_Rd_isDirectory_23 : decode b_Rd_isDirectory 23 = .ok (.ifCond .le 28, 3) := by decide +kernel
theorem d_Rd_isDirectory_26 : decode b_Rd_isDirectory 26 = .ok (.aload_n 0, 1) := by decide +kernel
theorem d_Rd_isDirectory_27 : decode b_Rd_isDirectory 27 = .ok (.lload_n 1, 1) := by decide +kernel
theorem d_Rd_isDirectory_28 : decode b_Rd_isDirectory 28 = .ok (.invokevirtual 96, 3) := by decide +kernel
theorem d_Rd_isDirectory_31 : decode b_Rd_isDirectory 31 = .ok (.ldc2_w 78, 3) := by decide +kernel
theorem d_Rd_isDirectory_34 : decode b_Rd_isDirectory 34 = .ok (.ladd, 1) := by decide +kernel
theorem d_Rd_isDirectory_35 : decode b_Rd_isDirectory 35 = .ok (.aload_n 0, 1) := by decide +kernel
theorem d_Rd_isDirectory_36 : decode b_Rd_isDirectory 36 = .ok (.getfield 31, 3) := by decide +kernel
theorem d_Rd_isDirectory_39 : decode b_Rd_isDirectory 39 = .ok (.getfield 107, 3) := by decide +kernel
theorem d_Rd_isDirectory_42 : decode b_Rd_isDirectory 42 = .ok (.i2l, 1) := by decide +kernel
theorem d_Rd_isDirectory_43 : decode b_Rd_isDirectory 43 = .ok (.lcmp, 1) := by decide +kernel
theorem d_Rd_isDirectory_44 : decode b_Rd_isDirectory 44 = .ok (.ifCond .gt 7, 3) := by decide +kernel
theorem d_Rd_isDirectory_47 : decode b_Rd_isDirectory 47 = .ok (.iconst 1, 1) := by decide +kernel
theorem d_Rd_isDirectory_48 : decode b_Rd_isDirectory 48 = .ok (.goto 4, 3) := by decide +kernel
theorem d_Rd_isDirectory_51 : decode b_Rd_isDirectory 51 = .ok (.iconst 0, 1) := by decide +kernel
theorem d_Rd_isDirectory_52 : decode b_Rd_isDirectory 52 = .ok (.ireturn, 1) := by decide +kernel
theorem d_Rd_takeEntries_0 : decode b_Rd_takeEntries 0 = .ok (.aload_n 0, 1) := by decide +kernel
theorem d_Rd_takeEntries_1 : decode b_Rd_takeEntries 1 = .ok (.getfield 40, 3) := by decide +kernel
theorem d_Rd_takeEntries_4 : decode b_Rd_takeEntries 4 = .ok (.invokevirtual 141, 3) := by decide +kernel
theorem d_Rd_takeEntries_7 : decode b_Rd_takeEntries 7 = .ok (.aload_n 0, 1) := by decide +kernel
theorem d_Rd_takeEntries_8 : decode b_Rd_takeEntries 8 = .ok (.iload_n 1, 1) := by decide +kernel
theorem d_Rd_takeEntries_9 : decode b_Rd_takeEntries 9 = .ok (.i2l, 1) := by decide +kernel
theorem d_Rd_takeEntries_10 : decode b_Rd_takeEntries 10 = .ok (.invokevirtual 136, 3) := by decide +kernel
theorem d_Rd_takeEntries_13 : decode b_Rd_takeEntries 13 = .ok (.istore_n 2, 1) := by decide +kernel
theorem d_Rd_takeEntries_14 : decode b_Rd_takeEntries 14 = .ok (.iconst (-1), 1) := by decide +kernel
theorem d_Rd_takeEntries_15 : decode b_Rd_takeEntries 15 = .ok (.istore_n 3, 1) := by decide +kernel
theorem d_Rd_takeEntries_16 : decode b_Rd_takeEntries 16 = .ok (.iconst 0, 1) := by decide +kernel
theorem d_Rd_takeEntries_17 : decode b_Rd_takeEntries 17 = .ok (.istore 4, 2) := by decide +kernel
theorem d_Rd_takeEntries_19 : decode b_Rd_takeEntries 19 = .ok (.iload 4, 2) := by decide +kernel
theorem d_Rd_takeEntries_21 : decode b_Rd_takeEntries 21 = .ok (.iload_n 2, 1) := by decide +kernel
theorem d_Rd_takeEntries_22 : decode b_Rd_takeEntries 22 = .ok (.if_icmp .ge 83, 3) := by decide +kernel
theorem d_Rd_takeEntries_25 : decode b_Rd_takeEntries 25 = .ok (.iload_n 1, 1) := by decide +kernel
theorem d_Rd_takeEntries_26 : decode b_Rd_takeEntries 26 = .ok (.iconst 2, 1) := by decide +kernel
theorem d_Rd_takeEntries_27 : decode b_Rd_takeEntries 27 = .ok (.iadd, 1) := by decide +kernel
theorem d_Rd_takeEntries_28 : decode b_Rd_takeEntries 28 = .ok (.bipush 12, 2) := by decide +kernel
theorem d_Rd_takeEntries_30 : decode b_Rd_takeEntries 30 = .ok (.iload 4, 2) := by decide +kernel
theorem d_Rd_takeEntries_32 : decode b_Rd_takeEntries 32 = .ok (.imul, 1) := by decide +kernel
theorem d_Rd_takeEntries_33 : decode b_Rd_takeEntries 33 = .ok (.iadd, 1) := by decide +kernel
theorem d_Rd_takeEntries_34 : decode b_Rd_takeEntries 34 = .ok (.istore 5, 2) := by decide +kernel
theorem d_Rd_takeEntries_36 : decode b_Rd_takeEntries 36 = .ok (.aload_n 0, 1) := by decide +kernel
theorem d_Rd_takeEntries_37 : decode b_Rd_takeEntries 37 = .ok (.getfield 31, 3) := by decide +kernel
theorem d_Rd_takeEntries_40 : decode b_Rd_takeEntries 40 = .ok (.iload 5, 2) := by decide +kernel
theorem d_Rd_takeEntries_42 : decode b_Rd_takeEntries 42 = .ok (.i2l, 1) := by decide +kernel
theorem d_Rd_takeEntries_43 : decode b_Rd_takeEntries 43 = .ok (.iconst 2, 1) := by decide +kernel
theorem d_Rd_takeEntries_44 : decode b_Rd_takeEntries 44 = .ok (.aload_n 0, 1) := by decide +kernel
theorem d_Rd_takeEntries_45 : decode b_Rd_takeEntries 45 = .ok (.getfield 80, 3) := by decide +kernel
theorem d_Rd_takeEntries_48 : decode b_Rd_takeEntries 48 = .ok (.invokevirtual 83, 3) := by decide +kernel
theorem d_Rd_takeEntries_51 : decode b_Rd_takeEntries 51 = .ok (.l2i, 1) := by decide +kernel
theorem d_Rd_takeEntries_52 : decode b_Rd_takeEntries 52 = .ok (.istore 6, 2) := by decide +kernel
theorem d_Rd_takeEntries_54 : decode b_Rd_takeEntries 54 = .ok (.iload 6, 2) := by decide +kernel
theorem d_Rd_takeEntries_56 : decode b_Rd_takeEntries 56 = .ok (.iload_n 3, 1) := by decide +kernel
theorem d_Rd_takeEntries_57 : decode b_Rd_takeEntries 57 = .ok (.if_icmp .gt 7, 3) := by decide +kernel
theorem d_Rd_takeEntries_60 : decode b_Rd_takeEntries 60 = .ok (.iconst 3, 1) := by decide +kernel
theorem d_Rd_takeEntries_61 : decode b_Rd_takeEntries 61 = .ok (.goto 18, 3) := by decide +kernel
theorem d_Rd_takeEntries_64 : decode b_Rd_takeEntries 64 = .ok (.aload_n 0, 1) := by decide +kernel
theorem d_Rd_takeEntries_65 : decode b_Rd_takeEntries 65 = .ok (.getfield 40, 3) := by decide +kernel
theorem d_Rd_takeEntries_68 : decode b_Rd_takeEntries 68 = .ok (.iload 5, 2) := by decide +kernel
theorem d_Rd_takeEntries_70 : decode b_Rd_takeEntries 70 = .ok (.iload 6, 2) := by decide +kernel
theorem d_Rd_takeEntries_72 : decode b_Rd_takeEntries 72 = .ok (.aload_n 0, 1) := by decide +kernel
theorem d_Rd_takeEntries_73 : decode b_Rd_takeEntries 73 = .ok (.getfield 80, 3) := by decide +kernel
theorem d_Rd_takeEntries_76 : decode b_Rd_takeEntries 76 = .ok (.invokevirtual 142, 3) := by decide +kernel
theorem d_Rd_takeEntries_79 : decode b_Rd_takeEntries 79 = .ok (.istore 7, 2) := by decide +kernel
theorem d_Rd_takeEntries_81 : decode b_Rd_takeEntries 81 = .ok (.iload 7, 2) := by decide +kernel
theorem d_Rd_takeEntries_83 : decode b_Rd_takeEntries 83 = .ok (.ifCond .eq 13, 3) := by decide +kernel
theorem d_Rd_takeEntries_86 : decode b_Rd_takeEntries 86 = .ok (.aload_n 0, 1) := by decide +kernel
theorem d_Rd_takeEntries_87 : decode b_Rd_takeEntries 87 = .ok (.iload 7, 2) := by decide +kernel
theorem d_Rd_takeEntries_89 : decode b_Rd_takeEntries 89 = .ok (.iload 6, 2) := by decide +kernel
theorem d_Rd_takeEntries_91 : decode b_Rd_takeEntries 91 = .ok (.iconst 0, 1) := by decide +kernel
theorem d_Rd_takeEntries_92 : decode b_Rd_takeEntries 92 = .ok (.invokevirtual 117, 3) := by decide +kernel
theorem d_Rd_takeEntries_95 : decode b_Rd_takeEntries 95 = .ok (.ireturn, 1) := by decide +kernel
theorem d_Rd_takeEntries_96 : decode b_Rd_takeEntries 96 = .ok (.iload 6, 2) := by decide +kernel
theorem d_Rd_takeEntries_98 : decode b_Rd_takeEntries 98 = .ok (.istore_n 3, 1) := by decide +kernel
theorem d_Rd_takeEntries_99 : decode b_Rd_takeEntries 99 = .ok (.iinc 4 1, 3) := by decide +kernel
theorem d_Rd_takeEntries_102 : decode b_Rd_takeEntries 102 = .ok (.goto (-83), 3) := by decide +kernel
theorem d_Rd_takeEntries_105 : decode b_Rd_takeEntries 105 = .ok (.iconst 1, 1) := by decide +kernel
theorem d_Rd_takeEntries_106 : decode b_Rd_takeEntries 106 = .ok (.ireturn, 1) := by decide +kernel
theorem d_Rd_hasNeededTags_0 : decode b_Rd_hasNeededTags 0 = .ok (.aload_n 0, 1) := by decide +kernel
theorem d_Rd_hasNeededTags_1 : decode b_Rd_hasNeededTags 1 = .ok (.getfield 40, 3) := by decide +kernel
theorem d_Rd_hasNeededTags_4 : decode b_Rd_hasNeededTags 4 = .ok (.invokevirtual 146, 3) := by decide +kernel
theorem d_Rd_hasNeededTags_7 : decode b_Rd_hasNeededTags 7 = .ok (.istore_n 1, 1) := by decide +kernel
theorem d_Rd_hasNeededTags_8 : decode b_Rd_hasNeededTags 8 = .ok (.iload_n 1, 1) := by decide +kernel
theorem d_Rd_hasNeededTags_9 : decode b_Rd_hasNeededTags 9 = .ok (.ifCond .eq 14, 3) := by decide +kernel
theorem d_Rd_hasNeededTags_12 : decode b_Rd_hasNeededTags 12 = .ok (.aload_n 0, 1) := by decide +kernel
theorem d_Rd_hasNeededTags_13 : decode b_Rd_hasNeededTags 13 = .ok (.bipush 6, 2) := by decide +kernel
theorem d_Rd_hasNeededTags_15 : decode b_Rd_hasNeededTags 15 = .ok (.iload_n 1, 1) := by decide +kernel
theorem d_Rd_hasNeededTags_16 : decode b_Rd_hasNeededTags 16 = .ok (.iconst 0, 1) := by decide +kernel
theorem d_Rd_hasNeededTags_17 : decode b_Rd_hasNeededTags 17 = .ok (.invokevirtual 117, 3) := by decide +kernel
theorem d_Rd_hasNeededTags_20 : decode b_Rd_hasNeededTags 20 = .ok (.ifCond .eq 7, 3) := by decide +kernel
theorem d_Rd_hasNeededTags_23 : decode b_Rd_hasNeededTags 23 = .ok (.iconst 1, 1) := by decide +kernel
theorem d_Rd_hasNeededTags_24 : decode b_Rd_hasNeededTags 24 = .ok (.goto 4, 3) := by decide +kernel
theorem d_Rd_hasNeededTags_27 : decode b_Rd_hasNeededTags 27 = .ok (.iconst 0, 1) := by decide +kernel
theorem d_Rd_hasNeededTags_28 : decode b_Rd_hasNeededTags 28 = .ok (.ireturn, 1) := by decide +kernel
theorem d_Rd_keep_0 : decode b_Rd_keep 0 = .ok (.aload_n 0, 1) := by decide +kernel
theorem d_Rd_keep_1 : decode b_Rd_keep 1 = .ok (.getfield 12, 3) := by decide +kernel
theorem d_Rd_keep_4 : decode b_Rd_keep 4 = .ok (.aload_n 0, 1) := by decide +kernel
theorem d_Rd_keep_5 : decode b_Rd_keep 5 = .ok (.getfield 89, 3) := by decide +kernel
theorem d_Rd_keep_8 : decode b_Rd_keep 8 = .ok (.iload_n 1, 1) := by decide +kernel
