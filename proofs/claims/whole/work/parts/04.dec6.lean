theorem d_Md_lies_29 : decode b_Md_lies 29 = .ok (.ifCond .le 5, 3) := by decide +kernel
theorem d_Md_lies_32 : decode b_Md_lies 32 = .ok (.iconst 0, 1) := by decide +kernel
theorem d_Md_lies_33 : decode b_Md_lies 33 = .ok (.ireturn, 1) := by decide +kernel
theorem d_Md_lies_34 : decode b_Md_lies 34 = .ok (.aload_n 0, 1) := by decide +kernel
theorem d_Md_lies_35 : decode b_Md_lies 35 = .ok (.lload_n 1, 1) := by decide +kernel
theorem d_Md_lies_36 : decode b_Md_lies 36 = .ok (.l2i, 1) := by decide +kernel
theorem d_Md_lies_37 : decode b_Md_lies 37 = .ok (.invokevirtual 118, 3) := by decide +kernel
theorem d_Md_lies_40 : decode b_Md_lies 40 = .ok (.istore_n 3, 1) := by decide +kernel
theorem d_Md_lies_41 : decode b_Md_lies 41 = .ok (.iload_n 3, 1) := by decide +kernel
theorem d_Md_lies_42 : decode b_Md_lies 42 = .ok (.ifCond .le 32, 3) := by decide +kernel
theorem d_Md_lies_45 : decode b_Md_lies 45 = .ok (.lload_n 1, 1) := by decide +kernel
theorem d_Md_lies_46 : decode b_Md_lies 46 = .ok (.ldc2_w 165, 3) := by decide +kernel
theorem d_Md_lies_49 : decode b_Md_lies 49 = .ok (.ladd, 1) := by decide +kernel
theorem d_Md_lies_50 : decode b_Md_lies 50 = .ok (.ldc2_w 181, 3) := by decide +kernel
theorem d_Md_lies_53 : decode b_Md_lies 53 = .ok (.iload_n 3, 1) := by decide +kernel
theorem d_Md_lies_54 : decode b_Md_lies 54 = .ok (.i2l, 1) := by decide +kernel
theorem d_Md_lies_55 : decode b_Md_lies 55 = .ok (.lmul, 1) := by decide +kernel
theorem d_Md_lies_56 : decode b_Md_lies 56 = .ok (.ladd, 1) := by decide +kernel
theorem d_Md_lies_57 : decode b_Md_lies 57 = .ok (.ldc2_w 151, 3) := by decide +kernel
theorem d_Md_lies_60 : decode b_Md_lies 60 = .ok (.ladd, 1) := by decide +kernel
theorem d_Md_lies_61 : decode b_Md_lies 61 = .ok (.aload_n 0, 1) := by decide +kernel
theorem d_Md_lies_62 : decode b_Md_lies 62 = .ok (.getfield 41, 3) := by decide +kernel
theorem d_Md_lies_65 : decode b_Md_lies 65 = .ok (.i2l, 1) := by decide +kernel
theorem d_Md_lies_66 : decode b_Md_lies 66 = .ok (.lcmp, 1) := by decide +kernel
theorem d_Md_lies_67 : decode b_Md_lies 67 = .ok (.ifCond .gt 7, 3) := by decide +kernel
theorem d_Md_lies_70 : decode b_Md_lies 70 = .ok (.iconst 1, 1) := by decide +kernel
theorem d_Md_lies_71 : decode b_Md_lies 71 = .ok (.goto 4, 3) := by decide +kernel
theorem d_Md_lies_74 : decode b_Md_lies 74 = .ok (.iconst 0, 1) := by decide +kernel
theorem d_Md_lies_75 : decode b_Md_lies 75 = .ok (.ireturn, 1) := by decide +kernel
theorem d_Md_gone_0 : decode b_Md_gone 0 = .ok (.aload_n 0, 1) := by decide +kernel
theorem d_Md_gone_1 : decode b_Md_gone 1 = .ok (.iconst 0, 1) := by decide +kernel
theorem d_Md_gone_2 : decode b_Md_gone 2 = .ok (.putfield 183, 3) := by decide +kernel
theorem d_Md_gone_5 : decode b_Md_gone 5 = .ok (.aload_n 0, 1) := by decide +kernel
theorem d_Md_gone_6 : decode b_Md_gone 6 = .ok (.iconst 4, 1) := by decide +kernel
theorem d_Md_gone_7 : decode b_Md_gone 7 = .ok (.invokevirtual 138, 3) := by decide +kernel
theorem d_Md_gone_10 : decode b_Md_gone 10 = .ok (.lstore_n 1, 1) := by decide +kernel
theorem d_Md_gone_11 : decode b_Md_gone 11 = .ok (.iconst 1, 1) := by decide +kernel
theorem d_Md_gone_12 : decode b_Md_gone 12 = .ok (.istore_n 3, 1) := by decide +kernel
theorem d_Md_gone_13 : decode b_Md_gone 13 = .ok (.iconst 0, 1) := by decide +kernel
theorem d_Md_gone_14 : decode b_Md_gone 14 = .ok (.istore 4, 2) := by decide +kernel
theorem d_Md_gone_16 : decode b_Md_gone 16 = .ok (.iload_n 3, 1) := by decide +kernel
theorem d_Md_gone_17 : decode b_Md_gone 17 = .ok (.ifCond .eq 116, 3) := by decide +kernel
theorem d_Md_gone_20 : decode b_Md_gone 20 = .ok (.iload 4, 2) := by decide +kernel
theorem d_Md_gone_22 : decode b_Md_gone 22 = .ok (.bipush 40, 2) := by decide +kernel
theorem d_Md_gone_24 : decode b_Md_gone 24 = .ok (.if_icmp .eq 11, 3) := by decide +kernel
theorem d_Md_gone_27 : decode b_Md_gone 27 = .ok (.aload_n 0, 1) := by decide +kernel
theorem d_Md_gone_28 : decode b_Md_gone 28 = .ok (.lload_n 1, 1) := by decide +kernel
theorem d_Md_gone_29 : decode b_Md_gone 29 = .ok (.invokevirtual 186, 3) := by decide +kernel
theorem d_Md_gone_32 : decode b_Md_gone 32 = .ok (.ifCond .ne 16, 3) := by decide +kernel
theorem d_Md_gone_35 : decode b_Md_gone 35 = .ok (.aload_n 0, 1) := by decide +kernel
theorem d_Md_gone_36 : decode b_Md_gone 36 = .ok (.iconst 2, 1) := by decide +kernel
theorem d_Md_gone_37 : decode b_Md_gone 37 = .ok (.iload 4, 2) := by decide +kernel
theorem d_Md_gone_39 : decode b_Md_gone 39 = .ok (.iconst 0, 1) := by decide +kernel
theorem d_Md_gone_40 : decode b_Md_gone 40 = .ok (.iconst 0, 1) := by decide +kernel
theorem d_Md_gone_41 : decode b_Md_gone 41 = .ok (.invokevirtual 144, 3) := by decide +kernel
theorem d_Md_gone_44 : decode b_Md_gone 44 = .ok (.istore_n 3, 1) := by decide +kernel
theorem d_Md_gone_45 : decode b_Md_gone 45 = .ok (.goto (-29), 3) := by decide +kernel
theorem d_Md_gone_48 : decode b_Md_gone 48 = .ok (.lload_n 1, 1) := by decide +kernel
theorem d_Md_gone_49 : decode b_Md_gone 49 = .ok (.l2i, 1) := by decide +kernel
theorem d_Md_gone_50 : decode b_Md_gone 50 = .ok (.istore 5, 2) := by decide +kernel
theorem d_Md_gone_52 : decode b_Md_gone 52 = .ok (.aload_n 0, 1) := by decide +kernel
theorem d_Md_gone_53 : decode b_Md_gone 53 = .ok (.iload 4, 2) := by decide +kernel
theorem d_Md_gone_55 : decode b_Md_gone 55 = .ok (.iload 5, 2) := by decide +kernel
theorem d_Md_gone_57 : decode b_Md_gone 57 = .ok (.invokevirtual 190, 3) := by decide +kernel
theorem d_Md_gone_60 : decode b_Md_gone 60 = .ok (.ifCond .eq 16, 3) := by decide +kernel
theorem d_Md_gone_63 : decode b_Md_gone 63 = .ok (.aload_n 0, 1) := by decide +kernel
theorem d_Md_gone_64 : decode b_Md_gone 64 = .ok (.iload 4, 2) := by decide +kernel
theorem d_Md_gone_66 : decode b_Md_gone 66 = .ok (.invokevirtual 193, 3) := by decide +kernel
theorem d_Md_gone_69 : decode b_Md_gone 69 = .ok (.ifCond .eq 7, 3) := by decide +kernel
theorem d_Md_gone_72 : decode b_Md_gone 72 = .ok (.iconst 1, 1) := by decide +kernel
theorem d_Md_gone_73 : decode b_Md_gone 73 = .ok (.goto 4, 3) := by decide +kernel
theorem d_Md_gone_76 : decode b_Md_gone 76 = .ok (.iconst 0, 1) := by decide +kernel
theorem d_Md_gone_77 : decode b_Md_gone 77 = .ok (.istore_n 3, 1) := by decide +kernel
theorem d_Md_gone_78 : decode b_Md_gone 78 = .ok (.iload_n 3, 1) := by decide +kernel
theorem d_Md_gone_79 : decode b_Md_gone 79 = .ok (.ifCond .eq 51, 3) := by decide +kernel
theorem d_Md_gone_82 : decode b_Md_gone 82 = .ok (.aload_n 0, 1) := by decide +kernel
theorem d_Md_gone_83 : decode b_Md_gone 83 = .ok (.getfield 21, 3) := by decide +kernel
theorem d_Md_gone_86 : decode b_Md_gone 86 = .ok (.bipush 13, 2) := by decide +kernel
theorem d_Md_gone_88 : decode b_Md_gone 88 = .ok (.iload 4, 2) := by decide +kernel
theorem d_Md_gone_90 : decode b_Md_gone 90 = .ok (.imul, 1) := by decide +kernel
theorem d_Md_gone_91 : decode b_Md_gone 91 = .ok (.bipush 12, 2) := by decide +kernel
theorem d_Md_gone_93 : decode b_Md_gone 93 = .ok (.iadd, 1) := by decide +kernel
theorem d_Md_gone_94 : decode b_Md_gone 94 = .ok (.lload_n 1, 1) := by decide +kernel
theorem d_Md_gone_95 : decode b_Md_gone 95 = .ok (.lastore, 1) := by decide +kernel
theorem d_Md_gone_96 : decode b_Md_gone 96 = .ok (.aload_n 0, 1) := by decide +kernel
theorem d_Md_gone_97 : decode b_Md_gone 97 = .ok (.iload 5, 2) := by decide +kernel
theorem d_Md_gone_99 : decode b_Md_gone 99 = .ok (.iconst 2, 1) := by decide +kernel
theorem d_Md_gone_100 : decode b_Md_gone 100 = .ok (.iadd, 1) := by decide +kernel
theorem d_Md_gone_101 : decode b_Md_gone 101 = .ok (.bipush 12, 2) := by decide +kernel
theorem d_Md_gone_103 : decode b_Md_gone 103 = .ok (.aload_n 0, 1) := by decide +kernel
theorem d_Md_gone_104 : decode b_Md_gone 104 = .ok (.iload 5, 2) := by decide +kernel
theorem d_Md_gone_106 : decode b_Md_gone 106 = .ok (.invokevirtual 118, 3) := by decide +kernel
theorem d_Md_gone_109 : decode b_Md_gone 109 = .ok (.imul, 1) := by decide +kernel
theorem d_Md_gone_110 : decode b_Md_gone 110 = .ok (.iadd, 1) := by decide +kernel
theorem d_Md_gone_111 : decode b_Md_gone 111 = .ok (.invokevirtual 138, 3) := by decide +kernel
theorem d_Md_gone_114 : decode b_Md_gone 114 = .ok (.lstore_n 1, 1) := by decide +kernel
theorem d_Md_gone_115 : decode b_Md_gone 115 = .ok (.iinc 4 1, 3) := by decide +kernel
theorem d_Md_gone_118 : decode b_Md_gone 118 = .ok (.lload_n 1, 1) := by decide +kernel
theorem d_Md_gone_119 : decode b_Md_gone 119 = .ok (.lconst 0, 1) := by decide +kernel
theorem d_Md_gone_120 : decode b_Md_gone 120 = .ok (.lcmp, 1) := by decide +kernel
theorem d_Md_gone_121 : decode b_Md_gone 121 = .ok (.ifCond .eq 7, 3) := by decide +kernel
theorem d_Md_gone_124 : decode b_Md_gone 124 = .ok (.iconst 1, 1) := by decide +kernel
theorem d_Md_gone_125 : decode b_Md_gone 125 = .ok (.goto 4, 3) := by decide +kernel
theorem d_Md_gone_128 : decode b_Md_gone 128 = .ok (.iconst 0, 1) := by decide +kernel
theorem d_Md_gone_129 : decode b_Md_gone 129 = .ok (.istore_n 3, 1) := by decide +kernel
theorem d_Md_gone_130 : decode b_Md_gone 130 = .ok (.goto (-114), 3) := by decide +kernel
theorem d_Md_gone_133 : decode b_Md_gone 133 = .ok (.aload_n 0, 1) := by decide +kernel
theorem d_Md_gone_134 : decode b_Md_gone 134 = .ok (.aload_n 0, 1) := by decide +kernel
theorem d_Md_gone_135 : decode b_Md_gone 135 = .ok (.getfield 123, 3) := by decide +kernel
theorem d_Md_gone_138 : decode b_Md_gone 138 = .ok (.ifCond .le 7, 3) := by decide +kernel
theorem d_Md_gone_141 : decode b_Md_gone 141 = .ok (.iconst 0, 1) := by decide +kernel
theorem d_Md_gone_142 : decode b_Md_gone 142 = .ok (.goto 5, 3) := by decide +kernel
theorem d_Md_gone_145 : decode b_Md_gone 145 = .ok (.iload 4, 2) := by decide +kernel
theorem d_Md_gone_147 : decode b_Md_gone 147 = .ok (.putfield 183, 3) := by decide +kernel
theorem d_Md_gone_150 : decode b_Md_gone 150 = .ok (.return_, 1) := by decide +kernel
theorem d_Md_read_0 : decode b_Md_read 0 = .ok (.aload_n 0, 1) := by decide +kernel
theorem d_Md_read_1 : decode b_Md_read 1 = .ok (.aload_n 0, 1) := by decide +kernel
theorem d_Md_read_2 : decode b_Md_read 2 = .ok (.getfield 44, 3) := by decide +kernel
theorem d_Md_read_5 : decode b_Md_read 5 = .ok (.ifCond .eq 7, 3) := by decide +kernel
theorem d_Md_read_8 : decode b_Md_read 8 = .ok (.iconst 1, 1) := by decide +kernel
theorem d_Md_read_9 : decode b_Md_read 9 = .ok (.goto 4, 3) := by decide +kernel
theorem d_Md_read_12 : decode b_Md_read 12 = .ok (.iconst 0, 1) := by decide +kernel
theorem d_Md_read_13 : decode b_Md_read 13 = .ok (.putfield 37, 3) := by decide +kernel
theorem d_Md_read_16 : decode b_Md_read 16 = .ok (.aload_n 0, 1) := by decide +kernel
theorem d_Md_read_17 : decode b_Md_read 17 = .ok (.getfield 37, 3) := by decide +kernel
theorem d_Md_read_20 : decode b_Md_read 20 = .ok (.ifCond .le 5, 3) := by decide +kernel
theorem d_Md_read_23 : decode b_Md_read 23 = .ok (.iconst 0, 1) := by decide +kernel
theorem d_Md_read_24 : decode b_Md_read 24 = .ok (.ireturn, 1) := by decide +kernel
theorem d_Md_read_25 : decode b_Md_read 25 = .ok (.aload_n 0, 1) := by decide +kernel
theorem d_Md_read_26 : decode b_Md_read 26 = .ok (.iconst 0, 1) := by decide +kernel
theorem d_Md_read_27 : decode b_Md_read 27 = .ok (.putfield 123, 3) := by decide +kernel
theorem d_Md_read_30 : decode b_Md_read 30 = .ok (.aload_n 0, 1) := by decide +kernel
theorem d_Md_read_31 : decode b_Md_read 31 = .ok (.iconst 0, 1) := by decide +kernel
theorem d_Md_read_32 : decode b_Md_read 32 = .ok (.putfield 183, 3) := by decide +kernel
theorem d_Md_read_35 : decode b_Md_read 35 = .ok (.aload_n 0, 1) := by decide +kernel
theorem d_Md_read_36 : decode b_Md_read 36 = .ok (.aload_n 0, 1) := by decide +kernel
theorem d_Md_read_37 : decode b_Md_read 37 = .ok (.getfield 41, 3) := by decide +kernel
theorem d_Md_read_40 : decode b_Md_read 40 = .ok (.bipush 8, 2) := by decide +kernel
theorem d_Md_read_42 : decode b_Md_read 42 = .ok (.if_icmp .ge 7, 3) := by decide +kernel
theorem d_Md_read_45 : decode b_Md_read 45 = .ok (.iconst 0, 1) := by decide +kernel
theorem d_Md_read_46 : decode b_Md_read 46 = .ok (.goto 8, 3) := by decide +kernel
theorem d_Md_read_49 : decode b_Md_read 49 = .ok (.aload_n 0, 1) := by decide +kernel
theorem d_Md_read_50 : decode b_Md_read 50 = .ok (.iconst 0, 1) := by decide +kernel
theorem d_Md_read_51 : decode b_Md_read 51 = .ok (.invokevirtual 54, 3) := by decide +kernel
theorem d_Md_read_54 : decode b_Md_read 54 = .ok (.putfield 115, 3) := by decide +kernel
theorem d_Md_read_57 : decode b_Md_read 57 = .ok (.aload_n 0, 1) := by decide +kernel
theorem d_Md_read_58 : decode b_Md_read 58 = .ok (.getfield 41, 3) := by decide +kernel
theorem d_Md_read_61 : decode b_Md_read 61 = .ok (.bipush 8, 2) := by decide +kernel
theorem d_Md_read_63 : decode b_Md_read 63 = .ok (.if_icmp .lt 38, 3) := by decide +kernel
theorem d_Md_read_66 : decode b_Md_read 66 = .ok (.aload_n 0, 1) := by decide +kernel
theorem d_Md_read_67 : decode b_Md_read 67 = .ok (.iconst 0, 1) := by decide +kernel
theorem d_Md_read_68 : decode b_Md_read 68 = .ok (.invokevirtual 54, 3) := by decide +kernel
theorem d_Md_read_71 : decode b_Md_read 71 = .ok (.aload_n 0, 1) := by decide +kernel
theorem d_Md_read_72 : decode b_Md_read 72 = .ok (.iconst 1, 1) := by decide +kernel
theorem d_Md_read_73 : decode b_Md_read 73 = .ok (.invokevirtual 54, 3) := by decide +kernel
theorem d_Md_read_76 : decode b_Md_read 76 = .ok (.if_icmp .ne 25, 3) := by decide +kernel
theorem d_Md_read_79 : decode b_Md_read 79 = .ok (.aload_n 0, 1) := by decide +kernel
theorem d_Md_read_80 : decode b_Md_read 80 = .ok (.getfield 115, 3) := by decide +kernel
theorem d_Md_read_83 : decode b_Md_read 83 = .ok (.bipush 73, 2) := by decide +kernel
theorem d_Md_read_85 : decode b_Md_read 85 = .ok (.if_icmp .eq 12, 3) := by decide +kernel
theorem d_Md_read_88 : decode b_Md_read 88 = .ok (.aload_n 0, 1) := by decide +kernel
theorem d_Md_read_89 : decode b_Md_read 89 = .ok (.getfield 115, 3) := by decide +kernel
theorem d_Md_read_92 : decode b_Md_read 92 = .ok (.bipush 77, 2) := by decide +kernel
theorem d_Md_read_94 : decode b_Md_read 94 = .ok (.if_icmp .ne 7, 3) := by decide +kernel
theorem d_Md_read_97 : decode b_Md_read 97 = .ok (.iconst 1, 1) := by decide +kernel
theorem d_Md_read_98 : decode b_Md_read 98 = .ok (.goto 4, 3) := by decide +kernel
theorem d_Md_read_101 : decode b_Md_read 101 = .ok (.iconst 0, 1) := by decide +kernel
theorem d_Md_read_102 : decode b_Md_read 102 = .ok (.istore_n 1, 1) := by decide +kernel
theorem d_Md_read_103 : decode b_Md_read 103 = .ok (.iload_n 1, 1) := by decide +kernel
theorem d_Md_read_104 : decode b_Md_read 104 = .ok (.ifCond .eq 13, 3) := by decide +kernel
theorem d_Md_read_107 : decode b_Md_read 107 = .ok (.aload_n 0, 1) := by decide +kernel
theorem d_Md_read_108 : decode b_Md_read 108 = .ok (.iconst 2, 1) := by decide +kernel
theorem d_Md_read_109 : decode b_Md_read 109 = .ok (.invokevirtual 118, 3) := by decide +kernel
theorem d_Md_read_112 : decode b_Md_read 112 = .ok (.bipush 42, 2) := by decide +kernel
theorem d_Md_read_114 : decode b_Md_read 114 = .ok (.if_icmp .eq 15, 3) := by decide +kernel
theorem d_Md_read_117 : decode b_Md_read 117 = .ok (.aload_n 0, 1) := by decide +kernel
theorem d_Md_read_118 : decode b_Md_read 118 = .ok (.iconst 1, 1) := by decide +kernel
theorem d_Md_read_119 : decode b_Md_read 119 = .ok (.iconst 0, 1) := by decide +kernel
theorem d_Md_read_120 : decode b_Md_read 120 = .ok (.iconst 0, 1) := by decide +kernel
theorem d_Md_read_121 : decode b_Md_read 121 = .ok (.iconst 0, 1) := by decide +kernel
theorem d_Md_read_122 : decode b_Md_read 122 = .ok (.invokevirtual 144, 3) := by decide +kernel
theorem d_Md_read_125 : decode b_Md_read 125 = .ok (.istore_n 2, 1) := by decide +kernel
theorem d_Md_read_126 : decode b_Md_read 126 = .ok (.goto 7, 3) := by decide +kernel
theorem d_Md_read_129 : decode b_Md_read 129 = .ok (.aload_n 0, 1) := by decide +kernel
theorem d_Md_read_130 : decode b_Md_read 130 = .ok (.invokevirtual 197, 3) := by decide +kernel
theorem d_Md_read_133 : decode b_Md_read 133 = .ok (.aload_n 0, 1) := by decide +kernel
theorem d_Md_read_134 : decode b_Md_read 134 = .ok (.aload_n 0, 1) := by decide +kernel
theorem d_Md_read_135 : decode b_Md_read 135 = .ok (.getfield 123, 3) := by decide +kernel
theorem d_Md_read_138 : decode b_Md_read 138 = .ok (.ifCond .le 7, 3) := by decide +kernel
theorem d_Md_read_141 : decode b_Md_read 141 = .ok (.iconst 0, 1) := by decide +kernel
theorem d_Md_read_142 : decode b_Md_read 142 = .ok (.goto 7, 3) := by decide +kernel
theorem d_Md_read_145 : decode b_Md_read 145 = .ok (.aload_n 0, 1) := by decide +kernel
theorem d_Md_read_146 : decode b_Md_read 146 = .ok (.getfield 115, 3) := by decide +kernel
theorem d_Md_read_149 : decode b_Md_read 149 = .ok (.putfield 115, 3) := by decide +kernel
theorem d_Md_read_152 : decode b_Md_read 152 = .ok (.aload_n 0, 1) := by decide +kernel
theorem d_Md_read_153 : decode b_Md_read 153 = .ok (.getfield 123, 3) := by decide +kernel
theorem d_Md_read_156 : decode b_Md_read 156 = .ok (.ifCond .le 11, 3) := by decide +kernel
theorem d_Md_read_159 : decode b_Md_read 159 = .ok (.aload_n 0, 1) := by decide +kernel
theorem d_Md_read_160 : decode b_Md_read 160 = .ok (.getfield 123, 3) := by decide +kernel
theorem d_Md_read_163 : decode b_Md_read 163 = .ok (.ineg, 1) := by decide +kernel
theorem d_Md_read_164 : decode b_Md_read 164 = .ok (.goto 7, 3) := by decide +kernel
theorem d_Md_read_167 : decode b_Md_read 167 = .ok (.aload_n 0, 1) := by decide +kernel
theorem d_Md_read_168 : decode b_Md_read 168 = .ok (.getfield 183, 3) := by decide +kernel
theorem d_Md_read_171 : decode b_Md_read 171 = .ok (.ireturn, 1) := by decide +kernel
theorem d_Md_fault_0 : decode b_Md_fault 0 = .ok (.aload_n 0, 1) := by decide +kernel
theorem d_Md_fault_1 : decode b_Md_fault 1 = .ok (.iconst 0, 1) := by decide +kernel
theorem d_Md_fault_2 : decode b_Md_fault 2 = .ok (.putfield 37, 3) := by decide +kernel
theorem d_Md_fault_5 : decode b_Md_fault 5 = .ok (.aload_n 0, 1) := by decide +kernel
theorem d_Md_fault_6 : decode b_Md_fault 6 = .ok (.getfield 123, 3) := by decide +kernel
theorem d_Md_fault_9 : decode b_Md_fault 9 = .ok (.ifCond .eq 12, 3) := by decide +kernel
theorem d_Md_fault_12 : decode b_Md_fault 12 = .ok (.iload_n 1, 1) := by decide +kernel
theorem d_Md_fault_13 : decode b_Md_fault 13 = .ok (.ifCond .lt 8, 3) := by decide +kernel
theorem d_Md_fault_16 : decode b_Md_fault 16 = .ok (.iload_n 1, 1) := by decide +kernel
theorem d_Md_fault_17 : decode b_Md_fault 17 = .ok (.iconst 2, 1) := by decide +kernel
theorem d_Md_fault_18 : decode b_Md_fault 18 = .ok (.if_icmp .le 7, 3) := by decide +kernel
theorem d_Md_fault_21 : decode b_Md_fault 21 = .ok (.iconst (-1), 1) := by decide +kernel
theorem d_Md_fault_22 : decode b_Md_fault 22 = .ok (.goto 30, 3) := by decide +kernel
theorem d_Md_fault_25 : decode b_Md_fault 25 = .ok (.iload_n 1, 1) := by decide +kernel
theorem d_Md_fault_26 : decode b_Md_fault 26 = .ok (.ifCond .ne 10, 3) := by decide +kernel
theorem d_Md_fault_29 : decode b_Md_fault 29 = .ok (.aload_n 0, 1) := by decide +kernel
theorem d_Md_fault_30 : decode b_Md_fault 30 = .ok (.getfield 126, 3) := by decide +kernel
theorem d_Md_fault_33 : decode b_Md_fault 33 = .ok (.goto 19, 3) := by decide +kernel
theorem d_Md_fault_36 : decode b_Md_fault 36 = .ok (.iload_n 1, 1) := by decide +kernel
theorem d_Md_fault_37 : decode b_Md_fault 37 = .ok (.iconst 1, 1) := by decide +kernel
theorem d_Md_fault_38 : decode b_Md_fault 38 = .ok (.if_icmp .ne 10, 3) := by decide +kernel
theorem d_Md_fault_41 : decode b_Md_fault 41 = .ok (.aload_n 0, 1) := by decide +kernel
theorem d_Md_fault_42 : decode b_Md_fault 42 = .ok (.getfield 129, 3) := by decide +kernel
theorem d_Md_fault_45 : decode b_Md_fault 45 = .ok (.goto 7, 3) := by decide +kernel
theorem d_Md_fault_48 : decode b_Md_fault 48 = .ok (.aload_n 0, 1) := by decide +kernel
theorem d_Md_fault_49 : decode b_Md_fault 49 = .ok (.getfield 132, 3) := by decide +kernel
theorem d_Md_fault_52 : decode b_Md_fault 52 = .ok (.ireturn, 1) := by decide +kernel
theorem d_Md_of_0 : decode b_Md_of 0 = .ok (.aload_n 0, 1) := by decide +kernel
theorem d_Md_of_1 : decode b_Md_of 1 = .ok (.iload_n 1, 1) := by decide +kernel
theorem d_Md_of_2 : decode b_Md_of 2 = .ok (.ifCond .lt 25, 3) := by decide +kernel
theorem d_Md_of_5 : decode b_Md_of 5 = .ok (.iload_n 1, 1) := by decide +kernel
theorem d_Md_of_6 : decode b_Md_of 6 = .ok (.aload_n 0, 1) := by decide +kernel
theorem d_Md_of_7 : decode b_Md_of 7 = .ok (.getfield 183, 3) := by decide +kernel
theorem d_Md_of_10 : decode b_Md_of 10 = .ok (.if_icmp .ge 17, 3) := by decide +kernel
theorem d_Md_of_13 : decode b_Md_of 13 = .ok (.iload_n 2, 1) := by decide +kernel
theorem d_Md_of_14 : decode b_Md_of 14 = .ok (.ifCond .lt 13, 3) := by decide +kernel
theorem d_Md_of_17 : decode b_Md_of 17 = .ok (.iload_n 2, 1) := by decide +kernel
theorem d_Md_of_18 : decode b_Md_of 18 = .ok (.bipush 13, 2) := by decide +kernel
theorem d_Md_of_20 : decode b_Md_of 20 = .ok (.if_icmp .ge 7, 3) := by decide +kernel
theorem d_Md_of_23 : decode b_Md_of 23 = .ok (.iconst 0, 1) := by decide +kernel
theorem d_Md_of_24 : decode b_Md_of 24 = .ok (.goto 4, 3) := by decide +kernel
theorem d_Md_of_27 : decode b_Md_of 27 = .ok (.iconst 1, 1) := by decide +kernel
theorem d_Md_of_28 : decode b_Md_of 28 = .ok (.putfield 37, 3) := by decide +kernel
theorem d_Md_of_31 : decode b_Md_of 31 = .ok (.aload_n 0, 1) := by decide +kernel
theorem d_Md_of_32 : decode b_Md_of 32 = .ok (.getfield 37, 3) := by decide +kernel
theorem d_Md_of_35 : decode b_Md_of 35 = .ok (.ifCond .le 7, 3) := by decide +kernel
theorem d_Md_of_38 : decode b_Md_of 38 = .ok (.lconst 0, 1) := by decide +kernel
theorem d_Md_of_39 : decode b_Md_of 39 = .ok (.goto 14, 3) := by decide +kernel
theorem d_Md_of_42 : decode b_Md_of 42 = .ok (.aload_n 0, 1) := by decide +kernel
theorem d_Md_of_43 : decode b_Md_of 43 = .ok (.getfield 21, 3) := by decide +kernel
theorem d_Md_of_46 : decode b_Md_of 46 = .ok (.bipush 13, 2) := by decide +kernel
theorem d_Md_of_48 : decode b_Md_of 48 = .ok (.iload_n 1, 1) := by decide +kernel
theorem d_Md_of_49 : decode b_Md_of 49 = .ok (.imul, 1) := by decide +kernel
theorem d_Md_of_50 : decode b_Md_of 50 = .ok (.iload_n 2, 1) := by decide +kernel
theorem d_Md_of_51 : decode b_Md_of 51 = .ok (.iadd, 1) := by decide +kernel
theorem d_Md_of_52 : decode b_Md_of 52 = .ok (.laload, 1) := by decide +kernel
theorem d_Md_of_53 : decode b_Md_of 53 = .ok (.lreturn, 1) := by decide +kernel
theorem d_Md_isStrip_0 : decode b_Md_isStrip 0 = .ok (.iload_n 1, 1) := by decide +kernel
theorem d_Md_isStrip_1 : decode b_Md_isStrip 1 = .ok (.ifCond .lt 53, 3) := by decide +kernel
theorem d_Md_isStrip_4 : decode b_Md_isStrip 4 = .ok (.iload_n 1, 1) := by decide +kernel
theorem d_Md_isStrip_5 : decode b_Md_isStrip 5 = .ok (.aload_n 0, 1) := by decide +kernel
theorem d_Md_isStrip_6 : decode b_Md_isStrip 6 = .ok (.getfield 183, 3) := by decide +kernel
theorem d_Md_isStrip_9 : decode b_Md_isStrip 9 = .ok (.if_icmp .ge 45, 3) := by decide +kernel
theorem d_Md_isStrip_12 : decode b_Md_isStrip 12 = .ok (.iload_n 2, 1) := by decide +kernel
theorem d_Md_isStrip_13 : decode b_Md_isStrip 13 = .ok (.ifCond .lt 41, 3) := by decide +kernel
theorem d_Md_isStrip_16 : decode b_Md_isStrip 16 = .ok (.iload_n 2, 1) := by decide +kernel
theorem d_Md_isStrip_17 : decode b_Md_isStrip 17 = .ok (.i2l, 1) := by decide +kernel
theorem d_Md_isStrip_18 : decode b_Md_isStrip 18 = .ok (.aload_n 0, 1) := by decide +kernel
theorem d_Md_isStrip_19 : decode b_Md_isStrip 19 = .ok (.getfield 21, 3) := by decide +kernel
theorem d_Md_isStrip_22 : decode b_Md_isStrip 22 = .ok (.iload_n 1, 1) := by decide +kernel
theorem d_Md_isStrip_23 : decode b_Md_isStrip 23 = .ok (.ifCond .lt 21, 3) := by decide +kernel
theorem d_Md_isStrip_26 : decode b_Md_isStrip 26 = .ok (.iload_n 1, 1) := by decide +kernel
theorem d_Md_isStrip_27 : decode b_Md_isStrip 27 = .ok (.aload_n 0, 1) := by decide +kernel
theorem d_Md_isStrip_28 : decode b_Md_isStrip 28 = .ok (.getfield 183, 3) := by decide +kernel
theorem d_Md_isStrip_31 : decode b_Md_isStrip 31 = .ok (.if_icmp .ge 13, 3) := by decide +kernel
theorem d_Md_isStrip_34 : decode b_Md_isStrip 34 = .ok (.bipush 13, 2) := by decide +kernel
theorem d_Md_isStrip_36 : decode b_Md_isStrip 36 = .ok (.iload_n 1, 1) := by decide +kernel
theorem d_Md_isStrip_37 : decode b_Md_isStrip 37 = .ok (.imul, 1) := by decide +kernel
theorem d_Md_isStrip_38 : decode b_Md_isStrip 38 = .ok (.bipush 6, 2) := by decide +kernel
theorem d_Md_isStrip_40 : decode b_Md_isStrip 40 = .ok (.iadd, 1) := by decide +kernel
theorem d_Md_isStrip_41 : decode b_Md_isStrip 41 = .ok (.goto 4, 3) := by decide +kernel
theorem d_Md_isStrip_45 : decode b_Md_isStrip 45 = .ok (.laload, 1) := by decide +kernel
theorem d_Md_isStrip_46 : decode b_Md_isStrip 46 = .ok (.lcmp, 1) := by decide +kernel
theorem d_Md_isStrip_47 : decode b_Md_isStrip 47 = .ok (.ifCond .ge 7, 3) := by decide +kernel
theorem d_Md_isStrip_50 : decode b_Md_isStrip 50 = .ok (.iconst 1, 1) := by decide +kernel
theorem d_Md_isStrip_51 : decode b_Md_isStrip 51 = .ok (.goto 4, 3) := by decide +kernel
theorem d_Md_isStrip_54 : decode b_Md_isStrip 54 = .ok (.iconst 0, 1) := by decide +kernel
theorem d_Md_isStrip_55 : decode b_Md_isStrip 55 = .ok (.ireturn, 1) := by decide +kernel
theorem d_Md_where_0 : decode b_Md_where 0 = .ok (.aload_n 0, 1) := by decide +kernel
theorem d_Md_where_1 : decode b_Md_where 1 = .ok (.aload_n 0, 1) := by decide +kernel
theorem d_Md_where_2 : decode b_Md_where 2 = .ok (.iload_n 1, 1) := by decide +kernel
theorem d_Md_where_3 : decode b_Md_where 3 = .ok (.iload_n 2, 1) := by decide +kernel
theorem d_Md_where_4 : decode b_Md_where 4 = .ok (.invokevirtual 200, 3) := by decide +kernel
theorem d_Md_where_7 : decode b_Md_where 7 = .ok (.ifCond .eq 16, 3) := by decide +kernel
theorem d_Md_where_10 : decode b_Md_where 10 = .ok (.iload_n 3, 1) := by decide +kernel
theorem d_Md_where_11 : decode b_Md_where 11 = .ok (.ifCond .eq 8, 3) := by decide +kernel
theorem d_Md_where_14 : decode b_Md_where 14 = .ok (.iload_n 3, 1) := by decide +kernel
theorem d_Md_where_15 : decode b_Md_where 15 = .ok (.iconst 1, 1) := by decide +kernel
theorem d_Md_where_16 : decode b_Md_where 16 = .ok (.if_icmp .ne 7, 3) := by decide +kernel
theorem d_Md_where_19 : decode b_Md_where 19 = .ok (.iconst 0, 1) := by decide +kernel
theorem d_Md_where_20 : decode b_Md_where 20 = .ok (.goto 4, 3) := by decide +kernel
theorem d_Md_where_23 : decode b_Md_where 23 = .ok (.iconst 1, 1) := by decide +kernel
theorem d_Md_where_24 : decode b_Md_where 24 = .ok (.putfield 37, 3) := by decide +kernel
theorem d_Md_where_27 : decode b_Md_where 27 = .ok (.aload_n 0, 1) := by decide +kernel
theorem d_Md_where_28 : decode b_Md_where 28 = .ok (.getfield 37, 3) := by decide +kernel
theorem d_Md_where_31 : decode b_Md_where 31 = .ok (.ifCond .le 7, 3) := by decide +kernel
theorem d_Md_where_34 : decode b_Md_where 34 = .ok (.iconst 0, 1) := by decide +kernel
theorem d_Md_where_35 : decode b_Md_where 35 = .ok (.goto 36, 3) := by decide +kernel
theorem d_Md_where_38 : decode b_Md_where 38 = .ok (.iload_n 3, 1) := by decide +kernel
theorem d_Md_where_39 : decode b_Md_where 39 = .ok (.ifCond .ne 19, 3) := by decide +kernel
theorem d_Md_where_42 : decode b_Md_where 42 = .ok (.aload_n 0, 1) := by decide +kernel
theorem d_Md_where_43 : decode b_Md_where 43 = .ok (.getfield 28, 3) := by decide +kernel
theorem d_Md_where_46 : decode b_Md_where 46 = .ok (.aload_n 0, 1) := by decide +kernel
theorem d_Md_where_47 : decode b_Md_where 47 = .ok (.getfield 25, 3) := by decide +kernel
theorem d_Md_where_50 : decode b_Md_where 50 = .ok (.iload_n 1, 1) := by decide +kernel
theorem d_Md_where_51 : decode b_Md_where 51 = .ok (.iaload, 1) := by decide +kernel
theorem d_Md_where_52 : decode b_Md_where 52 = .ok (.iload_n 2, 1) := by decide +kernel
theorem d_Md_where_53 : decode b_Md_where 53 = .ok (.iadd, 1) := by decide +kernel
theorem d_Md_where_54 : decode b_Md_where 54 = .ok (.iaload, 1) := by decide +kernel
theorem d_Md_where_55 : decode b_Md_where 55 = .ok (.goto 16, 3) := by decide +kernel
theorem d_Md_where_58 : decode b_Md_where 58 = .ok (.aload_n 0, 1) := by decide +kernel
theorem d_Md_where_59 : decode b_Md_where 59 = .ok (.getfield 31, 3) := by decide +kernel
theorem d_Md_where_62 : decode b_Md_where 62 = .ok (.aload_n 0, 1) := by decide +kernel
theorem d_Md_where_63 : decode b_Md_where 63 = .ok (.getfield 25, 3) := by decide +kernel
theorem d_Md_where_66 : decode b_Md_where 66 = .ok (.iload_n 1, 1) := by decide +kernel
theorem d_Md_where_67 : decode b_Md_where 67 = .ok (.iaload, 1) := by decide +kernel
theorem d_Md_where_68 : decode b_Md_where 68 = .ok (.iload_n 2, 1) := by decide +kernel
theorem d_Md_where_69 : decode b_Md_where 69 = .ok (.iadd, 1) := by decide +kernel
theorem d_Md_where_70 : decode b_Md_where 70 = .ok (.iaload, 1) := by decide +kernel
theorem d_Md_where_71 : decode b_Md_where 71 = .ok (.ireturn, 1) := by decide +kernel
theorem d_Md_dots_0 : decode b_Md_dots 0 = .ok (.aload_n 0, 1) := by decide +kernel
theorem d_Md_dots_1 : decode b_Md_dots 1 = .ok (.aload_n 0, 1) := by decide +kernel
theorem d_Md_dots_2 : decode b_Md_dots 2 = .ok (.iload_n 1, 1) := by decide +kernel
theorem d_Md_dots_3 : decode b_Md_dots 3 = .ok (.iload_n 2, 1) := by decide +kernel
theorem d_Md_dots_4 : decode b_Md_dots 4 = .ok (.invokevirtual 200, 3) := by decide +kernel
theorem d_Md_dots_7 : decode b_Md_dots 7 = .ok (.ifCond .eq 7, 3) := by decide +kernel
theorem d_Md_dots_10 : decode b_Md_dots 10 = .ok (.iconst 0, 1) := by decide +kernel
theorem d_Md_dots_11 : decode b_Md_dots 11 = .ok (.goto 4, 3) := by decide +kernel
theorem d_Md_dots_14 : decode b_Md_dots 14 = .ok (.iconst 1, 1) := by decide +kernel
theorem d_Md_dots_15 : decode b_Md_dots 15 = .ok (.putfield 37, 3) := by decide +kernel
theorem d_Md_dots_18 : decode b_Md_dots 18 = .ok (.aload_n 0, 1) := by decide +kernel
theorem d_Md_dots_19 : decode b_Md_dots 19 = .ok (.getfield 37, 3) := by decide +kernel
theorem d_Md_dots_22 : decode b_Md_dots 22 = .ok (.ifCond .le 5, 3) := by decide +kernel
theorem d_Md_dots_25 : decode b_Md_dots 25 = .ok (.iconst 0, 1) := by decide +kernel
theorem d_Md_dots_26 : decode b_Md_dots 26 = .ok (.ireturn, 1) := by decide +kernel
theorem d_Md_dots_27 : decode b_Md_dots 27 = .ok (.aload_n 0, 1) := by decide +kernel
theorem d_Md_dots_28 : decode b_Md_dots 28 = .ok (.getfield 25, 3) := by decide +kernel
theorem d_Md_dots_31 : decode b_Md_dots 31 = .ok (.iload_n 1, 1) := by decide +kernel
theorem d_Md_dots_32 : decode b_Md_dots 32 = .ok (.iaload, 1) := by decide +kernel
theorem d_Md_dots_33 : decode b_Md_dots 33 = .ok (.iload_n 2, 1) := by decide +kernel
theorem d_Md_dots_34 : decode b_Md_dots 34 = .ok (.iadd, 1) := by decide +kernel
theorem d_Md_dots_35 : decode b_Md_dots 35 = .ok (.istore 4, 2) := by decide +kernel
theorem d_Md_dots_37 : decode b_Md_dots 37 = .ok (.aload_n 0, 1) := by decide +kernel
theorem d_Md_dots_38 : decode b_Md_dots 38 = .ok (.iload_n 3, 1) := by decide +kernel
theorem d_Md_dots_39 : decode b_Md_dots 39 = .ok (.ifCond .lt 34, 3) := by decide +kernel
theorem d_Md_dots_42 : decode b_Md_dots 42 = .ok (.iload_n 3, 1) := by decide +kernel
theorem d_Md_dots_43 : decode b_Md_dots 43 = .ok (.aload_n 0, 1) := by decide +kernel
theorem d_Md_dots_44 : decode b_Md_dots 44 = .ok (.getfield 31, 3) := by decide +kernel
theorem d_Md_dots_47 : decode b_Md_dots 47 = .ok (.iload 4, 2) := by decide +kernel
theorem d_Md_dots_49 : decode b_Md_dots 49 = .ok (.iaload, 1) := by decide +kernel
theorem d_Md_dots_50 : decode b_Md_dots 50 = .ok (.if_icmp .ge 23, 3) := by decide +kernel
theorem d_Md_dots_53 : decode b_Md_dots 53 = .ok (.aload_n 0, 1) := by decide +kernel
theorem d_Md_dots_54 : decode b_Md_dots 54 = .ok (.getfield 28, 3) := by decide +kernel
theorem d_Md_dots_57 : decode b_Md_dots 57 = .ok (.iload 4, 2) := by decide +kernel
theorem d_Md_dots_59 : decode b_Md_dots 59 = .ok (.iaload, 1) := by decide +kernel
theorem d_Md_dots_60 : decode b_Md_dots 60 = .ok (.iload_n 3, 1) := by decide +kernel
theorem d_Md_dots_61 : decode b_Md_dots 61 = .ok (.iadd, 1) := by decide +kernel
theorem d_Md_dots_62 : decode b_Md_dots 62 = .ok (.aload_n 0, 1) := by decide +kernel
theorem d_Md_dots_63 : decode b_Md_dots 63 = .ok (.getfield 41, 3) := by decide +kernel
theorem d_Md_dots_66 : decode b_Md_dots 66 = .ok (.if_icmp .ge 7, 3) := by decide +kernel
theorem d_Md_dots_69 : decode b_Md_dots 69 = .ok (.iconst 0, 1) := by decide +kernel
theorem d_Md_dots_70 : decode b_Md_dots 70 = .ok (.goto 4, 3) := by decide +kernel
theorem d_Md_dots_73 : decode b_Md_dots 73 = .ok (.iconst 1, 1) := by decide +kernel
theorem d_Md_dots_74 : decode b_Md_dots 74 = .ok (.putfield 37, 3) := by decide +kernel
theorem d_Md_dots_77 : decode b_Md_dots 77 = .ok (.aload_n 0, 1) := by decide +kernel
theorem d_Md_dots_78 : decode b_Md_dots 78 = .ok (.getfield 37, 3) := by decide +kernel
theorem d_Md_dots_81 : decode b_Md_dots 81 = .ok (.ifCond .le 7, 3) := by decide +kernel
theorem d_Md_dots_84 : decode b_Md_dots 84 = .ok (.iconst 0, 1) := by decide +kernel
theorem d_Md_dots_85 : decode b_Md_dots 85 = .ok (.goto 16, 3) := by decide +kernel
theorem d_Md_dots_88 : decode b_Md_dots 88 = .ok (.aload_n 0, 1) := by decide +kernel
theorem d_Md_dots_89 : decode b_Md_dots 89 = .ok (.aload_n 0, 1) := by decide +kernel
theorem d_Md_dots_90 : decode b_Md_dots 90 = .ok (.getfield 28, 3) := by decide +kernel
theorem d_Md_dots_93 : decode b_Md_dots 93 = .ok (.iload 4, 2) := by decide +kernel
theorem d_Md_dots_95 : decode b_Md_dots 95 = .ok (.iaload, 1) := by decide +kernel
theorem d_Md_dots_96 : decode b_Md_dots 96 = .ok (.iload_n 3, 1) := by decide +kernel
theorem d_Md_dots_97 : decode b_Md_dots 97 = .ok (.iadd, 1) := by decide +kernel
theorem d_Md_dots_98 : decode b_Md_dots 98 = .ok (.invokevirtual 54, 3) := by decide +kernel
theorem d_Md_dots_101 : decode b_Md_dots 101 = .ok (.ireturn, 1) := by decide +kernel
theorem d_Md_look_0 : decode b_Md_look 0 = .ok (.aload_n 0, 1) := by decide +kernel
theorem d_Md_look_1 : decode b_Md_look 1 = .ok (.iconst 0, 1) := by decide +kernel
theorem d_Md_look_2 : decode b_Md_look 2 = .ok (.putfield 37, 3) := by decide +kernel
theorem d_Md_look_5 : decode b_Md_look 5 = .ok (.iload_n 1, 1) := by decide +kernel
theorem d_Md_look_6 : decode b_Md_look 6 = .ok (.iconst 4, 1) := by decide +kernel
theorem d_Md_look_7 : decode b_Md_look 7 = .ok (.if_icmp .ge 68, 3) := by decide +kernel
theorem d_Md_look_10 : decode b_Md_look 10 = .ok (.iload_n 1, 1) := by decide +kernel
theorem d_Md_look_11 : decode b_Md_look 11 = .ok (.ifCond .ne 10, 3) := by decide +kernel
theorem d_Md_look_14 : decode b_Md_look 14 = .ok (.aload_n 0, 1) := by decide +kernel
theorem d_Md_look_15 : decode b_Md_look 15 = .ok (.getfield 41, 3) := by decide +kernel
theorem d_Md_look_18 : decode b_Md_look 18 = .ok (.goto 56, 3) := by decide +kernel
theorem d_Md_look_21 : decode b_Md_look 21 = .ok (.iload_n 1, 1) := by decide +kernel
theorem d_Md_look_22 : decode b_Md_look 22 = .ok (.iconst 1, 1) := by decide +kernel
theorem d_Md_look_23 : decode b_Md_look 23 = .ok (.if_icmp .ne 18, 3) := by decide +kernel
theorem d_Md_look_26 : decode b_Md_look 26 = .ok (.aload_n 0, 1) := by decide +kernel
theorem d_Md_look_27 : decode b_Md_look 27 = .ok (.getfield 44, 3) := by decide +kernel
theorem d_Md_look_30 : decode b_Md_look 30 = .ok (.ifCond .eq 7, 3) := by decide +kernel
theorem d_Md_look_33 : decode b_Md_look 33 = .ok (.iconst 1, 1) := by decide +kernel
theorem d_Md_look_34 : decode b_Md_look 34 = .ok (.goto 40, 3) := by decide +kernel
theorem d_Md_look_37 : decode b_Md_look 37 = .ok (.iconst 0, 1) := by decide +kernel
theorem d_Md_look_38 : decode b_Md_look 38 = .ok (.goto 36, 3) := by decide +kernel
theorem d_Md_look_41 : decode b_Md_look 41 = .ok (.iload_n 1, 1) := by decide +kernel
theorem d_Md_look_42 : decode b_Md_look 42 = .ok (.iconst 2, 1) := by decide +kernel
theorem d_Md_look_43 : decode b_Md_look 43 = .ok (.if_icmp .ne 18, 3) := by decide +kernel
theorem d_Md_look_46 : decode b_Md_look 46 = .ok (.aload_n 0, 1) := by decide +kernel
theorem d_Md_look_47 : decode b_Md_look 47 = .ok (.getfield 67, 3) := by decide +kernel
theorem d_Md_look_50 : decode b_Md_look 50 = .ok (.ifCond .eq 7, 3) := by decide +kernel
theorem d_Md_look_53 : decode b_Md_look 53 = .ok (.iconst 1, 1) := by decide +kernel
theorem d_Md_look_54 : decode b_Md_look 54 = .ok (.goto 20, 3) := by decide +kernel
theorem d_Md_look_57 : decode b_Md_look 57 = .ok (.iconst 0, 1) := by decide +kernel
theorem d_Md_look_58 : decode b_Md_look 58 = .ok (.goto 16, 3) := by decide +kernel
theorem d_Md_look_61 : decode b_Md_look 61 = .ok (.iload_n 1, 1) := by decide +kernel
theorem d_Md_look_62 : decode b_Md_look 62 = .ok (.iconst 3, 1) := by decide +kernel
theorem d_Md_look_63 : decode b_Md_look 63 = .ok (.if_icmp .ne 10, 3) := by decide +kernel
theorem d_Md_look_66 : decode b_Md_look 66 = .ok (.aload_n 0, 1) := by decide +kernel
theorem d_Md_look_67 : decode b_Md_look 67 = .ok (.getfield 70, 3) := by decide +kernel
theorem d_Md_look_70 : decode b_Md_look 70 = .ok (.goto 4, 3) := by decide +kernel
theorem d_Md_look_73 : decode b_Md_look 73 = .ok (.iconst (-1), 1) := by decide +kernel
theorem d_Md_look_74 : decode b_Md_look 74 = .ok (.ireturn, 1) := by decide +kernel
theorem d_Md_look_75 : decode b_Md_look 75 = .ok (.iload_n 1, 1) := by decide +kernel
theorem d_Md_look_76 : decode b_Md_look 76 = .ok (.iconst 4, 1) := by decide +kernel
theorem d_Md_look_77 : decode b_Md_look 77 = .ok (.if_icmp .ne 26, 3) := by decide +kernel
theorem d_Md_look_80 : decode b_Md_look 80 = .ok (.aload_n 0, 1) := by decide +kernel
theorem d_Md_look_81 : decode b_Md_look 81 = .ok (.getfield 67, 3) := by decide +kernel
theorem d_Md_look_84 : decode b_Md_look 84 = .ok (.ifCond .eq 15, 3) := by decide +kernel
theorem d_Md_look_87 : decode b_Md_look 87 = .ok (.aload_n 0, 1) := by decide +kernel
theorem d_Md_look_88 : decode b_Md_look 88 = .ok (.getfield 91, 3) := by decide +kernel
theorem d_Md_look_91 : decode b_Md_look 91 = .ok (.aload_n 0, 1) := by decide +kernel
theorem d_Md_look_92 : decode b_Md_look 92 = .ok (.getfield 94, 3) := by decide +kernel
theorem d_Md_look_95 : decode b_Md_look 95 = .ok (.isub, 1) := by decide +kernel
theorem d_Md_look_96 : decode b_Md_look 96 = .ok (.goto 57, 3) := by decide +kernel
theorem d_Md_look_99 : decode b_Md_look 99 = .ok (.iconst 0, 1) := by decide +kernel
theorem d_Md_look_100 : decode b_Md_look 100 = .ok (.goto 53, 3) := by decide +kernel
theorem d_Md_look_103 : decode b_Md_look 103 = .ok (.iload_n 1, 1) := by decide +kernel
theorem d_Md_look_104 : decode b_Md_look 104 = .ok (.iconst 5, 1) := by decide +kernel
theorem d_Md_look_105 : decode b_Md_look 105 = .ok (.if_icmp .ne 21, 3) := by decide +kernel
theorem d_Md_look_108 : decode b_Md_look 108 = .ok (.aload_n 0, 1) := by decide +kernel
theorem d_Md_look_109 : decode b_Md_look 109 = .ok (.getfield 67, 3) := by decide +kernel
theorem d_Md_look_112 : decode b_Md_look 112 = .ok (.ifCond .eq 10, 3) := by decide +kernel
theorem d_Md_look_115 : decode b_Md_look 115 = .ok (.aload_n 0, 1) := by decide +kernel
theorem d_Md_look_116 : decode b_Md_look 116 = .ok (.getfield 97, 3) := by decide +kernel
theorem d_Md_look_119 : decode b_Md_look 119 = .ok (.goto 34, 3) := by decide +kernel
theorem d_Md_look_122 : decode b_Md_look 122 = .ok (.iconst 0, 1) := by decide +kernel
theorem d_Md_look_123 : decode b_Md_look 123 = .ok (.goto 30, 3) := by decide +kernel
theorem d_Md_look_126 : decode b_Md_look 126 = .ok (.iload_n 1, 1) := by decide +kernel
theorem d_Md_look_127 : decode b_Md_look 127 = .ok (.bipush 6, 2) := by decide +kernel
theorem d_Md_look_129 : decode b_Md_look 129 = .ok (.if_icmp .ne 10, 3) := by decide +kernel
theorem d_Md_look_132 : decode b_Md_look 132 = .ok (.aload_n 0, 1) := by decide +kernel
theorem d_Md_look_133 : decode b_Md_look 133 = .ok (.getfield 183, 3) := by decide +kernel
theorem d_Md_look_136 : decode b_Md_look 136 = .ok (.goto 17, 3) := by decide +kernel
theorem d_Md_look_139 : decode b_Md_look 139 = .ok (.iload_n 1, 1) := by decide +kernel
theorem d_Md_look_140 : decode b_Md_look 140 = .ok (.bipush 7, 2) := by decide +kernel
theorem d_Md_look_142 : decode b_Md_look 142 = .ok (.if_icmp .ne 10, 3) := by decide +kernel
theorem d_Md_look_145 : decode b_Md_look 145 = .ok (.aload_n 0, 1) := by decide +kernel
theorem d_Md_look_146 : decode b_Md_look 146 = .ok (.getfield 115, 3) := by decide +kernel
theorem d_Md_look_149 : decode b_Md_look 149 = .ok (.goto 4, 3) := by decide +kernel
theorem d_Md_look_152 : decode b_Md_look 152 = .ok (.iconst (-1), 1) := by decide +kernel
theorem d_Md_look_153 : decode b_Md_look 153 = .ok (.ireturn, 1) := by decide +kernel
theorem d_Row_init_0 : decode b_Row_init 0 = .ok (.aload_n 0, 1) := by decide +kernel
theorem d_Row_init_1 : decode b_Row_init 1 = .ok (.invokespecial 3, 3) := by decide +kernel
theorem d_Row_init_4 : decode b_Row_init 4 = .ok (.aload_n 0, 1) := by decide +kernel
theorem d_Row_init_5 : decode b_Row_init 5 = .ok (.sipush 1024, 3) := by decide +kernel
theorem d_Row_init_8 : decode b_Row_init 8 = .ok (.newarray .byte, 2) := by decide +kernel
theorem d_Row_init_10 : decode b_Row_init 10 = .ok (.putfield 11, 3) := by decide +kernel
theorem d_Row_init_13 : decode b_Row_init 13 = .ok (.return_, 1) := by decide +kernel
theorem d_St_init_0 : decode b_St_init 0 = .ok (.aload_n 0, 1) := by decide +kernel
theorem d_St_init_1 : decode b_St_init 1 = .ok (.invokespecial 1, 3) := by decide +kernel
theorem d_St_init_4 : decode b_St_init 4 = .ok (.aload_n 0, 1) := by decide +kernel
theorem d_St_init_5 : decode b_St_init 5 = .ok (.bipush 32, 2) := by decide +kernel
theorem d_St_init_7 : decode b_St_init 7 = .ok (.newarray .int, 2) := by decide +kernel
theorem d_St_init_9 : decode b_St_init 9 = .ok (.putfield 9, 3) := by decide +kernel
theorem d_St_init_12 : decode b_St_init 12 = .ok (.aload_n 0, 1) := by decide +kernel
theorem d_St_init_13 : decode b_St_init 13 = .ok (.iload_n 1, 1) := by decide +kernel
theorem d_St_init_14 : decode b_St_init 14 = .ok (.putfield 13, 3) := by decide +kernel
theorem d_St_init_17 : decode b_St_init 17 = .ok (.return_, 1) := by decide +kernel
theorem d_Mk_init_0 : decode b_Mk_init 0 = .ok (.aload_n 0, 1) := by decide +kernel
theorem d_Mk_init_1 : decode b_Mk_init 1 = .ok (.invokespecial 5, 3) := by decide +kernel
theorem d_Mk_init_4 : decode b_Mk_init 4 = .ok (.aload_n 0, 1) := by decide +kernel
theorem d_Mk_init_5 : decode b_Mk_init 5 = .ok (.new 11, 3) := by decide +kernel
theorem d_Mk_init_8 : decode b_Mk_init 8 = .ok (.dup, 1) := by decide +kernel
theorem d_Mk_init_9 : decode b_Mk_init 9 = .ok (.sipush 512, 3) := by decide +kernel
theorem d_Mk_init_12 : decode b_Mk_init 12 = .ok (.invokespecial 13, 3) := by decide +kernel
theorem d_Mk_init_15 : decode b_Mk_init 15 = .ok (.putfield 16, 3) := by decide +kernel
theorem d_Mk_init_18 : decode b_Mk_init 18 = .ok (.aload_n 0, 1) := by decide +kernel
theorem d_Mk_init_19 : decode b_Mk_init 19 = .ok (.aload_n 1, 1) := by decide +kernel
theorem d_Mk_init_20 : decode b_Mk_init 20 = .ok (.putfield 20, 3) := by decide +kernel
theorem d_Mk_init_23 : decode b_Mk_init 23 = .ok (.return_, 1) := by decide +kernel
theorem d_Pn_init_0 : decode b_Pn_init 0 = .ok (.aload_n 0, 1) := by decide +kernel
theorem d_Pn_init_1 : decode b_Pn_init 1 = .ok (.invokespecial 3, 3) := by decide +kernel
theorem d_Pn_init_4 : decode b_Pn_init 4 = .ok (.aload_n 0, 1) := by decide +kernel
theorem d_Pn_init_5 : decode b_Pn_init 5 = .ok (.sipush 520, 3) := by decide +kernel
theorem d_Pn_init_8 : decode b_Pn_init 8 = .ok (.newarray .long, 2) := by decide +kernel
theorem d_Pn_init_10 : decode b_Pn_init 10 = .ok (.putfield 11, 3) := by decide +kernel
theorem d_Pn_init_13 : decode b_Pn_init 13 = .ok (.return_, 1) := by decide +kernel
theorem d_En_init_0 : decode b_En_init 0 = .ok (.aload_n 0, 1) := by decide +kernel
theorem d_En_init_1 : decode b_En_init 1 = .ok (.invokespecial 3, 3) := by decide +kernel
theorem d_En_init_4 : decode b_En_init 4 = .ok (.aload_n 0, 1) := by decide +kernel
theorem d_En_init_5 : decode b_En_init 5 = .ok (.bipush 41, 2) := by decide +kernel
theorem d_En_init_7 : decode b_En_init 7 = .ok (.newarray .int, 2) := by decide +kernel
theorem d_En_init_9 : decode b_En_init 9 = .ok (.putfield 11, 3) := by decide +kernel
theorem d_En_init_12 : decode b_En_init 12 = .ok (.aload_n 0, 1) := by decide +kernel
theorem d_En_init_13 : decode b_En_init 13 = .ok (.bipush 41, 2) := by decide +kernel
theorem d_En_init_15 : decode b_En_init 15 = .ok (.newarray .int, 2) := by decide +kernel
theorem d_En_init_17 : decode b_En_init 17 = .ok (.putfield 15, 3) := by decide +kernel
theorem d_En_init_20 : decode b_En_init 20 = .ok (.aload_n 0, 1) := by decide +kernel
theorem d_En_init_21 : decode b_En_init 21 = .ok (.bipush 41, 2) := by decide +kernel
theorem d_En_init_23 : decode b_En_init 23 = .ok (.newarray .int, 2) := by decide +kernel
theorem d_En_init_25 : decode b_En_init 25 = .ok (.putfield 18, 3) := by decide +kernel
theorem d_En_init_28 : decode b_En_init 28 = .ok (.aload_n 0, 1) := by decide +kernel
theorem d_En_init_29 : decode b_En_init 29 = .ok (.aload_n 1, 1) := by decide +kernel
theorem d_En_init_30 : decode b_En_init 30 = .ok (.putfield 21, 3) := by decide +kernel
theorem d_En_init_33 : decode b_En_init 33 = .ok (.return_, 1) := by decide +kernel
theorem d_Rd_init_0 : decode b_Rd_init 0 = .ok (.aload_n 0, 1) := by decide +kernel
theorem d_Rd_init_1 : decode b_Rd_init 1 = .ok (.invokespecial 3, 3) := by decide +kernel
theorem d_Rd_init_4 : decode b_Rd_init 4 = .ok (.aload_n 0, 1) := by decide +kernel
theorem d_Rd_init_5 : decode b_Rd_init 5 = .ok (.new 9, 3) := by decide +kernel
theorem d_Rd_init_8 : decode b_Rd_init 8 = .ok (.dup, 1) := by decide +kernel
theorem d_Rd_init_9 : decode b_Rd_init 9 = .ok (.invokespecial 11, 3) := by decide +kernel
theorem d_Rd_init_12 : decode b_Rd_init 12 = .ok (.putfield 12, 3) := by decide +kernel
theorem d_Rd_init_15 : decode b_Rd_init 15 = .ok (.aload_n 0, 1) := by decide +kernel
theorem d_Rd_init_16 : decode b_Rd_init 16 = .ok (.new 18, 3) := by decide +kernel
theorem d_Rd_init_19 : decode b_Rd_init 19 = .ok (.dup, 1) := by decide +kernel
theorem d_Rd_init_20 : decode b_Rd_init 20 = .ok (.sipush 8192, 3) := by decide +kernel
theorem d_Rd_init_23 : decode b_Rd_init 23 = .ok (.invokespecial 20, 3) := by decide +kernel
theorem d_Rd_init_26 : decode b_Rd_init 26 = .ok (.putfield 23, 3) := by decide +kernel
theorem d_Rd_init_29 : decode b_Rd_init 29 = .ok (.aload_n 0, 1) := by decide +kernel
theorem d_Rd_init_30 : decode b_Rd_init 30 = .ok (.bipush 40, 2) := by decide +kernel
theorem d_Rd_init_32 : decode b_Rd_init 32 = .ok (.newarray .int, 2) := by decide +kernel
theorem d_Rd_init_34 : decode b_Rd_init 34 = .ok (.putfield 27, 3) := by decide +kernel
theorem d_Rd_init_37 : decode b_Rd_init 37 = .ok (.aload_n 0, 1) := by decide +kernel
theorem d_Rd_init_38 : decode b_Rd_init 38 = .ok (.aload_n 1, 1) := by decide +kernel
theorem d_Rd_init_39 : decode b_Rd_init 39 = .ok (.putfield 31, 3) := by decide +kernel
theorem d_Rd_init_42 : decode b_Rd_init 42 = .ok (.aload_n 0, 1) := by decide +kernel
theorem d_Rd_init_43 : decode b_Rd_init 43 = .ok (.new 35, 3) := by decide +kernel
theorem d_Rd_init_46 : decode b_Rd_init 46 = .ok (.dup, 1) := by decide +kernel
theorem d_Rd_init_47 : decode b_Rd_init 47 = .ok (.aload_n 1, 1) := by decide +kernel
theorem d_Rd_init_48 : decode b_Rd_init 48 = .ok (.invokespecial 37, 3) := by decide +kernel
theorem d_Rd_init_51 : decode b_Rd_init 51 = .ok (.putfield 40, 3) := by decide +kernel
theorem d_Rd_init_54 : decode b_Rd_init 54 = .ok (.return_, 1) := by decide +kernel
theorem d_PF_init_0 : decode b_PF_init 0 = .ok (.aload_n 0, 1) := by decide +kernel
theorem d_PF_init_1 : decode b_PF_init 1 = .ok (.invokespecial 1, 3) := by decide +kernel
theorem d_PF_init_4 : decode b_PF_init 4 = .ok (.new 7, 3) := by decide +kernel
theorem d_PF_init_7 : decode b_PF_init 7 = .ok (.dup, 1) := by decide +kernel
theorem d_PF_init_8 : decode b_PF_init 8 = .ok (.invokespecial 9, 3) := by decide +kernel
theorem d_PF_init_11 : decode b_PF_init 11 = .ok (.astore_n 1, 1) := by decide +kernel
theorem d_PF_init_12 : decode b_PF_init 12 = .ok (.aload_n 0, 1) := by decide +kernel
theorem d_PF_init_13 : decode b_PF_init 13 = .ok (.aload_n 1, 1) := by decide +kernel
theorem d_PF_init_14 : decode b_PF_init 14 = .ok (.putfield 10, 3) := by decide +kernel
theorem d_PF_init_17 : decode b_PF_init 17 = .ok (.aload_n 0, 1) := by decide +kernel
theorem d_PF_init_18 : decode b_PF_init 18 = .ok (.new 16, 3) := by decide +kernel
theorem d_PF_init_21 : decode b_PF_init 21 = .ok (.dup, 1) := by decide +kernel
theorem d_PF_init_22 : decode b_PF_init 22 = .ok (.aload_n 1, 1) := by decide +kernel
theorem d_PF_init_23 : decode b_PF_init 23 = .ok (.invokespecial 18, 3) := by decide +kernel
theorem d_PF_init_26 : decode b_PF_init 26 = .ok (.putfield 21, 3) := by decide +kernel
theorem d_PF_init_29 : decode b_PF_init 29 = .ok (.aload_n 0, 1) := by decide +kernel
theorem d_PF_init_30 : decode b_PF_init 30 = .ok (.new 25, 3) := by decide +kernel
theorem d_PF_init_33 : decode b_PF_init 33 = .ok (.dup, 1) := by decide +kernel
theorem d_PF_init_34 : decode b_PF_init 34 = .ok (.aload_n 1, 1) := by decide +kernel
theorem d_PF_init_35 : decode b_PF_init 35 = .ok (.invokespecial 27, 3) := by decide +kernel
theorem d_PF_init_38 : decode b_PF_init 38 = .ok (.putfield 28, 3) := by decide +kernel
theorem d_PF_init_41 : decode b_PF_init 41 = .ok (.return_, 1) := by decide +kernel
theorem d_Md_init_0 : decode b_Md_init 0 = .ok (.aload_n 0, 1) := by decide +kernel
theorem d_Md_init_1 : decode b_Md_init 1 = .ok (.invokespecial 1, 3) := by decide +kernel
theorem d_Md_init_4 : decode b_Md_init 4 = .ok (.aload_n 0, 1) := by decide +kernel
theorem d_Md_init_5 : decode b_Md_init 5 = .ok (.ldc 7, 2) := by decide +kernel
theorem d_Md_init_7 : decode b_Md_init 7 = .ok (.newarray .byte, 2) := by decide +kernel
theorem d_Md_init_9 : decode b_Md_init 9 = .ok (.putfield 8, 3) := by decide +kernel
theorem d_Md_init_12 : decode b_Md_init 12 = .ok (.aload_n 0, 1) := by decide +kernel
theorem d_Md_init_13 : decode b_Md_init 13 = .ok (.sipush 512, 3) := by decide +kernel
theorem d_Md_init_16 : decode b_Md_init 16 = .ok (.newarray .int, 2) := by decide +kernel
theorem d_Md_init_18 : decode b_Md_init 18 = .ok (.putfield 14, 3) := by decide +kernel
theorem d_Md_init_21 : decode b_Md_init 21 = .ok (.aload_n 0, 1) := by decide +kernel
theorem d_Md_init_22 : decode b_Md_init 22 = .ok (.sipush 512, 3) := by decide +kernel
theorem d_Md_init_25 : decode b_Md_init 25 = .ok (.newarray .int, 2) := by decide +kernel
theorem d_Md_init_27 : decode b_Md_init 27 = .ok (.putfield 18, 3) := by decide +kernel
theorem d_Md_init_30 : decode b_Md_init 30 = .ok (.aload_n 0, 1) := by decide +kernel
theorem d_Md_init_31 : decode b_Md_init 31 = .ok (.sipush 520, 3) := by decide +kernel
theorem d_Md_init_34 : decode b_Md_init 34 = .ok (.newarray .long, 2) := by decide +kernel
theorem d_Md_init_36 : decode b_Md_init 36 = .ok (.putfield 21, 3) := by decide +kernel
theorem d_Md_init_39 : decode b_Md_init 39 = .ok (.aload_n 0, 1) := by decide +kernel
theorem d_Md_init_40 : decode b_Md_init 40 = .ok (.bipush 41, 2) := by decide +kernel
theorem d_Md_init_42 : decode b_Md_init 42 = .ok (.newarray .int, 2) := by decide +kernel
theorem d_Md_init_44 : decode b_Md_init 44 = .ok (.putfield 25, 3) := by decide +kernel
theorem d_Md_init_47 : decode b_Md_init 47 = .ok (.aload_n 0, 1) := by decide +kernel
theorem d_Md_init_48 : decode b_Md_init 48 = .ok (.sipush 8192, 3) := by decide +kernel
theorem d_Md_init_51 : decode b_Md_init 51 = .ok (.newarray .int, 2) := by decide +kernel
theorem d_Md_init_53 : decode b_Md_init 53 = .ok (.putfield 28, 3) := by decide +kernel
theorem d_Md_init_56 : decode b_Md_init 56 = .ok (.aload_n 0, 1) := by decide +kernel
theorem d_Md_init_57 : decode b_Md_init 57 = .ok (.sipush 8192, 3) := by decide +kernel
theorem d_Md_init_60 : decode b_Md_init 60 = .ok (.newarray .int, 2) := by decide +kernel
theorem d_Md_init_62 : decode b_Md_init 62 = .ok (.putfield 31, 3) := by decide +kernel
theorem d_Md_init_65 : decode b_Md_init 65 = .ok (.aload_n 0, 1) := by decide +kernel
theorem d_Md_init_66 : decode b_Md_init 66 = .ok (.bipush 11, 2) := by decide +kernel
theorem d_Md_init_68 : decode b_Md_init 68 = .ok (.newarray .int, 2) := by decide +kernel
theorem d_Md_init_70 : decode b_Md_init 70 = .ok (.putfield 34, 3) := by decide +kernel
theorem d_Md_init_73 : decode b_Md_init 73 = .ok (.return_, 1) := by decide +kernel
theorem d_PF_begin_0 : decode b_PF_begin 0 = .ok (.iload_n 1, 1) := by decide +kernel
theorem d_PF_begin_1 : decode b_PF_begin 1 = .ok (.invokestatic 59, 3) := by decide +kernel
theorem d_PF_begin_4 : decode b_PF_begin 4 = .ok (.ifCond .ne 13, 3) := by decide +kernel
theorem d_PF_begin_7 : decode b_PF_begin 7 = .ok (.new 62, 3) := by decide +kernel
theorem d_PF_begin_10 : decode b_PF_begin 10 = .ok (.dup, 1) := by decide +kernel
theorem d_PF_begin_11 : decode b_PF_begin 11 = .ok (.ldc 64, 2) := by decide +kernel
theorem d_PF_begin_13 : decode b_PF_begin 13 = .ok (.invokespecial 66, 3) := by decide +kernel
theorem d_PF_begin_16 : decode b_PF_begin 16 = .ok (.athrow, 1) := by decide +kernel
theorem d_PF_begin_17 : decode b_PF_begin 17 = .ok (.aload_n 0, 1) := by decide +kernel
theorem d_PF_begin_18 : decode b_PF_begin 18 = .ok (.getfield 21, 3) := by decide +kernel
theorem d_PF_begin_21 : decode b_PF_begin 21 = .ok (.iload_n 1, 1) := by decide +kernel
theorem d_PF_begin_22 : decode b_PF_begin 22 = .ok (.invokevirtual 69, 3) := by decide +kernel
theorem d_PF_begin_25 : decode b_PF_begin 25 = .ok (.return_, 1) := by decide +kernel
theorem d_PF_page_0 : decode b_PF_page 0 = .ok (.aload_n 0, 1) := by decide +kernel
theorem d_PF_page_1 : decode b_PF_page 1 = .ok (.getfield 21, 3) := by decide +kernel
theorem d_PF_page_4 : decode b_PF_page 4 = .ok (.getfield 32, 3) := by decide +kernel
theorem d_PF_page_7 : decode b_PF_page 7 = .ok (.ifCond .eq 25, 3) := by decide +kernel
theorem d_PF_page_10 : decode b_PF_page 10 = .ok (.aload_n 0, 1) := by decide +kernel
theorem d_PF_page_11 : decode b_PF_page 11 = .ok (.getfield 21, 3) := by decide +kernel
theorem d_PF_page_14 : decode b_PF_page 14 = .ok (.getfield 73, 3) := by decide +kernel
theorem d_PF_page_17 : decode b_PF_page 17 = .ok (.ifCond .ne 15, 3) := by decide +kernel
theorem d_PF_page_20 : decode b_PF_page 20 = .ok (.aload_n 0, 1) := by decide +kernel
theorem d_PF_page_21 : decode b_PF_page 21 = .ok (.getfield 21, 3) := by decide +kernel
theorem d_PF_page_24 : decode b_PF_page 24 = .ok (.getfield 76, 3) := by decide +kernel
theorem d_PF_page_27 : decode b_PF_page 27 = .ok (.bipush 40, 2) := by decide +kernel
theorem d_PF_page_29 : decode b_PF_page 29 = .ok (.if_icmp .lt 13, 3) := by decide +kernel
theorem d_PF_page_32 : decode b_PF_page 32 = .ok (.new 79, 3) := by decide +kernel
theorem d_PF_page_35 : decode b_PF_page 35 = .ok (.dup, 1) := by decide +kernel
theorem d_PF_page_36 : decode b_PF_page 36 = .ok (.ldc 81, 2) := by decide +kernel
theorem d_PF_page_38 : decode b_PF_page 38 = .ok (.invokespecial 83, 3) := by decide +kernel
theorem d_PF_page_41 : decode b_PF_page 41 = .ok (.athrow, 1) := by decide +kernel
theorem d_PF_page_42 : decode b_PF_page 42 = .ok (.iload_n 1, 1) := by decide +kernel
theorem d_PF_page_43 : decode b_PF_page 43 = .ok (.iload_n 2, 1) := by decide +kernel
theorem d_PF_page_44 : decode b_PF_page 44 = .ok (.iload_n 3, 1) := by decide +kernel
theorem d_PF_page_45 : decode b_PF_page 45 = .ok (.invokestatic 84, 3) := by decide +kernel
theorem d_PF_page_48 : decode b_PF_page 48 = .ok (.ifCond .eq 19, 3) := by decide +kernel
theorem d_PF_page_51 : decode b_PF_page 51 = .ok (.iload 4, 2) := by decide +kernel
theorem d_PF_page_53 : decode b_PF_page 53 = .ok (.invokestatic 88, 3) := by decide +kernel
theorem d_PF_page_56 : decode b_PF_page 56 = .ok (.ifCond .eq 11, 3) := by decide +kernel
theorem d_PF_page_59 : decode b_PF_page 59 = .ok (.iload 5, 2) := by decide +kernel
theorem d_PF_page_61 : decode b_PF_page 61 = .ok (.invokestatic 88, 3) := by decide +kernel
theorem d_PF_page_64 : decode b_PF_page 64 = .ok (.ifCond .ne 13, 3) := by decide +kernel
theorem d_PF_page_67 : decode b_PF_page 67 = .ok (.new 62, 3) := by decide +kernel
theorem d_PF_page_70 : decode b_PF_page 70 = .ok (.dup, 1) := by decide +kernel
theorem d_PF_page_71 : decode b_PF_page 71 = .ok (.ldc 91, 2) := by decide +kernel
theorem d_PF_page_73 : decode b_PF_page 73 = .ok (.invokespecial 66, 3) := by decide +kernel
theorem d_PF_page_76 : decode b_PF_page 76 = .ok (.athrow, 1) := by decide +kernel
theorem d_PF_page_77 : decode b_PF_page 77 = .ok (.aload_n 0, 1) := by decide +kernel
theorem d_PF_page_78 : decode b_PF_page 78 = .ok (.getfield 21, 3) := by decide +kernel
theorem d_PF_page_81 : decode b_PF_page 81 = .ok (.iload_n 1, 1) := by decide +kernel
theorem d_PF_page_82 : decode b_PF_page 82 = .ok (.iload_n 2, 1) := by decide +kernel
theorem d_PF_page_83 : decode b_PF_page 83 = .ok (.iload_n 3, 1) := by decide +kernel
theorem d_PF_page_84 : decode b_PF_page 84 = .ok (.iload 4, 2) := by decide +kernel
theorem d_PF_page_86 : decode b_PF_page 86 = .ok (.iload 5, 2) := by decide +kernel
theorem d_PF_page_88 : decode b_PF_page 88 = .ok (.invokevirtual 93, 3) := by decide +kernel
theorem d_PF_page_91 : decode b_PF_page 91 = .ok (.aload_n 0, 1) := by decide +kernel
theorem d_PF_page_92 : decode b_PF_page 92 = .ok (.getfield 21, 3) := by decide +kernel
theorem d_PF_page_95 : decode b_PF_page 95 = .ok (.invokevirtual 97, 3) := by decide +kernel
theorem d_PF_page_98 : decode b_PF_page 98 = .ok (.ireturn, 1) := by decide +kernel
theorem d_PF_strip_0 : decode b_PF_strip 0 = .ok (.aload_n 0, 1) := by decide +kernel
theorem d_PF_strip_1 : decode b_PF_strip 1 = .ok (.getfield 21, 3) := by decide +kernel
theorem d_PF_strip_4 : decode b_PF_strip 4 = .ok (.invokevirtual 97, 3) := by decide +kernel
theorem d_PF_strip_7 : decode b_PF_strip 7 = .ok (.ifCond .ne 13, 3) := by decide +kernel
theorem d_PF_strip_10 : decode b_PF_strip 10 = .ok (.new 79, 3) := by decide +kernel
theorem d_PF_strip_13 : decode b_PF_strip 13 = .ok (.dup, 1) := by decide +kernel
theorem d_PF_strip_14 : decode b_PF_strip 14 = .ok (.ldc 108, 2) := by decide +kernel
theorem d_PF_strip_16 : decode b_PF_strip 16 = .ok (.invokespecial 83, 3) := by decide +kernel
theorem d_PF_strip_19 : decode b_PF_strip 19 = .ok (.athrow, 1) := by decide +kernel
theorem d_PF_strip_20 : decode b_PF_strip 20 = .ok (.aload_n 0, 1) := by decide +kernel
theorem d_PF_strip_21 : decode b_PF_strip 21 = .ok (.getfield 21, 3) := by decide +kernel
theorem d_PF_strip_24 : decode b_PF_strip 24 = .ok (.invokevirtual 110, 3) := by decide +kernel
theorem d_PF_strip_27 : decode b_PF_strip 27 = .ok (.aload_n 0, 1) := by decide +kernel
theorem d_PF_strip_28 : decode b_PF_strip 28 = .ok (.getfield 21, 3) := by decide +kernel
theorem d_PF_strip_31 : decode b_PF_strip 31 = .ok (.invokevirtual 97, 3) := by decide +kernel
theorem d_PF_strip_34 : decode b_PF_strip 34 = .ok (.ireturn, 1) := by decide +kernel
theorem d_PF_close_0 : decode b_PF_close 0 = .ok (.aload_n 0, 1) := by decide +kernel
theorem d_PF_close_1 : decode b_PF_close 1 = .ok (.getfield 21, 3) := by decide +kernel
theorem d_PF_close_4 : decode b_PF_close 4 = .ok (.getfield 73, 3) := by decide +kernel
theorem d_PF_close_7 : decode b_PF_close 7 = .ok (.ifCond .eq 25, 3) := by decide +kernel
theorem d_PF_close_10 : decode b_PF_close 10 = .ok (.aload_n 0, 1) := by decide +kernel
theorem d_PF_close_11 : decode b_PF_close 11 = .ok (.getfield 21, 3) := by decide +kernel
theorem d_PF_close_14 : decode b_PF_close 14 = .ok (.invokevirtual 97, 3) := by decide +kernel
theorem d_PF_close_17 : decode b_PF_close 17 = .ok (.ifCond .gt 15, 3) := by decide +kernel
theorem d_PF_close_20 : decode b_PF_close 20 = .ok (.aload_n 0, 1) := by decide +kernel
theorem d_PF_close_21 : decode b_PF_close 21 = .ok (.getfield 21, 3) := by decide +kernel
theorem d_PF_close_24 : decode b_PF_close 24 = .ok (.invokevirtual 113, 3) := by decide +kernel
theorem d_PF_close_27 : decode b_PF_close 27 = .ok (.ldc 44, 2) := by decide +kernel
theorem d_PF_close_29 : decode b_PF_close 29 = .ok (.if_icmp .le 13, 3) := by decide +kernel
theorem d_PF_close_32 : decode b_PF_close 32 = .ok (.new 79, 3) := by decide +kernel
theorem d_PF_close_35 : decode b_PF_close 35 = .ok (.dup, 1) := by decide +kernel
theorem d_PF_close_36 : decode b_PF_close 36 = .ok (.ldc 116, 2) := by decide +kernel
theorem d_PF_close_38 : decode b_PF_close 38 = .ok (.invokespecial 83, 3) := by decide +kernel
