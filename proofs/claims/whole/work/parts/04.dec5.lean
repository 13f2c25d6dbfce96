theorem d_Md_sizeOf_2 : decode b_Md_sizeOf 2 = .ok (.if_icmp .ne 7, 3) := by decide +kernel
theorem d_Md_sizeOf_5 : decode b_Md_sizeOf 5 = .ok (.iconst 2, 1) := by decide +kernel
theorem d_Md_sizeOf_6 : decode b_Md_sizeOf 6 = .ok (.goto 14, 3) := by decide +kernel
theorem d_Md_sizeOf_9 : decode b_Md_sizeOf 9 = .ok (.iload_n 0, 1) := by decide +kernel
theorem d_Md_sizeOf_10 : decode b_Md_sizeOf 10 = .ok (.iconst 4, 1) := by decide +kernel
theorem d_Md_sizeOf_11 : decode b_Md_sizeOf 11 = .ok (.if_icmp .ne 7, 3) := by decide +kernel
theorem d_Md_sizeOf_14 : decode b_Md_sizeOf 14 = .ok (.iconst 4, 1) := by decide +kernel
theorem d_Md_sizeOf_15 : decode b_Md_sizeOf 15 = .ok (.goto 5, 3) := by decide +kernel
theorem d_Md_sizeOf_18 : decode b_Md_sizeOf 18 = .ok (.bipush 8, 2) := by decide +kernel
theorem d_Md_sizeOf_20 : decode b_Md_sizeOf 20 = .ok (.ireturn, 1) := by decide +kernel
theorem d_Md_sound_0 : decode b_Md_sound 0 = .ok (.iload_n 3, 1) := by decide +kernel
theorem d_Md_sound_1 : decode b_Md_sound 1 = .ok (.invokestatic 135, 3) := by decide +kernel
theorem d_Md_sound_4 : decode b_Md_sound 4 = .ok (.istore 4, 2) := by decide +kernel
theorem d_Md_sound_6 : decode b_Md_sound 6 = .ok (.aload_n 0, 1) := by decide +kernel
theorem d_Md_sound_7 : decode b_Md_sound 7 = .ok (.iload_n 2, 1) := by decide +kernel
theorem d_Md_sound_8 : decode b_Md_sound 8 = .ok (.iconst 2, 1) := by decide +kernel
theorem d_Md_sound_9 : decode b_Md_sound 9 = .ok (.iadd, 1) := by decide +kernel
theorem d_Md_sound_10 : decode b_Md_sound 10 = .ok (.invokevirtual 118, 3) := by decide +kernel
theorem d_Md_sound_13 : decode b_Md_sound 13 = .ok (.istore 5, 2) := by decide +kernel
theorem d_Md_sound_15 : decode b_Md_sound 15 = .ok (.aload_n 0, 1) := by decide +kernel
theorem d_Md_sound_16 : decode b_Md_sound 16 = .ok (.iload_n 2, 1) := by decide +kernel
theorem d_Md_sound_17 : decode b_Md_sound 17 = .ok (.iconst 4, 1) := by decide +kernel
theorem d_Md_sound_18 : decode b_Md_sound 18 = .ok (.iadd, 1) := by decide +kernel
theorem d_Md_sound_19 : decode b_Md_sound 19 = .ok (.invokevirtual 138, 3) := by decide +kernel
theorem d_Md_sound_22 : decode b_Md_sound 22 = .ok (.lstore 6, 2) := by decide +kernel
theorem d_Md_sound_24 : decode b_Md_sound 24 = .ok (.iload 4, 2) := by decide +kernel
theorem d_Md_sound_26 : decode b_Md_sound 26 = .ok (.ifCond .eq 22, 3) := by decide +kernel
theorem d_Md_sound_29 : decode b_Md_sound 29 = .ok (.iload 4, 2) := by decide +kernel
theorem d_Md_sound_31 : decode b_Md_sound 31 = .ok (.iconst 1, 1) := by decide +kernel
theorem d_Md_sound_32 : decode b_Md_sound 32 = .ok (.if_icmp .eq 16, 3) := by decide +kernel
theorem d_Md_sound_35 : decode b_Md_sound 35 = .ok (.iload 4, 2) := by decide +kernel
theorem d_Md_sound_37 : decode b_Md_sound 37 = .ok (.iconst 5, 1) := by decide +kernel
theorem d_Md_sound_38 : decode b_Md_sound 38 = .ok (.if_icmp .eq 10, 3) := by decide +kernel
theorem d_Md_sound_41 : decode b_Md_sound 41 = .ok (.iload 4, 2) := by decide +kernel
theorem d_Md_sound_43 : decode b_Md_sound 43 = .ok (.bipush 8, 2) := by decide +kernel
theorem d_Md_sound_45 : decode b_Md_sound 45 = .ok (.if_icmp .le 7, 3) := by decide +kernel
theorem d_Md_sound_48 : decode b_Md_sound 48 = .ok (.iconst 1, 1) := by decide +kernel
theorem d_Md_sound_49 : decode b_Md_sound 49 = .ok (.goto 4, 3) := by decide +kernel
theorem d_Md_sound_52 : decode b_Md_sound 52 = .ok (.iconst 0, 1) := by decide +kernel
theorem d_Md_sound_53 : decode b_Md_sound 53 = .ok (.istore 8, 2) := by decide +kernel
theorem d_Md_sound_55 : decode b_Md_sound 55 = .ok (.iload 4, 2) := by decide +kernel
theorem d_Md_sound_57 : decode b_Md_sound 57 = .ok (.bipush 7, 2) := by decide +kernel
theorem d_Md_sound_59 : decode b_Md_sound 59 = .ok (.if_icmp .eq 10, 3) := by decide +kernel
theorem d_Md_sound_62 : decode b_Md_sound 62 = .ok (.iload 4, 2) := by decide +kernel
theorem d_Md_sound_64 : decode b_Md_sound 64 = .ok (.bipush 8, 2) := by decide +kernel
theorem d_Md_sound_66 : decode b_Md_sound 66 = .ok (.if_icmp .ne 17, 3) := by decide +kernel
theorem d_Md_sound_69 : decode b_Md_sound 69 = .ok (.iload 5, 2) := by decide +kernel
theorem d_Md_sound_71 : decode b_Md_sound 71 = .ok (.iconst 5, 1) := by decide +kernel
theorem d_Md_sound_72 : decode b_Md_sound 72 = .ok (.if_icmp .ne 7, 3) := by decide +kernel
theorem d_Md_sound_75 : decode b_Md_sound 75 = .ok (.iconst 1, 1) := by decide +kernel
theorem d_Md_sound_76 : decode b_Md_sound 76 = .ok (.goto 29, 3) := by decide +kernel
theorem d_Md_sound_79 : decode b_Md_sound 79 = .ok (.iconst 0, 1) := by decide +kernel
theorem d_Md_sound_80 : decode b_Md_sound 80 = .ok (.goto 25, 3) := by decide +kernel
theorem d_Md_sound_83 : decode b_Md_sound 83 = .ok (.iload 5, 2) := by decide +kernel
theorem d_Md_sound_85 : decode b_Md_sound 85 = .ok (.iconst 3, 1) := by decide +kernel
theorem d_Md_sound_86 : decode b_Md_sound 86 = .ok (.if_icmp .eq 14, 3) := by decide +kernel
theorem d_Md_sound_89 : decode b_Md_sound 89 = .ok (.iload 8, 2) := by decide +kernel
theorem d_Md_sound_91 : decode b_Md_sound 91 = .ok (.ifCond .eq 13, 3) := by decide +kernel
theorem d_Md_sound_94 : decode b_Md_sound 94 = .ok (.iload 5, 2) := by decide +kernel
theorem d_Md_sound_96 : decode b_Md_sound 96 = .ok (.iconst 4, 1) := by decide +kernel
theorem d_Md_sound_97 : decode b_Md_sound 97 = .ok (.if_icmp .ne 7, 3) := by decide +kernel
theorem d_Md_sound_100 : decode b_Md_sound 100 = .ok (.iconst 1, 1) := by decide +kernel
theorem d_Md_sound_101 : decode b_Md_sound 101 = .ok (.goto 4, 3) := by decide +kernel
theorem d_Md_sound_104 : decode b_Md_sound 104 = .ok (.iconst 0, 1) := by decide +kernel
theorem d_Md_sound_105 : decode b_Md_sound 105 = .ok (.istore 9, 2) := by decide +kernel
theorem d_Md_sound_107 : decode b_Md_sound 107 = .ok (.lload 6, 2) := by decide +kernel
theorem d_Md_sound_109 : decode b_Md_sound 109 = .ok (.lconst 1, 1) := by decide +kernel
theorem d_Md_sound_110 : decode b_Md_sound 110 = .ok (.lcmp, 1) := by decide +kernel
theorem d_Md_sound_111 : decode b_Md_sound 111 = .ok (.ifCond .lt 30, 3) := by decide +kernel
theorem d_Md_sound_114 : decode b_Md_sound 114 = .ok (.lload 6, 2) := by decide +kernel
theorem d_Md_sound_116 : decode b_Md_sound 116 = .ok (.ldc2_w 142, 3) := by decide +kernel
theorem d_Md_sound_119 : decode b_Md_sound 119 = .ok (.lcmp, 1) := by decide +kernel
theorem d_Md_sound_120 : decode b_Md_sound 120 = .ok (.ifCond .gt 21, 3) := by decide +kernel
theorem d_Md_sound_123 : decode b_Md_sound 123 = .ok (.iload 4, 2) := by decide +kernel
theorem d_Md_sound_125 : decode b_Md_sound 125 = .ok (.bipush 8, 2) := by decide +kernel
theorem d_Md_sound_127 : decode b_Md_sound 127 = .ok (.if_icmp .gt 10, 3) := by decide +kernel
theorem d_Md_sound_130 : decode b_Md_sound 130 = .ok (.lload 6, 2) := by decide +kernel
theorem d_Md_sound_132 : decode b_Md_sound 132 = .ok (.lconst 1, 1) := by decide +kernel
theorem d_Md_sound_133 : decode b_Md_sound 133 = .ok (.lcmp, 1) := by decide +kernel
theorem d_Md_sound_134 : decode b_Md_sound 134 = .ok (.ifCond .ne 7, 3) := by decide +kernel
theorem d_Md_sound_137 : decode b_Md_sound 137 = .ok (.iconst 1, 1) := by decide +kernel
theorem d_Md_sound_138 : decode b_Md_sound 138 = .ok (.goto 4, 3) := by decide +kernel
theorem d_Md_sound_141 : decode b_Md_sound 141 = .ok (.iconst 0, 1) := by decide +kernel
theorem d_Md_sound_142 : decode b_Md_sound 142 = .ok (.istore 10, 2) := by decide +kernel
theorem d_Md_sound_144 : decode b_Md_sound 144 = .ok (.iload 9, 2) := by decide +kernel
theorem d_Md_sound_146 : decode b_Md_sound 146 = .ok (.ifCond .eq 8, 3) := by decide +kernel
theorem d_Md_sound_149 : decode b_Md_sound 149 = .ok (.iload 10, 2) := by decide +kernel
theorem d_Md_sound_151 : decode b_Md_sound 151 = .ok (.ifCond .ne 12, 3) := by decide +kernel
theorem d_Md_sound_154 : decode b_Md_sound 154 = .ok (.aload_n 0, 1) := by decide +kernel
theorem d_Md_sound_155 : decode b_Md_sound 155 = .ok (.iconst 4, 1) := by decide +kernel
theorem d_Md_sound_156 : decode b_Md_sound 156 = .ok (.iload_n 1, 1) := by decide +kernel
theorem d_Md_sound_157 : decode b_Md_sound 157 = .ok (.iload_n 3, 1) := by decide +kernel
theorem d_Md_sound_158 : decode b_Md_sound 158 = .ok (.iconst 0, 1) := by decide +kernel
theorem d_Md_sound_159 : decode b_Md_sound 159 = .ok (.invokevirtual 144, 3) := by decide +kernel
theorem d_Md_sound_162 : decode b_Md_sound 162 = .ok (.ireturn, 1) := by decide +kernel
theorem d_Md_sound_163 : decode b_Md_sound 163 = .ok (.lload 6, 2) := by decide +kernel
theorem d_Md_sound_165 : decode b_Md_sound 165 = .ok (.iload 5, 2) := by decide +kernel
theorem d_Md_sound_167 : decode b_Md_sound 167 = .ok (.invokestatic 148, 3) := by decide +kernel
theorem d_Md_sound_170 : decode b_Md_sound 170 = .ok (.i2l, 1) := by decide +kernel
theorem d_Md_sound_171 : decode b_Md_sound 171 = .ok (.lmul, 1) := by decide +kernel
theorem d_Md_sound_172 : decode b_Md_sound 172 = .ok (.lstore 11, 2) := by decide +kernel
theorem d_Md_sound_174 : decode b_Md_sound 174 = .ok (.lload 11, 2) := by decide +kernel
theorem d_Md_sound_176 : decode b_Md_sound 176 = .ok (.ldc2_w 151, 3) := by decide +kernel
theorem d_Md_sound_179 : decode b_Md_sound 179 = .ok (.lcmp, 1) := by decide +kernel
theorem d_Md_sound_180 : decode b_Md_sound 180 = .ok (.ifCond .le 34, 3) := by decide +kernel
theorem d_Md_sound_183 : decode b_Md_sound 183 = .ok (.aload_n 0, 1) := by decide +kernel
theorem d_Md_sound_184 : decode b_Md_sound 184 = .ok (.iload_n 2, 1) := by decide +kernel
theorem d_Md_sound_185 : decode b_Md_sound 185 = .ok (.bipush 8, 2) := by decide +kernel
theorem d_Md_sound_187 : decode b_Md_sound 187 = .ok (.iadd, 1) := by decide +kernel
theorem d_Md_sound_188 : decode b_Md_sound 188 = .ok (.invokevirtual 138, 3) := by decide +kernel
theorem d_Md_sound_191 : decode b_Md_sound 191 = .ok (.lload 11, 2) := by decide +kernel
theorem d_Md_sound_193 : decode b_Md_sound 193 = .ok (.ladd, 1) := by decide +kernel
theorem d_Md_sound_194 : decode b_Md_sound 194 = .ok (.aload_n 0, 1) := by decide +kernel
theorem d_Md_sound_195 : decode b_Md_sound 195 = .ok (.getfield 41, 3) := by decide +kernel
theorem d_Md_sound_198 : decode b_Md_sound 198 = .ok (.i2l, 1) := by decide +kernel
theorem d_Md_sound_199 : decode b_Md_sound 199 = .ok (.lcmp, 1) := by decide +kernel
theorem d_Md_sound_200 : decode b_Md_sound 200 = .ok (.ifCond .le 14, 3) := by decide +kernel
theorem d_Md_sound_203 : decode b_Md_sound 203 = .ok (.aload_n 0, 1) := by decide +kernel
theorem d_Md_sound_204 : decode b_Md_sound 204 = .ok (.iconst 5, 1) := by decide +kernel
theorem d_Md_sound_205 : decode b_Md_sound 205 = .ok (.iload_n 1, 1) := by decide +kernel
theorem d_Md_sound_206 : decode b_Md_sound 206 = .ok (.iload_n 3, 1) := by decide +kernel
theorem d_Md_sound_207 : decode b_Md_sound 207 = .ok (.iconst 0, 1) := by decide +kernel
theorem d_Md_sound_208 : decode b_Md_sound 208 = .ok (.invokevirtual 144, 3) := by decide +kernel
theorem d_Md_sound_211 : decode b_Md_sound 211 = .ok (.ifCond .eq 7, 3) := by decide +kernel
theorem d_Md_sound_214 : decode b_Md_sound 214 = .ok (.iconst 1, 1) := by decide +kernel
theorem d_Md_sound_215 : decode b_Md_sound 215 = .ok (.goto 4, 3) := by decide +kernel
theorem d_Md_sound_218 : decode b_Md_sound 218 = .ok (.iconst 0, 1) := by decide +kernel
theorem d_Md_sound_219 : decode b_Md_sound 219 = .ok (.ireturn, 1) := by decide +kernel
theorem d_Md_value_0 : decode b_Md_value 0 = .ok (.aload_n 0, 1) := by decide +kernel
theorem d_Md_value_1 : decode b_Md_value 1 = .ok (.getfield 34, 3) := by decide +kernel
theorem d_Md_value_4 : decode b_Md_value 4 = .ok (.iload_n 1, 1) := by decide +kernel
theorem d_Md_value_5 : decode b_Md_value 5 = .ok (.iaload, 1) := by decide +kernel
theorem d_Md_value_6 : decode b_Md_value 6 = .ok (.istore_n 3, 1) := by decide +kernel
theorem d_Md_value_7 : decode b_Md_value 7 = .ok (.aload_n 0, 1) := by decide +kernel
theorem d_Md_value_8 : decode b_Md_value 8 = .ok (.iload_n 3, 1) := by decide +kernel
theorem d_Md_value_9 : decode b_Md_value 9 = .ok (.iconst 2, 1) := by decide +kernel
theorem d_Md_value_10 : decode b_Md_value 10 = .ok (.iadd, 1) := by decide +kernel
theorem d_Md_value_11 : decode b_Md_value 11 = .ok (.invokevirtual 118, 3) := by decide +kernel
theorem d_Md_value_14 : decode b_Md_value 14 = .ok (.istore 4, 2) := by decide +kernel
theorem d_Md_value_16 : decode b_Md_value 16 = .ok (.aload_n 0, 1) := by decide +kernel
theorem d_Md_value_17 : decode b_Md_value 17 = .ok (.iload_n 3, 1) := by decide +kernel
theorem d_Md_value_18 : decode b_Md_value 18 = .ok (.iconst 4, 1) := by decide +kernel
theorem d_Md_value_19 : decode b_Md_value 19 = .ok (.iadd, 1) := by decide +kernel
theorem d_Md_value_20 : decode b_Md_value 20 = .ok (.invokevirtual 138, 3) := by decide +kernel
theorem d_Md_value_23 : decode b_Md_value 23 = .ok (.lstore 5, 2) := by decide +kernel
theorem d_Md_value_25 : decode b_Md_value 25 = .ok (.lload 5, 2) := by decide +kernel
theorem d_Md_value_27 : decode b_Md_value 27 = .ok (.iload 4, 2) := by decide +kernel
theorem d_Md_value_29 : decode b_Md_value 29 = .ok (.invokestatic 148, 3) := by decide +kernel
theorem d_Md_value_32 : decode b_Md_value 32 = .ok (.i2l, 1) := by decide +kernel
theorem d_Md_value_33 : decode b_Md_value 33 = .ok (.lmul, 1) := by decide +kernel
theorem d_Md_value_34 : decode b_Md_value 34 = .ok (.ldc2_w 151, 3) := by decide +kernel
theorem d_Md_value_37 : decode b_Md_value 37 = .ok (.lcmp, 1) := by decide +kernel
theorem d_Md_value_38 : decode b_Md_value 38 = .ok (.ifCond .gt 10, 3) := by decide +kernel
theorem d_Md_value_41 : decode b_Md_value 41 = .ok (.iload_n 3, 1) := by decide +kernel
theorem d_Md_value_42 : decode b_Md_value 42 = .ok (.bipush 8, 2) := by decide +kernel
theorem d_Md_value_44 : decode b_Md_value 44 = .ok (.iadd, 1) := by decide +kernel
theorem d_Md_value_45 : decode b_Md_value 45 = .ok (.goto 12, 3) := by decide +kernel
theorem d_Md_value_48 : decode b_Md_value 48 = .ok (.aload_n 0, 1) := by decide +kernel
theorem d_Md_value_49 : decode b_Md_value 49 = .ok (.iload_n 3, 1) := by decide +kernel
theorem d_Md_value_50 : decode b_Md_value 50 = .ok (.bipush 8, 2) := by decide +kernel
theorem d_Md_value_52 : decode b_Md_value 52 = .ok (.iadd, 1) := by decide +kernel
theorem d_Md_value_53 : decode b_Md_value 53 = .ok (.invokevirtual 138, 3) := by decide +kernel
theorem d_Md_value_56 : decode b_Md_value 56 = .ok (.l2i, 1) := by decide +kernel
theorem d_Md_value_57 : decode b_Md_value 57 = .ok (.istore 7, 2) := by decide +kernel
theorem d_Md_value_59 : decode b_Md_value 59 = .ok (.iload 4, 2) := by decide +kernel
theorem d_Md_value_61 : decode b_Md_value 61 = .ok (.iconst 3, 1) := by decide +kernel
theorem d_Md_value_62 : decode b_Md_value 62 = .ok (.if_icmp .ne 17, 3) := by decide +kernel
theorem d_Md_value_65 : decode b_Md_value 65 = .ok (.aload_n 0, 1) := by decide +kernel
theorem d_Md_value_66 : decode b_Md_value 66 = .ok (.iload 7, 2) := by decide +kernel
theorem d_Md_value_68 : decode b_Md_value 68 = .ok (.iconst 2, 1) := by decide +kernel
theorem d_Md_value_69 : decode b_Md_value 69 = .ok (.iload_n 2, 1) := by decide +kernel
theorem d_Md_value_70 : decode b_Md_value 70 = .ok (.imul, 1) := by decide +kernel
theorem d_Md_value_71 : decode b_Md_value 71 = .ok (.iadd, 1) := by decide +kernel
theorem d_Md_value_72 : decode b_Md_value 72 = .ok (.invokevirtual 118, 3) := by decide +kernel
theorem d_Md_value_75 : decode b_Md_value 75 = .ok (.i2l, 1) := by decide +kernel
theorem d_Md_value_76 : decode b_Md_value 76 = .ok (.goto 13, 3) := by decide +kernel
theorem d_Md_value_79 : decode b_Md_value 79 = .ok (.aload_n 0, 1) := by decide +kernel
theorem d_Md_value_80 : decode b_Md_value 80 = .ok (.iload 7, 2) := by decide +kernel
theorem d_Md_value_82 : decode b_Md_value 82 = .ok (.iconst 4, 1) := by decide +kernel
theorem d_Md_value_83 : decode b_Md_value 83 = .ok (.iload_n 2, 1) := by decide +kernel
theorem d_Md_value_84 : decode b_Md_value 84 = .ok (.imul, 1) := by decide +kernel
theorem d_Md_value_85 : decode b_Md_value 85 = .ok (.iadd, 1) := by decide +kernel
theorem d_Md_value_86 : decode b_Md_value 86 = .ok (.invokevirtual 138, 3) := by decide +kernel
theorem d_Md_value_89 : decode b_Md_value 89 = .ok (.lreturn, 1) := by decide +kernel
theorem d_Md_valueOr_0 : decode b_Md_valueOr 0 = .ok (.aload_n 0, 1) := by decide +kernel
theorem d_Md_valueOr_1 : decode b_Md_valueOr 1 = .ok (.getfield 34, 3) := by decide +kernel
theorem d_Md_valueOr_4 : decode b_Md_valueOr 4 = .ok (.iload_n 1, 1) := by decide +kernel
theorem d_Md_valueOr_5 : decode b_Md_valueOr 5 = .ok (.iaload, 1) := by decide +kernel
theorem d_Md_valueOr_6 : decode b_Md_valueOr 6 = .ok (.ifCond .ge 7, 3) := by decide +kernel
theorem d_Md_valueOr_9 : decode b_Md_valueOr 9 = .ok (.lload_n 3, 1) := by decide +kernel
theorem d_Md_valueOr_10 : decode b_Md_valueOr 10 = .ok (.goto 9, 3) := by decide +kernel
theorem d_Md_valueOr_13 : decode b_Md_valueOr 13 = .ok (.aload_n 0, 1) := by decide +kernel
theorem d_Md_valueOr_14 : decode b_Md_valueOr 14 = .ok (.iload_n 1, 1) := by decide +kernel
theorem d_Md_valueOr_15 : decode b_Md_valueOr 15 = .ok (.iload_n 2, 1) := by decide +kernel
theorem d_Md_valueOr_16 : decode b_Md_valueOr 16 = .ok (.invokevirtual 153, 3) := by decide +kernel
theorem d_Md_valueOr_19 : decode b_Md_valueOr 19 = .ok (.lreturn, 1) := by decide +kernel
theorem d_Md_entries_0 : decode b_Md_entries 0 = .ok (.iconst 0, 1) := by decide +kernel
theorem d_Md_entries_1 : decode b_Md_entries 1 = .ok (.istore_n 3, 1) := by decide +kernel
theorem d_Md_entries_2 : decode b_Md_entries 2 = .ok (.iload_n 3, 1) := by decide +kernel
theorem d_Md_entries_3 : decode b_Md_entries 3 = .ok (.bipush 11, 2) := by decide +kernel
theorem d_Md_entries_5 : decode b_Md_entries 5 = .ok (.if_icmp .ge 16, 3) := by decide +kernel
theorem d_Md_entries_8 : decode b_Md_entries 8 = .ok (.aload_n 0, 1) := by decide +kernel
theorem d_Md_entries_9 : decode b_Md_entries 9 = .ok (.getfield 34, 3) := by decide +kernel
theorem d_Md_entries_12 : decode b_Md_entries 12 = .ok (.iload_n 3, 1) := by decide +kernel
theorem d_Md_entries_13 : decode b_Md_entries 13 = .ok (.iconst (-1), 1) := by decide +kernel
theorem d_Md_entries_14 : decode b_Md_entries 14 = .ok (.iastore, 1) := by decide +kernel
theorem d_Md_entries_15 : decode b_Md_entries 15 = .ok (.iinc 3 1, 3) := by decide +kernel
theorem d_Md_entries_18 : decode b_Md_entries 18 = .ok (.goto (-16), 3) := by decide +kernel
theorem d_Md_entries_21 : decode b_Md_entries 21 = .ok (.iconst (-1), 1) := by decide +kernel
theorem d_Md_entries_22 : decode b_Md_entries 22 = .ok (.istore_n 3, 1) := by decide +kernel
theorem d_Md_entries_23 : decode b_Md_entries 23 = .ok (.aload_n 0, 1) := by decide +kernel
theorem d_Md_entries_24 : decode b_Md_entries 24 = .ok (.iload_n 2, 1) := by decide +kernel
theorem d_Md_entries_25 : decode b_Md_entries 25 = .ok (.invokevirtual 118, 3) := by decide +kernel
theorem d_Md_entries_28 : decode b_Md_entries 28 = .ok (.istore 4, 2) := by decide +kernel
theorem d_Md_entries_30 : decode b_Md_entries 30 = .ok (.iconst 0, 1) := by decide +kernel
theorem d_Md_entries_31 : decode b_Md_entries 31 = .ok (.istore 5, 2) := by decide +kernel
theorem d_Md_entries_33 : decode b_Md_entries 33 = .ok (.iload 5, 2) := by decide +kernel
theorem d_Md_entries_35 : decode b_Md_entries 35 = .ok (.iload 4, 2) := by decide +kernel
theorem d_Md_entries_37 : decode b_Md_entries 37 = .ok (.if_icmp .ge 81, 3) := by decide +kernel
theorem d_Md_entries_40 : decode b_Md_entries 40 = .ok (.iload_n 2, 1) := by decide +kernel
theorem d_Md_entries_41 : decode b_Md_entries 41 = .ok (.iconst 2, 1) := by decide +kernel
theorem d_Md_entries_42 : decode b_Md_entries 42 = .ok (.iadd, 1) := by decide +kernel
theorem d_Md_entries_43 : decode b_Md_entries 43 = .ok (.bipush 12, 2) := by decide +kernel
theorem d_Md_entries_45 : decode b_Md_entries 45 = .ok (.iload 5, 2) := by decide +kernel
theorem d_Md_entries_47 : decode b_Md_entries 47 = .ok (.imul, 1) := by decide +kernel
theorem d_Md_entries_48 : decode b_Md_entries 48 = .ok (.iadd, 1) := by decide +kernel
theorem d_Md_entries_49 : decode b_Md_entries 49 = .ok (.istore 6, 2) := by decide +kernel
theorem d_Md_entries_51 : decode b_Md_entries 51 = .ok (.aload_n 0, 1) := by decide +kernel
theorem d_Md_entries_52 : decode b_Md_entries 52 = .ok (.iload 6, 2) := by decide +kernel
theorem d_Md_entries_54 : decode b_Md_entries 54 = .ok (.invokevirtual 118, 3) := by decide +kernel
theorem d_Md_entries_57 : decode b_Md_entries 57 = .ok (.istore 7, 2) := by decide +kernel
theorem d_Md_entries_59 : decode b_Md_entries 59 = .ok (.iload 7, 2) := by decide +kernel
theorem d_Md_entries_61 : decode b_Md_entries 61 = .ok (.iload_n 3, 1) := by decide +kernel
theorem d_Md_entries_62 : decode b_Md_entries 62 = .ok (.if_icmp .gt 13, 3) := by decide +kernel
theorem d_Md_entries_65 : decode b_Md_entries 65 = .ok (.aload_n 0, 1) := by decide +kernel
theorem d_Md_entries_66 : decode b_Md_entries 66 = .ok (.iconst 3, 1) := by decide +kernel
theorem d_Md_entries_67 : decode b_Md_entries 67 = .ok (.iload_n 1, 1) := by decide +kernel
theorem d_Md_entries_68 : decode b_Md_entries 68 = .ok (.iload 7, 2) := by decide +kernel
theorem d_Md_entries_70 : decode b_Md_entries 70 = .ok (.iconst 0, 1) := by decide +kernel
theorem d_Md_entries_71 : decode b_Md_entries 71 = .ok (.invokevirtual 144, 3) := by decide +kernel
theorem d_Md_entries_74 : decode b_Md_entries 74 = .ok (.ireturn, 1) := by decide +kernel
theorem d_Md_entries_75 : decode b_Md_entries 75 = .ok (.iload 7, 2) := by decide +kernel
theorem d_Md_entries_77 : decode b_Md_entries 77 = .ok (.istore_n 3, 1) := by decide +kernel
theorem d_Md_entries_78 : decode b_Md_entries 78 = .ok (.iload 7, 2) := by decide +kernel
theorem d_Md_entries_80 : decode b_Md_entries 80 = .ok (.invokestatic 135, 3) := by decide +kernel
theorem d_Md_entries_83 : decode b_Md_entries 83 = .ok (.ifCond .lt 29, 3) := by decide +kernel
theorem d_Md_entries_86 : decode b_Md_entries 86 = .ok (.aload_n 0, 1) := by decide +kernel
theorem d_Md_entries_87 : decode b_Md_entries 87 = .ok (.iload_n 1, 1) := by decide +kernel
theorem d_Md_entries_88 : decode b_Md_entries 88 = .ok (.iload 6, 2) := by decide +kernel
theorem d_Md_entries_90 : decode b_Md_entries 90 = .ok (.iload 7, 2) := by decide +kernel
theorem d_Md_entries_92 : decode b_Md_entries 92 = .ok (.invokevirtual 157, 3) := by decide +kernel
theorem d_Md_entries_95 : decode b_Md_entries 95 = .ok (.ifCond .ne 5, 3) := by decide +kernel
theorem d_Md_entries_98 : decode b_Md_entries 98 = .ok (.iconst 0, 1) := by decide +kernel
theorem d_Md_entries_99 : decode b_Md_entries 99 = .ok (.ireturn, 1) := by decide +kernel
theorem d_Md_entries_100 : decode b_Md_entries 100 = .ok (.aload_n 0, 1) := by decide +kernel
theorem d_Md_entries_101 : decode b_Md_entries 101 = .ok (.getfield 34, 3) := by decide +kernel
theorem d_Md_entries_104 : decode b_Md_entries 104 = .ok (.iload 7, 2) := by decide +kernel
theorem d_Md_entries_106 : decode b_Md_entries 106 = .ok (.invokestatic 135, 3) := by decide +kernel
theorem d_Md_entries_109 : decode b_Md_entries 109 = .ok (.iload 6, 2) := by decide +kernel
theorem d_Md_entries_111 : decode b_Md_entries 111 = .ok (.iastore, 1) := by decide +kernel
theorem d_Md_entries_112 : decode b_Md_entries 112 = .ok (.iinc 5 1, 3) := by decide +kernel
theorem d_Md_entries_115 : decode b_Md_entries 115 = .ok (.goto (-82), 3) := by decide +kernel
theorem d_Md_entries_118 : decode b_Md_entries 118 = .ok (.iconst 1, 1) := by decide +kernel
theorem d_Md_entries_119 : decode b_Md_entries 119 = .ok (.ireturn, 1) := by decide +kernel
theorem d_Md_stripsOf_0 : decode b_Md_stripsOf 0 = .ok (.iconst 0, 1) := by decide +kernel
theorem d_Md_stripsOf_1 : decode b_Md_stripsOf 1 = .ok (.istore_n 3, 1) := by decide +kernel
theorem d_Md_stripsOf_2 : decode b_Md_stripsOf 2 = .ok (.iload_n 3, 1) := by decide +kernel
theorem d_Md_stripsOf_3 : decode b_Md_stripsOf 3 = .ok (.iload_n 2, 1) := by decide +kernel
theorem d_Md_stripsOf_4 : decode b_Md_stripsOf 4 = .ok (.if_icmp .ge 94, 3) := by decide +kernel
theorem d_Md_stripsOf_7 : decode b_Md_stripsOf 7 = .ok (.aload_n 0, 1) := by decide +kernel
theorem d_Md_stripsOf_8 : decode b_Md_stripsOf 8 = .ok (.bipush 9, 2) := by decide +kernel
theorem d_Md_stripsOf_10 : decode b_Md_stripsOf 10 = .ok (.iload_n 3, 1) := by decide +kernel
theorem d_Md_stripsOf_11 : decode b_Md_stripsOf 11 = .ok (.invokevirtual 153, 3) := by decide +kernel
theorem d_Md_stripsOf_14 : decode b_Md_stripsOf 14 = .ok (.lstore 4, 2) := by decide +kernel
theorem d_Md_stripsOf_16 : decode b_Md_stripsOf 16 = .ok (.aload_n 0, 1) := by decide +kernel
theorem d_Md_stripsOf_17 : decode b_Md_stripsOf 17 = .ok (.bipush 10, 2) := by decide +kernel
theorem d_Md_stripsOf_19 : decode b_Md_stripsOf 19 = .ok (.iload_n 3, 1) := by decide +kernel
theorem d_Md_stripsOf_20 : decode b_Md_stripsOf 20 = .ok (.invokevirtual 153, 3) := by decide +kernel
theorem d_Md_stripsOf_23 : decode b_Md_stripsOf 23 = .ok (.lstore 6, 2) := by decide +kernel
theorem d_Md_stripsOf_25 : decode b_Md_stripsOf 25 = .ok (.lload 4, 2) := by decide +kernel
theorem d_Md_stripsOf_27 : decode b_Md_stripsOf 27 = .ok (.ldc2_w 179, 3) := by decide +kernel
theorem d_Md_stripsOf_30 : decode b_Md_stripsOf 30 = .ok (.lcmp, 1) := by decide +kernel
theorem d_Md_stripsOf_31 : decode b_Md_stripsOf 31 = .ok (.ifCond .lt 17, 3) := by decide +kernel
theorem d_Md_stripsOf_34 : decode b_Md_stripsOf 34 = .ok (.lload 4, 2) := by decide +kernel
theorem d_Md_stripsOf_36 : decode b_Md_stripsOf 36 = .ok (.lload 6, 2) := by decide +kernel
theorem d_Md_stripsOf_38 : decode b_Md_stripsOf 38 = .ok (.ladd, 1) := by decide +kernel
theorem d_Md_stripsOf_39 : decode b_Md_stripsOf 39 = .ok (.aload_n 0, 1) := by decide +kernel
theorem d_Md_stripsOf_40 : decode b_Md_stripsOf 40 = .ok (.getfield 41, 3) := by decide +kernel
theorem d_Md_stripsOf_43 : decode b_Md_stripsOf 43 = .ok (.i2l, 1) := by decide +kernel
theorem d_Md_stripsOf_44 : decode b_Md_stripsOf 44 = .ok (.lcmp, 1) := by decide +kernel
theorem d_Md_stripsOf_45 : decode b_Md_stripsOf 45 = .ok (.ifCond .le 15, 3) := by decide +kernel
theorem d_Md_stripsOf_48 : decode b_Md_stripsOf 48 = .ok (.aload_n 0, 1) := by decide +kernel
theorem d_Md_stripsOf_49 : decode b_Md_stripsOf 49 = .ok (.bipush 9, 2) := by decide +kernel
theorem d_Md_stripsOf_51 : decode b_Md_stripsOf 51 = .ok (.iload_n 1, 1) := by decide +kernel
theorem d_Md_stripsOf_52 : decode b_Md_stripsOf 52 = .ok (.sipush 273, 3) := by decide +kernel
theorem d_Md_stripsOf_55 : decode b_Md_stripsOf 55 = .ok (.iload_n 3, 1) := by decide +kernel
theorem d_Md_stripsOf_56 : decode b_Md_stripsOf 56 = .ok (.invokevirtual 144, 3) := by decide +kernel
theorem d_Md_stripsOf_59 : decode b_Md_stripsOf 59 = .ok (.ireturn, 1) := by decide +kernel
theorem d_Md_stripsOf_60 : decode b_Md_stripsOf 60 = .ok (.aload_n 0, 1) := by decide +kernel
theorem d_Md_stripsOf_61 : decode b_Md_stripsOf 61 = .ok (.getfield 28, 3) := by decide +kernel
theorem d_Md_stripsOf_64 : decode b_Md_stripsOf 64 = .ok (.aload_n 0, 1) := by decide +kernel
theorem d_Md_stripsOf_65 : decode b_Md_stripsOf 65 = .ok (.getfield 25, 3) := by decide +kernel
theorem d_Md_stripsOf_68 : decode b_Md_stripsOf 68 = .ok (.iload_n 1, 1) := by decide +kernel
theorem d_Md_stripsOf_69 : decode b_Md_stripsOf 69 = .ok (.iaload, 1) := by decide +kernel
theorem d_Md_stripsOf_70 : decode b_Md_stripsOf 70 = .ok (.iload_n 3, 1) := by decide +kernel
theorem d_Md_stripsOf_71 : decode b_Md_stripsOf 71 = .ok (.iadd, 1) := by decide +kernel
theorem d_Md_stripsOf_72 : decode b_Md_stripsOf 72 = .ok (.lload 4, 2) := by decide +kernel
theorem d_Md_stripsOf_74 : decode b_Md_stripsOf 74 = .ok (.l2i, 1) := by decide +kernel
theorem d_Md_stripsOf_75 : decode b_Md_stripsOf 75 = .ok (.iastore, 1) := by decide +kernel
theorem d_Md_stripsOf_76 : decode b_Md_stripsOf 76 = .ok (.aload_n 0, 1) := by decide +kernel
theorem d_Md_stripsOf_77 : decode b_Md_stripsOf 77 = .ok (.getfield 31, 3) := by decide +kernel
theorem d_Md_stripsOf_80 : decode b_Md_stripsOf 80 = .ok (.aload_n 0, 1) := by decide +kernel
theorem d_Md_stripsOf_81 : decode b_Md_stripsOf 81 = .ok (.getfield 25, 3) := by decide +kernel
theorem d_Md_stripsOf_84 : decode b_Md_stripsOf 84 = .ok (.iload_n 1, 1) := by decide +kernel
theorem d_Md_stripsOf_85 : decode b_Md_stripsOf 85 = .ok (.iaload, 1) := by decide +kernel
theorem d_Md_stripsOf_86 : decode b_Md_stripsOf 86 = .ok (.iload_n 3, 1) := by decide +kernel
theorem d_Md_stripsOf_87 : decode b_Md_stripsOf 87 = .ok (.iadd, 1) := by decide +kernel
theorem d_Md_stripsOf_88 : decode b_Md_stripsOf 88 = .ok (.lload 6, 2) := by decide +kernel
theorem d_Md_stripsOf_90 : decode b_Md_stripsOf 90 = .ok (.l2i, 1) := by decide +kernel
theorem d_Md_stripsOf_91 : decode b_Md_stripsOf 91 = .ok (.iastore, 1) := by decide +kernel
theorem d_Md_stripsOf_92 : decode b_Md_stripsOf 92 = .ok (.iinc 3 1, 3) := by decide +kernel
theorem d_Md_stripsOf_95 : decode b_Md_stripsOf 95 = .ok (.goto (-93), 3) := by decide +kernel
theorem d_Md_stripsOf_98 : decode b_Md_stripsOf 98 = .ok (.aload_n 0, 1) := by decide +kernel
theorem d_Md_stripsOf_99 : decode b_Md_stripsOf 99 = .ok (.getfield 25, 3) := by decide +kernel
theorem d_Md_stripsOf_102 : decode b_Md_stripsOf 102 = .ok (.iload_n 1, 1) := by decide +kernel
theorem d_Md_stripsOf_103 : decode b_Md_stripsOf 103 = .ok (.iconst 1, 1) := by decide +kernel
theorem d_Md_stripsOf_104 : decode b_Md_stripsOf 104 = .ok (.iadd, 1) := by decide +kernel
theorem d_Md_stripsOf_105 : decode b_Md_stripsOf 105 = .ok (.aload_n 0, 1) := by decide +kernel
theorem d_Md_stripsOf_106 : decode b_Md_stripsOf 106 = .ok (.getfield 25, 3) := by decide +kernel
theorem d_Md_stripsOf_109 : decode b_Md_stripsOf 109 = .ok (.iload_n 1, 1) := by decide +kernel
theorem d_Md_stripsOf_110 : decode b_Md_stripsOf 110 = .ok (.iaload, 1) := by decide +kernel
theorem d_Md_stripsOf_111 : decode b_Md_stripsOf 111 = .ok (.iload_n 2, 1) := by decide +kernel
theorem d_Md_stripsOf_112 : decode b_Md_stripsOf 112 = .ok (.iadd, 1) := by decide +kernel
theorem d_Md_stripsOf_113 : decode b_Md_stripsOf 113 = .ok (.iastore, 1) := by decide +kernel
theorem d_Md_stripsOf_114 : decode b_Md_stripsOf 114 = .ok (.iconst 1, 1) := by decide +kernel
theorem d_Md_stripsOf_115 : decode b_Md_stripsOf 115 = .ok (.ireturn, 1) := by decide +kernel
theorem d_Md_values_0 : decode b_Md_values 0 = .ok (.aload_n 0, 1) := by decide +kernel
theorem d_Md_values_1 : decode b_Md_values 1 = .ok (.getfield 34, 3) := by decide +kernel
theorem d_Md_values_4 : decode b_Md_values 4 = .ok (.iconst 0, 1) := by decide +kernel
theorem d_Md_values_5 : decode b_Md_values 5 = .ok (.iaload, 1) := by decide +kernel
theorem d_Md_values_6 : decode b_Md_values 6 = .ok (.ifCond .ge 9, 3) := by decide +kernel
theorem d_Md_values_9 : decode b_Md_values 9 = .ok (.sipush 256, 3) := by decide +kernel
theorem d_Md_values_12 : decode b_Md_values 12 = .ok (.goto 51, 3) := by decide +kernel
theorem d_Md_values_15 : decode b_Md_values 15 = .ok (.aload_n 0, 1) := by decide +kernel
theorem d_Md_values_16 : decode b_Md_values 16 = .ok (.getfield 34, 3) := by decide +kernel
theorem d_Md_values_19 : decode b_Md_values 19 = .ok (.iconst 1, 1) := by decide +kernel
theorem d_Md_values_20 : decode b_Md_values 20 = .ok (.iaload, 1) := by decide +kernel
theorem d_Md_values_21 : decode b_Md_values 21 = .ok (.ifCond .ge 9, 3) := by decide +kernel
theorem d_Md_values_24 : decode b_Md_values 24 = .ok (.sipush 257, 3) := by decide +kernel
theorem d_Md_values_27 : decode b_Md_values 27 = .ok (.goto 36, 3) := by decide +kernel
theorem d_Md_values_30 : decode b_Md_values 30 = .ok (.aload_n 0, 1) := by decide +kernel
theorem d_Md_values_31 : decode b_Md_values 31 = .ok (.getfield 34, 3) := by decide +kernel
theorem d_Md_values_34 : decode b_Md_values 34 = .ok (.bipush 9, 2) := by decide +kernel
theorem d_Md_values_36 : decode b_Md_values 36 = .ok (.iaload, 1) := by decide +kernel
theorem d_Md_values_37 : decode b_Md_values 37 = .ok (.ifCond .ge 9, 3) := by decide +kernel
theorem d_Md_values_40 : decode b_Md_values 40 = .ok (.sipush 273, 3) := by decide +kernel
theorem d_Md_values_43 : decode b_Md_values 43 = .ok (.goto 20, 3) := by decide +kernel
theorem d_Md_values_46 : decode b_Md_values 46 = .ok (.aload_n 0, 1) := by decide +kernel
theorem d_Md_values_47 : decode b_Md_values 47 = .ok (.getfield 34, 3) := by decide +kernel
theorem d_Md_values_50 : decode b_Md_values 50 = .ok (.bipush 10, 2) := by decide +kernel
theorem d_Md_values_52 : decode b_Md_values 52 = .ok (.iaload, 1) := by decide +kernel
theorem d_Md_values_53 : decode b_Md_values 53 = .ok (.ifCond .ge 9, 3) := by decide +kernel
theorem d_Md_values_56 : decode b_Md_values 56 = .ok (.sipush 279, 3) := by decide +kernel
theorem d_Md_values_59 : decode b_Md_values 59 = .ok (.goto 4, 3) := by decide +kernel
theorem d_Md_values_62 : decode b_Md_values 62 = .ok (.iconst 0, 1) := by decide +kernel
theorem d_Md_values_63 : decode b_Md_values 63 = .ok (.istore_n 2, 1) := by decide +kernel
theorem d_Md_values_64 : decode b_Md_values 64 = .ok (.iload_n 2, 1) := by decide +kernel
theorem d_Md_values_65 : decode b_Md_values 65 = .ok (.ifCond .le 13, 3) := by decide +kernel
theorem d_Md_values_68 : decode b_Md_values 68 = .ok (.aload_n 0, 1) := by decide +kernel
theorem d_Md_values_69 : decode b_Md_values 69 = .ok (.bipush 6, 2) := by decide +kernel
theorem d_Md_values_71 : decode b_Md_values 71 = .ok (.iload_n 1, 1) := by decide +kernel
theorem d_Md_values_72 : decode b_Md_values 72 = .ok (.iload_n 2, 1) := by decide +kernel
theorem d_Md_values_73 : decode b_Md_values 73 = .ok (.iconst 0, 1) := by decide +kernel
theorem d_Md_values_74 : decode b_Md_values 74 = .ok (.invokevirtual 144, 3) := by decide +kernel
theorem d_Md_values_77 : decode b_Md_values 77 = .ok (.ireturn, 1) := by decide +kernel
theorem d_Md_values_78 : decode b_Md_values 78 = .ok (.aload_n 0, 1) := by decide +kernel
theorem d_Md_values_79 : decode b_Md_values 79 = .ok (.iconst 0, 1) := by decide +kernel
theorem d_Md_values_80 : decode b_Md_values 80 = .ok (.iconst 0, 1) := by decide +kernel
theorem d_Md_values_81 : decode b_Md_values 81 = .ok (.invokevirtual 153, 3) := by decide +kernel
theorem d_Md_values_84 : decode b_Md_values 84 = .ok (.lstore_n 3, 1) := by decide +kernel
theorem d_Md_values_85 : decode b_Md_values 85 = .ok (.aload_n 0, 1) := by decide +kernel
theorem d_Md_values_86 : decode b_Md_values 86 = .ok (.iconst 1, 1) := by decide +kernel
theorem d_Md_values_87 : decode b_Md_values 87 = .ok (.iconst 0, 1) := by decide +kernel
theorem d_Md_values_88 : decode b_Md_values 88 = .ok (.invokevirtual 153, 3) := by decide +kernel
theorem d_Md_values_91 : decode b_Md_values 91 = .ok (.lstore 5, 2) := by decide +kernel
theorem d_Md_values_93 : decode b_Md_values 93 = .ok (.aload_n 0, 1) := by decide +kernel
theorem d_Md_values_94 : decode b_Md_values 94 = .ok (.iconst 2, 1) := by decide +kernel
theorem d_Md_values_95 : decode b_Md_values 95 = .ok (.iconst 0, 1) := by decide +kernel
theorem d_Md_values_96 : decode b_Md_values 96 = .ok (.lconst 1, 1) := by decide +kernel
theorem d_Md_values_97 : decode b_Md_values 97 = .ok (.invokevirtual 161, 3) := by decide +kernel
theorem d_Md_values_100 : decode b_Md_values 100 = .ok (.lstore 7, 2) := by decide +kernel
theorem d_Md_values_102 : decode b_Md_values 102 = .ok (.aload_n 0, 1) := by decide +kernel
theorem d_Md_values_103 : decode b_Md_values 103 = .ok (.iconst 3, 1) := by decide +kernel
theorem d_Md_values_104 : decode b_Md_values 104 = .ok (.iconst 0, 1) := by decide +kernel
theorem d_Md_values_105 : decode b_Md_values 105 = .ok (.lconst 0, 1) := by decide +kernel
theorem d_Md_values_106 : decode b_Md_values 106 = .ok (.invokevirtual 161, 3) := by decide +kernel
theorem d_Md_values_109 : decode b_Md_values 109 = .ok (.lstore 9, 2) := by decide +kernel
theorem d_Md_values_111 : decode b_Md_values 111 = .ok (.aload_n 0, 1) := by decide +kernel
theorem d_Md_values_112 : decode b_Md_values 112 = .ok (.iconst 4, 1) := by decide +kernel
theorem d_Md_values_113 : decode b_Md_values 113 = .ok (.iconst 0, 1) := by decide +kernel
theorem d_Md_values_114 : decode b_Md_values 114 = .ok (.lconst 1, 1) := by decide +kernel
theorem d_Md_values_115 : decode b_Md_values 115 = .ok (.invokevirtual 161, 3) := by decide +kernel
theorem d_Md_values_118 : decode b_Md_values 118 = .ok (.lstore 11, 2) := by decide +kernel
theorem d_Md_values_120 : decode b_Md_values 120 = .ok (.aload_n 0, 1) := by decide +kernel
theorem d_Md_values_121 : decode b_Md_values 121 = .ok (.iconst 5, 1) := by decide +kernel
theorem d_Md_values_122 : decode b_Md_values 122 = .ok (.iconst 0, 1) := by decide +kernel
theorem d_Md_values_123 : decode b_Md_values 123 = .ok (.lload 5, 2) := by decide +kernel
theorem d_Md_values_125 : decode b_Md_values 125 = .ok (.invokevirtual 161, 3) := by decide +kernel
theorem d_Md_values_128 : decode b_Md_values 128 = .ok (.lstore 13, 2) := by decide +kernel
theorem d_Md_values_130 : decode b_Md_values 130 = .ok (.aload_n 0, 1) := by decide +kernel
theorem d_Md_values_131 : decode b_Md_values 131 = .ok (.bipush 6, 2) := by decide +kernel
theorem d_Md_values_133 : decode b_Md_values 133 = .ok (.iconst 0, 1) := by decide +kernel
theorem d_Md_values_134 : decode b_Md_values 134 = .ok (.ldc2_w 165, 3) := by decide +kernel
theorem d_Md_values_137 : decode b_Md_values 137 = .ok (.invokevirtual 161, 3) := by decide +kernel
theorem d_Md_values_140 : decode b_Md_values 140 = .ok (.lstore 15, 2) := by decide +kernel
theorem d_Md_values_142 : decode b_Md_values 142 = .ok (.lload_n 3, 1) := by decide +kernel
theorem d_Md_values_143 : decode b_Md_values 143 = .ok (.lconst 1, 1) := by decide +kernel
theorem d_Md_values_144 : decode b_Md_values 144 = .ok (.lcmp, 1) := by decide +kernel
theorem d_Md_values_145 : decode b_Md_values 145 = .ok (.ifCond .lt 11, 3) := by decide +kernel
theorem d_Md_values_148 : decode b_Md_values 148 = .ok (.lload_n 3, 1) := by decide +kernel
theorem d_Md_values_149 : decode b_Md_values 149 = .ok (.ldc2_w 167, 3) := by decide +kernel
theorem d_Md_values_152 : decode b_Md_values 152 = .ok (.lcmp, 1) := by decide +kernel
theorem d_Md_values_153 : decode b_Md_values 153 = .ok (.ifCond .le 9, 3) := by decide +kernel
theorem d_Md_values_156 : decode b_Md_values 156 = .ok (.sipush 256, 3) := by decide +kernel
theorem d_Md_values_159 : decode b_Md_values 159 = .ok (.goto 118, 3) := by decide +kernel
theorem d_Md_values_162 : decode b_Md_values 162 = .ok (.lload 5, 2) := by decide +kernel
theorem d_Md_values_164 : decode b_Md_values 164 = .ok (.lconst 1, 1) := by decide +kernel
theorem d_Md_values_165 : decode b_Md_values 165 = .ok (.lcmp, 1) := by decide +kernel
theorem d_Md_values_166 : decode b_Md_values 166 = .ok (.ifCond .lt 12, 3) := by decide +kernel
theorem d_Md_values_169 : decode b_Md_values 169 = .ok (.lload 5, 2) := by decide +kernel
theorem d_Md_values_171 : decode b_Md_values 171 = .ok (.ldc2_w 167, 3) := by decide +kernel
theorem d_Md_values_174 : decode b_Md_values 174 = .ok (.lcmp, 1) := by decide +kernel
theorem d_Md_values_175 : decode b_Md_values 175 = .ok (.ifCond .le 9, 3) := by decide +kernel
theorem d_Md_values_178 : decode b_Md_values 178 = .ok (.sipush 257, 3) := by decide +kernel
theorem d_Md_values_181 : decode b_Md_values 181 = .ok (.goto 96, 3) := by decide +kernel
theorem d_Md_values_184 : decode b_Md_values 184 = .ok (.lload 7, 2) := by decide +kernel
theorem d_Md_values_186 : decode b_Md_values 186 = .ok (.lconst 1, 1) := by decide +kernel
theorem d_Md_values_187 : decode b_Md_values 187 = .ok (.lcmp, 1) := by decide +kernel
theorem d_Md_values_188 : decode b_Md_values 188 = .ok (.ifCond .eq 18, 3) := by decide +kernel
theorem d_Md_values_191 : decode b_Md_values 191 = .ok (.lload 7, 2) := by decide +kernel
theorem d_Md_values_193 : decode b_Md_values 193 = .ok (.ldc2_w 151, 3) := by decide +kernel
theorem d_Md_values_196 : decode b_Md_values 196 = .ok (.lcmp, 1) := by decide +kernel
theorem d_Md_values_197 : decode b_Md_values 197 = .ok (.ifCond .eq 9, 3) := by decide +kernel
theorem d_Md_values_200 : decode b_Md_values 200 = .ok (.sipush 259, 3) := by decide +kernel
theorem d_Md_values_203 : decode b_Md_values 203 = .ok (.goto 74, 3) := by decide +kernel
theorem d_Md_values_206 : decode b_Md_values 206 = .ok (.lload 9, 2) := by decide +kernel
theorem d_Md_values_208 : decode b_Md_values 208 = .ok (.lconst 1, 1) := by decide +kernel
theorem d_Md_values_209 : decode b_Md_values 209 = .ok (.lcmp, 1) := by decide +kernel
theorem d_Md_values_210 : decode b_Md_values 210 = .ok (.ifCond .le 9, 3) := by decide +kernel
theorem d_Md_values_213 : decode b_Md_values 213 = .ok (.sipush 262, 3) := by decide +kernel
theorem d_Md_values_216 : decode b_Md_values 216 = .ok (.goto 61, 3) := by decide +kernel
theorem d_Md_values_219 : decode b_Md_values 219 = .ok (.lload 11, 2) := by decide +kernel
theorem d_Md_values_221 : decode b_Md_values 221 = .ok (.lconst 1, 1) := by decide +kernel
theorem d_Md_values_222 : decode b_Md_values 222 = .ok (.lcmp, 1) := by decide +kernel
theorem d_Md_values_223 : decode b_Md_values 223 = .ok (.ifCond .lt 12, 3) := by decide +kernel
theorem d_Md_values_226 : decode b_Md_values 226 = .ok (.lload 11, 2) := by decide +kernel
theorem d_Md_values_228 : decode b_Md_values 228 = .ok (.ldc2_w 165, 3) := by decide +kernel
theorem d_Md_values_231 : decode b_Md_values 231 = .ok (.lcmp, 1) := by decide +kernel
theorem d_Md_values_232 : decode b_Md_values 232 = .ok (.ifCond .le 9, 3) := by decide +kernel
theorem d_Md_values_235 : decode b_Md_values 235 = .ok (.sipush 266, 3) := by decide +kernel
theorem d_Md_values_238 : decode b_Md_values 238 = .ok (.goto 39, 3) := by decide +kernel
theorem d_Md_values_241 : decode b_Md_values 241 = .ok (.lload 13, 2) := by decide +kernel
theorem d_Md_values_243 : decode b_Md_values 243 = .ok (.lconst 0, 1) := by decide +kernel
theorem d_Md_values_244 : decode b_Md_values 244 = .ok (.lcmp, 1) := by decide +kernel
theorem d_Md_values_245 : decode b_Md_values 245 = .ok (.ifCond .ne 9, 3) := by decide +kernel
theorem d_Md_values_248 : decode b_Md_values 248 = .ok (.sipush 278, 3) := by decide +kernel
theorem d_Md_values_251 : decode b_Md_values 251 = .ok (.goto 26, 3) := by decide +kernel
theorem d_Md_values_254 : decode b_Md_values 254 = .ok (.lload 15, 2) := by decide +kernel
theorem d_Md_values_256 : decode b_Md_values 256 = .ok (.lconst 1, 1) := by decide +kernel
theorem d_Md_values_257 : decode b_Md_values 257 = .ok (.lcmp, 1) := by decide +kernel
theorem d_Md_values_258 : decode b_Md_values 258 = .ok (.ifCond .lt 12, 3) := by decide +kernel
theorem d_Md_values_261 : decode b_Md_values 261 = .ok (.lload 15, 2) := by decide +kernel
theorem d_Md_values_263 : decode b_Md_values 263 = .ok (.ldc2_w 169, 3) := by decide +kernel
theorem d_Md_values_266 : decode b_Md_values 266 = .ok (.lcmp, 1) := by decide +kernel
theorem d_Md_values_267 : decode b_Md_values 267 = .ok (.ifCond .le 9, 3) := by decide +kernel
theorem d_Md_values_270 : decode b_Md_values 270 = .ok (.sipush 296, 3) := by decide +kernel
theorem d_Md_values_273 : decode b_Md_values 273 = .ok (.goto 4, 3) := by decide +kernel
theorem d_Md_values_276 : decode b_Md_values 276 = .ok (.iconst 0, 1) := by decide +kernel
theorem d_Md_values_277 : decode b_Md_values 277 = .ok (.istore 17, 2) := by decide +kernel
theorem d_Md_values_279 : decode b_Md_values 279 = .ok (.iload 17, 2) := by decide +kernel
theorem d_Md_values_281 : decode b_Md_values 281 = .ok (.ifCond .le 8, 3) := by decide +kernel
theorem d_Md_values_284 : decode b_Md_values 284 = .ok (.iload 17, 2) := by decide +kernel
theorem d_Md_values_286 : decode b_Md_values 286 = .ok (.goto 42, 3) := by decide +kernel
theorem d_Md_values_289 : decode b_Md_values 289 = .ok (.aload_n 0, 1) := by decide +kernel
theorem d_Md_values_290 : decode b_Md_values 290 = .ok (.bipush 7, 2) := by decide +kernel
theorem d_Md_values_292 : decode b_Md_values 292 = .ok (.iconst 1, 1) := by decide +kernel
theorem d_Md_values_293 : decode b_Md_values 293 = .ok (.lconst 1, 1) := by decide +kernel
theorem d_Md_values_294 : decode b_Md_values 294 = .ok (.invokevirtual 161, 3) := by decide +kernel
theorem d_Md_values_297 : decode b_Md_values 297 = .ok (.lconst 0, 1) := by decide +kernel
theorem d_Md_values_298 : decode b_Md_values 298 = .ok (.lcmp, 1) := by decide +kernel
theorem d_Md_values_299 : decode b_Md_values 299 = .ok (.ifCond .ne 9, 3) := by decide +kernel
theorem d_Md_values_302 : decode b_Md_values 302 = .ok (.sipush 282, 3) := by decide +kernel
theorem d_Md_values_305 : decode b_Md_values 305 = .ok (.goto 23, 3) := by decide +kernel
theorem d_Md_values_308 : decode b_Md_values 308 = .ok (.aload_n 0, 1) := by decide +kernel
theorem d_Md_values_309 : decode b_Md_values 309 = .ok (.bipush 8, 2) := by decide +kernel
theorem d_Md_values_311 : decode b_Md_values 311 = .ok (.iconst 1, 1) := by decide +kernel
theorem d_Md_values_312 : decode b_Md_values 312 = .ok (.lconst 1, 1) := by decide +kernel
theorem d_Md_values_313 : decode b_Md_values 313 = .ok (.invokevirtual 161, 3) := by decide +kernel
theorem d_Md_values_316 : decode b_Md_values 316 = .ok (.lconst 0, 1) := by decide +kernel
theorem d_Md_values_317 : decode b_Md_values 317 = .ok (.lcmp, 1) := by decide +kernel
theorem d_Md_values_318 : decode b_Md_values 318 = .ok (.ifCond .ne 9, 3) := by decide +kernel
theorem d_Md_values_321 : decode b_Md_values 321 = .ok (.sipush 283, 3) := by decide +kernel
theorem d_Md_values_324 : decode b_Md_values 324 = .ok (.goto 4, 3) := by decide +kernel
theorem d_Md_values_327 : decode b_Md_values 327 = .ok (.iconst 0, 1) := by decide +kernel
theorem d_Md_values_328 : decode b_Md_values 328 = .ok (.istore 17, 2) := by decide +kernel
theorem d_Md_values_330 : decode b_Md_values 330 = .ok (.iload 17, 2) := by decide +kernel
theorem d_Md_values_332 : decode b_Md_values 332 = .ok (.ifCond .le 14, 3) := by decide +kernel
theorem d_Md_values_335 : decode b_Md_values 335 = .ok (.aload_n 0, 1) := by decide +kernel
theorem d_Md_values_336 : decode b_Md_values 336 = .ok (.bipush 7, 2) := by decide +kernel
theorem d_Md_values_338 : decode b_Md_values 338 = .ok (.iload_n 1, 1) := by decide +kernel
theorem d_Md_values_339 : decode b_Md_values 339 = .ok (.iload 17, 2) := by decide +kernel
theorem d_Md_values_341 : decode b_Md_values 341 = .ok (.iconst 0, 1) := by decide +kernel
theorem d_Md_values_342 : decode b_Md_values 342 = .ok (.invokevirtual 144, 3) := by decide +kernel
theorem d_Md_values_345 : decode b_Md_values 345 = .ok (.ireturn, 1) := by decide +kernel
theorem d_Md_values_346 : decode b_Md_values 346 = .ok (.lload 5, 2) := by decide +kernel
theorem d_Md_values_348 : decode b_Md_values 348 = .ok (.lload 13, 2) := by decide +kernel
theorem d_Md_values_350 : decode b_Md_values 350 = .ok (.ladd, 1) := by decide +kernel
theorem d_Md_values_351 : decode b_Md_values 351 = .ok (.lconst 1, 1) := by decide +kernel
theorem d_Md_values_352 : decode b_Md_values 352 = .ok (.lsub, 1) := by decide +kernel
theorem d_Md_values_353 : decode b_Md_values 353 = .ok (.lload 13, 2) := by decide +kernel
theorem d_Md_values_355 : decode b_Md_values 355 = .ok (.ldiv, 1) := by decide +kernel
theorem d_Md_values_356 : decode b_Md_values 356 = .ok (.lstore 18, 2) := by decide +kernel
theorem d_Md_values_358 : decode b_Md_values 358 = .ok (.bipush 9, 2) := by decide +kernel
theorem d_Md_values_360 : decode b_Md_values 360 = .ok (.istore 20, 2) := by decide +kernel
theorem d_Md_values_362 : decode b_Md_values 362 = .ok (.iload 20, 2) := by decide +kernel
theorem d_Md_values_364 : decode b_Md_values 364 = .ok (.bipush 11, 2) := by decide +kernel
theorem d_Md_values_366 : decode b_Md_values 366 = .ok (.if_icmp .ge 53, 3) := by decide +kernel
theorem d_Md_values_369 : decode b_Md_values 369 = .ok (.aload_n 0, 1) := by decide +kernel
theorem d_Md_values_370 : decode b_Md_values 370 = .ok (.aload_n 0, 1) := by decide +kernel
theorem d_Md_values_371 : decode b_Md_values 371 = .ok (.getfield 34, 3) := by decide +kernel
theorem d_Md_values_374 : decode b_Md_values 374 = .ok (.iload 20, 2) := by decide +kernel
theorem d_Md_values_376 : decode b_Md_values 376 = .ok (.iaload, 1) := by decide +kernel
theorem d_Md_values_377 : decode b_Md_values 377 = .ok (.iconst 4, 1) := by decide +kernel
theorem d_Md_values_378 : decode b_Md_values 378 = .ok (.iadd, 1) := by decide +kernel
theorem d_Md_values_379 : decode b_Md_values 379 = .ok (.invokevirtual 138, 3) := by decide +kernel
theorem d_Md_values_382 : decode b_Md_values 382 = .ok (.lload 18, 2) := by decide +kernel
theorem d_Md_values_384 : decode b_Md_values 384 = .ok (.lcmp, 1) := by decide +kernel
theorem d_Md_values_385 : decode b_Md_values 385 = .ok (.ifCond .eq 28, 3) := by decide +kernel
theorem d_Md_values_388 : decode b_Md_values 388 = .ok (.aload_n 0, 1) := by decide +kernel
theorem d_Md_values_389 : decode b_Md_values 389 = .ok (.bipush 8, 2) := by decide +kernel
theorem d_Md_values_391 : decode b_Md_values 391 = .ok (.iload_n 1, 1) := by decide +kernel
theorem d_Md_values_392 : decode b_Md_values 392 = .ok (.iload 20, 2) := by decide +kernel
theorem d_Md_values_394 : decode b_Md_values 394 = .ok (.bipush 9, 2) := by decide +kernel
theorem d_Md_values_396 : decode b_Md_values 396 = .ok (.if_icmp .ne 9, 3) := by decide +kernel
theorem d_Md_values_399 : decode b_Md_values 399 = .ok (.sipush 273, 3) := by decide +kernel
theorem d_Md_values_402 : decode b_Md_values 402 = .ok (.goto 6, 3) := by decide +kernel
theorem d_Md_values_405 : decode b_Md_values 405 = .ok (.sipush 279, 3) := by decide +kernel
theorem d_Md_values_408 : decode b_Md_values 408 = .ok (.iconst 0, 1) := by decide +kernel
theorem d_Md_values_409 : decode b_Md_values 409 = .ok (.invokevirtual 144, 3) := by decide +kernel
theorem d_Md_values_412 : decode b_Md_values 412 = .ok (.ireturn, 1) := by decide +kernel
theorem d_Md_values_413 : decode b_Md_values 413 = .ok (.iinc 20 1, 3) := by decide +kernel
theorem d_Md_values_416 : decode b_Md_values 416 = .ok (.goto (-54), 3) := by decide +kernel
theorem d_Md_values_419 : decode b_Md_values 419 = .ok (.aload_n 0, 1) := by decide +kernel
theorem d_Md_values_420 : decode b_Md_values 420 = .ok (.getfield 25, 3) := by decide +kernel
theorem d_Md_values_423 : decode b_Md_values 423 = .ok (.iload_n 1, 1) := by decide +kernel
theorem d_Md_values_424 : decode b_Md_values 424 = .ok (.iaload, 1) := by decide +kernel
theorem d_Md_values_425 : decode b_Md_values 425 = .ok (.i2l, 1) := by decide +kernel
theorem d_Md_values_426 : decode b_Md_values 426 = .ok (.lload 18, 2) := by decide +kernel
theorem d_Md_values_428 : decode b_Md_values 428 = .ok (.ladd, 1) := by decide +kernel
theorem d_Md_values_429 : decode b_Md_values 429 = .ok (.ldc2_w 171, 3) := by decide +kernel
theorem d_Md_values_432 : decode b_Md_values 432 = .ok (.lcmp, 1) := by decide +kernel
theorem d_Md_values_433 : decode b_Md_values 433 = .ok (.ifCond .le 15, 3) := by decide +kernel
theorem d_Md_values_436 : decode b_Md_values 436 = .ok (.aload_n 0, 1) := by decide +kernel
theorem d_Md_values_437 : decode b_Md_values 437 = .ok (.bipush 8, 2) := by decide +kernel
theorem d_Md_values_439 : decode b_Md_values 439 = .ok (.iload_n 1, 1) := by decide +kernel
theorem d_Md_values_440 : decode b_Md_values 440 = .ok (.sipush 278, 3) := by decide +kernel
theorem d_Md_values_443 : decode b_Md_values 443 = .ok (.iconst 0, 1) := by decide +kernel
theorem d_Md_values_444 : decode b_Md_values 444 = .ok (.invokevirtual 144, 3) := by decide +kernel
theorem d_Md_values_447 : decode b_Md_values 447 = .ok (.ireturn, 1) := by decide +kernel
theorem d_Md_values_448 : decode b_Md_values 448 = .ok (.bipush 13, 2) := by decide +kernel
theorem d_Md_values_450 : decode b_Md_values 450 = .ok (.iload_n 1, 1) := by decide +kernel
theorem d_Md_values_451 : decode b_Md_values 451 = .ok (.imul, 1) := by decide +kernel
theorem d_Md_values_452 : decode b_Md_values 452 = .ok (.istore 20, 2) := by decide +kernel
theorem d_Md_values_454 : decode b_Md_values 454 = .ok (.aload_n 0, 1) := by decide +kernel
theorem d_Md_values_455 : decode b_Md_values 455 = .ok (.getfield 21, 3) := by decide +kernel
theorem d_Md_values_458 : decode b_Md_values 458 = .ok (.iload 20, 2) := by decide +kernel
theorem d_Md_values_460 : decode b_Md_values 460 = .ok (.lload_n 3, 1) := by decide +kernel
theorem d_Md_values_461 : decode b_Md_values 461 = .ok (.lastore, 1) := by decide +kernel
theorem d_Md_values_462 : decode b_Md_values 462 = .ok (.aload_n 0, 1) := by decide +kernel
theorem d_Md_values_463 : decode b_Md_values 463 = .ok (.getfield 21, 3) := by decide +kernel
theorem d_Md_values_466 : decode b_Md_values 466 = .ok (.iload 20, 2) := by decide +kernel
theorem d_Md_values_468 : decode b_Md_values 468 = .ok (.iconst 1, 1) := by decide +kernel
theorem d_Md_values_469 : decode b_Md_values 469 = .ok (.iadd, 1) := by decide +kernel
theorem d_Md_values_470 : decode b_Md_values 470 = .ok (.lload 5, 2) := by decide +kernel
theorem d_Md_values_472 : decode b_Md_values 472 = .ok (.lastore, 1) := by decide +kernel
theorem d_Md_values_473 : decode b_Md_values 473 = .ok (.aload_n 0, 1) := by decide +kernel
theorem d_Md_values_474 : decode b_Md_values 474 = .ok (.getfield 21, 3) := by decide +kernel
theorem d_Md_values_477 : decode b_Md_values 477 = .ok (.iload 20, 2) := by decide +kernel
theorem d_Md_values_479 : decode b_Md_values 479 = .ok (.iconst 2, 1) := by decide +kernel
theorem d_Md_values_480 : decode b_Md_values 480 = .ok (.iadd, 1) := by decide +kernel
theorem d_Md_values_481 : decode b_Md_values 481 = .ok (.lload 7, 2) := by decide +kernel
theorem d_Md_values_483 : decode b_Md_values 483 = .ok (.lastore, 1) := by decide +kernel
theorem d_Md_values_484 : decode b_Md_values 484 = .ok (.aload_n 0, 1) := by decide +kernel
theorem d_Md_values_485 : decode b_Md_values 485 = .ok (.getfield 21, 3) := by decide +kernel
theorem d_Md_values_488 : decode b_Md_values 488 = .ok (.iload 20, 2) := by decide +kernel
theorem d_Md_values_490 : decode b_Md_values 490 = .ok (.iconst 3, 1) := by decide +kernel
theorem d_Md_values_491 : decode b_Md_values 491 = .ok (.iadd, 1) := by decide +kernel
theorem d_Md_values_492 : decode b_Md_values 492 = .ok (.lload 9, 2) := by decide +kernel
theorem d_Md_values_494 : decode b_Md_values 494 = .ok (.lastore, 1) := by decide +kernel
theorem d_Md_values_495 : decode b_Md_values 495 = .ok (.aload_n 0, 1) := by decide +kernel
theorem d_Md_values_496 : decode b_Md_values 496 = .ok (.getfield 21, 3) := by decide +kernel
theorem d_Md_values_499 : decode b_Md_values 499 = .ok (.iload 20, 2) := by decide +kernel
theorem d_Md_values_501 : decode b_Md_values 501 = .ok (.iconst 4, 1) := by decide +kernel
theorem d_Md_values_502 : decode b_Md_values 502 = .ok (.iadd, 1) := by decide +kernel
theorem d_Md_values_503 : decode b_Md_values 503 = .ok (.lload 11, 2) := by decide +kernel
theorem d_Md_values_505 : decode b_Md_values 505 = .ok (.lastore, 1) := by decide +kernel
theorem d_Md_values_506 : decode b_Md_values 506 = .ok (.aload_n 0, 1) := by decide +kernel
theorem d_Md_values_507 : decode b_Md_values 507 = .ok (.getfield 21, 3) := by decide +kernel
theorem d_Md_values_510 : decode b_Md_values 510 = .ok (.iload 20, 2) := by decide +kernel
theorem d_Md_values_512 : decode b_Md_values 512 = .ok (.iconst 5, 1) := by decide +kernel
theorem d_Md_values_513 : decode b_Md_values 513 = .ok (.iadd, 1) := by decide +kernel
theorem d_Md_values_514 : decode b_Md_values 514 = .ok (.lload 13, 2) := by decide +kernel
theorem d_Md_values_516 : decode b_Md_values 516 = .ok (.lload 5, 2) := by decide +kernel
theorem d_Md_values_518 : decode b_Md_values 518 = .ok (.lcmp, 1) := by decide +kernel
theorem d_Md_values_519 : decode b_Md_values 519 = .ok (.ifCond .ge 8, 3) := by decide +kernel
theorem d_Md_values_522 : decode b_Md_values 522 = .ok (.lload 13, 2) := by decide +kernel
theorem d_Md_values_524 : decode b_Md_values 524 = .ok (.goto 5, 3) := by decide +kernel
theorem d_Md_values_527 : decode b_Md_values 527 = .ok (.lload 5, 2) := by decide +kernel
theorem d_Md_values_529 : decode b_Md_values 529 = .ok (.lastore, 1) := by decide +kernel
theorem d_Md_values_530 : decode b_Md_values 530 = .ok (.aload_n 0, 1) := by decide +kernel
theorem d_Md_values_531 : decode b_Md_values 531 = .ok (.getfield 21, 3) := by decide +kernel
theorem d_Md_values_534 : decode b_Md_values 534 = .ok (.iload 20, 2) := by decide +kernel
theorem d_Md_values_536 : decode b_Md_values 536 = .ok (.bipush 6, 2) := by decide +kernel
theorem d_Md_values_538 : decode b_Md_values 538 = .ok (.iadd, 1) := by decide +kernel
theorem d_Md_values_539 : decode b_Md_values 539 = .ok (.lload 18, 2) := by decide +kernel
theorem d_Md_values_541 : decode b_Md_values 541 = .ok (.lastore, 1) := by decide +kernel
theorem d_Md_values_542 : decode b_Md_values 542 = .ok (.aload_n 0, 1) := by decide +kernel
theorem d_Md_values_543 : decode b_Md_values 543 = .ok (.getfield 21, 3) := by decide +kernel
theorem d_Md_values_546 : decode b_Md_values 546 = .ok (.iload 20, 2) := by decide +kernel
theorem d_Md_values_548 : decode b_Md_values 548 = .ok (.bipush 7, 2) := by decide +kernel
theorem d_Md_values_550 : decode b_Md_values 550 = .ok (.iadd, 1) := by decide +kernel
theorem d_Md_values_551 : decode b_Md_values 551 = .ok (.lload 15, 2) := by decide +kernel
theorem d_Md_values_553 : decode b_Md_values 553 = .ok (.lastore, 1) := by decide +kernel
theorem d_Md_values_554 : decode b_Md_values 554 = .ok (.aload_n 0, 1) := by decide +kernel
theorem d_Md_values_555 : decode b_Md_values 555 = .ok (.getfield 21, 3) := by decide +kernel
theorem d_Md_values_558 : decode b_Md_values 558 = .ok (.iload 20, 2) := by decide +kernel
theorem d_Md_values_560 : decode b_Md_values 560 = .ok (.bipush 8, 2) := by decide +kernel
theorem d_Md_values_562 : decode b_Md_values 562 = .ok (.iadd, 1) := by decide +kernel
theorem d_Md_values_563 : decode b_Md_values 563 = .ok (.aload_n 0, 1) := by decide +kernel
theorem d_Md_values_564 : decode b_Md_values 564 = .ok (.bipush 7, 2) := by decide +kernel
theorem d_Md_values_566 : decode b_Md_values 566 = .ok (.iconst 0, 1) := by decide +kernel
theorem d_Md_values_567 : decode b_Md_values 567 = .ok (.ldc2_w 173, 3) := by decide +kernel
theorem d_Md_values_570 : decode b_Md_values 570 = .ok (.invokevirtual 161, 3) := by decide +kernel
theorem d_Md_values_573 : decode b_Md_values 573 = .ok (.lastore, 1) := by decide +kernel
theorem d_Md_values_574 : decode b_Md_values 574 = .ok (.aload_n 0, 1) := by decide +kernel
theorem d_Md_values_575 : decode b_Md_values 575 = .ok (.getfield 21, 3) := by decide +kernel
theorem d_Md_values_578 : decode b_Md_values 578 = .ok (.iload 20, 2) := by decide +kernel
theorem d_Md_values_580 : decode b_Md_values 580 = .ok (.bipush 9, 2) := by decide +kernel
theorem d_Md_values_582 : decode b_Md_values 582 = .ok (.iadd, 1) := by decide +kernel
theorem d_Md_values_583 : decode b_Md_values 583 = .ok (.aload_n 0, 1) := by decide +kernel
theorem d_Md_values_584 : decode b_Md_values 584 = .ok (.bipush 7, 2) := by decide +kernel
theorem d_Md_values_586 : decode b_Md_values 586 = .ok (.iconst 1, 1) := by decide +kernel
theorem d_Md_values_587 : decode b_Md_values 587 = .ok (.lconst 1, 1) := by decide +kernel
theorem d_Md_values_588 : decode b_Md_values 588 = .ok (.invokevirtual 161, 3) := by decide +kernel
theorem d_Md_values_591 : decode b_Md_values 591 = .ok (.lastore, 1) := by decide +kernel
theorem d_Md_values_592 : decode b_Md_values 592 = .ok (.aload_n 0, 1) := by decide +kernel
theorem d_Md_values_593 : decode b_Md_values 593 = .ok (.getfield 21, 3) := by decide +kernel
theorem d_Md_values_596 : decode b_Md_values 596 = .ok (.iload 20, 2) := by decide +kernel
theorem d_Md_values_598 : decode b_Md_values 598 = .ok (.bipush 10, 2) := by decide +kernel
theorem d_Md_values_600 : decode b_Md_values 600 = .ok (.iadd, 1) := by decide +kernel
theorem d_Md_values_601 : decode b_Md_values 601 = .ok (.aload_n 0, 1) := by decide +kernel
theorem d_Md_values_602 : decode b_Md_values 602 = .ok (.bipush 8, 2) := by decide +kernel
theorem d_Md_values_604 : decode b_Md_values 604 = .ok (.iconst 0, 1) := by decide +kernel
theorem d_Md_values_605 : decode b_Md_values 605 = .ok (.ldc2_w 173, 3) := by decide +kernel
theorem d_Md_values_608 : decode b_Md_values 608 = .ok (.invokevirtual 161, 3) := by decide +kernel
theorem d_Md_values_611 : decode b_Md_values 611 = .ok (.lastore, 1) := by decide +kernel
theorem d_Md_values_612 : decode b_Md_values 612 = .ok (.aload_n 0, 1) := by decide +kernel
theorem d_Md_values_613 : decode b_Md_values 613 = .ok (.getfield 21, 3) := by decide +kernel
theorem d_Md_values_616 : decode b_Md_values 616 = .ok (.iload 20, 2) := by decide +kernel
theorem d_Md_values_618 : decode b_Md_values 618 = .ok (.bipush 11, 2) := by decide +kernel
theorem d_Md_values_620 : decode b_Md_values 620 = .ok (.iadd, 1) := by decide +kernel
theorem d_Md_values_621 : decode b_Md_values 621 = .ok (.aload_n 0, 1) := by decide +kernel
theorem d_Md_values_622 : decode b_Md_values 622 = .ok (.bipush 8, 2) := by decide +kernel
theorem d_Md_values_624 : decode b_Md_values 624 = .ok (.iconst 1, 1) := by decide +kernel
theorem d_Md_values_625 : decode b_Md_values 625 = .ok (.lconst 1, 1) := by decide +kernel
theorem d_Md_values_626 : decode b_Md_values 626 = .ok (.invokevirtual 161, 3) := by decide +kernel
theorem d_Md_values_629 : decode b_Md_values 629 = .ok (.lastore, 1) := by decide +kernel
theorem d_Md_values_630 : decode b_Md_values 630 = .ok (.aload_n 0, 1) := by decide +kernel
theorem d_Md_values_631 : decode b_Md_values 631 = .ok (.iload_n 1, 1) := by decide +kernel
theorem d_Md_values_632 : decode b_Md_values 632 = .ok (.lload 18, 2) := by decide +kernel
theorem d_Md_values_634 : decode b_Md_values 634 = .ok (.l2i, 1) := by decide +kernel
theorem d_Md_values_635 : decode b_Md_values 635 = .ok (.invokevirtual 175, 3) := by decide +kernel
theorem d_Md_values_638 : decode b_Md_values 638 = .ok (.ireturn, 1) := by decide +kernel
theorem d_Md_lies_0 : decode b_Md_lies 0 = .ok (.lload_n 1, 1) := by decide +kernel
theorem d_Md_lies_1 : decode b_Md_lies 1 = .ok (.ldc2_w 179, 3) := by decide +kernel
theorem d_Md_lies_4 : decode b_Md_lies 4 = .ok (.lcmp, 1) := by decide +kernel
theorem d_Md_lies_5 : decode b_Md_lies 5 = .ok (.ifCond .lt 27, 3) := by decide +kernel
theorem d_Md_lies_8 : decode b_Md_lies 8 = .ok (.lload_n 1, 1) := by decide +kernel
theorem d_Md_lies_9 : decode b_Md_lies 9 = .ok (.ldc2_w 165, 3) := by decide +kernel
theorem d_Md_lies_12 : decode b_Md_lies 12 = .ok (.lrem, 1) := by decide +kernel
theorem d_Md_lies_13 : decode b_Md_lies 13 = .ok (.lconst 1, 1) := by decide +kernel
theorem d_Md_lies_14 : decode b_Md_lies 14 = .ok (.lcmp, 1) := by decide +kernel
theorem d_Md_lies_15 : decode b_Md_lies 15 = .ok (.ifCond .eq 17, 3) := by decide +kernel
theorem d_Md_lies_18 : decode b_Md_lies 18 = .ok (.lload_n 1, 1) := by decide +kernel
theorem d_Md_lies_19 : decode b_Md_lies 19 = .ok (.ldc2_w 165, 3) := by decide +kernel
theorem d_Md_lies_22 : decode b_Md_lies 22 = .ok (.ladd, 1) := by decide +kernel
theorem d_Md_lies_23 : decode b_Md_lies 23 = .ok (.aload_n 0, 1) := by decide +kernel
theorem d_Md_lies_24 : decode b_Md_lies 24 = .ok (.getfield 41, 3) := by decide +kernel
theorem d_Md_lies_27 : decode b_Md_lies 27 = .ok (.i2l, 1) := by decide +kernel
theorem d_Md_lies_28 : decode b_Md_lies 28 = .ok (.lcmp, 1) := by decide +kernel
