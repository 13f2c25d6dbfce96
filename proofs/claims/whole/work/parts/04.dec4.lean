theorem d_Md_page_128 : decode b_Md_page 128 = .ok (.ifCond .le 5, 3) := by decide +kernel
theorem d_Md_page_131 : decode b_Md_page 131 = .ok (.iconst 0, 1) := by decide +kernel
theorem d_Md_page_132 : decode b_Md_page 132 = .ok (.ireturn, 1) := by decide +kernel
theorem d_Md_page_133 : decode b_Md_page 133 = .ok (.iload_n 2, 1) := by decide +kernel
theorem d_Md_page_134 : decode b_Md_page 134 = .ok (.iload_n 3, 1) := by decide +kernel
theorem d_Md_page_135 : decode b_Md_page 135 = .ok (.iadd, 1) := by decide +kernel
theorem d_Md_page_136 : decode b_Md_page 136 = .ok (.iconst 1, 1) := by decide +kernel
theorem d_Md_page_137 : decode b_Md_page 137 = .ok (.isub, 1) := by decide +kernel
theorem d_Md_page_138 : decode b_Md_page 138 = .ok (.iload_n 3, 1) := by decide +kernel
theorem d_Md_page_139 : decode b_Md_page 139 = .ok (.idiv, 1) := by decide +kernel
theorem d_Md_page_140 : decode b_Md_page 140 = .ok (.istore 7, 2) := by decide +kernel
theorem d_Md_page_142 : decode b_Md_page 142 = .ok (.aload_n 0, 1) := by decide +kernel
theorem d_Md_page_143 : decode b_Md_page 143 = .ok (.iload 7, 2) := by decide +kernel
theorem d_Md_page_145 : decode b_Md_page 145 = .ok (.sipush 512, 3) := by decide +kernel
theorem d_Md_page_148 : decode b_Md_page 148 = .ok (.if_icmp .le 7, 3) := by decide +kernel
theorem d_Md_page_151 : decode b_Md_page 151 = .ok (.iconst 2, 1) := by decide +kernel
theorem d_Md_page_152 : decode b_Md_page 152 = .ok (.goto 4, 3) := by decide +kernel
theorem d_Md_page_155 : decode b_Md_page 155 = .ok (.iconst 0, 1) := by decide +kernel
theorem d_Md_page_156 : decode b_Md_page 156 = .ok (.putfield 37, 3) := by decide +kernel
theorem d_Md_page_159 : decode b_Md_page 159 = .ok (.aload_n 0, 1) := by decide +kernel
theorem d_Md_page_160 : decode b_Md_page 160 = .ok (.getfield 37, 3) := by decide +kernel
theorem d_Md_page_163 : decode b_Md_page 163 = .ok (.ifCond .le 5, 3) := by decide +kernel
theorem d_Md_page_166 : decode b_Md_page 166 = .ok (.iconst 0, 1) := by decide +kernel
theorem d_Md_page_167 : decode b_Md_page 167 = .ok (.ireturn, 1) := by decide +kernel
theorem d_Md_page_168 : decode b_Md_page 168 = .ok (.aload_n 0, 1) := by decide +kernel
theorem d_Md_page_169 : decode b_Md_page 169 = .ok (.iload_n 1, 1) := by decide +kernel
theorem d_Md_page_170 : decode b_Md_page 170 = .ok (.putfield 76, 3) := by decide +kernel
theorem d_Md_page_173 : decode b_Md_page 173 = .ok (.aload_n 0, 1) := by decide +kernel
theorem d_Md_page_174 : decode b_Md_page 174 = .ok (.iload_n 2, 1) := by decide +kernel
theorem d_Md_page_175 : decode b_Md_page 175 = .ok (.putfield 79, 3) := by decide +kernel
theorem d_Md_page_178 : decode b_Md_page 178 = .ok (.aload_n 0, 1) := by decide +kernel
theorem d_Md_page_179 : decode b_Md_page 179 = .ok (.iload_n 3, 1) := by decide +kernel
theorem d_Md_page_180 : decode b_Md_page 180 = .ok (.putfield 82, 3) := by decide +kernel
theorem d_Md_page_183 : decode b_Md_page 183 = .ok (.aload_n 0, 1) := by decide +kernel
theorem d_Md_page_184 : decode b_Md_page 184 = .ok (.iload 4, 2) := by decide +kernel
theorem d_Md_page_186 : decode b_Md_page 186 = .ok (.putfield 85, 3) := by decide +kernel
theorem d_Md_page_189 : decode b_Md_page 189 = .ok (.aload_n 0, 1) := by decide +kernel
theorem d_Md_page_190 : decode b_Md_page 190 = .ok (.iload 5, 2) := by decide +kernel
theorem d_Md_page_192 : decode b_Md_page 192 = .ok (.putfield 88, 3) := by decide +kernel
theorem d_Md_page_195 : decode b_Md_page 195 = .ok (.aload_n 0, 1) := by decide +kernel
theorem d_Md_page_196 : decode b_Md_page 196 = .ok (.iload 7, 2) := by decide +kernel
theorem d_Md_page_198 : decode b_Md_page 198 = .ok (.putfield 91, 3) := by decide +kernel
theorem d_Md_page_201 : decode b_Md_page 201 = .ok (.aload_n 0, 1) := by decide +kernel
theorem d_Md_page_202 : decode b_Md_page 202 = .ok (.iconst 0, 1) := by decide +kernel
theorem d_Md_page_203 : decode b_Md_page 203 = .ok (.putfield 94, 3) := by decide +kernel
theorem d_Md_page_206 : decode b_Md_page 206 = .ok (.aload_n 0, 1) := by decide +kernel
theorem d_Md_page_207 : decode b_Md_page 207 = .ok (.iconst 0, 1) := by decide +kernel
theorem d_Md_page_208 : decode b_Md_page 208 = .ok (.putfield 97, 3) := by decide +kernel
theorem d_Md_page_211 : decode b_Md_page 211 = .ok (.aload_n 0, 1) := by decide +kernel
theorem d_Md_page_212 : decode b_Md_page 212 = .ok (.iconst 1, 1) := by decide +kernel
theorem d_Md_page_213 : decode b_Md_page 213 = .ok (.putfield 67, 3) := by decide +kernel
theorem d_Md_page_216 : decode b_Md_page 216 = .ok (.iload 7, 2) := by decide +kernel
theorem d_Md_page_218 : decode b_Md_page 218 = .ok (.ireturn, 1) := by decide +kernel
theorem d_Md_start_0 : decode b_Md_start 0 = .ok (.aload_n 0, 1) := by decide +kernel
theorem d_Md_start_1 : decode b_Md_start 1 = .ok (.getfield 41, 3) := by decide +kernel
theorem d_Md_start_4 : decode b_Md_start 4 = .ok (.iconst 2, 1) := by decide +kernel
theorem d_Md_start_5 : decode b_Md_start 5 = .ok (.irem, 1) := by decide +kernel
theorem d_Md_start_6 : decode b_Md_start 6 = .ok (.iconst 1, 1) := by decide +kernel
theorem d_Md_start_7 : decode b_Md_start 7 = .ok (.if_icmp .ne 8, 3) := by decide +kernel
theorem d_Md_start_10 : decode b_Md_start 10 = .ok (.aload_n 0, 1) := by decide +kernel
theorem d_Md_start_11 : decode b_Md_start 11 = .ok (.iconst 0, 1) := by decide +kernel
theorem d_Md_start_12 : decode b_Md_start 12 = .ok (.invokevirtual 50, 3) := by decide +kernel
theorem d_Md_start_15 : decode b_Md_start 15 = .ok (.aload_n 0, 1) := by decide +kernel
theorem d_Md_start_16 : decode b_Md_start 16 = .ok (.aload_n 0, 1) := by decide +kernel
theorem d_Md_start_17 : decode b_Md_start 17 = .ok (.getfield 41, 3) := by decide +kernel
theorem d_Md_start_20 : decode b_Md_start 20 = .ok (.putfield 100, 3) := by decide +kernel
theorem d_Md_start_23 : decode b_Md_start 23 = .ok (.return_, 1) := by decide +kernel
theorem d_Md_give_0 : decode b_Md_give 0 = .ok (.aload_n 0, 1) := by decide +kernel
theorem d_Md_give_1 : decode b_Md_give 1 = .ok (.iconst 0, 1) := by decide +kernel
theorem d_Md_give_2 : decode b_Md_give 2 = .ok (.putfield 37, 3) := by decide +kernel
theorem d_Md_give_5 : decode b_Md_give 5 = .ok (.aload_n 0, 1) := by decide +kernel
theorem d_Md_give_6 : decode b_Md_give 6 = .ok (.getfield 44, 3) := by decide +kernel
theorem d_Md_give_9 : decode b_Md_give 9 = .ok (.ifCond .ne 25, 3) := by decide +kernel
theorem d_Md_give_12 : decode b_Md_give 12 = .ok (.iload_n 3, 1) := by decide +kernel
theorem d_Md_give_13 : decode b_Md_give 13 = .ok (.iconst 1, 1) := by decide +kernel
theorem d_Md_give_14 : decode b_Md_give 14 = .ok (.if_icmp .lt 20, 3) := by decide +kernel
theorem d_Md_give_17 : decode b_Md_give 17 = .ok (.iload_n 3, 1) := by decide +kernel
theorem d_Md_give_18 : decode b_Md_give 18 = .ok (.bipush 8, 2) := by decide +kernel
theorem d_Md_give_20 : decode b_Md_give 20 = .ok (.if_icmp .gt 14, 3) := by decide +kernel
theorem d_Md_give_23 : decode b_Md_give 23 = .ok (.aload_n 0, 1) := by decide +kernel
theorem d_Md_give_24 : decode b_Md_give 24 = .ok (.getfield 41, 3) := by decide +kernel
theorem d_Md_give_27 : decode b_Md_give 27 = .ok (.iload_n 3, 1) := by decide +kernel
theorem d_Md_give_28 : decode b_Md_give 28 = .ok (.iadd, 1) := by decide +kernel
theorem d_Md_give_29 : decode b_Md_give 29 = .ok (.ldc 7, 2) := by decide +kernel
theorem d_Md_give_31 : decode b_Md_give 31 = .ok (.if_icmp .le 5, 3) := by decide +kernel
theorem d_Md_give_34 : decode b_Md_give 34 = .ok (.iconst 0, 1) := by decide +kernel
theorem d_Md_give_35 : decode b_Md_give 35 = .ok (.ireturn, 1) := by decide +kernel
theorem d_Md_give_36 : decode b_Md_give 36 = .ok (.iload_n 3, 1) := by decide +kernel
theorem d_Md_give_37 : decode b_Md_give 37 = .ok (.iconst 1, 1) := by decide +kernel
theorem d_Md_give_38 : decode b_Md_give 38 = .ok (.isub, 1) := by decide +kernel
theorem d_Md_give_39 : decode b_Md_give 39 = .ok (.istore 4, 2) := by decide +kernel
theorem d_Md_give_41 : decode b_Md_give 41 = .ok (.iload 4, 2) := by decide +kernel
theorem d_Md_give_43 : decode b_Md_give 43 = .ok (.ifCond .lt 25, 3) := by decide +kernel
theorem d_Md_give_46 : decode b_Md_give 46 = .ok (.aload_n 0, 1) := by decide +kernel
theorem d_Md_give_47 : decode b_Md_give 47 = .ok (.lload_n 1, 1) := by decide +kernel
theorem d_Md_give_48 : decode b_Md_give 48 = .ok (.bipush 8, 2) := by decide +kernel
theorem d_Md_give_50 : decode b_Md_give 50 = .ok (.iload 4, 2) := by decide +kernel
theorem d_Md_give_52 : decode b_Md_give 52 = .ok (.imul, 1) := by decide +kernel
theorem d_Md_give_53 : decode b_Md_give 53 = .ok (.lshr, 1) := by decide +kernel
theorem d_Md_give_54 : decode b_Md_give 54 = .ok (.ldc2_w 48, 3) := by decide +kernel
theorem d_Md_give_57 : decode b_Md_give 57 = .ok (.land, 1) := by decide +kernel
theorem d_Md_give_58 : decode b_Md_give 58 = .ok (.l2i, 1) := by decide +kernel
theorem d_Md_give_59 : decode b_Md_give 59 = .ok (.invokevirtual 50, 3) := by decide +kernel
theorem d_Md_give_62 : decode b_Md_give 62 = .ok (.iinc 4 (-1), 3) := by decide +kernel
theorem d_Md_give_65 : decode b_Md_give 65 = .ok (.goto (-24), 3) := by decide +kernel
theorem d_Md_give_68 : decode b_Md_give 68 = .ok (.iconst 1, 1) := by decide +kernel
theorem d_Md_give_69 : decode b_Md_give 69 = .ok (.ireturn, 1) := by decide +kernel
theorem d_Md_poke_0 : decode b_Md_poke 0 = .ok (.aload_n 0, 1) := by decide +kernel
theorem d_Md_poke_1 : decode b_Md_poke 1 = .ok (.iconst 0, 1) := by decide +kernel
theorem d_Md_poke_2 : decode b_Md_poke 2 = .ok (.putfield 37, 3) := by decide +kernel
theorem d_Md_poke_5 : decode b_Md_poke 5 = .ok (.aload_n 0, 1) := by decide +kernel
theorem d_Md_poke_6 : decode b_Md_poke 6 = .ok (.getfield 44, 3) := by decide +kernel
theorem d_Md_poke_9 : decode b_Md_poke 9 = .ok (.ifCond .ne 15, 3) := by decide +kernel
theorem d_Md_poke_12 : decode b_Md_poke 12 = .ok (.iload_n 1, 1) := by decide +kernel
theorem d_Md_poke_13 : decode b_Md_poke 13 = .ok (.ifCond .lt 11, 3) := by decide +kernel
theorem d_Md_poke_16 : decode b_Md_poke 16 = .ok (.iload_n 1, 1) := by decide +kernel
theorem d_Md_poke_17 : decode b_Md_poke 17 = .ok (.aload_n 0, 1) := by decide +kernel
theorem d_Md_poke_18 : decode b_Md_poke 18 = .ok (.getfield 41, 3) := by decide +kernel
theorem d_Md_poke_21 : decode b_Md_poke 21 = .ok (.if_icmp .lt 5, 3) := by decide +kernel
theorem d_Md_poke_24 : decode b_Md_poke 24 = .ok (.iconst 0, 1) := by decide +kernel
theorem d_Md_poke_25 : decode b_Md_poke 25 = .ok (.ireturn, 1) := by decide +kernel
theorem d_Md_poke_26 : decode b_Md_poke 26 = .ok (.aload_n 0, 1) := by decide +kernel
theorem d_Md_poke_27 : decode b_Md_poke 27 = .ok (.getfield 8, 3) := by decide +kernel
theorem d_Md_poke_30 : decode b_Md_poke 30 = .ok (.iload_n 1, 1) := by decide +kernel
theorem d_Md_poke_31 : decode b_Md_poke 31 = .ok (.iload_n 2, 1) := by decide +kernel
theorem d_Md_poke_32 : decode b_Md_poke 32 = .ok (.i2b, 1) := by decide +kernel
theorem d_Md_poke_33 : decode b_Md_poke 33 = .ok (.bastore, 1) := by decide +kernel
theorem d_Md_poke_34 : decode b_Md_poke 34 = .ok (.iconst 1, 1) := by decide +kernel
theorem d_Md_poke_35 : decode b_Md_poke 35 = .ok (.ireturn, 1) := by decide +kernel
theorem d_Md_cut_0 : decode b_Md_cut 0 = .ok (.aload_n 0, 1) := by decide +kernel
theorem d_Md_cut_1 : decode b_Md_cut 1 = .ok (.iconst 0, 1) := by decide +kernel
theorem d_Md_cut_2 : decode b_Md_cut 2 = .ok (.putfield 37, 3) := by decide +kernel
theorem d_Md_cut_5 : decode b_Md_cut 5 = .ok (.aload_n 0, 1) := by decide +kernel
theorem d_Md_cut_6 : decode b_Md_cut 6 = .ok (.getfield 44, 3) := by decide +kernel
theorem d_Md_cut_9 : decode b_Md_cut 9 = .ok (.ifCond .ne 15, 3) := by decide +kernel
theorem d_Md_cut_12 : decode b_Md_cut 12 = .ok (.iload_n 1, 1) := by decide +kernel
theorem d_Md_cut_13 : decode b_Md_cut 13 = .ok (.ifCond .lt 11, 3) := by decide +kernel
theorem d_Md_cut_16 : decode b_Md_cut 16 = .ok (.iload_n 1, 1) := by decide +kernel
theorem d_Md_cut_17 : decode b_Md_cut 17 = .ok (.aload_n 0, 1) := by decide +kernel
theorem d_Md_cut_18 : decode b_Md_cut 18 = .ok (.getfield 41, 3) := by decide +kernel
theorem d_Md_cut_21 : decode b_Md_cut 21 = .ok (.if_icmp .le 5, 3) := by decide +kernel
theorem d_Md_cut_24 : decode b_Md_cut 24 = .ok (.iconst 0, 1) := by decide +kernel
theorem d_Md_cut_25 : decode b_Md_cut 25 = .ok (.ireturn, 1) := by decide +kernel
theorem d_Md_cut_26 : decode b_Md_cut 26 = .ok (.aload_n 0, 1) := by decide +kernel
theorem d_Md_cut_27 : decode b_Md_cut 27 = .ok (.iload_n 1, 1) := by decide +kernel
theorem d_Md_cut_28 : decode b_Md_cut 28 = .ok (.putfield 41, 3) := by decide +kernel
theorem d_Md_cut_31 : decode b_Md_cut 31 = .ok (.iconst 1, 1) := by decide +kernel
theorem d_Md_cut_32 : decode b_Md_cut 32 = .ok (.ireturn, 1) := by decide +kernel
theorem d_Md_bytes_0 : decode b_Md_bytes 0 = .ok (.aload_n 0, 1) := by decide +kernel
theorem d_Md_bytes_1 : decode b_Md_bytes 1 = .ok (.iconst 0, 1) := by decide +kernel
theorem d_Md_bytes_2 : decode b_Md_bytes 2 = .ok (.putfield 37, 3) := by decide +kernel
theorem d_Md_bytes_5 : decode b_Md_bytes 5 = .ok (.lconst 0, 1) := by decide +kernel
theorem d_Md_bytes_6 : decode b_Md_bytes 6 = .ok (.lstore_n 2, 1) := by decide +kernel
theorem d_Md_bytes_7 : decode b_Md_bytes 7 = .ok (.iconst 0, 1) := by decide +kernel
theorem d_Md_bytes_8 : decode b_Md_bytes 8 = .ok (.istore 4, 2) := by decide +kernel
theorem d_Md_bytes_10 : decode b_Md_bytes 10 = .ok (.iload 4, 2) := by decide +kernel
theorem d_Md_bytes_12 : decode b_Md_bytes 12 = .ok (.bipush 8, 2) := by decide +kernel
theorem d_Md_bytes_14 : decode b_Md_bytes 14 = .ok (.if_icmp .ge 77, 3) := by decide +kernel
theorem d_Md_bytes_17 : decode b_Md_bytes 17 = .ok (.iload_n 1, 1) := by decide +kernel
theorem d_Md_bytes_18 : decode b_Md_bytes 18 = .ok (.ifCond .lt 28, 3) := by decide +kernel
theorem d_Md_bytes_21 : decode b_Md_bytes 21 = .ok (.iload_n 1, 1) := by decide +kernel
theorem d_Md_bytes_22 : decode b_Md_bytes 22 = .ok (.sipush 8192, 3) := by decide +kernel
theorem d_Md_bytes_25 : decode b_Md_bytes 25 = .ok (.if_icmp .ge 21, 3) := by decide +kernel
theorem d_Md_bytes_28 : decode b_Md_bytes 28 = .ok (.bipush 8, 2) := by decide +kernel
theorem d_Md_bytes_30 : decode b_Md_bytes 30 = .ok (.iload_n 1, 1) := by decide +kernel
theorem d_Md_bytes_31 : decode b_Md_bytes 31 = .ok (.imul, 1) := by decide +kernel
theorem d_Md_bytes_32 : decode b_Md_bytes 32 = .ok (.iload 4, 2) := by decide +kernel
theorem d_Md_bytes_34 : decode b_Md_bytes 34 = .ok (.iadd, 1) := by decide +kernel
theorem d_Md_bytes_35 : decode b_Md_bytes 35 = .ok (.aload_n 0, 1) := by decide +kernel
theorem d_Md_bytes_36 : decode b_Md_bytes 36 = .ok (.getfield 41, 3) := by decide +kernel
theorem d_Md_bytes_39 : decode b_Md_bytes 39 = .ok (.if_icmp .ge 7, 3) := by decide +kernel
theorem d_Md_bytes_42 : decode b_Md_bytes 42 = .ok (.iconst 1, 1) := by decide +kernel
theorem d_Md_bytes_43 : decode b_Md_bytes 43 = .ok (.goto 4, 3) := by decide +kernel
theorem d_Md_bytes_46 : decode b_Md_bytes 46 = .ok (.iconst 0, 1) := by decide +kernel
theorem d_Md_bytes_47 : decode b_Md_bytes 47 = .ok (.istore 5, 2) := by decide +kernel
theorem d_Md_bytes_49 : decode b_Md_bytes 49 = .ok (.lload_n 2, 1) := by decide +kernel
theorem d_Md_bytes_50 : decode b_Md_bytes 50 = .ok (.bipush 8, 2) := by decide +kernel
theorem d_Md_bytes_52 : decode b_Md_bytes 52 = .ok (.lshl, 1) := by decide +kernel
theorem d_Md_bytes_53 : decode b_Md_bytes 53 = .ok (.iload 5, 2) := by decide +kernel
theorem d_Md_bytes_55 : decode b_Md_bytes 55 = .ok (.ifCond .eq 26, 3) := by decide +kernel
theorem d_Md_bytes_58 : decode b_Md_bytes 58 = .ok (.aload_n 0, 1) := by decide +kernel
theorem d_Md_bytes_59 : decode b_Md_bytes 59 = .ok (.iload 5, 2) := by decide +kernel
theorem d_Md_bytes_61 : decode b_Md_bytes 61 = .ok (.ifCond .eq 13, 3) := by decide +kernel
theorem d_Md_bytes_64 : decode b_Md_bytes 64 = .ok (.bipush 8, 2) := by decide +kernel
theorem d_Md_bytes_66 : decode b_Md_bytes 66 = .ok (.iload_n 1, 1) := by decide +kernel
theorem d_Md_bytes_67 : decode b_Md_bytes 67 = .ok (.imul, 1) := by decide +kernel
theorem d_Md_bytes_68 : decode b_Md_bytes 68 = .ok (.iload 4, 2) := by decide +kernel
theorem d_Md_bytes_70 : decode b_Md_bytes 70 = .ok (.iadd, 1) := by decide +kernel
theorem d_Md_bytes_71 : decode b_Md_bytes 71 = .ok (.goto 4, 3) := by decide +kernel
theorem d_Md_bytes_75 : decode b_Md_bytes 75 = .ok (.invokevirtual 54, 3) := by decide +kernel
theorem d_Md_bytes_78 : decode b_Md_bytes 78 = .ok (.goto 4, 3) := by decide +kernel
theorem d_Md_bytes_81 : decode b_Md_bytes 81 = .ok (.iconst 0, 1) := by decide +kernel
theorem d_Md_bytes_82 : decode b_Md_bytes 82 = .ok (.i2l, 1) := by decide +kernel
theorem d_Md_bytes_83 : decode b_Md_bytes 83 = .ok (.lor, 1) := by decide +kernel
theorem d_Md_bytes_84 : decode b_Md_bytes 84 = .ok (.lstore_n 2, 1) := by decide +kernel
theorem d_Md_bytes_85 : decode b_Md_bytes 85 = .ok (.iinc 4 1, 3) := by decide +kernel
theorem d_Md_bytes_88 : decode b_Md_bytes 88 = .ok (.goto (-78), 3) := by decide +kernel
theorem d_Md_bytes_91 : decode b_Md_bytes 91 = .ok (.lload_n 2, 1) := by decide +kernel
theorem d_Md_bytes_92 : decode b_Md_bytes 92 = .ok (.lreturn, 1) := by decide +kernel
theorem d_Md_put_0 : decode b_Md_put 0 = .ok (.aload_n 0, 1) := by decide +kernel
theorem d_Md_put_1 : decode b_Md_put 1 = .ok (.iconst 0, 1) := by decide +kernel
theorem d_Md_put_2 : decode b_Md_put 2 = .ok (.putfield 37, 3) := by decide +kernel
theorem d_Md_put_5 : decode b_Md_put 5 = .ok (.iload_n 3, 1) := by decide +kernel
theorem d_Md_put_6 : decode b_Md_put 6 = .ok (.iconst 1, 1) := by decide +kernel
theorem d_Md_put_7 : decode b_Md_put 7 = .ok (.if_icmp .lt 27, 3) := by decide +kernel
theorem d_Md_put_10 : decode b_Md_put 10 = .ok (.iload_n 3, 1) := by decide +kernel
theorem d_Md_put_11 : decode b_Md_put 11 = .ok (.bipush 8, 2) := by decide +kernel
theorem d_Md_put_13 : decode b_Md_put 13 = .ok (.if_icmp .gt 21, 3) := by decide +kernel
theorem d_Md_put_16 : decode b_Md_put 16 = .ok (.aload_n 0, 1) := by decide +kernel
theorem d_Md_put_17 : decode b_Md_put 17 = .ok (.getfield 67, 3) := by decide +kernel
theorem d_Md_put_20 : decode b_Md_put 20 = .ok (.ifCond .eq 14, 3) := by decide +kernel
theorem d_Md_put_23 : decode b_Md_put 23 = .ok (.aload_n 0, 1) := by decide +kernel
theorem d_Md_put_24 : decode b_Md_put 24 = .ok (.getfield 94, 3) := by decide +kernel
theorem d_Md_put_27 : decode b_Md_put 27 = .ok (.aload_n 0, 1) := by decide +kernel
theorem d_Md_put_28 : decode b_Md_put 28 = .ok (.getfield 91, 3) := by decide +kernel
theorem d_Md_put_31 : decode b_Md_put 31 = .ok (.if_icmp .ne 5, 3) := by decide +kernel
theorem d_Md_put_34 : decode b_Md_put 34 = .ok (.iconst 0, 1) := by decide +kernel
theorem d_Md_put_35 : decode b_Md_put 35 = .ok (.ireturn, 1) := by decide +kernel
theorem d_Md_put_36 : decode b_Md_put 36 = .ok (.aload_n 0, 1) := by decide +kernel
theorem d_Md_put_37 : decode b_Md_put 37 = .ok (.getfield 97, 3) := by decide +kernel
theorem d_Md_put_40 : decode b_Md_put 40 = .ok (.ifCond .ne 12, 3) := by decide +kernel
theorem d_Md_put_43 : decode b_Md_put 43 = .ok (.aload_n 0, 1) := by decide +kernel
theorem d_Md_put_44 : decode b_Md_put 44 = .ok (.getfield 41, 3) := by decide +kernel
theorem d_Md_put_47 : decode b_Md_put 47 = .ok (.iconst 2, 1) := by decide +kernel
theorem d_Md_put_48 : decode b_Md_put 48 = .ok (.irem, 1) := by decide +kernel
theorem d_Md_put_49 : decode b_Md_put 49 = .ok (.goto 4, 3) := by decide +kernel
theorem d_Md_put_52 : decode b_Md_put 52 = .ok (.iconst 0, 1) := by decide +kernel
theorem d_Md_put_53 : decode b_Md_put 53 = .ok (.istore 4, 2) := by decide +kernel
theorem d_Md_put_55 : decode b_Md_put 55 = .ok (.aload_n 0, 1) := by decide +kernel
theorem d_Md_put_56 : decode b_Md_put 56 = .ok (.getfield 41, 3) := by decide +kernel
theorem d_Md_put_59 : decode b_Md_put 59 = .ok (.iload 4, 2) := by decide +kernel
theorem d_Md_put_61 : decode b_Md_put 61 = .ok (.iadd, 1) := by decide +kernel
theorem d_Md_put_62 : decode b_Md_put 62 = .ok (.iload_n 3, 1) := by decide +kernel
theorem d_Md_put_63 : decode b_Md_put 63 = .ok (.iadd, 1) := by decide +kernel
theorem d_Md_put_64 : decode b_Md_put 64 = .ok (.ldc 103, 2) := by decide +kernel
theorem d_Md_put_66 : decode b_Md_put 66 = .ok (.if_icmp .le 5, 3) := by decide +kernel
theorem d_Md_put_69 : decode b_Md_put 69 = .ok (.iconst 0, 1) := by decide +kernel
theorem d_Md_put_70 : decode b_Md_put 70 = .ok (.ireturn, 1) := by decide +kernel
theorem d_Md_put_71 : decode b_Md_put 71 = .ok (.aload_n 0, 1) := by decide +kernel
theorem d_Md_put_72 : decode b_Md_put 72 = .ok (.getfield 97, 3) := by decide +kernel
theorem d_Md_put_75 : decode b_Md_put 75 = .ok (.ifCond .ne 7, 3) := by decide +kernel
theorem d_Md_put_78 : decode b_Md_put 78 = .ok (.aload_n 0, 1) := by decide +kernel
theorem d_Md_put_79 : decode b_Md_put 79 = .ok (.invokevirtual 104, 3) := by decide +kernel
theorem d_Md_put_82 : decode b_Md_put 82 = .ok (.iload_n 3, 1) := by decide +kernel
theorem d_Md_put_83 : decode b_Md_put 83 = .ok (.iconst 1, 1) := by decide +kernel
theorem d_Md_put_84 : decode b_Md_put 84 = .ok (.isub, 1) := by decide +kernel
theorem d_Md_put_85 : decode b_Md_put 85 = .ok (.istore 5, 2) := by decide +kernel
theorem d_Md_put_87 : decode b_Md_put 87 = .ok (.iload 5, 2) := by decide +kernel
theorem d_Md_put_89 : decode b_Md_put 89 = .ok (.ifCond .lt 25, 3) := by decide +kernel
theorem d_Md_put_92 : decode b_Md_put 92 = .ok (.aload_n 0, 1) := by decide +kernel
theorem d_Md_put_93 : decode b_Md_put 93 = .ok (.lload_n 1, 1) := by decide +kernel
theorem d_Md_put_94 : decode b_Md_put 94 = .ok (.bipush 8, 2) := by decide +kernel
theorem d_Md_put_96 : decode b_Md_put 96 = .ok (.iload 5, 2) := by decide +kernel
theorem d_Md_put_98 : decode b_Md_put 98 = .ok (.imul, 1) := by decide +kernel
theorem d_Md_put_99 : decode b_Md_put 99 = .ok (.lshr, 1) := by decide +kernel
theorem d_Md_put_100 : decode b_Md_put 100 = .ok (.ldc2_w 48, 3) := by decide +kernel
theorem d_Md_put_103 : decode b_Md_put 103 = .ok (.land, 1) := by decide +kernel
theorem d_Md_put_104 : decode b_Md_put 104 = .ok (.l2i, 1) := by decide +kernel
theorem d_Md_put_105 : decode b_Md_put 105 = .ok (.invokevirtual 50, 3) := by decide +kernel
theorem d_Md_put_108 : decode b_Md_put 108 = .ok (.iinc 5 (-1), 3) := by decide +kernel
theorem d_Md_put_111 : decode b_Md_put 111 = .ok (.goto (-24), 3) := by decide +kernel
theorem d_Md_put_114 : decode b_Md_put 114 = .ok (.aload_n 0, 1) := by decide +kernel
theorem d_Md_put_115 : decode b_Md_put 115 = .ok (.dup, 1) := by decide +kernel
theorem d_Md_put_116 : decode b_Md_put 116 = .ok (.getfield 97, 3) := by decide +kernel
theorem d_Md_put_119 : decode b_Md_put 119 = .ok (.iload_n 3, 1) := by decide +kernel
theorem d_Md_put_120 : decode b_Md_put 120 = .ok (.iadd, 1) := by decide +kernel
theorem d_Md_put_121 : decode b_Md_put 121 = .ok (.putfield 97, 3) := by decide +kernel
theorem d_Md_put_124 : decode b_Md_put 124 = .ok (.iconst 1, 1) := by decide +kernel
theorem d_Md_put_125 : decode b_Md_put 125 = .ok (.ireturn, 1) := by decide +kernel
theorem d_Md_strip_0 : decode b_Md_strip 0 = .ok (.aload_n 0, 1) := by decide +kernel
theorem d_Md_strip_1 : decode b_Md_strip 1 = .ok (.aload_n 0, 1) := by decide +kernel
theorem d_Md_strip_2 : decode b_Md_strip 2 = .ok (.getfield 67, 3) := by decide +kernel
theorem d_Md_strip_5 : decode b_Md_strip 5 = .ok (.ifCond .eq 14, 3) := by decide +kernel
theorem d_Md_strip_8 : decode b_Md_strip 8 = .ok (.aload_n 0, 1) := by decide +kernel
theorem d_Md_strip_9 : decode b_Md_strip 9 = .ok (.getfield 94, 3) := by decide +kernel
theorem d_Md_strip_12 : decode b_Md_strip 12 = .ok (.aload_n 0, 1) := by decide +kernel
theorem d_Md_strip_13 : decode b_Md_strip 13 = .ok (.getfield 91, 3) := by decide +kernel
theorem d_Md_strip_16 : decode b_Md_strip 16 = .ok (.if_icmp .ne 7, 3) := by decide +kernel
theorem d_Md_strip_19 : decode b_Md_strip 19 = .ok (.iconst 1, 1) := by decide +kernel
theorem d_Md_strip_20 : decode b_Md_strip 20 = .ok (.goto 4, 3) := by decide +kernel
theorem d_Md_strip_23 : decode b_Md_strip 23 = .ok (.iconst 0, 1) := by decide +kernel
theorem d_Md_strip_24 : decode b_Md_strip 24 = .ok (.putfield 37, 3) := by decide +kernel
theorem d_Md_strip_27 : decode b_Md_strip 27 = .ok (.aload_n 0, 1) := by decide +kernel
theorem d_Md_strip_28 : decode b_Md_strip 28 = .ok (.getfield 37, 3) := by decide +kernel
theorem d_Md_strip_31 : decode b_Md_strip 31 = .ok (.ifCond .le 5, 3) := by decide +kernel
theorem d_Md_strip_34 : decode b_Md_strip 34 = .ok (.iconst 0, 1) := by decide +kernel
theorem d_Md_strip_35 : decode b_Md_strip 35 = .ok (.ireturn, 1) := by decide +kernel
theorem d_Md_strip_36 : decode b_Md_strip 36 = .ok (.aload_n 0, 1) := by decide +kernel
theorem d_Md_strip_37 : decode b_Md_strip 37 = .ok (.getfield 97, 3) := by decide +kernel
theorem d_Md_strip_40 : decode b_Md_strip 40 = .ok (.ifCond .ne 7, 3) := by decide +kernel
theorem d_Md_strip_43 : decode b_Md_strip 43 = .ok (.aload_n 0, 1) := by decide +kernel
theorem d_Md_strip_44 : decode b_Md_strip 44 = .ok (.invokevirtual 104, 3) := by decide +kernel
theorem d_Md_strip_47 : decode b_Md_strip 47 = .ok (.aload_n 0, 1) := by decide +kernel
theorem d_Md_strip_48 : decode b_Md_strip 48 = .ok (.getfield 14, 3) := by decide +kernel
theorem d_Md_strip_51 : decode b_Md_strip 51 = .ok (.aload_n 0, 1) := by decide +kernel
theorem d_Md_strip_52 : decode b_Md_strip 52 = .ok (.getfield 94, 3) := by decide +kernel
theorem d_Md_strip_55 : decode b_Md_strip 55 = .ok (.aload_n 0, 1) := by decide +kernel
theorem d_Md_strip_56 : decode b_Md_strip 56 = .ok (.getfield 100, 3) := by decide +kernel
theorem d_Md_strip_59 : decode b_Md_strip 59 = .ok (.iastore, 1) := by decide +kernel
theorem d_Md_strip_60 : decode b_Md_strip 60 = .ok (.aload_n 0, 1) := by decide +kernel
theorem d_Md_strip_61 : decode b_Md_strip 61 = .ok (.getfield 18, 3) := by decide +kernel
theorem d_Md_strip_64 : decode b_Md_strip 64 = .ok (.aload_n 0, 1) := by decide +kernel
theorem d_Md_strip_65 : decode b_Md_strip 65 = .ok (.getfield 94, 3) := by decide +kernel
theorem d_Md_strip_68 : decode b_Md_strip 68 = .ok (.aload_n 0, 1) := by decide +kernel
theorem d_Md_strip_69 : decode b_Md_strip 69 = .ok (.getfield 97, 3) := by decide +kernel
theorem d_Md_strip_72 : decode b_Md_strip 72 = .ok (.iastore, 1) := by decide +kernel
theorem d_Md_strip_73 : decode b_Md_strip 73 = .ok (.aload_n 0, 1) := by decide +kernel
theorem d_Md_strip_74 : decode b_Md_strip 74 = .ok (.dup, 1) := by decide +kernel
theorem d_Md_strip_75 : decode b_Md_strip 75 = .ok (.getfield 94, 3) := by decide +kernel
theorem d_Md_strip_78 : decode b_Md_strip 78 = .ok (.iconst 1, 1) := by decide +kernel
theorem d_Md_strip_79 : decode b_Md_strip 79 = .ok (.iadd, 1) := by decide +kernel
theorem d_Md_strip_80 : decode b_Md_strip 80 = .ok (.putfield 94, 3) := by decide +kernel
theorem d_Md_strip_83 : decode b_Md_strip 83 = .ok (.aload_n 0, 1) := by decide +kernel
theorem d_Md_strip_84 : decode b_Md_strip 84 = .ok (.iconst 0, 1) := by decide +kernel
theorem d_Md_strip_85 : decode b_Md_strip 85 = .ok (.putfield 97, 3) := by decide +kernel
theorem d_Md_strip_88 : decode b_Md_strip 88 = .ok (.aload_n 0, 1) := by decide +kernel
theorem d_Md_strip_89 : decode b_Md_strip 89 = .ok (.getfield 91, 3) := by decide +kernel
theorem d_Md_strip_92 : decode b_Md_strip 92 = .ok (.aload_n 0, 1) := by decide +kernel
theorem d_Md_strip_93 : decode b_Md_strip 93 = .ok (.getfield 94, 3) := by decide +kernel
theorem d_Md_strip_96 : decode b_Md_strip 96 = .ok (.isub, 1) := by decide +kernel
theorem d_Md_strip_97 : decode b_Md_strip 97 = .ok (.ireturn, 1) := by decide +kernel
theorem d_Md_entryOf_0 : decode b_Md_entryOf 0 = .ok (.aload_n 0, 1) := by decide +kernel
theorem d_Md_entryOf_1 : decode b_Md_entryOf 1 = .ok (.iload_n 1, 1) := by decide +kernel
theorem d_Md_entryOf_2 : decode b_Md_entryOf 2 = .ok (.invokevirtual 61, 3) := by decide +kernel
theorem d_Md_entryOf_5 : decode b_Md_entryOf 5 = .ok (.aload_n 0, 1) := by decide +kernel
theorem d_Md_entryOf_6 : decode b_Md_entryOf 6 = .ok (.iload_n 2, 1) := by decide +kernel
theorem d_Md_entryOf_7 : decode b_Md_entryOf 7 = .ok (.invokevirtual 61, 3) := by decide +kernel
theorem d_Md_entryOf_10 : decode b_Md_entryOf 10 = .ok (.aload_n 0, 1) := by decide +kernel
theorem d_Md_entryOf_11 : decode b_Md_entryOf 11 = .ok (.iload_n 3, 1) := by decide +kernel
theorem d_Md_entryOf_12 : decode b_Md_entryOf 12 = .ok (.invokevirtual 64, 3) := by decide +kernel
theorem d_Md_entryOf_15 : decode b_Md_entryOf 15 = .ok (.iload_n 2, 1) := by decide +kernel
theorem d_Md_entryOf_16 : decode b_Md_entryOf 16 = .ok (.iconst 3, 1) := by decide +kernel
theorem d_Md_entryOf_17 : decode b_Md_entryOf 17 = .ok (.if_icmp .ne 17, 3) := by decide +kernel
theorem d_Md_entryOf_20 : decode b_Md_entryOf 20 = .ok (.aload_n 0, 1) := by decide +kernel
theorem d_Md_entryOf_21 : decode b_Md_entryOf 21 = .ok (.iload 4, 2) := by decide +kernel
theorem d_Md_entryOf_23 : decode b_Md_entryOf 23 = .ok (.invokevirtual 61, 3) := by decide +kernel
theorem d_Md_entryOf_26 : decode b_Md_entryOf 26 = .ok (.aload_n 0, 1) := by decide +kernel
theorem d_Md_entryOf_27 : decode b_Md_entryOf 27 = .ok (.iconst 0, 1) := by decide +kernel
theorem d_Md_entryOf_28 : decode b_Md_entryOf 28 = .ok (.invokevirtual 61, 3) := by decide +kernel
theorem d_Md_entryOf_31 : decode b_Md_entryOf 31 = .ok (.goto 9, 3) := by decide +kernel
theorem d_Md_entryOf_34 : decode b_Md_entryOf 34 = .ok (.aload_n 0, 1) := by decide +kernel
theorem d_Md_entryOf_35 : decode b_Md_entryOf 35 = .ok (.iload 4, 2) := by decide +kernel
theorem d_Md_entryOf_37 : decode b_Md_entryOf 37 = .ok (.invokevirtual 64, 3) := by decide +kernel
theorem d_Md_entryOf_40 : decode b_Md_entryOf 40 = .ok (.return_, 1) := by decide +kernel
theorem d_Md_close_0 : decode b_Md_close 0 = .ok (.aload_n 0, 1) := by decide +kernel
theorem d_Md_close_1 : decode b_Md_close 1 = .ok (.aload_n 0, 1) := by decide +kernel
theorem d_Md_close_2 : decode b_Md_close 2 = .ok (.getfield 67, 3) := by decide +kernel
theorem d_Md_close_5 : decode b_Md_close 5 = .ok (.ifCond .eq 14, 3) := by decide +kernel
theorem d_Md_close_8 : decode b_Md_close 8 = .ok (.aload_n 0, 1) := by decide +kernel
theorem d_Md_close_9 : decode b_Md_close 9 = .ok (.getfield 94, 3) := by decide +kernel
theorem d_Md_close_12 : decode b_Md_close 12 = .ok (.aload_n 0, 1) := by decide +kernel
theorem d_Md_close_13 : decode b_Md_close 13 = .ok (.getfield 91, 3) := by decide +kernel
theorem d_Md_close_16 : decode b_Md_close 16 = .ok (.if_icmp .ge 7, 3) := by decide +kernel
theorem d_Md_close_19 : decode b_Md_close 19 = .ok (.iconst 1, 1) := by decide +kernel
theorem d_Md_close_20 : decode b_Md_close 20 = .ok (.goto 4, 3) := by decide +kernel
theorem d_Md_close_23 : decode b_Md_close 23 = .ok (.iconst 0, 1) := by decide +kernel
theorem d_Md_close_24 : decode b_Md_close 24 = .ok (.putfield 37, 3) := by decide +kernel
theorem d_Md_close_27 : decode b_Md_close 27 = .ok (.aload_n 0, 1) := by decide +kernel
theorem d_Md_close_28 : decode b_Md_close 28 = .ok (.getfield 37, 3) := by decide +kernel
theorem d_Md_close_31 : decode b_Md_close 31 = .ok (.ifCond .le 5, 3) := by decide +kernel
theorem d_Md_close_34 : decode b_Md_close 34 = .ok (.iconst 0, 1) := by decide +kernel
theorem d_Md_close_35 : decode b_Md_close 35 = .ok (.ireturn, 1) := by decide +kernel
theorem d_Md_close_36 : decode b_Md_close 36 = .ok (.aload_n 0, 1) := by decide +kernel
theorem d_Md_close_37 : decode b_Md_close 37 = .ok (.getfield 41, 3) := by decide +kernel
theorem d_Md_close_40 : decode b_Md_close 40 = .ok (.aload_n 0, 1) := by decide +kernel
theorem d_Md_close_41 : decode b_Md_close 41 = .ok (.getfield 41, 3) := by decide +kernel
theorem d_Md_close_44 : decode b_Md_close 44 = .ok (.iconst 2, 1) := by decide +kernel
theorem d_Md_close_45 : decode b_Md_close 45 = .ok (.irem, 1) := by decide +kernel
theorem d_Md_close_46 : decode b_Md_close 46 = .ok (.iadd, 1) := by decide +kernel
theorem d_Md_close_47 : decode b_Md_close 47 = .ok (.istore_n 1, 1) := by decide +kernel
theorem d_Md_close_48 : decode b_Md_close 48 = .ok (.aload_n 0, 1) := by decide +kernel
theorem d_Md_close_49 : decode b_Md_close 49 = .ok (.getfield 91, 3) := by decide +kernel
theorem d_Md_close_52 : decode b_Md_close 52 = .ok (.iconst 1, 1) := by decide +kernel
theorem d_Md_close_53 : decode b_Md_close 53 = .ok (.if_icmp .le 13, 3) := by decide +kernel
theorem d_Md_close_56 : decode b_Md_close 56 = .ok (.bipush 8, 2) := by decide +kernel
theorem d_Md_close_58 : decode b_Md_close 58 = .ok (.aload_n 0, 1) := by decide +kernel
theorem d_Md_close_59 : decode b_Md_close 59 = .ok (.getfield 91, 3) := by decide +kernel
theorem d_Md_close_62 : decode b_Md_close 62 = .ok (.imul, 1) := by decide +kernel
theorem d_Md_close_63 : decode b_Md_close 63 = .ok (.goto 4, 3) := by decide +kernel
theorem d_Md_close_66 : decode b_Md_close 66 = .ok (.iconst 0, 1) := by decide +kernel
theorem d_Md_close_67 : decode b_Md_close 67 = .ok (.istore_n 2, 1) := by decide +kernel
theorem d_Md_close_68 : decode b_Md_close 68 = .ok (.aload_n 0, 1) := by decide +kernel
theorem d_Md_close_69 : decode b_Md_close 69 = .ok (.iload_n 1, 1) := by decide +kernel
theorem d_Md_close_70 : decode b_Md_close 70 = .ok (.iload_n 2, 1) := by decide +kernel
theorem d_Md_close_71 : decode b_Md_close 71 = .ok (.iadd, 1) := by decide +kernel
theorem d_Md_close_72 : decode b_Md_close 72 = .ok (.bipush 16, 2) := by decide +kernel
theorem d_Md_close_74 : decode b_Md_close 74 = .ok (.iadd, 1) := by decide +kernel
theorem d_Md_close_75 : decode b_Md_close 75 = .ok (.bipush 126, 2) := by decide +kernel
theorem d_Md_close_77 : decode b_Md_close 77 = .ok (.iadd, 1) := by decide +kernel
theorem d_Md_close_78 : decode b_Md_close 78 = .ok (.ldc 7, 2) := by decide +kernel
theorem d_Md_close_80 : decode b_Md_close 80 = .ok (.if_icmp .le 7, 3) := by decide +kernel
theorem d_Md_close_83 : decode b_Md_close 83 = .ok (.iconst 1, 1) := by decide +kernel
theorem d_Md_close_84 : decode b_Md_close 84 = .ok (.goto 4, 3) := by decide +kernel
theorem d_Md_close_87 : decode b_Md_close 87 = .ok (.iconst 0, 1) := by decide +kernel
theorem d_Md_close_88 : decode b_Md_close 88 = .ok (.putfield 37, 3) := by decide +kernel
theorem d_Md_close_91 : decode b_Md_close 91 = .ok (.aload_n 0, 1) := by decide +kernel
theorem d_Md_close_92 : decode b_Md_close 92 = .ok (.getfield 37, 3) := by decide +kernel
theorem d_Md_close_95 : decode b_Md_close 95 = .ok (.ifCond .le 5, 3) := by decide +kernel
theorem d_Md_close_98 : decode b_Md_close 98 = .ok (.iconst 0, 1) := by decide +kernel
theorem d_Md_close_99 : decode b_Md_close 99 = .ok (.ireturn, 1) := by decide +kernel
theorem d_Md_close_100 : decode b_Md_close 100 = .ok (.aload_n 0, 1) := by decide +kernel
theorem d_Md_close_101 : decode b_Md_close 101 = .ok (.getfield 41, 3) := by decide +kernel
theorem d_Md_close_104 : decode b_Md_close 104 = .ok (.iconst 2, 1) := by decide +kernel
theorem d_Md_close_105 : decode b_Md_close 105 = .ok (.irem, 1) := by decide +kernel
theorem d_Md_close_106 : decode b_Md_close 106 = .ok (.iconst 1, 1) := by decide +kernel
theorem d_Md_close_107 : decode b_Md_close 107 = .ok (.if_icmp .ne 8, 3) := by decide +kernel
theorem d_Md_close_110 : decode b_Md_close 110 = .ok (.aload_n 0, 1) := by decide +kernel
theorem d_Md_close_111 : decode b_Md_close 111 = .ok (.iconst 0, 1) := by decide +kernel
theorem d_Md_close_112 : decode b_Md_close 112 = .ok (.invokevirtual 50, 3) := by decide +kernel
theorem d_Md_close_115 : decode b_Md_close 115 = .ok (.iconst 0, 1) := by decide +kernel
theorem d_Md_close_116 : decode b_Md_close 116 = .ok (.istore_n 3, 1) := by decide +kernel
theorem d_Md_close_117 : decode b_Md_close 117 = .ok (.iload_n 3, 1) := by decide +kernel
theorem d_Md_close_118 : decode b_Md_close 118 = .ok (.aload_n 0, 1) := by decide +kernel
theorem d_Md_close_119 : decode b_Md_close 119 = .ok (.getfield 91, 3) := by decide +kernel
theorem d_Md_close_122 : decode b_Md_close 122 = .ok (.if_icmp .ge 27, 3) := by decide +kernel
theorem d_Md_close_125 : decode b_Md_close 125 = .ok (.aload_n 0, 1) := by decide +kernel
theorem d_Md_close_126 : decode b_Md_close 126 = .ok (.getfield 91, 3) := by decide +kernel
theorem d_Md_close_129 : decode b_Md_close 129 = .ok (.iconst 1, 1) := by decide +kernel
theorem d_Md_close_130 : decode b_Md_close 130 = .ok (.if_icmp .le 19, 3) := by decide +kernel
theorem d_Md_close_133 : decode b_Md_close 133 = .ok (.aload_n 0, 1) := by decide +kernel
theorem d_Md_close_134 : decode b_Md_close 134 = .ok (.aload_n 0, 1) := by decide +kernel
theorem d_Md_close_135 : decode b_Md_close 135 = .ok (.getfield 14, 3) := by decide +kernel
theorem d_Md_close_138 : decode b_Md_close 138 = .ok (.iload_n 3, 1) := by decide +kernel
theorem d_Md_close_139 : decode b_Md_close 139 = .ok (.iaload, 1) := by decide +kernel
theorem d_Md_close_140 : decode b_Md_close 140 = .ok (.invokevirtual 64, 3) := by decide +kernel
theorem d_Md_close_143 : decode b_Md_close 143 = .ok (.iinc 3 1, 3) := by decide +kernel
theorem d_Md_close_146 : decode b_Md_close 146 = .ok (.goto (-29), 3) := by decide +kernel
theorem d_Md_close_149 : decode b_Md_close 149 = .ok (.iconst 0, 1) := by decide +kernel
theorem d_Md_close_150 : decode b_Md_close 150 = .ok (.istore_n 3, 1) := by decide +kernel
theorem d_Md_close_151 : decode b_Md_close 151 = .ok (.iload_n 3, 1) := by decide +kernel
theorem d_Md_close_152 : decode b_Md_close 152 = .ok (.aload_n 0, 1) := by decide +kernel
theorem d_Md_close_153 : decode b_Md_close 153 = .ok (.getfield 91, 3) := by decide +kernel
theorem d_Md_close_156 : decode b_Md_close 156 = .ok (.if_icmp .ge 27, 3) := by decide +kernel
theorem d_Md_close_159 : decode b_Md_close 159 = .ok (.aload_n 0, 1) := by decide +kernel
theorem d_Md_close_160 : decode b_Md_close 160 = .ok (.getfield 91, 3) := by decide +kernel
theorem d_Md_close_163 : decode b_Md_close 163 = .ok (.iconst 1, 1) := by decide +kernel
theorem d_Md_close_164 : decode b_Md_close 164 = .ok (.if_icmp .le 19, 3) := by decide +kernel
theorem d_Md_close_167 : decode b_Md_close 167 = .ok (.aload_n 0, 1) := by decide +kernel
theorem d_Md_close_168 : decode b_Md_close 168 = .ok (.aload_n 0, 1) := by decide +kernel
theorem d_Md_close_169 : decode b_Md_close 169 = .ok (.getfield 18, 3) := by decide +kernel
theorem d_Md_close_172 : decode b_Md_close 172 = .ok (.iload_n 3, 1) := by decide +kernel
theorem d_Md_close_173 : decode b_Md_close 173 = .ok (.iaload, 1) := by decide +kernel
theorem d_Md_close_174 : decode b_Md_close 174 = .ok (.invokevirtual 64, 3) := by decide +kernel
theorem d_Md_close_177 : decode b_Md_close 177 = .ok (.iinc 3 1, 3) := by decide +kernel
theorem d_Md_close_180 : decode b_Md_close 180 = .ok (.goto (-29), 3) := by decide +kernel
theorem d_Md_close_183 : decode b_Md_close 183 = .ok (.aload_n 0, 1) := by decide +kernel
theorem d_Md_close_184 : decode b_Md_close 184 = .ok (.getfield 41, 3) := by decide +kernel
theorem d_Md_close_187 : decode b_Md_close 187 = .ok (.istore_n 3, 1) := by decide +kernel
theorem d_Md_close_188 : decode b_Md_close 188 = .ok (.aload_n 0, 1) := by decide +kernel
theorem d_Md_close_189 : decode b_Md_close 189 = .ok (.aload_n 0, 1) := by decide +kernel
theorem d_Md_close_190 : decode b_Md_close 190 = .ok (.getfield 85, 3) := by decide +kernel
theorem d_Md_close_193 : decode b_Md_close 193 = .ok (.invokevirtual 64, 3) := by decide +kernel
theorem d_Md_close_196 : decode b_Md_close 196 = .ok (.aload_n 0, 1) := by decide +kernel
theorem d_Md_close_197 : decode b_Md_close 197 = .ok (.iconst 1, 1) := by decide +kernel
theorem d_Md_close_198 : decode b_Md_close 198 = .ok (.invokevirtual 64, 3) := by decide +kernel
theorem d_Md_close_201 : decode b_Md_close 201 = .ok (.aload_n 0, 1) := by decide +kernel
theorem d_Md_close_202 : decode b_Md_close 202 = .ok (.aload_n 0, 1) := by decide +kernel
theorem d_Md_close_203 : decode b_Md_close 203 = .ok (.getfield 88, 3) := by decide +kernel
theorem d_Md_close_206 : decode b_Md_close 206 = .ok (.invokevirtual 64, 3) := by decide +kernel
theorem d_Md_close_209 : decode b_Md_close 209 = .ok (.aload_n 0, 1) := by decide +kernel
theorem d_Md_close_210 : decode b_Md_close 210 = .ok (.iconst 1, 1) := by decide +kernel
theorem d_Md_close_211 : decode b_Md_close 211 = .ok (.invokevirtual 64, 3) := by decide +kernel
theorem d_Md_close_214 : decode b_Md_close 214 = .ok (.aload_n 0, 1) := by decide +kernel
theorem d_Md_close_215 : decode b_Md_close 215 = .ok (.aload_n 0, 1) := by decide +kernel
theorem d_Md_close_216 : decode b_Md_close 216 = .ok (.getfield 73, 3) := by decide +kernel
theorem d_Md_close_219 : decode b_Md_close 219 = .ok (.aload_n 0, 1) := by decide +kernel
theorem d_Md_close_220 : decode b_Md_close 220 = .ok (.getfield 41, 3) := by decide +kernel
theorem d_Md_close_223 : decode b_Md_close 223 = .ok (.invokevirtual 107, 3) := by decide +kernel
theorem d_Md_close_226 : decode b_Md_close 226 = .ok (.aload_n 0, 1) := by decide +kernel
theorem d_Md_close_227 : decode b_Md_close 227 = .ok (.bipush 10, 2) := by decide +kernel
theorem d_Md_close_229 : decode b_Md_close 229 = .ok (.invokevirtual 61, 3) := by decide +kernel
theorem d_Md_close_232 : decode b_Md_close 232 = .ok (.aload_n 0, 1) := by decide +kernel
theorem d_Md_close_233 : decode b_Md_close 233 = .ok (.sipush 256, 3) := by decide +kernel
theorem d_Md_close_236 : decode b_Md_close 236 = .ok (.iconst 4, 1) := by decide +kernel
theorem d_Md_close_237 : decode b_Md_close 237 = .ok (.iconst 1, 1) := by decide +kernel
theorem d_Md_close_238 : decode b_Md_close 238 = .ok (.aload_n 0, 1) := by decide +kernel
theorem d_Md_close_239 : decode b_Md_close 239 = .ok (.getfield 76, 3) := by decide +kernel
theorem d_Md_close_242 : decode b_Md_close 242 = .ok (.invokevirtual 111, 3) := by decide +kernel
theorem d_Md_close_245 : decode b_Md_close 245 = .ok (.aload_n 0, 1) := by decide +kernel
theorem d_Md_close_246 : decode b_Md_close 246 = .ok (.sipush 257, 3) := by decide +kernel
theorem d_Md_close_249 : decode b_Md_close 249 = .ok (.iconst 4, 1) := by decide +kernel
theorem d_Md_close_250 : decode b_Md_close 250 = .ok (.iconst 1, 1) := by decide +kernel
theorem d_Md_close_251 : decode b_Md_close 251 = .ok (.aload_n 0, 1) := by decide +kernel
theorem d_Md_close_252 : decode b_Md_close 252 = .ok (.getfield 79, 3) := by decide +kernel
theorem d_Md_close_255 : decode b_Md_close 255 = .ok (.invokevirtual 111, 3) := by decide +kernel
theorem d_Md_close_258 : decode b_Md_close 258 = .ok (.aload_n 0, 1) := by decide +kernel
theorem d_Md_close_259 : decode b_Md_close 259 = .ok (.sipush 259, 3) := by decide +kernel
theorem d_Md_close_262 : decode b_Md_close 262 = .ok (.iconst 3, 1) := by decide +kernel
theorem d_Md_close_263 : decode b_Md_close 263 = .ok (.iconst 1, 1) := by decide +kernel
theorem d_Md_close_264 : decode b_Md_close 264 = .ok (.iconst 4, 1) := by decide +kernel
theorem d_Md_close_265 : decode b_Md_close 265 = .ok (.invokevirtual 111, 3) := by decide +kernel
theorem d_Md_close_268 : decode b_Md_close 268 = .ok (.aload_n 0, 1) := by decide +kernel
theorem d_Md_close_269 : decode b_Md_close 269 = .ok (.sipush 262, 3) := by decide +kernel
theorem d_Md_close_272 : decode b_Md_close 272 = .ok (.iconst 3, 1) := by decide +kernel
theorem d_Md_close_273 : decode b_Md_close 273 = .ok (.iconst 1, 1) := by decide +kernel
theorem d_Md_close_274 : decode b_Md_close 274 = .ok (.iconst 0, 1) := by decide +kernel
theorem d_Md_close_275 : decode b_Md_close 275 = .ok (.invokevirtual 111, 3) := by decide +kernel
theorem d_Md_close_278 : decode b_Md_close 278 = .ok (.aload_n 0, 1) := by decide +kernel
theorem d_Md_close_279 : decode b_Md_close 279 = .ok (.sipush 273, 3) := by decide +kernel
theorem d_Md_close_282 : decode b_Md_close 282 = .ok (.iconst 4, 1) := by decide +kernel
theorem d_Md_close_283 : decode b_Md_close 283 = .ok (.aload_n 0, 1) := by decide +kernel
theorem d_Md_close_284 : decode b_Md_close 284 = .ok (.getfield 91, 3) := by decide +kernel
theorem d_Md_close_287 : decode b_Md_close 287 = .ok (.aload_n 0, 1) := by decide +kernel
theorem d_Md_close_288 : decode b_Md_close 288 = .ok (.getfield 91, 3) := by decide +kernel
theorem d_Md_close_291 : decode b_Md_close 291 = .ok (.iconst 1, 1) := by decide +kernel
theorem d_Md_close_292 : decode b_Md_close 292 = .ok (.if_icmp .le 7, 3) := by decide +kernel
theorem d_Md_close_295 : decode b_Md_close 295 = .ok (.iload_n 1, 1) := by decide +kernel
theorem d_Md_close_296 : decode b_Md_close 296 = .ok (.goto 9, 3) := by decide +kernel
theorem d_Md_close_299 : decode b_Md_close 299 = .ok (.aload_n 0, 1) := by decide +kernel
theorem d_Md_close_300 : decode b_Md_close 300 = .ok (.getfield 14, 3) := by decide +kernel
theorem d_Md_close_303 : decode b_Md_close 303 = .ok (.iconst 0, 1) := by decide +kernel
theorem d_Md_close_304 : decode b_Md_close 304 = .ok (.iaload, 1) := by decide +kernel
theorem d_Md_close_305 : decode b_Md_close 305 = .ok (.invokevirtual 111, 3) := by decide +kernel
theorem d_Md_close_308 : decode b_Md_close 308 = .ok (.aload_n 0, 1) := by decide +kernel
theorem d_Md_close_309 : decode b_Md_close 309 = .ok (.sipush 278, 3) := by decide +kernel
theorem d_Md_close_312 : decode b_Md_close 312 = .ok (.iconst 4, 1) := by decide +kernel
theorem d_Md_close_313 : decode b_Md_close 313 = .ok (.iconst 1, 1) := by decide +kernel
theorem d_Md_close_314 : decode b_Md_close 314 = .ok (.aload_n 0, 1) := by decide +kernel
theorem d_Md_close_315 : decode b_Md_close 315 = .ok (.getfield 82, 3) := by decide +kernel
theorem d_Md_close_318 : decode b_Md_close 318 = .ok (.invokevirtual 111, 3) := by decide +kernel
theorem d_Md_close_321 : decode b_Md_close 321 = .ok (.aload_n 0, 1) := by decide +kernel
theorem d_Md_close_322 : decode b_Md_close 322 = .ok (.sipush 279, 3) := by decide +kernel
theorem d_Md_close_325 : decode b_Md_close 325 = .ok (.iconst 4, 1) := by decide +kernel
theorem d_Md_close_326 : decode b_Md_close 326 = .ok (.aload_n 0, 1) := by decide +kernel
theorem d_Md_close_327 : decode b_Md_close 327 = .ok (.getfield 91, 3) := by decide +kernel
theorem d_Md_close_330 : decode b_Md_close 330 = .ok (.aload_n 0, 1) := by decide +kernel
theorem d_Md_close_331 : decode b_Md_close 331 = .ok (.getfield 91, 3) := by decide +kernel
theorem d_Md_close_334 : decode b_Md_close 334 = .ok (.iconst 1, 1) := by decide +kernel
theorem d_Md_close_335 : decode b_Md_close 335 = .ok (.if_icmp .le 14, 3) := by decide +kernel
theorem d_Md_close_338 : decode b_Md_close 338 = .ok (.iload_n 1, 1) := by decide +kernel
theorem d_Md_close_339 : decode b_Md_close 339 = .ok (.iconst 4, 1) := by decide +kernel
theorem d_Md_close_340 : decode b_Md_close 340 = .ok (.aload_n 0, 1) := by decide +kernel
theorem d_Md_close_341 : decode b_Md_close 341 = .ok (.getfield 91, 3) := by decide +kernel
theorem d_Md_close_344 : decode b_Md_close 344 = .ok (.imul, 1) := by decide +kernel
theorem d_Md_close_345 : decode b_Md_close 345 = .ok (.iadd, 1) := by decide +kernel
theorem d_Md_close_346 : decode b_Md_close 346 = .ok (.goto 9, 3) := by decide +kernel
theorem d_Md_close_349 : decode b_Md_close 349 = .ok (.aload_n 0, 1) := by decide +kernel
theorem d_Md_close_350 : decode b_Md_close 350 = .ok (.getfield 18, 3) := by decide +kernel
theorem d_Md_close_353 : decode b_Md_close 353 = .ok (.iconst 0, 1) := by decide +kernel
theorem d_Md_close_354 : decode b_Md_close 354 = .ok (.iaload, 1) := by decide +kernel
theorem d_Md_close_355 : decode b_Md_close 355 = .ok (.invokevirtual 111, 3) := by decide +kernel
theorem d_Md_close_358 : decode b_Md_close 358 = .ok (.aload_n 0, 1) := by decide +kernel
theorem d_Md_close_359 : decode b_Md_close 359 = .ok (.sipush 282, 3) := by decide +kernel
theorem d_Md_close_362 : decode b_Md_close 362 = .ok (.iconst 5, 1) := by decide +kernel
theorem d_Md_close_363 : decode b_Md_close 363 = .ok (.iconst 1, 1) := by decide +kernel
theorem d_Md_close_364 : decode b_Md_close 364 = .ok (.iload_n 3, 1) := by decide +kernel
theorem d_Md_close_365 : decode b_Md_close 365 = .ok (.invokevirtual 111, 3) := by decide +kernel
theorem d_Md_close_368 : decode b_Md_close 368 = .ok (.aload_n 0, 1) := by decide +kernel
theorem d_Md_close_369 : decode b_Md_close 369 = .ok (.sipush 283, 3) := by decide +kernel
theorem d_Md_close_372 : decode b_Md_close 372 = .ok (.iconst 5, 1) := by decide +kernel
theorem d_Md_close_373 : decode b_Md_close 373 = .ok (.iconst 1, 1) := by decide +kernel
theorem d_Md_close_374 : decode b_Md_close 374 = .ok (.iload_n 3, 1) := by decide +kernel
theorem d_Md_close_375 : decode b_Md_close 375 = .ok (.bipush 8, 2) := by decide +kernel
theorem d_Md_close_377 : decode b_Md_close 377 = .ok (.iadd, 1) := by decide +kernel
theorem d_Md_close_378 : decode b_Md_close 378 = .ok (.invokevirtual 111, 3) := by decide +kernel
theorem d_Md_close_381 : decode b_Md_close 381 = .ok (.aload_n 0, 1) := by decide +kernel
theorem d_Md_close_382 : decode b_Md_close 382 = .ok (.sipush 296, 3) := by decide +kernel
theorem d_Md_close_385 : decode b_Md_close 385 = .ok (.iconst 3, 1) := by decide +kernel
theorem d_Md_close_386 : decode b_Md_close 386 = .ok (.iconst 1, 1) := by decide +kernel
theorem d_Md_close_387 : decode b_Md_close 387 = .ok (.iconst 2, 1) := by decide +kernel
theorem d_Md_close_388 : decode b_Md_close 388 = .ok (.invokevirtual 111, 3) := by decide +kernel
theorem d_Md_close_391 : decode b_Md_close 391 = .ok (.aload_n 0, 1) := by decide +kernel
theorem d_Md_close_392 : decode b_Md_close 392 = .ok (.aload_n 0, 1) := by decide +kernel
theorem d_Md_close_393 : decode b_Md_close 393 = .ok (.getfield 41, 3) := by decide +kernel
theorem d_Md_close_396 : decode b_Md_close 396 = .ok (.putfield 73, 3) := by decide +kernel
theorem d_Md_close_399 : decode b_Md_close 399 = .ok (.aload_n 0, 1) := by decide +kernel
theorem d_Md_close_400 : decode b_Md_close 400 = .ok (.iconst 0, 1) := by decide +kernel
theorem d_Md_close_401 : decode b_Md_close 401 = .ok (.invokevirtual 64, 3) := by decide +kernel
theorem d_Md_close_404 : decode b_Md_close 404 = .ok (.aload_n 0, 1) := by decide +kernel
theorem d_Md_close_405 : decode b_Md_close 405 = .ok (.iconst 0, 1) := by decide +kernel
theorem d_Md_close_406 : decode b_Md_close 406 = .ok (.putfield 67, 3) := by decide +kernel
theorem d_Md_close_409 : decode b_Md_close 409 = .ok (.aload_n 0, 1) := by decide +kernel
theorem d_Md_close_410 : decode b_Md_close 410 = .ok (.dup, 1) := by decide +kernel
theorem d_Md_close_411 : decode b_Md_close 411 = .ok (.getfield 70, 3) := by decide +kernel
theorem d_Md_close_414 : decode b_Md_close 414 = .ok (.iconst 1, 1) := by decide +kernel
theorem d_Md_close_415 : decode b_Md_close 415 = .ok (.iadd, 1) := by decide +kernel
theorem d_Md_close_416 : decode b_Md_close 416 = .ok (.putfield 70, 3) := by decide +kernel
theorem d_Md_close_419 : decode b_Md_close 419 = .ok (.aload_n 0, 1) := by decide +kernel
theorem d_Md_close_420 : decode b_Md_close 420 = .ok (.getfield 41, 3) := by decide +kernel
theorem d_Md_close_423 : decode b_Md_close 423 = .ok (.ireturn, 1) := by decide +kernel
theorem d_Md_end_0 : decode b_Md_end 0 = .ok (.aload_n 0, 1) := by decide +kernel
theorem d_Md_end_1 : decode b_Md_end 1 = .ok (.aload_n 0, 1) := by decide +kernel
theorem d_Md_end_2 : decode b_Md_end 2 = .ok (.getfield 44, 3) := by decide +kernel
theorem d_Md_end_5 : decode b_Md_end 5 = .ok (.ifCond .eq 10, 3) := by decide +kernel
theorem d_Md_end_8 : decode b_Md_end 8 = .ok (.aload_n 0, 1) := by decide +kernel
theorem d_Md_end_9 : decode b_Md_end 9 = .ok (.getfield 67, 3) := by decide +kernel
theorem d_Md_end_12 : decode b_Md_end 12 = .ok (.ifCond .eq 7, 3) := by decide +kernel
theorem d_Md_end_15 : decode b_Md_end 15 = .ok (.iconst 1, 1) := by decide +kernel
theorem d_Md_end_16 : decode b_Md_end 16 = .ok (.goto 4, 3) := by decide +kernel
theorem d_Md_end_19 : decode b_Md_end 19 = .ok (.iconst 0, 1) := by decide +kernel
theorem d_Md_end_20 : decode b_Md_end 20 = .ok (.putfield 37, 3) := by decide +kernel
theorem d_Md_end_23 : decode b_Md_end 23 = .ok (.aload_n 0, 1) := by decide +kernel
theorem d_Md_end_24 : decode b_Md_end 24 = .ok (.getfield 37, 3) := by decide +kernel
theorem d_Md_end_27 : decode b_Md_end 27 = .ok (.ifCond .le 5, 3) := by decide +kernel
theorem d_Md_end_30 : decode b_Md_end 30 = .ok (.iconst 0, 1) := by decide +kernel
theorem d_Md_end_31 : decode b_Md_end 31 = .ok (.ireturn, 1) := by decide +kernel
theorem d_Md_end_32 : decode b_Md_end 32 = .ok (.aload_n 0, 1) := by decide +kernel
theorem d_Md_end_33 : decode b_Md_end 33 = .ok (.iconst 0, 1) := by decide +kernel
theorem d_Md_end_34 : decode b_Md_end 34 = .ok (.putfield 44, 3) := by decide +kernel
theorem d_Md_end_37 : decode b_Md_end 37 = .ok (.aload_n 0, 1) := by decide +kernel
theorem d_Md_end_38 : decode b_Md_end 38 = .ok (.getfield 70, 3) := by decide +kernel
theorem d_Md_end_41 : decode b_Md_end 41 = .ok (.ireturn, 1) := by decide +kernel
theorem d_Md_readTwo_0 : decode b_Md_readTwo 0 = .ok (.aload_n 0, 1) := by decide +kernel
theorem d_Md_readTwo_1 : decode b_Md_readTwo 1 = .ok (.getfield 115, 3) := by decide +kernel
theorem d_Md_readTwo_4 : decode b_Md_readTwo 4 = .ok (.bipush 77, 2) := by decide +kernel
theorem d_Md_readTwo_6 : decode b_Md_readTwo 6 = .ok (.if_icmp .ne 23, 3) := by decide +kernel
theorem d_Md_readTwo_9 : decode b_Md_readTwo 9 = .ok (.sipush 256, 3) := by decide +kernel
theorem d_Md_readTwo_12 : decode b_Md_readTwo 12 = .ok (.aload_n 0, 1) := by decide +kernel
theorem d_Md_readTwo_13 : decode b_Md_readTwo 13 = .ok (.iload_n 1, 1) := by decide +kernel
theorem d_Md_readTwo_14 : decode b_Md_readTwo 14 = .ok (.invokevirtual 54, 3) := by decide +kernel
theorem d_Md_readTwo_17 : decode b_Md_readTwo 17 = .ok (.imul, 1) := by decide +kernel
theorem d_Md_readTwo_18 : decode b_Md_readTwo 18 = .ok (.aload_n 0, 1) := by decide +kernel
theorem d_Md_readTwo_19 : decode b_Md_readTwo 19 = .ok (.iload_n 1, 1) := by decide +kernel
theorem d_Md_readTwo_20 : decode b_Md_readTwo 20 = .ok (.iconst 1, 1) := by decide +kernel
theorem d_Md_readTwo_21 : decode b_Md_readTwo 21 = .ok (.iadd, 1) := by decide +kernel
theorem d_Md_readTwo_22 : decode b_Md_readTwo 22 = .ok (.invokevirtual 54, 3) := by decide +kernel
theorem d_Md_readTwo_25 : decode b_Md_readTwo 25 = .ok (.iadd, 1) := by decide +kernel
theorem d_Md_readTwo_26 : decode b_Md_readTwo 26 = .ok (.goto 20, 3) := by decide +kernel
theorem d_Md_readTwo_29 : decode b_Md_readTwo 29 = .ok (.aload_n 0, 1) := by decide +kernel
theorem d_Md_readTwo_30 : decode b_Md_readTwo 30 = .ok (.iload_n 1, 1) := by decide +kernel
theorem d_Md_readTwo_31 : decode b_Md_readTwo 31 = .ok (.invokevirtual 54, 3) := by decide +kernel
theorem d_Md_readTwo_34 : decode b_Md_readTwo 34 = .ok (.sipush 256, 3) := by decide +kernel
theorem d_Md_readTwo_37 : decode b_Md_readTwo 37 = .ok (.aload_n 0, 1) := by decide +kernel
theorem d_Md_readTwo_38 : decode b_Md_readTwo 38 = .ok (.iload_n 1, 1) := by decide +kernel
theorem d_Md_readTwo_39 : decode b_Md_readTwo 39 = .ok (.iconst 1, 1) := by decide +kernel
theorem d_Md_readTwo_40 : decode b_Md_readTwo 40 = .ok (.iadd, 1) := by decide +kernel
theorem d_Md_readTwo_41 : decode b_Md_readTwo 41 = .ok (.invokevirtual 54, 3) := by decide +kernel
theorem d_Md_readTwo_44 : decode b_Md_readTwo 44 = .ok (.imul, 1) := by decide +kernel
theorem d_Md_readTwo_45 : decode b_Md_readTwo 45 = .ok (.iadd, 1) := by decide +kernel
theorem d_Md_readTwo_46 : decode b_Md_readTwo 46 = .ok (.ireturn, 1) := by decide +kernel
theorem d_Md_readFour_0 : decode b_Md_readFour 0 = .ok (.aload_n 0, 1) := by decide +kernel
theorem d_Md_readFour_1 : decode b_Md_readFour 1 = .ok (.iload_n 1, 1) := by decide +kernel
theorem d_Md_readFour_2 : decode b_Md_readFour 2 = .ok (.invokevirtual 118, 3) := by decide +kernel
theorem d_Md_readFour_5 : decode b_Md_readFour 5 = .ok (.i2l, 1) := by decide +kernel
theorem d_Md_readFour_6 : decode b_Md_readFour 6 = .ok (.lstore_n 2, 1) := by decide +kernel
theorem d_Md_readFour_7 : decode b_Md_readFour 7 = .ok (.aload_n 0, 1) := by decide +kernel
theorem d_Md_readFour_8 : decode b_Md_readFour 8 = .ok (.iload_n 1, 1) := by decide +kernel
theorem d_Md_readFour_9 : decode b_Md_readFour 9 = .ok (.iconst 2, 1) := by decide +kernel
theorem d_Md_readFour_10 : decode b_Md_readFour 10 = .ok (.iadd, 1) := by decide +kernel
theorem d_Md_readFour_11 : decode b_Md_readFour 11 = .ok (.invokevirtual 118, 3) := by decide +kernel
theorem d_Md_readFour_14 : decode b_Md_readFour 14 = .ok (.i2l, 1) := by decide +kernel
theorem d_Md_readFour_15 : decode b_Md_readFour 15 = .ok (.lstore 4, 2) := by decide +kernel
theorem d_Md_readFour_17 : decode b_Md_readFour 17 = .ok (.aload_n 0, 1) := by decide +kernel
theorem d_Md_readFour_18 : decode b_Md_readFour 18 = .ok (.getfield 115, 3) := by decide +kernel
theorem d_Md_readFour_21 : decode b_Md_readFour 21 = .ok (.bipush 77, 2) := by decide +kernel
theorem d_Md_readFour_23 : decode b_Md_readFour 23 = .ok (.if_icmp .ne 14, 3) := by decide +kernel
theorem d_Md_readFour_26 : decode b_Md_readFour 26 = .ok (.ldc2_w 121, 3) := by decide +kernel
theorem d_Md_readFour_29 : decode b_Md_readFour 29 = .ok (.lload_n 2, 1) := by decide +kernel
theorem d_Md_readFour_30 : decode b_Md_readFour 30 = .ok (.lmul, 1) := by decide +kernel
theorem d_Md_readFour_31 : decode b_Md_readFour 31 = .ok (.lload 4, 2) := by decide +kernel
theorem d_Md_readFour_33 : decode b_Md_readFour 33 = .ok (.ladd, 1) := by decide +kernel
theorem d_Md_readFour_34 : decode b_Md_readFour 34 = .ok (.goto 11, 3) := by decide +kernel
theorem d_Md_readFour_37 : decode b_Md_readFour 37 = .ok (.lload_n 2, 1) := by decide +kernel
theorem d_Md_readFour_38 : decode b_Md_readFour 38 = .ok (.ldc2_w 121, 3) := by decide +kernel
theorem d_Md_readFour_41 : decode b_Md_readFour 41 = .ok (.lload 4, 2) := by decide +kernel
theorem d_Md_readFour_43 : decode b_Md_readFour 43 = .ok (.lmul, 1) := by decide +kernel
theorem d_Md_readFour_44 : decode b_Md_readFour 44 = .ok (.ladd, 1) := by decide +kernel
theorem d_Md_readFour_45 : decode b_Md_readFour 45 = .ok (.lreturn, 1) := by decide +kernel
theorem d_Md_known_0 : decode b_Md_known 0 = .ok (.iload_n 0, 1) := by decide +kernel
theorem d_Md_known_1 : decode b_Md_known 1 = .ok (.tableswitch 206 256 296 #[179, 181, 206, 183, 206, 206, 185, 206, 206, 206, 187, 206, 206, 206, 206, 206, 206, 200, 206, 206, 206, 206, 189, 203, 206, 206, 194, 197, 206, 206, 206, 206, 206, 206, 206, 206, 206, 206, 206, 206, 191], 179) := by decide +kernel
theorem d_Md_known_180 : decode b_Md_known 180 = .ok (.iconst 0, 1) := by decide +kernel
theorem d_Md_known_181 : decode b_Md_known 181 = .ok (.ireturn, 1) := by decide +kernel
theorem d_Md_known_182 : decode b_Md_known 182 = .ok (.iconst 1, 1) := by decide +kernel
theorem d_Md_known_183 : decode b_Md_known 183 = .ok (.ireturn, 1) := by decide +kernel
theorem d_Md_known_184 : decode b_Md_known 184 = .ok (.iconst 2, 1) := by decide +kernel
theorem d_Md_known_185 : decode b_Md_known 185 = .ok (.ireturn, 1) := by decide +kernel
theorem d_Md_known_186 : decode b_Md_known 186 = .ok (.iconst 3, 1) := by decide +kernel
theorem d_Md_known_187 : decode b_Md_known 187 = .ok (.ireturn, 1) := by decide +kernel
theorem d_Md_known_188 : decode b_Md_known 188 = .ok (.iconst 4, 1) := by decide +kernel
theorem d_Md_known_189 : decode b_Md_known 189 = .ok (.ireturn, 1) := by decide +kernel
theorem d_Md_known_190 : decode b_Md_known 190 = .ok (.iconst 5, 1) := by decide +kernel
theorem d_Md_known_191 : decode b_Md_known 191 = .ok (.ireturn, 1) := by decide +kernel
theorem d_Md_known_192 : decode b_Md_known 192 = .ok (.bipush 6, 2) := by decide +kernel
theorem d_Md_known_194 : decode b_Md_known 194 = .ok (.ireturn, 1) := by decide +kernel
theorem d_Md_known_195 : decode b_Md_known 195 = .ok (.bipush 7, 2) := by decide +kernel
theorem d_Md_known_197 : decode b_Md_known 197 = .ok (.ireturn, 1) := by decide +kernel
theorem d_Md_known_198 : decode b_Md_known 198 = .ok (.bipush 8, 2) := by decide +kernel
theorem d_Md_known_200 : decode b_Md_known 200 = .ok (.ireturn, 1) := by decide +kernel
theorem d_Md_known_201 : decode b_Md_known 201 = .ok (.bipush 9, 2) := by decide +kernel
theorem d_Md_known_203 : decode b_Md_known 203 = .ok (.ireturn, 1) := by decide +kernel
theorem d_Md_known_204 : decode b_Md_known 204 = .ok (.bipush 10, 2) := by decide +kernel
theorem d_Md_known_206 : decode b_Md_known 206 = .ok (.ireturn, 1) := by decide +kernel
theorem d_Md_known_207 : decode b_Md_known 207 = .ok (.iconst (-1), 1) := by decide +kernel
theorem d_Md_known_208 : decode b_Md_known 208 = .ok (.ireturn, 1) := by decide +kernel
theorem d_Md_wrong_0 : decode b_Md_wrong 0 = .ok (.aload_n 0, 1) := by decide +kernel
theorem d_Md_wrong_1 : decode b_Md_wrong 1 = .ok (.iload_n 1, 1) := by decide +kernel
theorem d_Md_wrong_2 : decode b_Md_wrong 2 = .ok (.putfield 123, 3) := by decide +kernel
theorem d_Md_wrong_5 : decode b_Md_wrong 5 = .ok (.aload_n 0, 1) := by decide +kernel
theorem d_Md_wrong_6 : decode b_Md_wrong 6 = .ok (.iload_n 2, 1) := by decide +kernel
theorem d_Md_wrong_7 : decode b_Md_wrong 7 = .ok (.putfield 126, 3) := by decide +kernel
theorem d_Md_wrong_10 : decode b_Md_wrong 10 = .ok (.aload_n 0, 1) := by decide +kernel
theorem d_Md_wrong_11 : decode b_Md_wrong 11 = .ok (.iload_n 3, 1) := by decide +kernel
theorem d_Md_wrong_12 : decode b_Md_wrong 12 = .ok (.putfield 129, 3) := by decide +kernel
theorem d_Md_wrong_15 : decode b_Md_wrong 15 = .ok (.aload_n 0, 1) := by decide +kernel
theorem d_Md_wrong_16 : decode b_Md_wrong 16 = .ok (.iload 4, 2) := by decide +kernel
theorem d_Md_wrong_18 : decode b_Md_wrong 18 = .ok (.putfield 132, 3) := by decide +kernel
theorem d_Md_wrong_21 : decode b_Md_wrong 21 = .ok (.iconst 0, 1) := by decide +kernel
theorem d_Md_wrong_22 : decode b_Md_wrong 22 = .ok (.ireturn, 1) := by decide +kernel
theorem d_Md_sizeOf_0 : decode b_Md_sizeOf 0 = .ok (.iload_n 0, 1) := by decide +kernel
theorem d_Md_sizeOf_1 : decode b_Md_sizeOf 1 = .ok (.iconst 3, 1) := by decide +kernel
