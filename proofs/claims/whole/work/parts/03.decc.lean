theorem dX7_init_0 : decode cX7_init 0 = .ok (.aload_n 0, 1) := by decide +kernel
theorem dX7_init_1 : decode cX7_init 1 = .ok (.invokespecial 1, 3) := by decide +kernel
theorem dX7_init_4 : decode cX7_init 4 = .ok (.aload_n 0, 1) := by decide +kernel
theorem dX7_init_5 : decode cX7_init 5 = .ok (.iconst 3, 1) := by decide +kernel
theorem dX7_init_6 : decode cX7_init 6 = .ok (.newarray .int, 2) := by decide +kernel
theorem dX7_init_8 : decode cX7_init 8 = .ok (.putfield 7, 3) := by decide +kernel
theorem dX7_init_11 : decode cX7_init 11 = .ok (.aload_n 0, 1) := by decide +kernel
theorem dX7_init_12 : decode cX7_init 12 = .ok (.bipush 30, 2) := by decide +kernel
theorem dX7_init_14 : decode cX7_init 14 = .ok (.newarray .int, 2) := by decide +kernel
theorem dX7_init_16 : decode cX7_init 16 = .ok (.putfield 13, 3) := by decide +kernel
theorem dX7_init_19 : decode cX7_init 19 = .ok (.aload_n 0, 1) := by decide +kernel
theorem dX7_init_20 : decode cX7_init 20 = .ok (.bipush 10, 2) := by decide +kernel
theorem dX7_init_22 : decode cX7_init 22 = .ok (.newarray .int, 2) := by decide +kernel
theorem dX7_init_24 : decode cX7_init 24 = .ok (.putfield 16, 3) := by decide +kernel
theorem dX7_init_27 : decode cX7_init 27 = .ok (.aload_n 0, 1) := by decide +kernel
theorem dX7_init_28 : decode cX7_init 28 = .ok (.bipush 10, 2) := by decide +kernel
theorem dX7_init_30 : decode cX7_init 30 = .ok (.newarray .int, 2) := by decide +kernel
theorem dX7_init_32 : decode cX7_init 32 = .ok (.putfield 19, 3) := by decide +kernel
theorem dX7_init_35 : decode cX7_init 35 = .ok (.aload_n 0, 1) := by decide +kernel
theorem dX7_init_36 : decode cX7_init 36 = .ok (.bipush 10, 2) := by decide +kernel
theorem dX7_init_38 : decode cX7_init 38 = .ok (.newarray .int, 2) := by decide +kernel
theorem dX7_init_40 : decode cX7_init 40 = .ok (.putfield 22, 3) := by decide +kernel
theorem dX7_init_43 : decode cX7_init 43 = .ok (.aload_n 0, 1) := by decide +kernel
theorem dX7_init_44 : decode cX7_init 44 = .ok (.bipush 10, 2) := by decide +kernel
theorem dX7_init_46 : decode cX7_init 46 = .ok (.newarray .int, 2) := by decide +kernel
theorem dX7_init_48 : decode cX7_init 48 = .ok (.putfield 25, 3) := by decide +kernel
theorem dX7_init_51 : decode cX7_init 51 = .ok (.aload_n 0, 1) := by decide +kernel
theorem dX7_init_52 : decode cX7_init 52 = .ok (.bipush 10, 2) := by decide +kernel
theorem dX7_init_54 : decode cX7_init 54 = .ok (.newarray .int, 2) := by decide +kernel
theorem dX7_init_56 : decode cX7_init 56 = .ok (.putfield 28, 3) := by decide +kernel
theorem dX7_init_59 : decode cX7_init 59 = .ok (.aload_n 0, 1) := by decide +kernel
theorem dX7_init_60 : decode cX7_init 60 = .ok (.bipush 10, 2) := by decide +kernel
theorem dX7_init_62 : decode cX7_init 62 = .ok (.newarray .int, 2) := by decide +kernel
theorem dX7_init_64 : decode cX7_init 64 = .ok (.putfield 31, 3) := by decide +kernel
theorem dX7_init_67 : decode cX7_init 67 = .ok (.aload_n 0, 1) := by decide +kernel
theorem dX7_init_68 : decode cX7_init 68 = .ok (.bipush 10, 2) := by decide +kernel
theorem dX7_init_70 : decode cX7_init 70 = .ok (.newarray .int, 2) := by decide +kernel
theorem dX7_init_72 : decode cX7_init 72 = .ok (.putfield 34, 3) := by decide +kernel
theorem dX7_init_75 : decode cX7_init 75 = .ok (.aload_n 0, 1) := by decide +kernel
theorem dX7_init_76 : decode cX7_init 76 = .ok (.bipush 10, 2) := by decide +kernel
theorem dX7_init_78 : decode cX7_init 78 = .ok (.newarray .int, 2) := by decide +kernel
theorem dX7_init_80 : decode cX7_init 80 = .ok (.putfield 37, 3) := by decide +kernel
theorem dX7_init_83 : decode cX7_init 83 = .ok (.aload_n 0, 1) := by decide +kernel
theorem dX7_init_84 : decode cX7_init 84 = .ok (.bipush 10, 2) := by decide +kernel
theorem dX7_init_86 : decode cX7_init 86 = .ok (.newarray .int, 2) := by decide +kernel
theorem dX7_init_88 : decode cX7_init 88 = .ok (.putfield 40, 3) := by decide +kernel
theorem dX7_init_91 : decode cX7_init 91 = .ok (.aload_n 0, 1) := by decide +kernel
theorem dX7_init_92 : decode cX7_init 92 = .ok (.bipush 10, 2) := by decide +kernel
theorem dX7_init_94 : decode cX7_init 94 = .ok (.newarray .int, 2) := by decide +kernel
theorem dX7_init_96 : decode cX7_init 96 = .ok (.putfield 43, 3) := by decide +kernel
theorem dX7_init_99 : decode cX7_init 99 = .ok (.aload_n 0, 1) := by decide +kernel
theorem dX7_init_100 : decode cX7_init 100 = .ok (.bipush 10, 2) := by decide +kernel
theorem dX7_init_102 : decode cX7_init 102 = .ok (.newarray .int, 2) := by decide +kernel
theorem dX7_init_104 : decode cX7_init 104 = .ok (.putfield 46, 3) := by decide +kernel
theorem dX7_init_107 : decode cX7_init 107 = .ok (.aload_n 0, 1) := by decide +kernel
theorem dX7_init_108 : decode cX7_init 108 = .ok (.bipush 10, 2) := by decide +kernel
theorem dX7_init_110 : decode cX7_init 110 = .ok (.newarray .int, 2) := by decide +kernel
theorem dX7_init_112 : decode cX7_init 112 = .ok (.putfield 49, 3) := by decide +kernel
theorem dX7_init_115 : decode cX7_init 115 = .ok (.aload_n 0, 1) := by decide +kernel
theorem dX7_init_116 : decode cX7_init 116 = .ok (.bipush 10, 2) := by decide +kernel
theorem dX7_init_118 : decode cX7_init 118 = .ok (.newarray .int, 2) := by decide +kernel
theorem dX7_init_120 : decode cX7_init 120 = .ok (.putfield 52, 3) := by decide +kernel
theorem dX7_init_123 : decode cX7_init 123 = .ok (.aload_n 0, 1) := by decide +kernel
theorem dX7_init_124 : decode cX7_init 124 = .ok (.bipush 10, 2) := by decide +kernel
theorem dX7_init_126 : decode cX7_init 126 = .ok (.newarray .int, 2) := by decide +kernel
theorem dX7_init_128 : decode cX7_init 128 = .ok (.putfield 55, 3) := by decide +kernel
theorem dX7_init_131 : decode cX7_init 131 = .ok (.aload_n 0, 1) := by decide +kernel
theorem dX7_init_132 : decode cX7_init 132 = .ok (.bipush 9, 2) := by decide +kernel
theorem dX7_init_134 : decode cX7_init 134 = .ok (.newarray .int, 2) := by decide +kernel
theorem dX7_init_136 : decode cX7_init 136 = .ok (.putfield 58, 3) := by decide +kernel
theorem dX7_init_139 : decode cX7_init 139 = .ok (.aload_n 0, 1) := by decide +kernel
theorem dX7_init_140 : decode cX7_init 140 = .ok (.bipush 9, 2) := by decide +kernel
theorem dX7_init_142 : decode cX7_init 142 = .ok (.newarray .int, 2) := by decide +kernel
theorem dX7_init_144 : decode cX7_init 144 = .ok (.putfield 61, 3) := by decide +kernel
theorem dX7_init_147 : decode cX7_init 147 = .ok (.aload_n 0, 1) := by decide +kernel
theorem dX7_init_148 : decode cX7_init 148 = .ok (.sipush 1024, 3) := by decide +kernel
theorem dX7_init_151 : decode cX7_init 151 = .ok (.newarray .long, 2) := by decide +kernel
theorem dX7_init_153 : decode cX7_init 153 = .ok (.putfield 64, 3) := by decide +kernel
theorem dX7_init_156 : decode cX7_init 156 = .ok (.aload_n 0, 1) := by decide +kernel
theorem dX7_init_157 : decode cX7_init 157 = .ok (.iconst 4, 1) := by decide +kernel
theorem dX7_init_158 : decode cX7_init 158 = .ok (.newarray .boolean, 2) := by decide +kernel
theorem dX7_init_160 : decode cX7_init 160 = .ok (.putfield 68, 3) := by decide +kernel
theorem dX7_init_163 : decode cX7_init 163 = .ok (.aload_n 0, 1) := by decide +kernel
theorem dX7_init_164 : decode cX7_init 164 = .ok (.iconst 4, 1) := by decide +kernel
theorem dX7_init_165 : decode cX7_init 165 = .ok (.newarray .int, 2) := by decide +kernel
theorem dX7_init_167 : decode cX7_init 167 = .ok (.putfield 72, 3) := by decide +kernel
theorem dX7_init_170 : decode cX7_init 170 = .ok (.aload_n 0, 1) := by decide +kernel
theorem dX7_init_171 : decode cX7_init 171 = .ok (.iconst 4, 1) := by decide +kernel
theorem dX7_init_172 : decode cX7_init 172 = .ok (.newarray .int, 2) := by decide +kernel
theorem dX7_init_174 : decode cX7_init 174 = .ok (.putfield 75, 3) := by decide +kernel
theorem dX7_init_177 : decode cX7_init 177 = .ok (.aload_n 0, 1) := by decide +kernel
theorem dX7_init_178 : decode cX7_init 178 = .ok (.sipush 192, 3) := by decide +kernel
theorem dX7_init_181 : decode cX7_init 181 = .ok (.newarray .int, 2) := by decide +kernel
theorem dX7_init_183 : decode cX7_init 183 = .ok (.putfield 78, 3) := by decide +kernel
theorem dX7_init_186 : decode cX7_init 186 = .ok (.aload_n 0, 1) := by decide +kernel
theorem dX7_init_187 : decode cX7_init 187 = .ok (.bipush 48, 2) := by decide +kernel
theorem dX7_init_189 : decode cX7_init 189 = .ok (.newarray .int, 2) := by decide +kernel
theorem dX7_init_191 : decode cX7_init 191 = .ok (.putfield 81, 3) := by decide +kernel
theorem dX7_init_194 : decode cX7_init 194 = .ok (.aload_n 0, 1) := by decide +kernel
theorem dX7_init_195 : decode cX7_init 195 = .ok (.bipush 10, 2) := by decide +kernel
theorem dX7_init_197 : decode cX7_init 197 = .ok (.putfield 84, 3) := by decide +kernel
theorem dX7_init_200 : decode cX7_init 200 = .ok (.aload_n 0, 1) := by decide +kernel
theorem dX7_init_201 : decode cX7_init 201 = .ok (.iconst 1, 1) := by decide +kernel
theorem dX7_init_202 : decode cX7_init 202 = .ok (.putfield 88, 3) := by decide +kernel
theorem dX7_init_205 : decode cX7_init 205 = .ok (.aload_n 0, 1) := by decide +kernel
theorem dX7_init_206 : decode cX7_init 206 = .ok (.iconst 2, 1) := by decide +kernel
theorem dX7_init_207 : decode cX7_init 207 = .ok (.putfield 91, 3) := by decide +kernel
theorem dX7_init_210 : decode cX7_init 210 = .ok (.aload_n 0, 1) := by decide +kernel
theorem dX7_init_211 : decode cX7_init 211 = .ok (.iconst 1, 1) := by decide +kernel
theorem dX7_init_212 : decode cX7_init 212 = .ok (.putfield 94, 3) := by decide +kernel
theorem dX7_init_215 : decode cX7_init 215 = .ok (.return_, 1) := by decide +kernel
theorem dX7_in_0 : decode cX7_in 0 = .ok (.iload_n 0, 1) := by decide +kernel
theorem dX7_in_1 : decode cX7_in 1 = .ok (.iload_n 1, 1) := by decide +kernel
theorem dX7_in_2 : decode cX7_in 2 = .ok (.if_icmp .lt 12, 3) := by decide +kernel
theorem dX7_in_5 : decode cX7_in 5 = .ok (.iload_n 0, 1) := by decide +kernel
theorem dX7_in_6 : decode cX7_in 6 = .ok (.iload_n 2, 1) := by decide +kernel
theorem dX7_in_7 : decode cX7_in 7 = .ok (.if_icmp .gt 7, 3) := by decide +kernel
theorem dX7_in_10 : decode cX7_in 10 = .ok (.iconst 1, 1) := by decide +kernel
theorem dX7_in_11 : decode cX7_in 11 = .ok (.goto 4, 3) := by decide +kernel
theorem dX7_in_14 : decode cX7_in 14 = .ok (.iconst 0, 1) := by decide +kernel
theorem dX7_in_15 : decode cX7_in 15 = .ok (.ireturn, 1) := by decide +kernel
theorem dX7_isIn_0 : decode cX7_isIn 0 = .ok (.iload_n 0, 1) := by decide +kernel
theorem dX7_isIn_1 : decode cX7_isIn 1 = .ok (.iload_n 1, 1) := by decide +kernel
theorem dX7_isIn_2 : decode cX7_isIn 2 = .ok (.ishr, 1) := by decide +kernel
theorem dX7_isIn_3 : decode cX7_isIn 3 = .ok (.iconst 1, 1) := by decide +kernel
theorem dX7_isIn_4 : decode cX7_isIn 4 = .ok (.iand, 1) := by decide +kernel
theorem dX7_isIn_5 : decode cX7_isIn 5 = .ok (.iconst 1, 1) := by decide +kernel
theorem dX7_isIn_6 : decode cX7_isIn 6 = .ok (.if_icmp .ne 7, 3) := by decide +kernel
theorem dX7_isIn_9 : decode cX7_isIn 9 = .ok (.iconst 1, 1) := by decide +kernel
theorem dX7_isIn_10 : decode cX7_isIn 10 = .ok (.goto 4, 3) := by decide +kernel
theorem dX7_isIn_13 : decode cX7_isIn 13 = .ok (.iconst 0, 1) := by decide +kernel
theorem dX7_isIn_14 : decode cX7_isIn 14 = .ok (.ireturn, 1) := by decide +kernel
theorem dX7_ones_0 : decode cX7_ones 0 = .ok (.iconst 0, 1) := by decide +kernel
theorem dX7_ones_1 : decode cX7_ones 1 = .ok (.istore_n 1, 1) := by decide +kernel
theorem dX7_ones_2 : decode cX7_ones 2 = .ok (.iconst 0, 1) := by decide +kernel
theorem dX7_ones_3 : decode cX7_ones 3 = .ok (.istore_n 2, 1) := by decide +kernel
theorem dX7_ones_4 : decode cX7_ones 4 = .ok (.iload_n 2, 1) := by decide +kernel
theorem dX7_ones_5 : decode cX7_ones 5 = .ok (.bipush 10, 2) := by decide +kernel
theorem dX7_ones_7 : decode cX7_ones 7 = .ok (.if_icmp .ge 17, 3) := by decide +kernel
theorem dX7_ones_10 : decode cX7_ones 10 = .ok (.iload_n 1, 1) := by decide +kernel
theorem dX7_ones_11 : decode cX7_ones 11 = .ok (.iload_n 0, 1) := by decide +kernel
theorem dX7_ones_12 : decode cX7_ones 12 = .ok (.iload_n 2, 1) := by decide +kernel
theorem dX7_ones_13 : decode cX7_ones 13 = .ok (.ishr, 1) := by decide +kernel
theorem dX7_ones_14 : decode cX7_ones 14 = .ok (.iconst 1, 1) := by decide +kernel
theorem dX7_ones_15 : decode cX7_ones 15 = .ok (.iand, 1) := by decide +kernel
theorem dX7_ones_16 : decode cX7_ones 16 = .ok (.iadd, 1) := by decide +kernel
theorem dX7_ones_17 : decode cX7_ones 17 = .ok (.istore_n 1, 1) := by decide +kernel
theorem dX7_ones_18 : decode cX7_ones 18 = .ok (.iinc 2 1, 3) := by decide +kernel
theorem dX7_ones_21 : decode cX7_ones 21 = .ok (.goto (-17), 3) := by decide +kernel
theorem dX7_ones_24 : decode cX7_ones 24 = .ok (.iload_n 1, 1) := by decide +kernel
theorem dX7_ones_25 : decode cX7_ones 25 = .ok (.ireturn, 1) := by decide +kernel
theorem dX7_no_0 : decode cX7_no 0 = .ok (.ldc2_w 97, 3) := by decide +kernel
theorem dX7_no_3 : decode cX7_no 3 = .ok (.iload_n 0, 1) := by decide +kernel
theorem dX7_no_4 : decode cX7_no 4 = .ok (.i2l, 1) := by decide +kernel
theorem dX7_no_5 : decode cX7_no 5 = .ok (.lsub, 1) := by decide +kernel
theorem dX7_no_6 : decode cX7_no 6 = .ok (.lreturn, 1) := by decide +kernel
theorem dX7_lowest_0 : decode cX7_lowest 0 = .ok (.lload_n 0, 1) := by decide +kernel
theorem dX7_lowest_1 : decode cX7_lowest 1 = .ok (.lstore 5, 2) := by decide +kernel
theorem dX7_lowest_3 : decode cX7_lowest 3 = .ok (.lload_n 2, 1) := by decide +kernel
theorem dX7_lowest_4 : decode cX7_lowest 4 = .ok (.lstore 7, 2) := by decide +kernel
theorem dX7_lowest_6 : decode cX7_lowest 6 = .ok (.lload 7, 2) := by decide +kernel
theorem dX7_lowest_8 : decode cX7_lowest 8 = .ok (.lconst 0, 1) := by decide +kernel
theorem dX7_lowest_9 : decode cX7_lowest 9 = .ok (.lcmp, 1) := by decide +kernel
theorem dX7_lowest_10 : decode cX7_lowest 10 = .ok (.ifCond .eq 21, 3) := by decide +kernel
theorem dX7_lowest_13 : decode cX7_lowest 13 = .ok (.lload 5, 2) := by decide +kernel
theorem dX7_lowest_15 : decode cX7_lowest 15 = .ok (.lload 7, 2) := by decide +kernel
theorem dX7_lowest_17 : decode cX7_lowest 17 = .ok (.lrem, 1) := by decide +kernel
theorem dX7_lowest_18 : decode cX7_lowest 18 = .ok (.lstore 9, 2) := by decide +kernel
theorem dX7_lowest_20 : decode cX7_lowest 20 = .ok (.lload 7, 2) := by decide +kernel
theorem dX7_lowest_22 : decode cX7_lowest 22 = .ok (.lstore 5, 2) := by decide +kernel
theorem dX7_lowest_24 : decode cX7_lowest 24 = .ok (.lload 9, 2) := by decide +kernel
theorem dX7_lowest_26 : decode cX7_lowest 26 = .ok (.lstore 7, 2) := by decide +kernel
theorem dX7_lowest_28 : decode cX7_lowest 28 = .ok (.goto (-22), 3) := by decide +kernel
theorem dX7_lowest_31 : decode cX7_lowest 31 = .ok (.iload 4, 2) := by decide +kernel
theorem dX7_lowest_33 : decode cX7_lowest 33 = .ok (.ifCond .ne 10, 3) := by decide +kernel
theorem dX7_lowest_36 : decode cX7_lowest 36 = .ok (.lload_n 0, 1) := by decide +kernel
theorem dX7_lowest_37 : decode cX7_lowest 37 = .ok (.lload 5, 2) := by decide +kernel
theorem dX7_lowest_39 : decode cX7_lowest 39 = .ok (.ldiv, 1) := by decide +kernel
theorem dX7_lowest_40 : decode cX7_lowest 40 = .ok (.goto 7, 3) := by decide +kernel
theorem dX7_lowest_43 : decode cX7_lowest 43 = .ok (.lload_n 2, 1) := by decide +kernel
theorem dX7_lowest_44 : decode cX7_lowest 44 = .ok (.lload 5, 2) := by decide +kernel
theorem dX7_lowest_46 : decode cX7_lowest 46 = .ok (.ldiv, 1) := by decide +kernel
theorem dX7_lowest_47 : decode cX7_lowest 47 = .ok (.lreturn, 1) := by decide +kernel
theorem dX7_isText_0 : decode cX7_isText 0 = .ok (.iload_n 0, 1) := by decide +kernel
theorem dX7_isText_1 : decode cX7_isText 1 = .ok (.iconst 0, 1) := by decide +kernel
theorem dX7_isText_2 : decode cX7_isText 2 = .ok (.iconst 2, 1) := by decide +kernel
theorem dX7_isText_3 : decode cX7_isText 3 = .ok (.invokestatic 99, 3) := by decide +kernel
theorem dX7_isText_6 : decode cX7_isText 6 = .ok (.ireturn, 1) := by decide +kernel
theorem dX7_isGuest_0 : decode cX7_isGuest 0 = .ok (.iload_n 0, 1) := by decide +kernel
theorem dX7_isGuest_1 : decode cX7_isGuest 1 = .ok (.iconst 0, 1) := by decide +kernel
theorem dX7_isGuest_2 : decode cX7_isGuest 2 = .ok (.bipush 9, 2) := by decide +kernel
theorem dX7_isGuest_4 : decode cX7_isGuest 4 = .ok (.invokestatic 99, 3) := by decide +kernel
theorem dX7_isGuest_7 : decode cX7_isGuest 7 = .ok (.ireturn, 1) := by decide +kernel
theorem dX7_type_0 : decode cX7_type 0 = .ok (.iload_n 1, 1) := by decide +kernel
theorem dX7_type_1 : decode cX7_type 1 = .ok (.invokestatic 103, 3) := by decide +kernel
theorem dX7_type_4 : decode cX7_type 4 = .ok (.ifCond .eq 14, 3) := by decide +kernel
theorem dX7_type_7 : decode cX7_type 7 = .ok (.iload_n 2, 1) := by decide +kernel
theorem dX7_type_8 : decode cX7_type 8 = .ok (.iconst 0, 1) := by decide +kernel
theorem dX7_type_9 : decode cX7_type 9 = .ok (.sipush 255, 3) := by decide +kernel
theorem dX7_type_12 : decode cX7_type 12 = .ok (.invokestatic 99, 3) := by decide +kernel
theorem dX7_type_15 : decode cX7_type 15 = .ok (.ifCond .ne 6, 3) := by decide +kernel
theorem dX7_type_18 : decode cX7_type 18 = .ok (.bipush (-2), 2) := by decide +kernel
theorem dX7_type_20 : decode cX7_type 20 = .ok (.ireturn, 1) := by decide +kernel
theorem dX7_type_21 : decode cX7_type 21 = .ok (.aload_n 0, 1) := by decide +kernel
theorem dX7_type_22 : decode cX7_type 22 = .ok (.getfield 7, 3) := by decide +kernel
theorem dX7_type_25 : decode cX7_type 25 = .ok (.iload_n 1, 1) := by decide +kernel
theorem dX7_type_26 : decode cX7_type 26 = .ok (.iaload, 1) := by decide +kernel
theorem dX7_type_27 : decode cX7_type 27 = .ok (.bipush 10, 2) := by decide +kernel
theorem dX7_type_29 : decode cX7_type 29 = .ok (.if_icmp .ne 6, 3) := by decide +kernel
theorem dX7_type_32 : decode cX7_type 32 = .ok (.bipush (-4), 2) := by decide +kernel
theorem dX7_type_34 : decode cX7_type 34 = .ok (.ireturn, 1) := by decide +kernel
theorem dX7_type_35 : decode cX7_type 35 = .ok (.aload_n 0, 1) := by decide +kernel
theorem dX7_type_36 : decode cX7_type 36 = .ok (.getfield 13, 3) := by decide +kernel
theorem dX7_type_39 : decode cX7_type 39 = .ok (.bipush 10, 2) := by decide +kernel
theorem dX7_type_41 : decode cX7_type 41 = .ok (.iload_n 1, 1) := by decide +kernel
theorem dX7_type_42 : decode cX7_type 42 = .ok (.imul, 1) := by decide +kernel
theorem dX7_type_43 : decode cX7_type 43 = .ok (.aload_n 0, 1) := by decide +kernel
theorem dX7_type_44 : decode cX7_type 44 = .ok (.getfield 7, 3) := by decide +kernel
theorem dX7_type_47 : decode cX7_type 47 = .ok (.iload_n 1, 1) := by decide +kernel
theorem dX7_type_48 : decode cX7_type 48 = .ok (.iaload, 1) := by decide +kernel
theorem dX7_type_49 : decode cX7_type 49 = .ok (.iadd, 1) := by decide +kernel
theorem dX7_type_50 : decode cX7_type 50 = .ok (.iload_n 2, 1) := by decide +kernel
theorem dX7_type_51 : decode cX7_type 51 = .ok (.iastore, 1) := by decide +kernel
theorem dX7_type_52 : decode cX7_type 52 = .ok (.aload_n 0, 1) := by decide +kernel
theorem dX7_type_53 : decode cX7_type 53 = .ok (.getfield 7, 3) := by decide +kernel
theorem dX7_type_56 : decode cX7_type 56 = .ok (.iload_n 1, 1) := by decide +kernel
theorem dX7_type_57 : decode cX7_type 57 = .ok (.dup2, 1) := by decide +kernel
theorem dX7_type_58 : decode cX7_type 58 = .ok (.iaload, 1) := by decide +kernel
theorem dX7_type_59 : decode cX7_type 59 = .ok (.iconst 1, 1) := by decide +kernel
theorem dX7_type_60 : decode cX7_type 60 = .ok (.iadd, 1) := by decide +kernel
theorem dX7_type_61 : decode cX7_type 61 = .ok (.iastore, 1) := by decide +kernel
theorem dX7_type_62 : decode cX7_type 62 = .ok (.aload_n 0, 1) := by decide +kernel
theorem dX7_type_63 : decode cX7_type 63 = .ok (.getfield 7, 3) := by decide +kernel
theorem dX7_type_66 : decode cX7_type 66 = .ok (.iload_n 1, 1) := by decide +kernel
theorem dX7_type_67 : decode cX7_type 67 = .ok (.iaload, 1) := by decide +kernel
theorem dX7_type_68 : decode cX7_type 68 = .ok (.ireturn, 1) := by decide +kernel
theorem dX7_wipe_0 : decode cX7_wipe 0 = .ok (.iload_n 1, 1) := by decide +kernel
theorem dX7_wipe_1 : decode cX7_wipe 1 = .ok (.invokestatic 103, 3) := by decide +kernel
theorem dX7_wipe_4 : decode cX7_wipe 4 = .ok (.ifCond .ne 6, 3) := by decide +kernel
theorem dX7_wipe_7 : decode cX7_wipe 7 = .ok (.bipush (-2), 2) := by decide +kernel
theorem dX7_wipe_9 : decode cX7_wipe 9 = .ok (.ireturn, 1) := by decide +kernel
theorem dX7_wipe_10 : decode cX7_wipe 10 = .ok (.aload_n 0, 1) := by decide +kernel
theorem dX7_wipe_11 : decode cX7_wipe 11 = .ok (.getfield 7, 3) := by decide +kernel
theorem dX7_wipe_14 : decode cX7_wipe 14 = .ok (.iload_n 1, 1) := by decide +kernel
theorem dX7_wipe_15 : decode cX7_wipe 15 = .ok (.iaload, 1) := by decide +kernel
theorem dX7_wipe_16 : decode cX7_wipe 16 = .ok (.istore_n 2, 1) := by decide +kernel
theorem dX7_wipe_17 : decode cX7_wipe 17 = .ok (.aload_n 0, 1) := by decide +kernel
theorem dX7_wipe_18 : decode cX7_wipe 18 = .ok (.getfield 7, 3) := by decide +kernel
theorem dX7_wipe_21 : decode cX7_wipe 21 = .ok (.iload_n 1, 1) := by decide +kernel
theorem dX7_wipe_22 : decode cX7_wipe 22 = .ok (.iconst 0, 1) := by decide +kernel
theorem dX7_wipe_23 : decode cX7_wipe 23 = .ok (.iastore, 1) := by decide +kernel
theorem dX7_wipe_24 : decode cX7_wipe 24 = .ok (.iload_n 2, 1) := by decide +kernel
theorem dX7_wipe_25 : decode cX7_wipe 25 = .ok (.ireturn, 1) := by decide +kernel
theorem dX7_undo_0 : decode cX7_undo 0 = .ok (.iload_n 1, 1) := by decide +kernel
theorem dX7_undo_1 : decode cX7_undo 1 = .ok (.invokestatic 103, 3) := by decide +kernel
theorem dX7_undo_4 : decode cX7_undo 4 = .ok (.ifCond .ne 6, 3) := by decide +kernel
theorem dX7_undo_7 : decode cX7_undo 7 = .ok (.bipush (-2), 2) := by decide +kernel
theorem dX7_undo_9 : decode cX7_undo 9 = .ok (.ireturn, 1) := by decide +kernel
theorem dX7_undo_10 : decode cX7_undo 10 = .ok (.aload_n 0, 1) := by decide +kernel
theorem dX7_undo_11 : decode cX7_undo 11 = .ok (.getfield 7, 3) := by decide +kernel
theorem dX7_undo_14 : decode cX7_undo 14 = .ok (.iload_n 1, 1) := by decide +kernel
theorem dX7_undo_15 : decode cX7_undo 15 = .ok (.iaload, 1) := by decide +kernel
theorem dX7_undo_16 : decode cX7_undo 16 = .ok (.ifCond .ne 6, 3) := by decide +kernel
theorem dX7_undo_19 : decode cX7_undo 19 = .ok (.bipush (-3), 2) := by decide +kernel
theorem dX7_undo_21 : decode cX7_undo 21 = .ok (.ireturn, 1) := by decide +kernel
theorem dX7_undo_22 : decode cX7_undo 22 = .ok (.aload_n 0, 1) := by decide +kernel
theorem dX7_undo_23 : decode cX7_undo 23 = .ok (.getfield 7, 3) := by decide +kernel
theorem dX7_undo_26 : decode cX7_undo 26 = .ok (.iload_n 1, 1) := by decide +kernel
theorem dX7_undo_27 : decode cX7_undo 27 = .ok (.dup2, 1) := by decide +kernel
theorem dX7_undo_28 : decode cX7_undo 28 = .ok (.iaload, 1) := by decide +kernel
theorem dX7_undo_29 : decode cX7_undo 29 = .ok (.iconst 1, 1) := by decide +kernel
theorem dX7_undo_30 : decode cX7_undo 30 = .ok (.isub, 1) := by decide +kernel
theorem dX7_undo_31 : decode cX7_undo 31 = .ok (.iastore, 1) := by decide +kernel
theorem dX7_undo_32 : decode cX7_undo 32 = .ok (.aload_n 0, 1) := by decide +kernel
theorem dX7_undo_33 : decode cX7_undo 33 = .ok (.getfield 7, 3) := by decide +kernel
theorem dX7_undo_36 : decode cX7_undo 36 = .ok (.iload_n 1, 1) := by decide +kernel
theorem dX7_undo_37 : decode cX7_undo 37 = .ok (.iaload, 1) := by decide +kernel
theorem dX7_undo_38 : decode cX7_undo 38 = .ok (.ireturn, 1) := by decide +kernel
theorem dX7_wrongLetter_0 : decode cX7_wrongLetter 0 = .ok (.iload_n 2, 1) := by decide +kernel
theorem dX7_wrongLetter_1 : decode cX7_wrongLetter 1 = .ok (.istore_n 3, 1) := by decide +kernel
theorem dX7_wrongLetter_2 : decode cX7_wrongLetter 2 = .ok (.iconst 0, 1) := by decide +kernel
theorem dX7_wrongLetter_3 : decode cX7_wrongLetter 3 = .ok (.istore 4, 2) := by decide +kernel
theorem dX7_wrongLetter_5 : decode cX7_wrongLetter 5 = .ok (.iload 4, 2) := by decide +kernel
theorem dX7_wrongLetter_7 : decode cX7_wrongLetter 7 = .ok (.aload_n 0, 1) := by decide +kernel
theorem dX7_wrongLetter_8 : decode cX7_wrongLetter 8 = .ok (.getfield 7, 3) := by decide +kernel
theorem dX7_wrongLetter_11 : decode cX7_wrongLetter 11 = .ok (.iload_n 1, 1) := by decide +kernel
theorem dX7_wrongLetter_12 : decode cX7_wrongLetter 12 = .ok (.iaload, 1) := by decide +kernel
theorem dX7_wrongLetter_13 : decode cX7_wrongLetter 13 = .ok (.if_icmp .ge 55, 3) := by decide +kernel
theorem dX7_wrongLetter_16 : decode cX7_wrongLetter 16 = .ok (.aload_n 0, 1) := by decide +kernel
theorem dX7_wrongLetter_17 : decode cX7_wrongLetter 17 = .ok (.getfield 13, 3) := by decide +kernel
theorem dX7_wrongLetter_20 : decode cX7_wrongLetter 20 = .ok (.bipush 10, 2) := by decide +kernel
theorem dX7_wrongLetter_22 : decode cX7_wrongLetter 22 = .ok (.iload_n 1, 1) := by decide +kernel
theorem dX7_wrongLetter_23 : decode cX7_wrongLetter 23 = .ok (.imul, 1) := by decide +kernel
theorem dX7_wrongLetter_24 : decode cX7_wrongLetter 24 = .ok (.iload 4, 2) := by decide +kernel
theorem dX7_wrongLetter_26 : decode cX7_wrongLetter 26 = .ok (.iadd, 1) := by decide +kernel
theorem dX7_wrongLetter_27 : decode cX7_wrongLetter 27 = .ok (.iaload, 1) := by decide +kernel
theorem dX7_wrongLetter_28 : decode cX7_wrongLetter 28 = .ok (.bipush 97, 2) := by decide +kernel
theorem dX7_wrongLetter_30 : decode cX7_wrongLetter 30 = .ok (.isub, 1) := by decide +kernel
theorem dX7_wrongLetter_31 : decode cX7_wrongLetter 31 = .ok (.istore 5, 2) := by decide +kernel
theorem dX7_wrongLetter_33 : decode cX7_wrongLetter 33 = .ok (.iload 5, 2) := by decide +kernel
theorem dX7_wrongLetter_35 : decode cX7_wrongLetter 35 = .ok (.invokestatic 107, 3) := by decide +kernel
theorem dX7_wrongLetter_38 : decode cX7_wrongLetter 38 = .ok (.ifCond .eq 12, 3) := by decide +kernel
theorem dX7_wrongLetter_41 : decode cX7_wrongLetter 41 = .ok (.iload_n 3, 1) := by decide +kernel
theorem dX7_wrongLetter_42 : decode cX7_wrongLetter 42 = .ok (.iload 5, 2) := by decide +kernel
theorem dX7_wrongLetter_44 : decode cX7_wrongLetter 44 = .ok (.invokestatic 110, 3) := by decide +kernel
theorem dX7_wrongLetter_47 : decode cX7_wrongLetter 47 = .ok (.ifCond .ne 6, 3) := by decide +kernel
theorem dX7_wrongLetter_50 : decode cX7_wrongLetter 50 = .ok (.iload 4, 2) := by decide +kernel
theorem dX7_wrongLetter_52 : decode cX7_wrongLetter 52 = .ok (.ireturn, 1) := by decide +kernel
theorem dX7_wrongLetter_53 : decode cX7_wrongLetter 53 = .ok (.iload_n 3, 1) := by decide +kernel
theorem dX7_wrongLetter_54 : decode cX7_wrongLetter 54 = .ok (.iconst 1, 1) := by decide +kernel
theorem dX7_wrongLetter_55 : decode cX7_wrongLetter 55 = .ok (.iload 5, 2) := by decide +kernel
theorem dX7_wrongLetter_57 : decode cX7_wrongLetter 57 = .ok (.ishl, 1) := by decide +kernel
theorem dX7_wrongLetter_58 : decode cX7_wrongLetter 58 = .ok (.iconst (-1), 1) := by decide +kernel
theorem dX7_wrongLetter_59 : decode cX7_wrongLetter 59 = .ok (.ixor, 1) := by decide +kernel
theorem dX7_wrongLetter_60 : decode cX7_wrongLetter 60 = .ok (.iand, 1) := by decide +kernel
theorem dX7_wrongLetter_61 : decode cX7_wrongLetter 61 = .ok (.istore_n 3, 1) := by decide +kernel
theorem dX7_wrongLetter_62 : decode cX7_wrongLetter 62 = .ok (.iinc 4 1, 3) := by decide +kernel
theorem dX7_wrongLetter_65 : decode cX7_wrongLetter 65 = .ok (.goto (-60), 3) := by decide +kernel
theorem dX7_wrongLetter_68 : decode cX7_wrongLetter 68 = .ok (.iconst (-1), 1) := by decide +kernel
theorem dX7_wrongLetter_69 : decode cX7_wrongLetter 69 = .ok (.ireturn, 1) := by decide +kernel
theorem dX7_faultOf_0 : decode cX7_faultOf 0 = .ok (.aload_n 0, 1) := by decide +kernel
theorem dX7_faultOf_1 : decode cX7_faultOf 1 = .ok (.iconst 0, 1) := by decide +kernel
theorem dX7_faultOf_2 : decode cX7_faultOf 2 = .ok (.sipush 1023, 3) := by decide +kernel
theorem dX7_faultOf_5 : decode cX7_faultOf 5 = .ok (.invokevirtual 114, 3) := by decide +kernel
theorem dX7_faultOf_8 : decode cX7_faultOf 8 = .ok (.istore_n 2, 1) := by decide +kernel
theorem dX7_faultOf_9 : decode cX7_faultOf 9 = .ok (.aload_n 0, 1) := by decide +kernel
theorem dX7_faultOf_10 : decode cX7_faultOf 10 = .ok (.iload_n 2, 1) := by decide +kernel
theorem dX7_faultOf_11 : decode cX7_faultOf 11 = .ok (.iconst (-1), 1) := by decide +kernel
theorem dX7_faultOf_12 : decode cX7_faultOf 12 = .ok (.if_icmp .ne 12, 3) := by decide +kernel
theorem dX7_faultOf_15 : decode cX7_faultOf 15 = .ok (.aload_n 0, 1) := by decide +kernel
theorem dX7_faultOf_16 : decode cX7_faultOf 16 = .ok (.getfield 7, 3) := by decide +kernel
theorem dX7_faultOf_19 : decode cX7_faultOf 19 = .ok (.iconst 0, 1) := by decide +kernel
theorem dX7_faultOf_20 : decode cX7_faultOf 20 = .ok (.iaload, 1) := by decide +kernel
theorem dX7_faultOf_21 : decode cX7_faultOf 21 = .ok (.goto 4, 3) := by decide +kernel
theorem dX7_faultOf_24 : decode cX7_faultOf 24 = .ok (.iconst 0, 1) := by decide +kernel
theorem dX7_faultOf_25 : decode cX7_faultOf 25 = .ok (.putfield 118, 3) := by decide +kernel
theorem dX7_faultOf_28 : decode cX7_faultOf 28 = .ok (.aload_n 0, 1) := by decide +kernel
theorem dX7_faultOf_29 : decode cX7_faultOf 29 = .ok (.iconst 0, 1) := by decide +kernel
theorem dX7_faultOf_30 : decode cX7_faultOf 30 = .ok (.putfield 121, 3) := by decide +kernel
theorem dX7_faultOf_33 : decode cX7_faultOf 33 = .ok (.iconst 0, 1) := by decide +kernel
theorem dX7_faultOf_34 : decode cX7_faultOf 34 = .ok (.istore_n 3, 1) := by decide +kernel
theorem dX7_faultOf_35 : decode cX7_faultOf 35 = .ok (.iload_n 3, 1) := by decide +kernel
theorem dX7_faultOf_36 : decode cX7_faultOf 36 = .ok (.aload_n 0, 1) := by decide +kernel
theorem dX7_faultOf_37 : decode cX7_faultOf 37 = .ok (.getfield 118, 3) := by decide +kernel
theorem dX7_faultOf_40 : decode cX7_faultOf 40 = .ok (.if_icmp .ge 41, 3) := by decide +kernel
theorem dX7_faultOf_43 : decode cX7_faultOf 43 = .ok (.aload_n 0, 1) := by decide +kernel
theorem dX7_faultOf_44 : decode cX7_faultOf 44 = .ok (.getfield 16, 3) := by decide +kernel
theorem dX7_faultOf_47 : decode cX7_faultOf 47 = .ok (.iload_n 3, 1) := by decide +kernel
theorem dX7_faultOf_48 : decode cX7_faultOf 48 = .ok (.aload_n 0, 1) := by decide +kernel
theorem dX7_faultOf_49 : decode cX7_faultOf 49 = .ok (.getfield 13, 3) := by decide +kernel
theorem dX7_faultOf_52 : decode cX7_faultOf 52 = .ok (.iload_n 3, 1) := by decide +kernel
theorem dX7_faultOf_53 : decode cX7_faultOf 53 = .ok (.iaload, 1) := by decide +kernel
theorem dX7_faultOf_54 : decode cX7_faultOf 54 = .ok (.bipush 97, 2) := by decide +kernel
theorem dX7_faultOf_56 : decode cX7_faultOf 56 = .ok (.isub, 1) := by decide +kernel
theorem dX7_faultOf_57 : decode cX7_faultOf 57 = .ok (.iastore, 1) := by decide +kernel
theorem dX7_faultOf_58 : decode cX7_faultOf 58 = .ok (.aload_n 0, 1) := by decide +kernel
theorem dX7_faultOf_59 : decode cX7_faultOf 59 = .ok (.dup, 1) := by decide +kernel
theorem dX7_faultOf_60 : decode cX7_faultOf 60 = .ok (.getfield 121, 3) := by decide +kernel
theorem dX7_faultOf_63 : decode cX7_faultOf 63 = .ok (.iconst 1, 1) := by decide +kernel
theorem dX7_faultOf_64 : decode cX7_faultOf 64 = .ok (.aload_n 0, 1) := by decide +kernel
theorem dX7_faultOf_65 : decode cX7_faultOf 65 = .ok (.getfield 16, 3) := by decide +kernel
theorem dX7_faultOf_68 : decode cX7_faultOf 68 = .ok (.iload_n 3, 1) := by decide +kernel
theorem dX7_faultOf_69 : decode cX7_faultOf 69 = .ok (.iaload, 1) := by decide +kernel
theorem dX7_faultOf_70 : decode cX7_faultOf 70 = .ok (.ishl, 1) := by decide +kernel
theorem dX7_faultOf_71 : decode cX7_faultOf 71 = .ok (.ior, 1) := by decide +kernel
theorem dX7_faultOf_72 : decode cX7_faultOf 72 = .ok (.putfield 121, 3) := by decide +kernel
theorem dX7_faultOf_75 : decode cX7_faultOf 75 = .ok (.iinc 3 1, 3) := by decide +kernel
theorem dX7_faultOf_78 : decode cX7_faultOf 78 = .ok (.goto (-43), 3) := by decide +kernel
theorem dX7_faultOf_81 : decode cX7_faultOf 81 = .ok (.aload_n 0, 1) := by decide +kernel
theorem dX7_faultOf_82 : decode cX7_faultOf 82 = .ok (.iconst 1, 1) := by decide +kernel
theorem dX7_faultOf_83 : decode cX7_faultOf 83 = .ok (.aload_n 0, 1) := by decide +kernel
theorem dX7_faultOf_84 : decode cX7_faultOf 84 = .ok (.getfield 121, 3) := by decide +kernel
theorem dX7_faultOf_87 : decode cX7_faultOf 87 = .ok (.invokevirtual 114, 3) := by decide +kernel
theorem dX7_faultOf_90 : decode cX7_faultOf 90 = .ok (.istore_n 3, 1) := by decide +kernel
theorem dX7_faultOf_91 : decode cX7_faultOf 91 = .ok (.aload_n 0, 1) := by decide +kernel
theorem dX7_faultOf_92 : decode cX7_faultOf 92 = .ok (.iload_n 3, 1) := by decide +kernel
theorem dX7_faultOf_93 : decode cX7_faultOf 93 = .ok (.iconst (-1), 1) := by decide +kernel
theorem dX7_faultOf_94 : decode cX7_faultOf 94 = .ok (.if_icmp .ne 12, 3) := by decide +kernel
theorem dX7_faultOf_97 : decode cX7_faultOf 97 = .ok (.aload_n 0, 1) := by decide +kernel
theorem dX7_faultOf_98 : decode cX7_faultOf 98 = .ok (.getfield 7, 3) := by decide +kernel
theorem dX7_faultOf_101 : decode cX7_faultOf 101 = .ok (.iconst 1, 1) := by decide +kernel
theorem dX7_faultOf_102 : decode cX7_faultOf 102 = .ok (.iaload, 1) := by decide +kernel
theorem dX7_faultOf_103 : decode cX7_faultOf 103 = .ok (.goto 4, 3) := by decide +kernel
theorem dX7_faultOf_106 : decode cX7_faultOf 106 = .ok (.iconst 0, 1) := by decide +kernel
theorem dX7_faultOf_107 : decode cX7_faultOf 107 = .ok (.putfield 124, 3) := by decide +kernel
theorem dX7_faultOf_110 : decode cX7_faultOf 110 = .ok (.iconst 0, 1) := by decide +kernel
theorem dX7_faultOf_111 : decode cX7_faultOf 111 = .ok (.istore 4, 2) := by decide +kernel
theorem dX7_faultOf_113 : decode cX7_faultOf 113 = .ok (.iload 4, 2) := by decide +kernel
theorem dX7_faultOf_115 : decode cX7_faultOf 115 = .ok (.aload_n 0, 1) := by decide +kernel
theorem dX7_faultOf_116 : decode cX7_faultOf 116 = .ok (.getfield 124, 3) := by decide +kernel
theorem dX7_faultOf_119 : decode cX7_faultOf 119 = .ok (.if_icmp .ge 29, 3) := by decide +kernel
theorem dX7_faultOf_122 : decode cX7_faultOf 122 = .ok (.aload_n 0, 1) := by decide +kernel
theorem dX7_faultOf_123 : decode cX7_faultOf 123 = .ok (.getfield 19, 3) := by decide +kernel
theorem dX7_faultOf_126 : decode cX7_faultOf 126 = .ok (.iload 4, 2) := by decide +kernel
theorem dX7_faultOf_128 : decode cX7_faultOf 128 = .ok (.aload_n 0, 1) := by decide +kernel
theorem dX7_faultOf_129 : decode cX7_faultOf 129 = .ok (.getfield 13, 3) := by decide +kernel
theorem dX7_faultOf_132 : decode cX7_faultOf 132 = .ok (.bipush 10, 2) := by decide +kernel
theorem dX7_faultOf_134 : decode cX7_faultOf 134 = .ok (.iload 4, 2) := by decide +kernel
theorem dX7_faultOf_136 : decode cX7_faultOf 136 = .ok (.iadd, 1) := by decide +kernel
theorem dX7_faultOf_137 : decode cX7_faultOf 137 = .ok (.iaload, 1) := by decide +kernel
theorem dX7_faultOf_138 : decode cX7_faultOf 138 = .ok (.bipush 97, 2) := by decide +kernel
theorem dX7_faultOf_140 : decode cX7_faultOf 140 = .ok (.isub, 1) := by decide +kernel
theorem dX7_faultOf_141 : decode cX7_faultOf 141 = .ok (.iastore, 1) := by decide +kernel
theorem dX7_faultOf_142 : decode cX7_faultOf 142 = .ok (.iinc 4 1, 3) := by decide +kernel
theorem dX7_faultOf_145 : decode cX7_faultOf 145 = .ok (.goto (-32), 3) := by decide +kernel
theorem dX7_faultOf_148 : decode cX7_faultOf 148 = .ok (.aload_n 0, 1) := by decide +kernel
theorem dX7_faultOf_149 : decode cX7_faultOf 149 = .ok (.iconst 2, 1) := by decide +kernel
theorem dX7_faultOf_150 : decode cX7_faultOf 150 = .ok (.sipush 1023, 3) := by decide +kernel
theorem dX7_faultOf_153 : decode cX7_faultOf 153 = .ok (.invokevirtual 114, 3) := by decide +kernel
theorem dX7_faultOf_156 : decode cX7_faultOf 156 = .ok (.istore 4, 2) := by decide +kernel
theorem dX7_faultOf_158 : decode cX7_faultOf 158 = .ok (.iload 4, 2) := by decide +kernel
theorem dX7_faultOf_160 : decode cX7_faultOf 160 = .ok (.iconst (-1), 1) := by decide +kernel
theorem dX7_faultOf_161 : decode cX7_faultOf 161 = .ok (.if_icmp .ne 30, 3) := by decide +kernel
theorem dX7_faultOf_164 : decode cX7_faultOf 164 = .ok (.aload_n 0, 1) := by decide +kernel
theorem dX7_faultOf_165 : decode cX7_faultOf 165 = .ok (.iconst 2, 1) := by decide +kernel
theorem dX7_faultOf_166 : decode cX7_faultOf 166 = .ok (.iconst 1, 1) := by decide +kernel
theorem dX7_faultOf_167 : decode cX7_faultOf 167 = .ok (.aload_n 0, 1) := by decide +kernel
theorem dX7_faultOf_168 : decode cX7_faultOf 168 = .ok (.getfield 7, 3) := by decide +kernel
theorem dX7_faultOf_171 : decode cX7_faultOf 171 = .ok (.iconst 2, 1) := by decide +kernel
theorem dX7_faultOf_172 : decode cX7_faultOf 172 = .ok (.iaload, 1) := by decide +kernel
theorem dX7_faultOf_173 : decode cX7_faultOf 173 = .ok (.ishl, 1) := by decide +kernel
theorem dX7_faultOf_174 : decode cX7_faultOf 174 = .ok (.iconst 1, 1) := by decide +kernel
theorem dX7_faultOf_175 : decode cX7_faultOf 175 = .ok (.isub, 1) := by decide +kernel
theorem dX7_faultOf_176 : decode cX7_faultOf 176 = .ok (.invokevirtual 114, 3) := by decide +kernel
theorem dX7_faultOf_179 : decode cX7_faultOf 179 = .ok (.iconst (-1), 1) := by decide +kernel
theorem dX7_faultOf_180 : decode cX7_faultOf 180 = .ok (.if_icmp .eq 11, 3) := by decide +kernel
theorem dX7_faultOf_183 : decode cX7_faultOf 183 = .ok (.aload_n 0, 1) := by decide +kernel
theorem dX7_faultOf_184 : decode cX7_faultOf 184 = .ok (.getfield 7, 3) := by decide +kernel
theorem dX7_faultOf_187 : decode cX7_faultOf 187 = .ok (.iconst 2, 1) := by decide +kernel
theorem dX7_faultOf_188 : decode cX7_faultOf 188 = .ok (.iaload, 1) := by decide +kernel
theorem dX7_faultOf_189 : decode cX7_faultOf 189 = .ok (.istore 4, 2) := by decide +kernel
theorem dX7_faultOf_191 : decode cX7_faultOf 191 = .ok (.aload_n 0, 1) := by decide +kernel
theorem dX7_faultOf_192 : decode cX7_faultOf 192 = .ok (.iload 4, 2) := by decide +kernel
theorem dX7_faultOf_194 : decode cX7_faultOf 194 = .ok (.iconst (-1), 1) := by decide +kernel
theorem dX7_faultOf_195 : decode cX7_faultOf 195 = .ok (.if_icmp .ne 12, 3) := by decide +kernel
theorem dX7_faultOf_198 : decode cX7_faultOf 198 = .ok (.aload_n 0, 1) := by decide +kernel
theorem dX7_faultOf_199 : decode cX7_faultOf 199 = .ok (.getfield 7, 3) := by decide +kernel
theorem dX7_faultOf_202 : decode cX7_faultOf 202 = .ok (.iconst 2, 1) := by decide +kernel
theorem dX7_faultOf_203 : decode cX7_faultOf 203 = .ok (.iaload, 1) := by decide +kernel
theorem dX7_faultOf_204 : decode cX7_faultOf 204 = .ok (.goto 4, 3) := by decide +kernel
theorem dX7_faultOf_207 : decode cX7_faultOf 207 = .ok (.iconst 0, 1) := by decide +kernel
theorem dX7_faultOf_208 : decode cX7_faultOf 208 = .ok (.putfield 127, 3) := by decide +kernel
theorem dX7_faultOf_211 : decode cX7_faultOf 211 = .ok (.iconst 0, 1) := by decide +kernel
theorem dX7_faultOf_212 : decode cX7_faultOf 212 = .ok (.istore 5, 2) := by decide +kernel
theorem dX7_faultOf_214 : decode cX7_faultOf 214 = .ok (.iload 5, 2) := by decide +kernel
theorem dX7_faultOf_216 : decode cX7_faultOf 216 = .ok (.aload_n 0, 1) := by decide +kernel
theorem dX7_faultOf_217 : decode cX7_faultOf 217 = .ok (.getfield 127, 3) := by decide +kernel
theorem dX7_faultOf_220 : decode cX7_faultOf 220 = .ok (.if_icmp .ge 29, 3) := by decide +kernel
theorem dX7_faultOf_223 : decode cX7_faultOf 223 = .ok (.aload_n 0, 1) := by decide +kernel
theorem dX7_faultOf_224 : decode cX7_faultOf 224 = .ok (.getfield 22, 3) := by decide +kernel
theorem dX7_faultOf_227 : decode cX7_faultOf 227 = .ok (.iload 5, 2) := by decide +kernel
theorem dX7_faultOf_229 : decode cX7_faultOf 229 = .ok (.aload_n 0, 1) := by decide +kernel
theorem dX7_faultOf_230 : decode cX7_faultOf 230 = .ok (.getfield 13, 3) := by decide +kernel
theorem dX7_faultOf_233 : decode cX7_faultOf 233 = .ok (.bipush 20, 2) := by decide +kernel
theorem dX7_faultOf_235 : decode cX7_faultOf 235 = .ok (.iload 5, 2) := by decide +kernel
theorem dX7_faultOf_237 : decode cX7_faultOf 237 = .ok (.iadd, 1) := by decide +kernel
theorem dX7_faultOf_238 : decode cX7_faultOf 238 = .ok (.iaload, 1) := by decide +kernel
theorem dX7_faultOf_239 : decode cX7_faultOf 239 = .ok (.bipush 97, 2) := by decide +kernel
theorem dX7_faultOf_241 : decode cX7_faultOf 241 = .ok (.isub, 1) := by decide +kernel
theorem dX7_faultOf_242 : decode cX7_faultOf 242 = .ok (.iastore, 1) := by decide +kernel
theorem dX7_faultOf_243 : decode cX7_faultOf 243 = .ok (.iinc 5 1, 3) := by decide +kernel
theorem dX7_faultOf_246 : decode cX7_faultOf 246 = .ok (.goto (-32), 3) := by decide +kernel
theorem dX7_faultOf_249 : decode cX7_faultOf 249 = .ok (.iload_n 1, 1) := by decide +kernel
theorem dX7_faultOf_250 : decode cX7_faultOf 250 = .ok (.ifCond .ne 7, 3) := by decide +kernel
theorem dX7_faultOf_253 : decode cX7_faultOf 253 = .ok (.iload_n 2, 1) := by decide +kernel
theorem dX7_faultOf_254 : decode cX7_faultOf 254 = .ok (.goto 14, 3) := by decide +kernel
theorem dX7_faultOf_257 : decode cX7_faultOf 257 = .ok (.iload_n 1, 1) := by decide +kernel
theorem dX7_faultOf_258 : decode cX7_faultOf 258 = .ok (.iconst 1, 1) := by decide +kernel
theorem dX7_faultOf_259 : decode cX7_faultOf 259 = .ok (.if_icmp .ne 7, 3) := by decide +kernel
theorem dX7_faultOf_262 : decode cX7_faultOf 262 = .ok (.iload_n 3, 1) := by decide +kernel
theorem dX7_faultOf_263 : decode cX7_faultOf 263 = .ok (.goto 5, 3) := by decide +kernel
theorem dX7_faultOf_266 : decode cX7_faultOf 266 = .ok (.iload 4, 2) := by decide +kernel
theorem dX7_faultOf_268 : decode cX7_faultOf 268 = .ok (.ireturn, 1) := by decide +kernel
theorem dX7_reads_0 : decode cX7_reads 0 = .ok (.aload_n 0, 1) := by decide +kernel
theorem dX7_reads_1 : decode cX7_reads 1 = .ok (.iconst 0, 1) := by decide +kernel
theorem dX7_reads_2 : decode cX7_reads 2 = .ok (.invokevirtual 130, 3) := by decide +kernel
theorem dX7_reads_5 : decode cX7_reads 5 = .ok (.istore_n 1, 1) := by decide +kernel
theorem dX7_reads_6 : decode cX7_reads 6 = .ok (.return_, 1) := by decide +kernel
theorem dX7_fault_0 : decode cX7_fault 0 = .ok (.iload_n 1, 1) := by decide +kernel
theorem dX7_fault_1 : decode cX7_fault 1 = .ok (.invokestatic 103, 3) := by decide +kernel
theorem dX7_fault_4 : decode cX7_fault 4 = .ok (.ifCond .eq 11, 3) := by decide +kernel
theorem dX7_fault_7 : decode cX7_fault 7 = .ok (.aload_n 0, 1) := by decide +kernel
theorem dX7_fault_8 : decode cX7_fault 8 = .ok (.iload_n 1, 1) := by decide +kernel
theorem dX7_fault_9 : decode cX7_fault 9 = .ok (.invokevirtual 130, 3) := by decide +kernel
theorem dX7_fault_12 : decode cX7_fault 12 = .ok (.goto 5, 3) := by decide +kernel
theorem dX7_fault_15 : decode cX7_fault 15 = .ok (.bipush (-2), 2) := by decide +kernel
theorem dX7_fault_17 : decode cX7_fault 17 = .ok (.ireturn, 1) := by decide +kernel
theorem dX7_guest_0 : decode cX7_guest 0 = .ok (.iload_n 1, 1) := by decide +kernel
theorem dX7_guest_1 : decode cX7_guest 1 = .ok (.invokestatic 107, 3) := by decide +kernel
theorem dX7_guest_4 : decode cX7_guest 4 = .ok (.ifCond .eq 40, 3) := by decide +kernel
theorem dX7_guest_7 : decode cX7_guest 7 = .ok (.iload_n 2, 1) := by decide +kernel
theorem dX7_guest_8 : decode cX7_guest 8 = .ok (.iconst 0, 1) := by decide +kernel
theorem dX7_guest_9 : decode cX7_guest 9 = .ok (.iconst 2, 1) := by decide +kernel
theorem dX7_guest_10 : decode cX7_guest 10 = .ok (.invokestatic 99, 3) := by decide +kernel
theorem dX7_guest_13 : decode cX7_guest 13 = .ok (.ifCond .eq 31, 3) := by decide +kernel
theorem dX7_guest_16 : decode cX7_guest 16 = .ok (.iload_n 3, 1) := by decide +kernel
theorem dX7_guest_17 : decode cX7_guest 17 = .ok (.iconst 0, 1) := by decide +kernel
theorem dX7_guest_18 : decode cX7_guest 18 = .ok (.iload_n 2, 1) := by decide +kernel
theorem dX7_guest_19 : decode cX7_guest 19 = .ok (.ifCond .ne 8, 3) := by decide +kernel
theorem dX7_guest_22 : decode cX7_guest 22 = .ok (.bipush 9, 2) := by decide +kernel
theorem dX7_guest_24 : decode cX7_guest 24 = .ok (.goto 14, 3) := by decide +kernel
theorem dX7_guest_27 : decode cX7_guest 27 = .ok (.iload_n 2, 1) := by decide +kernel
theorem dX7_guest_28 : decode cX7_guest 28 = .ok (.iconst 1, 1) := by decide +kernel
theorem dX7_guest_29 : decode cX7_guest 29 = .ok (.if_icmp .ne 7, 3) := by decide +kernel
theorem dX7_guest_32 : decode cX7_guest 32 = .ok (.iconst 3, 1) := by decide +kernel
theorem dX7_guest_33 : decode cX7_guest 33 = .ok (.goto 5, 3) := by decide +kernel
theorem dX7_guest_36 : decode cX7_guest 36 = .ok (.bipush 99, 2) := by decide +kernel
theorem dX7_guest_38 : decode cX7_guest 38 = .ok (.invokestatic 99, 3) := by decide +kernel
theorem dX7_guest_41 : decode cX7_guest 41 = .ok (.ifCond .ne 6, 3) := by decide +kernel
theorem dX7_guest_44 : decode cX7_guest 44 = .ok (.bipush (-2), 2) := by decide +kernel
theorem dX7_guest_46 : decode cX7_guest 46 = .ok (.ireturn, 1) := by decide +kernel
theorem dX7_guest_47 : decode cX7_guest 47 = .ok (.iload_n 2, 1) := by decide +kernel
theorem dX7_guest_48 : decode cX7_guest 48 = .ok (.ifCond .ne 12, 3) := by decide +kernel
theorem dX7_guest_51 : decode cX7_guest 51 = .ok (.aload_n 0, 1) := by decide +kernel
theorem dX7_guest_52 : decode cX7_guest 52 = .ok (.getfield 25, 3) := by decide +kernel
theorem dX7_guest_55 : decode cX7_guest 55 = .ok (.iload_n 1, 1) := by decide +kernel
theorem dX7_guest_56 : decode cX7_guest 56 = .ok (.iaload, 1) := by decide +kernel
theorem dX7_guest_57 : decode cX7_guest 57 = .ok (.goto 23, 3) := by decide +kernel
theorem dX7_guest_60 : decode cX7_guest 60 = .ok (.iload_n 2, 1) := by decide +kernel
theorem dX7_guest_61 : decode cX7_guest 61 = .ok (.iconst 1, 1) := by decide +kernel
theorem dX7_guest_62 : decode cX7_guest 62 = .ok (.if_icmp .ne 12, 3) := by decide +kernel
theorem dX7_guest_65 : decode cX7_guest 65 = .ok (.aload_n 0, 1) := by decide +kernel
theorem dX7_guest_66 : decode cX7_guest 66 = .ok (.getfield 28, 3) := by decide +kernel
theorem dX7_guest_69 : decode cX7_guest 69 = .ok (.iload_n 1, 1) := by decide +kernel
theorem dX7_guest_70 : decode cX7_guest 70 = .ok (.iaload, 1) := by decide +kernel
theorem dX7_guest_71 : decode cX7_guest 71 = .ok (.goto 9, 3) := by decide +kernel
theorem dX7_guest_74 : decode cX7_guest 74 = .ok (.aload_n 0, 1) := by decide +kernel
theorem dX7_guest_75 : decode cX7_guest 75 = .ok (.getfield 31, 3) := by decide +kernel
theorem dX7_guest_78 : decode cX7_guest 78 = .ok (.iload_n 1, 1) := by decide +kernel
theorem dX7_guest_79 : decode cX7_guest 79 = .ok (.iaload, 1) := by decide +kernel
theorem dX7_guest_80 : decode cX7_guest 80 = .ok (.istore 4, 2) := by decide +kernel
theorem dX7_guest_82 : decode cX7_guest 82 = .ok (.iload_n 2, 1) := by decide +kernel
theorem dX7_guest_83 : decode cX7_guest 83 = .ok (.ifCond .ne 13, 3) := by decide +kernel
theorem dX7_guest_86 : decode cX7_guest 86 = .ok (.aload_n 0, 1) := by decide +kernel
theorem dX7_guest_87 : decode cX7_guest 87 = .ok (.getfield 25, 3) := by decide +kernel
theorem dX7_guest_90 : decode cX7_guest 90 = .ok (.iload_n 1, 1) := by decide +kernel
theorem dX7_guest_91 : decode cX7_guest 91 = .ok (.iload_n 3, 1) := by decide +kernel
theorem dX7_guest_92 : decode cX7_guest 92 = .ok (.iastore, 1) := by decide +kernel
theorem dX7_guest_93 : decode cX7_guest 93 = .ok (.goto 25, 3) := by decide +kernel
theorem dX7_guest_96 : decode cX7_guest 96 = .ok (.iload_n 2, 1) := by decide +kernel
theorem dX7_guest_97 : decode cX7_guest 97 = .ok (.iconst 1, 1) := by decide +kernel
theorem dX7_guest_98 : decode cX7_guest 98 = .ok (.if_icmp .ne 13, 3) := by decide +kernel
theorem dX7_guest_101 : decode cX7_guest 101 = .ok (.aload_n 0, 1) := by decide +kernel
theorem dX7_guest_102 : decode cX7_guest 102 = .ok (.getfield 28, 3) := by decide +kernel
theorem dX7_guest_105 : decode cX7_guest 105 = .ok (.iload_n 1, 1) := by decide +kernel
theorem dX7_guest_106 : decode cX7_guest 106 = .ok (.iload_n 3, 1) := by decide +kernel
theorem dX7_guest_107 : decode cX7_guest 107 = .ok (.iastore, 1) := by decide +kernel
theorem dX7_guest_108 : decode cX7_guest 108 = .ok (.goto 10, 3) := by decide +kernel
theorem dX7_guest_111 : decode cX7_guest 111 = .ok (.aload_n 0, 1) := by decide +kernel
theorem dX7_guest_112 : decode cX7_guest 112 = .ok (.getfield 31, 3) := by decide +kernel
theorem dX7_guest_115 : decode cX7_guest 115 = .ok (.iload_n 1, 1) := by decide +kernel
theorem dX7_guest_116 : decode cX7_guest 116 = .ok (.iload_n 3, 1) := by decide +kernel
theorem dX7_guest_117 : decode cX7_guest 117 = .ok (.iastore, 1) := by decide +kernel
theorem dX7_guest_118 : decode cX7_guest 118 = .ok (.iload 4, 2) := by decide +kernel
theorem dX7_guest_120 : decode cX7_guest 120 = .ok (.ireturn, 1) := by decide +kernel
theorem dX7_set_0 : decode cX7_set 0 = .ok (.iload_n 1, 1) := by decide +kernel
theorem dX7_set_1 : decode cX7_set 1 = .ok (.ifCond .ne 8, 3) := by decide +kernel
theorem dX7_set_4 : decode cX7_set 4 = .ok (.bipush 10, 2) := by decide +kernel
theorem dX7_set_6 : decode cX7_set 6 = .ok (.goto 15, 3) := by decide +kernel
theorem dX7_set_9 : decode cX7_set 9 = .ok (.iload_n 1, 1) := by decide +kernel
theorem dX7_set_10 : decode cX7_set 10 = .ok (.iconst 2, 1) := by decide +kernel
theorem dX7_set_11 : decode cX7_set 11 = .ok (.if_icmp .ne 8, 3) := by decide +kernel
theorem dX7_set_14 : decode cX7_set 14 = .ok (.bipush 60, 2) := by decide +kernel
theorem dX7_set_16 : decode cX7_set 16 = .ok (.goto 5, 3) := by decide +kernel
theorem dX7_set_19 : decode cX7_set 19 = .ok (.bipush 9, 2) := by decide +kernel
theorem dX7_set_21 : decode cX7_set 21 = .ok (.istore_n 3, 1) := by decide +kernel
theorem dX7_set_22 : decode cX7_set 22 = .ok (.iload_n 1, 1) := by decide +kernel
theorem dX7_set_23 : decode cX7_set 23 = .ok (.iconst 0, 1) := by decide +kernel
theorem dX7_set_24 : decode cX7_set 24 = .ok (.iconst 3, 1) := by decide +kernel
theorem dX7_set_25 : decode cX7_set 25 = .ok (.invokestatic 99, 3) := by decide +kernel
theorem dX7_set_28 : decode cX7_set 28 = .ok (.ifCond .eq 21, 3) := by decide +kernel
theorem dX7_set_31 : decode cX7_set 31 = .ok (.iload_n 2, 1) := by decide +kernel
theorem dX7_set_32 : decode cX7_set 32 = .ok (.iload_n 1, 1) := by decide +kernel
theorem dX7_set_33 : decode cX7_set 33 = .ok (.iconst 3, 1) := by decide +kernel
theorem dX7_set_34 : decode cX7_set 34 = .ok (.if_icmp .ne 7, 3) := by decide +kernel
theorem dX7_set_37 : decode cX7_set 37 = .ok (.iconst 0, 1) := by decide +kernel
theorem dX7_set_38 : decode cX7_set 38 = .ok (.goto 4, 3) := by decide +kernel
theorem dX7_set_41 : decode cX7_set 41 = .ok (.iconst 1, 1) := by decide +kernel
theorem dX7_set_42 : decode cX7_set 42 = .ok (.iload_n 3, 1) := by decide +kernel
theorem dX7_set_43 : decode cX7_set 43 = .ok (.invokestatic 99, 3) := by decide +kernel
theorem dX7_set_46 : decode cX7_set 46 = .ok (.ifCond .ne 6, 3) := by decide +kernel
theorem dX7_set_49 : decode cX7_set 49 = .ok (.bipush (-2), 2) := by decide +kernel
theorem dX7_set_51 : decode cX7_set 51 = .ok (.ireturn, 1) := by decide +kernel
theorem dX7_set_52 : decode cX7_set 52 = .ok (.iload_n 1, 1) := by decide +kernel
theorem dX7_set_53 : decode cX7_set 53 = .ok (.ifCond .ne 10, 3) := by decide +kernel
theorem dX7_set_56 : decode cX7_set 56 = .ok (.aload_n 0, 1) := by decide +kernel
theorem dX7_set_57 : decode cX7_set 57 = .ok (.getfield 84, 3) := by decide +kernel
theorem dX7_set_60 : decode cX7_set 60 = .ok (.goto 31, 3) := by decide +kernel
theorem dX7_set_63 : decode cX7_set 63 = .ok (.iload_n 1, 1) := by decide +kernel
theorem dX7_set_64 : decode cX7_set 64 = .ok (.iconst 1, 1) := by decide +kernel
theorem dX7_set_65 : decode cX7_set 65 = .ok (.if_icmp .ne 10, 3) := by decide +kernel
theorem dX7_set_68 : decode cX7_set 68 = .ok (.aload_n 0, 1) := by decide +kernel
theorem dX7_set_69 : decode cX7_set 69 = .ok (.getfield 88, 3) := by decide +kernel
theorem dX7_set_72 : decode cX7_set 72 = .ok (.goto 19, 3) := by decide +kernel
theorem dX7_set_75 : decode cX7_set 75 = .ok (.iload_n 1, 1) := by decide +kernel
theorem dX7_set_76 : decode cX7_set 76 = .ok (.iconst 2, 1) := by decide +kernel
theorem dX7_set_77 : decode cX7_set 77 = .ok (.if_icmp .ne 10, 3) := by decide +kernel
theorem dX7_set_80 : decode cX7_set 80 = .ok (.aload_n 0, 1) := by decide +kernel
theorem dX7_set_81 : decode cX7_set 81 = .ok (.getfield 91, 3) := by decide +kernel
theorem dX7_set_84 : decode cX7_set 84 = .ok (.goto 7, 3) := by decide +kernel
theorem dX7_set_87 : decode cX7_set 87 = .ok (.aload_n 0, 1) := by decide +kernel
theorem dX7_set_88 : decode cX7_set 88 = .ok (.getfield 94, 3) := by decide +kernel
theorem dX7_set_91 : decode cX7_set 91 = .ok (.istore 4, 2) := by decide +kernel
theorem dX7_set_93 : decode cX7_set 93 = .ok (.aload_n 0, 1) := by decide +kernel
theorem dX7_set_94 : decode cX7_set 94 = .ok (.iload_n 1, 1) := by decide +kernel
theorem dX7_set_95 : decode cX7_set 95 = .ok (.ifCond .ne 7, 3) := by decide +kernel
theorem dX7_set_98 : decode cX7_set 98 = .ok (.iload_n 2, 1) := by decide +kernel
theorem dX7_set_99 : decode cX7_set 99 = .ok (.goto 7, 3) := by decide +kernel
theorem dX7_set_102 : decode cX7_set 102 = .ok (.aload_n 0, 1) := by decide +kernel
theorem dX7_set_103 : decode cX7_set 103 = .ok (.getfield 84, 3) := by decide +kernel
theorem dX7_set_106 : decode cX7_set 106 = .ok (.putfield 84, 3) := by decide +kernel
theorem dX7_set_109 : decode cX7_set 109 = .ok (.aload_n 0, 1) := by decide +kernel
theorem dX7_set_110 : decode cX7_set 110 = .ok (.iload_n 1, 1) := by decide +kernel
theorem dX7_set_111 : decode cX7_set 111 = .ok (.iconst 1, 1) := by decide +kernel
theorem dX7_set_112 : decode cX7_set 112 = .ok (.if_icmp .ne 7, 3) := by decide +kernel
theorem dX7_set_115 : decode cX7_set 115 = .ok (.iload_n 2, 1) := by decide +kernel
theorem dX7_set_116 : decode cX7_set 116 = .ok (.goto 7, 3) := by decide +kernel
theorem dX7_set_119 : decode cX7_set 119 = .ok (.aload_n 0, 1) := by decide +kernel
theorem dX7_set_120 : decode cX7_set 120 = .ok (.getfield 88, 3) := by decide +kernel
theorem dX7_set_123 : decode cX7_set 123 = .ok (.putfield 88, 3) := by decide +kernel
theorem dX7_set_126 : decode cX7_set 126 = .ok (.aload_n 0, 1) := by decide +kernel
theorem dX7_set_127 : decode cX7_set 127 = .ok (.iload_n 1, 1) := by decide +kernel
theorem dX7_set_128 : decode cX7_set 128 = .ok (.iconst 2, 1) := by decide +kernel
theorem dX7_set_129 : decode cX7_set 129 = .ok (.if_icmp .ne 7, 3) := by decide +kernel
theorem dX7_set_132 : decode cX7_set 132 = .ok (.iload_n 2, 1) := by decide +kernel
theorem dX7_set_133 : decode cX7_set 133 = .ok (.goto 7, 3) := by decide +kernel
theorem dX7_set_136 : decode cX7_set 136 = .ok (.aload_n 0, 1) := by decide +kernel
theorem dX7_set_137 : decode cX7_set 137 = .ok (.getfield 91, 3) := by decide +kernel
theorem dX7_set_140 : decode cX7_set 140 = .ok (.putfield 91, 3) := by decide +kernel
theorem dX7_set_143 : decode cX7_set 143 = .ok (.aload_n 0, 1) := by decide +kernel
theorem dX7_set_144 : decode cX7_set 144 = .ok (.iload_n 1, 1) := by decide +kernel
theorem dX7_set_145 : decode cX7_set 145 = .ok (.iconst 3, 1) := by decide +kernel
theorem dX7_set_146 : decode cX7_set 146 = .ok (.if_icmp .ne 7, 3) := by decide +kernel
theorem dX7_set_149 : decode cX7_set 149 = .ok (.iload_n 2, 1) := by decide +kernel
theorem dX7_set_150 : decode cX7_set 150 = .ok (.goto 7, 3) := by decide +kernel
theorem dX7_set_153 : decode cX7_set 153 = .ok (.aload_n 0, 1) := by decide +kernel
theorem dX7_set_154 : decode cX7_set 154 = .ok (.getfield 94, 3) := by decide +kernel
theorem dX7_set_157 : decode cX7_set 157 = .ok (.putfield 94, 3) := by decide +kernel
theorem dX7_set_160 : decode cX7_set 160 = .ok (.iload 4, 2) := by decide +kernel
theorem dX7_set_162 : decode cX7_set 162 = .ok (.ireturn, 1) := by decide +kernel
theorem dX7_read_0 : decode cX7_read 0 = .ok (.iload_n 1, 1) := by decide +kernel
theorem dX7_read_1 : decode cX7_read 1 = .ok (.invokestatic 134, 3) := by decide +kernel
theorem dX7_read_4 : decode cX7_read 4 = .ok (.ifCond .ne 6, 3) := by decide +kernel
theorem dX7_read_7 : decode cX7_read 7 = .ok (.bipush (-2), 2) := by decide +kernel
theorem dX7_read_9 : decode cX7_read 9 = .ok (.ireturn, 1) := by decide +kernel
theorem dX7_read_10 : decode cX7_read 10 = .ok (.aload_n 0, 1) := by decide +kernel
theorem dX7_read_11 : decode cX7_read 11 = .ok (.getfield 68, 3) := by decide +kernel
theorem dX7_read_14 : decode cX7_read 14 = .ok (.iload_n 1, 1) := by decide +kernel
theorem dX7_read_15 : decode cX7_read 15 = .ok (.baload, 1) := by decide +kernel
theorem dX7_read_16 : decode cX7_read 16 = .ok (.ifCond .ne 9, 3) := by decide +kernel
theorem dX7_read_19 : decode cX7_read 19 = .ok (.aload_n 0, 1) := by decide +kernel
theorem dX7_read_20 : decode cX7_read 20 = .ok (.iconst 1, 1) := by decide +kernel
theorem dX7_read_21 : decode cX7_read 21 = .ok (.invokevirtual 137, 3) := by decide +kernel
theorem dX7_read_24 : decode cX7_read 24 = .ok (.ireturn, 1) := by decide +kernel
theorem dX7_read_25 : decode cX7_read 25 = .ok (.iconst 0, 1) := by decide +kernel
theorem dX7_read_26 : decode cX7_read 26 = .ok (.istore_n 2, 1) := by decide +kernel
theorem dX7_read_27 : decode cX7_read 27 = .ok (.iload_n 2, 1) := by decide +kernel
theorem dX7_read_28 : decode cX7_read 28 = .ok (.aload_n 0, 1) := by decide +kernel
theorem dX7_read_29 : decode cX7_read 29 = .ok (.getfield 75, 3) := by decide +kernel
theorem dX7_read_32 : decode cX7_read 32 = .ok (.iload_n 1, 1) := by decide +kernel
theorem dX7_read_33 : decode cX7_read 33 = .ok (.iaload, 1) := by decide +kernel
theorem dX7_read_34 : decode cX7_read 34 = .ok (.if_icmp .ge 49, 3) := by decide +kernel
theorem dX7_read_37 : decode cX7_read 37 = .ok (.iload_n 2, 1) := by decide +kernel
theorem dX7_read_38 : decode cX7_read 38 = .ok (.bipush 10, 2) := by decide +kernel
theorem dX7_read_40 : decode cX7_read 40 = .ok (.if_icmp .ge 43, 3) := by decide +kernel
theorem dX7_read_43 : decode cX7_read 43 = .ok (.aload_n 0, 1) := by decide +kernel
theorem dX7_read_44 : decode cX7_read 44 = .ok (.getfield 78, 3) := by decide +kernel
theorem dX7_read_47 : decode cX7_read 47 = .ok (.bipush 48, 2) := by decide +kernel
theorem dX7_read_49 : decode cX7_read 49 = .ok (.iload_n 1, 1) := by decide +kernel
theorem dX7_read_50 : decode cX7_read 50 = .ok (.imul, 1) := by decide +kernel
theorem dX7_read_51 : decode cX7_read 51 = .ok (.iload_n 2, 1) := by decide +kernel
theorem dX7_read_52 : decode cX7_read 52 = .ok (.iadd, 1) := by decide +kernel
theorem dX7_read_53 : decode cX7_read 53 = .ok (.iaload, 1) := by decide +kernel
theorem dX7_read_54 : decode cX7_read 54 = .ok (.invokestatic 107, 3) := by decide +kernel
theorem dX7_read_57 : decode cX7_read 57 = .ok (.ifCond .eq 26, 3) := by decide +kernel
theorem dX7_read_60 : decode cX7_read 60 = .ok (.aload_n 0, 1) := by decide +kernel
theorem dX7_read_61 : decode cX7_read 61 = .ok (.getfield 25, 3) := by decide +kernel
theorem dX7_read_64 : decode cX7_read 64 = .ok (.iload_n 2, 1) := by decide +kernel
theorem dX7_read_65 : decode cX7_read 65 = .ok (.aload_n 0, 1) := by decide +kernel
theorem dX7_read_66 : decode cX7_read 66 = .ok (.getfield 78, 3) := by decide +kernel
theorem dX7_read_69 : decode cX7_read 69 = .ok (.bipush 48, 2) := by decide +kernel
theorem dX7_read_71 : decode cX7_read 71 = .ok (.iload_n 1, 1) := by decide +kernel
theorem dX7_read_72 : decode cX7_read 72 = .ok (.imul, 1) := by decide +kernel
theorem dX7_read_73 : decode cX7_read 73 = .ok (.iload_n 2, 1) := by decide +kernel
theorem dX7_read_74 : decode cX7_read 74 = .ok (.iadd, 1) := by decide +kernel
theorem dX7_read_75 : decode cX7_read 75 = .ok (.iaload, 1) := by decide +kernel
theorem dX7_read_76 : decode cX7_read 76 = .ok (.iastore, 1) := by decide +kernel
theorem dX7_read_77 : decode cX7_read 77 = .ok (.iinc 2 1, 3) := by decide +kernel
theorem dX7_read_80 : decode cX7_read 80 = .ok (.goto (-53), 3) := by decide +kernel
theorem dX7_read_83 : decode cX7_read 83 = .ok (.iload_n 2, 1) := by decide +kernel
theorem dX7_read_84 : decode cX7_read 84 = .ok (.ireturn, 1) := by decide +kernel
theorem dX7_lays_0 : decode cX7_lays 0 = .ok (.aload_n 0, 1) := by decide +kernel
theorem dX7_lays_1 : decode cX7_lays 1 = .ok (.invokevirtual 140, 3) := by decide +kernel
theorem dX7_lays_4 : decode cX7_lays 4 = .ok (.aload_n 0, 1) := by decide +kernel
theorem dX7_lays_5 : decode cX7_lays 5 = .ok (.iconst 0, 1) := by decide +kernel
theorem dX7_lays_6 : decode cX7_lays 6 = .ok (.putfield 143, 3) := by decide +kernel
theorem dX7_lays_9 : decode cX7_lays 9 = .ok (.aload_n 0, 1) := by decide +kernel
theorem dX7_lays_10 : decode cX7_lays 10 = .ok (.iconst (-1), 1) := by decide +kernel
theorem dX7_lays_11 : decode cX7_lays 11 = .ok (.putfield 146, 3) := by decide +kernel
theorem dX7_lays_14 : decode cX7_lays 14 = .ok (.iconst 0, 1) := by decide +kernel
theorem dX7_lays_15 : decode cX7_lays 15 = .ok (.istore_n 1, 1) := by decide +kernel
theorem dX7_lays_16 : decode cX7_lays 16 = .ok (.iload_n 1, 1) := by decide +kernel
theorem dX7_lays_17 : decode cX7_lays 17 = .ok (.bipush 10, 2) := by decide +kernel
theorem dX7_lays_19 : decode cX7_lays 19 = .ok (.if_icmp .ge 16, 3) := by decide +kernel
theorem dX7_lays_22 : decode cX7_lays 22 = .ok (.aload_n 0, 1) := by decide +kernel
theorem dX7_lays_23 : decode cX7_lays 23 = .ok (.getfield 34, 3) := by decide +kernel
theorem dX7_lays_26 : decode cX7_lays 26 = .ok (.iload_n 1, 1) := by decide +kernel
theorem dX7_lays_27 : decode cX7_lays 27 = .ok (.iconst 0, 1) := by decide +kernel
theorem dX7_lays_28 : decode cX7_lays 28 = .ok (.iastore, 1) := by decide +kernel
theorem dX7_lays_29 : decode cX7_lays 29 = .ok (.iinc 1 1, 3) := by decide +kernel
theorem dX7_lays_32 : decode cX7_lays 32 = .ok (.goto (-16), 3) := by decide +kernel
theorem dX7_lays_35 : decode cX7_lays 35 = .ok (.iconst 0, 1) := by decide +kernel
theorem dX7_lays_36 : decode cX7_lays 36 = .ok (.istore_n 1, 1) := by decide +kernel
theorem dX7_lays_37 : decode cX7_lays 37 = .ok (.iload_n 1, 1) := by decide +kernel
theorem dX7_lays_38 : decode cX7_lays 38 = .ok (.aload_n 0, 1) := by decide +kernel
theorem dX7_lays_39 : decode cX7_lays 39 = .ok (.getfield 118, 3) := by decide +kernel
theorem dX7_lays_42 : decode cX7_lays 42 = .ok (.if_icmp .ge 84, 3) := by decide +kernel
theorem dX7_lays_45 : decode cX7_lays 45 = .ok (.aload_n 0, 1) := by decide +kernel
theorem dX7_lays_46 : decode cX7_lays 46 = .ok (.getfield 16, 3) := by decide +kernel
theorem dX7_lays_49 : decode cX7_lays 49 = .ok (.iload_n 1, 1) := by decide +kernel
theorem dX7_lays_50 : decode cX7_lays 50 = .ok (.iaload, 1) := by decide +kernel
theorem dX7_lays_51 : decode cX7_lays 51 = .ok (.istore_n 2, 1) := by decide +kernel
theorem dX7_lays_52 : decode cX7_lays 52 = .ok (.aload_n 0, 1) := by decide +kernel
theorem dX7_lays_53 : decode cX7_lays 53 = .ok (.getfield 34, 3) := by decide +kernel
theorem dX7_lays_56 : decode cX7_lays 56 = .ok (.aload_n 0, 1) := by decide +kernel
theorem dX7_lays_57 : decode cX7_lays 57 = .ok (.getfield 25, 3) := by decide +kernel
theorem dX7_lays_60 : decode cX7_lays 60 = .ok (.iload_n 2, 1) := by decide +kernel
theorem dX7_lays_61 : decode cX7_lays 61 = .ok (.iaload, 1) := by decide +kernel
theorem dX7_lays_62 : decode cX7_lays 62 = .ok (.iaload, 1) := by decide +kernel
theorem dX7_lays_63 : decode cX7_lays 63 = .ok (.aload_n 0, 1) := by decide +kernel
theorem dX7_lays_64 : decode cX7_lays 64 = .ok (.getfield 84, 3) := by decide +kernel
theorem dX7_lays_67 : decode cX7_lays 67 = .ok (.if_icmp .ge 33, 3) := by decide +kernel
theorem dX7_lays_70 : decode cX7_lays 70 = .ok (.aload_n 0, 1) := by decide +kernel
theorem dX7_lays_71 : decode cX7_lays 71 = .ok (.getfield 34, 3) := by decide +kernel
theorem dX7_lays_74 : decode cX7_lays 74 = .ok (.aload_n 0, 1) := by decide +kernel
theorem dX7_lays_75 : decode cX7_lays 75 = .ok (.getfield 25, 3) := by decide +kernel
theorem dX7_lays_78 : decode cX7_lays 78 = .ok (.iload_n 2, 1) := by decide +kernel
theorem dX7_lays_79 : decode cX7_lays 79 = .ok (.iaload, 1) := by decide +kernel
theorem dX7_lays_80 : decode cX7_lays 80 = .ok (.dup2, 1) := by decide +kernel
theorem dX7_lays_81 : decode cX7_lays 81 = .ok (.iaload, 1) := by decide +kernel
theorem dX7_lays_82 : decode cX7_lays 82 = .ok (.iconst 1, 1) := by decide +kernel
theorem dX7_lays_83 : decode cX7_lays 83 = .ok (.iadd, 1) := by decide +kernel
theorem dX7_lays_84 : decode cX7_lays 84 = .ok (.iastore, 1) := by decide +kernel
theorem dX7_lays_85 : decode cX7_lays 85 = .ok (.aload_n 0, 1) := by decide +kernel
theorem dX7_lays_86 : decode cX7_lays 86 = .ok (.dup, 1) := by decide +kernel
theorem dX7_lays_87 : decode cX7_lays 87 = .ok (.getfield 143, 3) := by decide +kernel
theorem dX7_lays_90 : decode cX7_lays 90 = .ok (.iconst 1, 1) := by decide +kernel
theorem dX7_lays_91 : decode cX7_lays 91 = .ok (.iload_n 2, 1) := by decide +kernel
theorem dX7_lays_92 : decode cX7_lays 92 = .ok (.ishl, 1) := by decide +kernel
theorem dX7_lays_93 : decode cX7_lays 93 = .ok (.ior, 1) := by decide +kernel
theorem dX7_lays_94 : decode cX7_lays 94 = .ok (.putfield 143, 3) := by decide +kernel
theorem dX7_lays_97 : decode cX7_lays 97 = .ok (.goto 23, 3) := by decide +kernel
theorem dX7_lays_100 : decode cX7_lays 100 = .ok (.aload_n 0, 1) := by decide +kernel
theorem dX7_lays_101 : decode cX7_lays 101 = .ok (.aload_n 0, 1) := by decide +kernel
theorem dX7_lays_102 : decode cX7_lays 102 = .ok (.getfield 146, 3) := by decide +kernel
theorem dX7_lays_105 : decode cX7_lays 105 = .ok (.iconst (-1), 1) := by decide +kernel
theorem dX7_lays_106 : decode cX7_lays 106 = .ok (.if_icmp .ne 7, 3) := by decide +kernel
theorem dX7_lays_109 : decode cX7_lays 109 = .ok (.iload_n 2, 1) := by decide +kernel
theorem dX7_lays_110 : decode cX7_lays 110 = .ok (.goto 7, 3) := by decide +kernel
theorem dX7_lays_113 : decode cX7_lays 113 = .ok (.aload_n 0, 1) := by decide +kernel
theorem dX7_lays_114 : decode cX7_lays 114 = .ok (.getfield 146, 3) := by decide +kernel
theorem dX7_lays_117 : decode cX7_lays 117 = .ok (.putfield 146, 3) := by decide +kernel
theorem dX7_lays_120 : decode cX7_lays 120 = .ok (.iinc 1 1, 3) := by decide +kernel
theorem dX7_lays_123 : decode cX7_lays 123 = .ok (.goto (-86), 3) := by decide +kernel
theorem dX7_lays_126 : decode cX7_lays 126 = .ok (.return_, 1) := by decide +kernel
theorem dX7_judgedOf_0 : decode cX7_judgedOf 0 = .ok (.aload_n 0, 1) := by decide +kernel
theorem dX7_judgedOf_1 : decode cX7_judgedOf 1 = .ok (.invokevirtual 149, 3) := by decide +kernel
theorem dX7_judgedOf_4 : decode cX7_judgedOf 4 = .ok (.aload_n 0, 1) := by decide +kernel
theorem dX7_judgedOf_5 : decode cX7_judgedOf 5 = .ok (.getfield 146, 3) := by decide +kernel
theorem dX7_judgedOf_8 : decode cX7_judgedOf 8 = .ok (.ireturn, 1) := by decide +kernel
theorem dX7_judged_0 : decode cX7_judged 0 = .ok (.aload_n 0, 1) := by decide +kernel
theorem dX7_judged_1 : decode cX7_judged 1 = .ok (.invokevirtual 152, 3) := by decide +kernel
theorem dX7_judged_4 : decode cX7_judged 4 = .ok (.ireturn, 1) := by decide +kernel
theorem dX7_inFront_0 : decode cX7_inFront 0 = .ok (.iconst 0, 1) := by decide +kernel
theorem dX7_inFront_1 : decode cX7_inFront 1 = .ok (.istore_n 3, 1) := by decide +kernel
theorem dX7_inFront_2 : decode cX7_inFront 2 = .ok (.iconst 0, 1) := by decide +kernel
theorem dX7_inFront_3 : decode cX7_inFront 3 = .ok (.istore 4, 2) := by decide +kernel
theorem dX7_inFront_5 : decode cX7_inFront 5 = .ok (.iconst 0, 1) := by decide +kernel
theorem dX7_inFront_6 : decode cX7_inFront 6 = .ok (.istore 5, 2) := by decide +kernel
theorem dX7_inFront_8 : decode cX7_inFront 8 = .ok (.iload 5, 2) := by decide +kernel
theorem dX7_inFront_10 : decode cX7_inFront 10 = .ok (.aload_n 0, 1) := by decide +kernel
theorem dX7_inFront_11 : decode cX7_inFront 11 = .ok (.getfield 118, 3) := by decide +kernel
theorem dX7_inFront_14 : decode cX7_inFront 14 = .ok (.if_icmp .ge 73, 3) := by decide +kernel
theorem dX7_inFront_17 : decode cX7_inFront 17 = .ok (.aload_n 0, 1) := by decide +kernel
theorem dX7_inFront_18 : decode cX7_inFront 18 = .ok (.getfield 16, 3) := by decide +kernel
theorem dX7_inFront_21 : decode cX7_inFront 21 = .ok (.iload 5, 2) := by decide +kernel
theorem dX7_inFront_23 : decode cX7_inFront 23 = .ok (.iaload, 1) := by decide +kernel
theorem dX7_inFront_24 : decode cX7_inFront 24 = .ok (.istore 6, 2) := by decide +kernel
theorem dX7_inFront_26 : decode cX7_inFront 26 = .ok (.iload 4, 2) := by decide +kernel
theorem dX7_inFront_28 : decode cX7_inFront 28 = .ok (.iload_n 3, 1) := by decide +kernel
theorem dX7_inFront_29 : decode cX7_inFront 29 = .ok (.ifCond .eq 32, 3) := by decide +kernel
theorem dX7_inFront_32 : decode cX7_inFront 32 = .ok (.aload_n 0, 1) := by decide +kernel
theorem dX7_inFront_33 : decode cX7_inFront 33 = .ok (.getfield 25, 3) := by decide +kernel
theorem dX7_inFront_36 : decode cX7_inFront 36 = .ok (.iload 6, 2) := by decide +kernel
theorem dX7_inFront_38 : decode cX7_inFront 38 = .ok (.iaload, 1) := by decide +kernel
theorem dX7_inFront_39 : decode cX7_inFront 39 = .ok (.aload_n 0, 1) := by decide +kernel
theorem dX7_inFront_40 : decode cX7_inFront 40 = .ok (.getfield 25, 3) := by decide +kernel
theorem dX7_inFront_43 : decode cX7_inFront 43 = .ok (.iload_n 1, 1) := by decide +kernel
theorem dX7_inFront_44 : decode cX7_inFront 44 = .ok (.iaload, 1) := by decide +kernel
theorem dX7_inFront_45 : decode cX7_inFront 45 = .ok (.if_icmp .ne 16, 3) := by decide +kernel
theorem dX7_inFront_48 : decode cX7_inFront 48 = .ok (.iload_n 2, 1) := by decide +kernel
theorem dX7_inFront_49 : decode cX7_inFront 49 = .ok (.iload 6, 2) := by decide +kernel
theorem dX7_inFront_51 : decode cX7_inFront 51 = .ok (.invokestatic 110, 3) := by decide +kernel
theorem dX7_inFront_54 : decode cX7_inFront 54 = .ok (.ifCond .eq 7, 3) := by decide +kernel
theorem dX7_inFront_57 : decode cX7_inFront 57 = .ok (.iconst 1, 1) := by decide +kernel
theorem dX7_inFront_58 : decode cX7_inFront 58 = .ok (.goto 4, 3) := by decide +kernel
theorem dX7_inFront_61 : decode cX7_inFront 61 = .ok (.iconst 0, 1) := by decide +kernel
theorem dX7_inFront_62 : decode cX7_inFront 62 = .ok (.iadd, 1) := by decide +kernel
theorem dX7_inFront_63 : decode cX7_inFront 63 = .ok (.istore 4, 2) := by decide +kernel
theorem dX7_inFront_65 : decode cX7_inFront 65 = .ok (.iload_n 3, 1) := by decide +kernel
theorem dX7_inFront_66 : decode cX7_inFront 66 = .ok (.ifCond .ne 9, 3) := by decide +kernel
theorem dX7_inFront_69 : decode cX7_inFront 69 = .ok (.iload 6, 2) := by decide +kernel
theorem dX7_inFront_71 : decode cX7_inFront 71 = .ok (.iload_n 1, 1) := by decide +kernel
theorem dX7_inFront_72 : decode cX7_inFront 72 = .ok (.if_icmp .ne 7, 3) := by decide +kernel
theorem dX7_inFront_75 : decode cX7_inFront 75 = .ok (.iconst 1, 1) := by decide +kernel
theorem dX7_inFront_76 : decode cX7_inFront 76 = .ok (.goto 4, 3) := by decide +kernel
theorem dX7_inFront_79 : decode cX7_inFront 79 = .ok (.iconst 0, 1) := by decide +kernel
theorem dX7_inFront_80 : decode cX7_inFront 80 = .ok (.istore_n 3, 1) := by decide +kernel
theorem dX7_inFront_81 : decode cX7_inFront 81 = .ok (.iinc 5 1, 3) := by decide +kernel
theorem dX7_inFront_84 : decode cX7_inFront 84 = .ok (.goto (-76), 3) := by decide +kernel
theorem dX7_inFront_87 : decode cX7_inFront 87 = .ok (.iload 4, 2) := by decide +kernel
theorem dX7_inFront_89 : decode cX7_inFront 89 = .ok (.ireturn, 1) := by decide +kernel
theorem dX7_goAll_0 : decode cX7_goAll 0 = .ok (.aload_n 0, 1) := by decide +kernel
theorem dX7_goAll_1 : decode cX7_goAll 1 = .ok (.invokevirtual 149, 3) := by decide +kernel
theorem dX7_goAll_4 : decode cX7_goAll 4 = .ok (.aload_n 0, 1) := by decide +kernel
theorem dX7_goAll_5 : decode cX7_goAll 5 = .ok (.getfield 143, 3) := by decide +kernel
theorem dX7_goAll_8 : decode cX7_goAll 8 = .ok (.istore_n 2, 1) := by decide +kernel
theorem dX7_goAll_9 : decode cX7_goAll 9 = .ok (.iconst 0, 1) := by decide +kernel
theorem dX7_goAll_10 : decode cX7_goAll 10 = .ok (.istore_n 3, 1) := by decide +kernel
theorem dX7_goAll_11 : decode cX7_goAll 11 = .ok (.aload_n 0, 1) := by decide +kernel
theorem dX7_goAll_12 : decode cX7_goAll 12 = .ok (.iconst 0, 1) := by decide +kernel
theorem dX7_goAll_13 : decode cX7_goAll 13 = .ok (.putfield 156, 3) := by decide +kernel
theorem dX7_goAll_16 : decode cX7_goAll 16 = .ok (.iconst 0, 1) := by decide +kernel
theorem dX7_goAll_17 : decode cX7_goAll 17 = .ok (.istore 4, 2) := by decide +kernel
theorem dX7_goAll_19 : decode cX7_goAll 19 = .ok (.iload 4, 2) := by decide +kernel
theorem dX7_goAll_21 : decode cX7_goAll 21 = .ok (.aload_n 0, 1) := by decide +kernel
theorem dX7_goAll_22 : decode cX7_goAll 22 = .ok (.getfield 124, 3) := by decide +kernel
theorem dX7_goAll_25 : decode cX7_goAll 25 = .ok (.if_icmp .ge 104, 3) := by decide +kernel
theorem dX7_goAll_28 : decode cX7_goAll 28 = .ok (.aload_n 0, 1) := by decide +kernel
theorem dX7_goAll_29 : decode cX7_goAll 29 = .ok (.getfield 19, 3) := by decide +kernel
theorem dX7_goAll_32 : decode cX7_goAll 32 = .ok (.iload_n 1, 1) := by decide +kernel
theorem dX7_goAll_33 : decode cX7_goAll 33 = .ok (.ifCond .eq 15, 3) := by decide +kernel
theorem dX7_goAll_36 : decode cX7_goAll 36 = .ok (.aload_n 0, 1) := by decide +kernel
theorem dX7_goAll_37 : decode cX7_goAll 37 = .ok (.getfield 124, 3) := by decide +kernel
theorem dX7_goAll_40 : decode cX7_goAll 40 = .ok (.iconst 1, 1) := by decide +kernel
theorem dX7_goAll_41 : decode cX7_goAll 41 = .ok (.isub, 1) := by decide +kernel
theorem dX7_goAll_42 : decode cX7_goAll 42 = .ok (.iload 4, 2) := by decide +kernel
theorem dX7_goAll_44 : decode cX7_goAll 44 = .ok (.isub, 1) := by decide +kernel
theorem dX7_goAll_45 : decode cX7_goAll 45 = .ok (.goto 5, 3) := by decide +kernel
theorem dX7_goAll_48 : decode cX7_goAll 48 = .ok (.iload 4, 2) := by decide +kernel
theorem dX7_goAll_50 : decode cX7_goAll 50 = .ok (.iaload, 1) := by decide +kernel
theorem dX7_goAll_51 : decode cX7_goAll 51 = .ok (.istore 5, 2) := by decide +kernel
theorem dX7_goAll_53 : decode cX7_goAll 53 = .ok (.aload_n 0, 1) := by decide +kernel
theorem dX7_goAll_54 : decode cX7_goAll 54 = .ok (.getfield 143, 3) := by decide +kernel
theorem dX7_goAll_57 : decode cX7_goAll 57 = .ok (.iload 5, 2) := by decide +kernel
theorem dX7_goAll_59 : decode cX7_goAll 59 = .ok (.invokestatic 110, 3) := by decide +kernel
theorem dX7_goAll_62 : decode cX7_goAll 62 = .ok (.ifCond .eq 61, 3) := by decide +kernel
theorem dX7_goAll_65 : decode cX7_goAll 65 = .ok (.iload_n 2, 1) := by decide +kernel
theorem dX7_goAll_66 : decode cX7_goAll 66 = .ok (.iconst 1, 1) := by decide +kernel
theorem dX7_goAll_67 : decode cX7_goAll 67 = .ok (.iload 5, 2) := by decide +kernel
theorem dX7_goAll_69 : decode cX7_goAll 69 = .ok (.ishl, 1) := by decide +kernel
theorem dX7_goAll_70 : decode cX7_goAll 70 = .ok (.iconst (-1), 1) := by decide +kernel
theorem dX7_goAll_71 : decode cX7_goAll 71 = .ok (.ixor, 1) := by decide +kernel
theorem dX7_goAll_72 : decode cX7_goAll 72 = .ok (.iand, 1) := by decide +kernel
theorem dX7_goAll_73 : decode cX7_goAll 73 = .ok (.istore_n 2, 1) := by decide +kernel
theorem dX7_goAll_74 : decode cX7_goAll 74 = .ok (.aload_n 0, 1) := by decide +kernel
theorem dX7_goAll_75 : decode cX7_goAll 75 = .ok (.getfield 37, 3) := by decide +kernel
theorem dX7_goAll_78 : decode cX7_goAll 78 = .ok (.aload_n 0, 1) := by decide +kernel
theorem dX7_goAll_79 : decode cX7_goAll 79 = .ok (.getfield 156, 3) := by decide +kernel
theorem dX7_goAll_82 : decode cX7_goAll 82 = .ok (.iload 5, 2) := by decide +kernel
theorem dX7_goAll_84 : decode cX7_goAll 84 = .ok (.iastore, 1) := by decide +kernel
theorem dX7_goAll_85 : decode cX7_goAll 85 = .ok (.aload_n 0, 1) := by decide +kernel
theorem dX7_goAll_86 : decode cX7_goAll 86 = .ok (.getfield 40, 3) := by decide +kernel
theorem dX7_goAll_89 : decode cX7_goAll 89 = .ok (.aload_n 0, 1) := by decide +kernel
theorem dX7_goAll_90 : decode cX7_goAll 90 = .ok (.getfield 156, 3) := by decide +kernel
theorem dX7_goAll_93 : decode cX7_goAll 93 = .ok (.aload_n 0, 1) := by decide +kernel
theorem dX7_goAll_94 : decode cX7_goAll 94 = .ok (.iload 5, 2) := by decide +kernel
theorem dX7_goAll_96 : decode cX7_goAll 96 = .ok (.iload_n 2, 1) := by decide +kernel
theorem dX7_goAll_97 : decode cX7_goAll 97 = .ok (.invokevirtual 159, 3) := by decide +kernel
theorem dX7_goAll_100 : decode cX7_goAll 100 = .ok (.iastore, 1) := by decide +kernel
theorem dX7_goAll_101 : decode cX7_goAll 101 = .ok (.iload_n 3, 1) := by decide +kernel
theorem dX7_goAll_102 : decode cX7_goAll 102 = .ok (.aload_n 0, 1) := by decide +kernel
theorem dX7_goAll_103 : decode cX7_goAll 103 = .ok (.getfield 40, 3) := by decide +kernel
theorem dX7_goAll_106 : decode cX7_goAll 106 = .ok (.aload_n 0, 1) := by decide +kernel
theorem dX7_goAll_107 : decode cX7_goAll 107 = .ok (.getfield 156, 3) := by decide +kernel
theorem dX7_goAll_110 : decode cX7_goAll 110 = .ok (.iaload, 1) := by decide +kernel
theorem dX7_goAll_111 : decode cX7_goAll 111 = .ok (.iadd, 1) := by decide +kernel
theorem dX7_goAll_112 : decode cX7_goAll 112 = .ok (.istore_n 3, 1) := by decide +kernel
theorem dX7_goAll_113 : decode cX7_goAll 113 = .ok (.aload_n 0, 1) := by decide +kernel
theorem dX7_goAll_114 : decode cX7_goAll 114 = .ok (.dup, 1) := by decide +kernel
theorem dX7_goAll_115 : decode cX7_goAll 115 = .ok (.getfield 156, 3) := by decide +kernel
theorem dX7_goAll_118 : decode cX7_goAll 118 = .ok (.iconst 1, 1) := by decide +kernel
theorem dX7_goAll_119 : decode cX7_goAll 119 = .ok (.iadd, 1) := by decide +kernel
theorem dX7_goAll_120 : decode cX7_goAll 120 = .ok (.putfield 156, 3) := by decide +kernel
theorem dX7_goAll_123 : decode cX7_goAll 123 = .ok (.iinc 4 1, 3) := by decide +kernel
theorem dX7_goAll_126 : decode cX7_goAll 126 = .ok (.goto (-107), 3) := by decide +kernel
theorem dX7_goAll_129 : decode cX7_goAll 129 = .ok (.iload_n 3, 1) := by decide +kernel
theorem dX7_goAll_130 : decode cX7_goAll 130 = .ok (.ireturn, 1) := by decide +kernel
theorem dX7_goerOf_0 : decode cX7_goerOf 0 = .ok (.iconst 0, 1) := by decide +kernel
theorem dX7_goerOf_1 : decode cX7_goerOf 1 = .ok (.istore_n 2, 1) := by decide +kernel
theorem dX7_goerOf_2 : decode cX7_goerOf 2 = .ok (.iload_n 2, 1) := by decide +kernel
theorem dX7_goerOf_3 : decode cX7_goerOf 3 = .ok (.aload_n 0, 1) := by decide +kernel
theorem dX7_goerOf_4 : decode cX7_goerOf 4 = .ok (.getfield 156, 3) := by decide +kernel
theorem dX7_goerOf_7 : decode cX7_goerOf 7 = .ok (.if_icmp .ge 21, 3) := by decide +kernel
theorem dX7_goerOf_10 : decode cX7_goerOf 10 = .ok (.aload_n 0, 1) := by decide +kernel
theorem dX7_goerOf_11 : decode cX7_goerOf 11 = .ok (.getfield 37, 3) := by decide +kernel
theorem dX7_goerOf_14 : decode cX7_goerOf 14 = .ok (.iload_n 2, 1) := by decide +kernel
theorem dX7_goerOf_15 : decode cX7_goerOf 15 = .ok (.iaload, 1) := by decide +kernel
theorem dX7_goerOf_16 : decode cX7_goerOf 16 = .ok (.iload_n 1, 1) := by decide +kernel
theorem dX7_goerOf_17 : decode cX7_goerOf 17 = .ok (.if_icmp .ne 5, 3) := by decide +kernel
theorem dX7_goerOf_20 : decode cX7_goerOf 20 = .ok (.iload_n 2, 1) := by decide +kernel
theorem dX7_goerOf_21 : decode cX7_goerOf 21 = .ok (.ireturn, 1) := by decide +kernel
theorem dX7_goerOf_22 : decode cX7_goerOf 22 = .ok (.iinc 2 1, 3) := by decide +kernel
theorem dX7_goerOf_25 : decode cX7_goerOf 25 = .ok (.goto (-23), 3) := by decide +kernel
theorem dX7_goerOf_28 : decode cX7_goerOf 28 = .ok (.iconst (-1), 1) := by decide +kernel
theorem dX7_goerOf_29 : decode cX7_goerOf 29 = .ok (.ireturn, 1) := by decide +kernel
theorem dX7_liesOf_0 : decode cX7_liesOf 0 = .ok (.aload_n 0, 1) := by decide +kernel
theorem dX7_liesOf_1 : decode cX7_liesOf 1 = .ok (.invokevirtual 149, 3) := by decide +kernel
theorem dX7_liesOf_4 : decode cX7_liesOf 4 = .ok (.aload_n 0, 1) := by decide +kernel
theorem dX7_liesOf_5 : decode cX7_liesOf 5 = .ok (.getfield 143, 3) := by decide +kernel
theorem dX7_liesOf_8 : decode cX7_liesOf 8 = .ok (.istore 4, 2) := by decide +kernel
theorem dX7_liesOf_10 : decode cX7_liesOf 10 = .ok (.iconst 0, 1) := by decide +kernel
theorem dX7_liesOf_11 : decode cX7_liesOf 11 = .ok (.istore 5, 2) := by decide +kernel
theorem dX7_liesOf_13 : decode cX7_liesOf 13 = .ok (.iload 5, 2) := by decide +kernel
theorem dX7_liesOf_15 : decode cX7_liesOf 15 = .ok (.iload_n 1, 1) := by decide +kernel
theorem dX7_liesOf_16 : decode cX7_liesOf 16 = .ok (.if_icmp .ge 25, 3) := by decide +kernel
theorem dX7_liesOf_19 : decode cX7_liesOf 19 = .ok (.iload 4, 2) := by decide +kernel
theorem dX7_liesOf_21 : decode cX7_liesOf 21 = .ok (.iconst 1, 1) := by decide +kernel
theorem dX7_liesOf_22 : decode cX7_liesOf 22 = .ok (.aload_n 0, 1) := by decide +kernel
theorem dX7_liesOf_23 : decode cX7_liesOf 23 = .ok (.getfield 19, 3) := by decide +kernel
theorem dX7_liesOf_26 : decode cX7_liesOf 26 = .ok (.iload 5, 2) := by decide +kernel
theorem dX7_liesOf_28 : decode cX7_liesOf 28 = .ok (.iaload, 1) := by decide +kernel
theorem dX7_liesOf_29 : decode cX7_liesOf 29 = .ok (.ishl, 1) := by decide +kernel
theorem dX7_liesOf_30 : decode cX7_liesOf 30 = .ok (.iconst (-1), 1) := by decide +kernel
theorem dX7_liesOf_31 : decode cX7_liesOf 31 = .ok (.ixor, 1) := by decide +kernel
theorem dX7_liesOf_32 : decode cX7_liesOf 32 = .ok (.iand, 1) := by decide +kernel
theorem dX7_liesOf_33 : decode cX7_liesOf 33 = .ok (.istore 4, 2) := by decide +kernel
theorem dX7_liesOf_35 : decode cX7_liesOf 35 = .ok (.iinc 5 1, 3) := by decide +kernel
theorem dX7_liesOf_38 : decode cX7_liesOf 38 = .ok (.goto (-25), 3) := by decide +kernel
theorem dX7_liesOf_41 : decode cX7_liesOf 41 = .ok (.iload_n 3, 1) := by decide +kernel
theorem dX7_liesOf_42 : decode cX7_liesOf 42 = .ok (.istore 5, 2) := by decide +kernel
theorem dX7_liesOf_44 : decode cX7_liesOf 44 = .ok (.iconst 0, 1) := by decide +kernel
theorem dX7_liesOf_45 : decode cX7_liesOf 45 = .ok (.istore 6, 2) := by decide +kernel
theorem dX7_liesOf_47 : decode cX7_liesOf 47 = .ok (.iload 6, 2) := by decide +kernel
theorem dX7_liesOf_49 : decode cX7_liesOf 49 = .ok (.aload_n 0, 1) := by decide +kernel
theorem dX7_liesOf_50 : decode cX7_liesOf 50 = .ok (.getfield 118, 3) := by decide +kernel
theorem dX7_liesOf_53 : decode cX7_liesOf 53 = .ok (.if_icmp .ge 50, 3) := by decide +kernel
theorem dX7_liesOf_56 : decode cX7_liesOf 56 = .ok (.aload_n 0, 1) := by decide +kernel
theorem dX7_liesOf_57 : decode cX7_liesOf 57 = .ok (.getfield 16, 3) := by decide +kernel
theorem dX7_liesOf_60 : decode cX7_liesOf 60 = .ok (.iload 6, 2) := by decide +kernel
theorem dX7_liesOf_62 : decode cX7_liesOf 62 = .ok (.iaload, 1) := by decide +kernel
theorem dX7_liesOf_63 : decode cX7_liesOf 63 = .ok (.istore 7, 2) := by decide +kernel
theorem dX7_liesOf_65 : decode cX7_liesOf 65 = .ok (.iload 4, 2) := by decide +kernel
theorem dX7_liesOf_67 : decode cX7_liesOf 67 = .ok (.iload 7, 2) := by decide +kernel
theorem dX7_liesOf_69 : decode cX7_liesOf 69 = .ok (.invokestatic 110, 3) := by decide +kernel
theorem dX7_liesOf_72 : decode cX7_liesOf 72 = .ok (.ifCond .eq 25, 3) := by decide +kernel
theorem dX7_liesOf_75 : decode cX7_liesOf 75 = .ok (.aload_n 0, 1) := by decide +kernel
theorem dX7_liesOf_76 : decode cX7_liesOf 76 = .ok (.getfield 25, 3) := by decide +kernel
theorem dX7_liesOf_79 : decode cX7_liesOf 79 = .ok (.iload 7, 2) := by decide +kernel
theorem dX7_liesOf_81 : decode cX7_liesOf 81 = .ok (.iaload, 1) := by decide +kernel
theorem dX7_liesOf_82 : decode cX7_liesOf 82 = .ok (.iload_n 2, 1) := by decide +kernel
theorem dX7_liesOf_83 : decode cX7_liesOf 83 = .ok (.if_icmp .ne 14, 3) := by decide +kernel
theorem dX7_liesOf_86 : decode cX7_liesOf 86 = .ok (.iload 5, 2) := by decide +kernel
theorem dX7_liesOf_88 : decode cX7_liesOf 88 = .ok (.ifCond .ne 6, 3) := by decide +kernel
theorem dX7_liesOf_91 : decode cX7_liesOf 91 = .ok (.iload 7, 2) := by decide +kernel
theorem dX7_liesOf_93 : decode cX7_liesOf 93 = .ok (.ireturn, 1) := by decide +kernel
theorem dX7_liesOf_94 : decode cX7_liesOf 94 = .ok (.iinc 5 (-1), 3) := by decide +kernel
theorem dX7_liesOf_97 : decode cX7_liesOf 97 = .ok (.iinc 6 1, 3) := by decide +kernel
theorem dX7_liesOf_100 : decode cX7_liesOf 100 = .ok (.goto (-53), 3) := by decide +kernel
theorem dX7_liesOf_103 : decode cX7_liesOf 103 = .ok (.iconst (-1), 1) := by decide +kernel
theorem dX7_liesOf_104 : decode cX7_liesOf 104 = .ok (.ireturn, 1) := by decide +kernel
theorem dX7_goesMany_0 : decode cX7_goesMany 0 = .ok (.aload_n 0, 1) := by decide +kernel
theorem dX7_goesMany_1 : decode cX7_goesMany 1 = .ok (.invokevirtual 140, 3) := by decide +kernel
theorem dX7_goesMany_4 : decode cX7_goesMany 4 = .ok (.aload_n 0, 1) := by decide +kernel
theorem dX7_goesMany_5 : decode cX7_goesMany 5 = .ok (.getfield 124, 3) := by decide +kernel
theorem dX7_goesMany_8 : decode cX7_goesMany 8 = .ok (.ireturn, 1) := by decide +kernel
theorem dX7_lies_0 : decode cX7_lies 0 = .ok (.iload_n 1, 1) := by decide +kernel
theorem dX7_lies_1 : decode cX7_lies 1 = .ok (.iconst 0, 1) := by decide +kernel
theorem dX7_lies_2 : decode cX7_lies 2 = .ok (.aload_n 0, 1) := by decide +kernel
theorem dX7_lies_3 : decode cX7_lies 3 = .ok (.invokevirtual 162, 3) := by decide +kernel
theorem dX7_lies_6 : decode cX7_lies 6 = .ok (.invokestatic 99, 3) := by decide +kernel
theorem dX7_lies_9 : decode cX7_lies 9 = .ok (.ifCond .eq 27, 3) := by decide +kernel
theorem dX7_lies_12 : decode cX7_lies 12 = .ok (.iload_n 2, 1) := by decide +kernel
theorem dX7_lies_13 : decode cX7_lies 13 = .ok (.invokestatic 107, 3) := by decide +kernel
theorem dX7_lies_16 : decode cX7_lies 16 = .ok (.ifCond .eq 20, 3) := by decide +kernel
theorem dX7_lies_19 : decode cX7_lies 19 = .ok (.iload_n 3, 1) := by decide +kernel
theorem dX7_lies_20 : decode cX7_lies 20 = .ok (.invokestatic 107, 3) := by decide +kernel
theorem dX7_lies_23 : decode cX7_lies 23 = .ok (.ifCond .eq 13, 3) := by decide +kernel
theorem dX7_lies_26 : decode cX7_lies 26 = .ok (.aload_n 0, 1) := by decide +kernel
theorem dX7_lies_27 : decode cX7_lies 27 = .ok (.iload_n 1, 1) := by decide +kernel
theorem dX7_lies_28 : decode cX7_lies 28 = .ok (.iload_n 2, 1) := by decide +kernel
theorem dX7_lies_29 : decode cX7_lies 29 = .ok (.iload_n 3, 1) := by decide +kernel
theorem dX7_lies_30 : decode cX7_lies 30 = .ok (.invokevirtual 165, 3) := by decide +kernel
theorem dX7_lies_33 : decode cX7_lies 33 = .ok (.goto 5, 3) := by decide +kernel
theorem dX7_lies_36 : decode cX7_lies 36 = .ok (.bipush (-2), 2) := by decide +kernel
theorem dX7_lies_38 : decode cX7_lies 38 = .ok (.ireturn, 1) := by decide +kernel
theorem dX7_liftedOf_0 : decode cX7_liftedOf 0 = .ok (.aload_n 0, 1) := by decide +kernel
theorem dX7_liftedOf_1 : decode cX7_liftedOf 1 = .ok (.iconst 0, 1) := by decide +kernel
theorem dX7_liftedOf_2 : decode cX7_liftedOf 2 = .ok (.invokevirtual 169, 3) := by decide +kernel
theorem dX7_liftedOf_5 : decode cX7_liftedOf 5 = .ok (.istore_n 2, 1) := by decide +kernel
theorem dX7_liftedOf_6 : decode cX7_liftedOf 6 = .ok (.aload_n 0, 1) := by decide +kernel
theorem dX7_liftedOf_7 : decode cX7_liftedOf 7 = .ok (.iload_n 1, 1) := by decide +kernel
theorem dX7_liftedOf_8 : decode cX7_liftedOf 8 = .ok (.invokevirtual 173, 3) := by decide +kernel
theorem dX7_liftedOf_11 : decode cX7_liftedOf 11 = .ok (.istore_n 3, 1) := by decide +kernel
theorem dX7_liftedOf_12 : decode cX7_liftedOf 12 = .ok (.iload_n 1, 1) := by decide +kernel
theorem dX7_liftedOf_13 : decode cX7_liftedOf 13 = .ok (.iconst (-1), 1) := by decide +kernel
theorem dX7_liftedOf_14 : decode cX7_liftedOf 14 = .ok (.if_icmp .ne 7, 3) := by decide +kernel
theorem dX7_liftedOf_17 : decode cX7_liftedOf 17 = .ok (.iload_n 2, 1) := by decide +kernel
theorem dX7_liftedOf_18 : decode cX7_liftedOf 18 = .ok (.goto 19, 3) := by decide +kernel
theorem dX7_liftedOf_21 : decode cX7_liftedOf 21 = .ok (.iload_n 3, 1) := by decide +kernel
theorem dX7_liftedOf_22 : decode cX7_liftedOf 22 = .ok (.iconst (-1), 1) := by decide +kernel
theorem dX7_liftedOf_23 : decode cX7_liftedOf 23 = .ok (.if_icmp .ne 8, 3) := by decide +kernel
theorem dX7_liftedOf_26 : decode cX7_liftedOf 26 = .ok (.bipush (-3), 2) := by decide +kernel
theorem dX7_liftedOf_28 : decode cX7_liftedOf 28 = .ok (.goto 9, 3) := by decide +kernel
theorem dX7_liftedOf_31 : decode cX7_liftedOf 31 = .ok (.aload_n 0, 1) := by decide +kernel
theorem dX7_liftedOf_32 : decode cX7_liftedOf 32 = .ok (.getfield 40, 3) := by decide +kernel
theorem dX7_liftedOf_35 : decode cX7_liftedOf 35 = .ok (.iload_n 3, 1) := by decide +kernel
theorem dX7_liftedOf_36 : decode cX7_liftedOf 36 = .ok (.iaload, 1) := by decide +kernel
theorem dX7_liftedOf_37 : decode cX7_liftedOf 37 = .ok (.ireturn, 1) := by decide +kernel
theorem dX7_lifted_0 : decode cX7_lifted 0 = .ok (.iload_n 1, 1) := by decide +kernel
theorem dX7_lifted_1 : decode cX7_lifted 1 = .ok (.iconst (-1), 1) := by decide +kernel
theorem dX7_lifted_2 : decode cX7_lifted 2 = .ok (.bipush 9, 2) := by decide +kernel
theorem dX7_lifted_4 : decode cX7_lifted 4 = .ok (.invokestatic 99, 3) := by decide +kernel
theorem dX7_lifted_7 : decode cX7_lifted 7 = .ok (.ifCond .eq 11, 3) := by decide +kernel
theorem dX7_lifted_10 : decode cX7_lifted 10 = .ok (.aload_n 0, 1) := by decide +kernel
theorem dX7_lifted_11 : decode cX7_lifted 11 = .ok (.iload_n 1, 1) := by decide +kernel
theorem dX7_lifted_12 : decode cX7_lifted 12 = .ok (.invokevirtual 176, 3) := by decide +kernel
theorem dX7_lifted_15 : decode cX7_lifted 15 = .ok (.goto 5, 3) := by decide +kernel
theorem dX7_lifted_18 : decode cX7_lifted 18 = .ok (.bipush (-2), 2) := by decide +kernel
theorem dX7_lifted_20 : decode cX7_lifted 20 = .ok (.ireturn, 1) := by decide +kernel
theorem dX7_goesEach_0 : decode cX7_goesEach 0 = .ok (.aload_n 0, 1) := by decide +kernel
theorem dX7_goesEach_1 : decode cX7_goesEach 1 = .ok (.invokevirtual 140, 3) := by decide +kernel
theorem dX7_goesEach_4 : decode cX7_goesEach 4 = .ok (.iconst 0, 1) := by decide +kernel
theorem dX7_goesEach_5 : decode cX7_goesEach 5 = .ok (.istore_n 1, 1) := by decide +kernel
theorem dX7_goesEach_6 : decode cX7_goesEach 6 = .ok (.aload_n 0, 1) := by decide +kernel
theorem dX7_goesEach_7 : decode cX7_goesEach 7 = .ok (.getfield 121, 3) := by decide +kernel
theorem dX7_goesEach_10 : decode cX7_goesEach 10 = .ok (.istore_n 2, 1) := by decide +kernel
theorem dX7_goesEach_11 : decode cX7_goesEach 11 = .ok (.iconst 0, 1) := by decide +kernel
theorem dX7_goesEach_12 : decode cX7_goesEach 12 = .ok (.istore_n 3, 1) := by decide +kernel
theorem dX7_goesEach_13 : decode cX7_goesEach 13 = .ok (.iload_n 3, 1) := by decide +kernel
theorem dX7_goesEach_14 : decode cX7_goesEach 14 = .ok (.aload_n 0, 1) := by decide +kernel
theorem dX7_goesEach_15 : decode cX7_goesEach 15 = .ok (.getfield 124, 3) := by decide +kernel
theorem dX7_goesEach_18 : decode cX7_goesEach 18 = .ok (.if_icmp .ge 37, 3) := by decide +kernel
theorem dX7_goesEach_21 : decode cX7_goesEach 21 = .ok (.aload_n 0, 1) := by decide +kernel
theorem dX7_goesEach_22 : decode cX7_goesEach 22 = .ok (.getfield 43, 3) := by decide +kernel
theorem dX7_goesEach_25 : decode cX7_goesEach 25 = .ok (.aload_n 0, 1) := by decide +kernel
theorem dX7_goesEach_26 : decode cX7_goesEach 26 = .ok (.getfield 19, 3) := by decide +kernel
theorem dX7_goesEach_29 : decode cX7_goesEach 29 = .ok (.iload_n 3, 1) := by decide +kernel
theorem dX7_goesEach_30 : decode cX7_goesEach 30 = .ok (.iaload, 1) := by decide +kernel
theorem dX7_goesEach_31 : decode cX7_goesEach 31 = .ok (.iload_n 1, 1) := by decide +kernel
theorem dX7_goesEach_32 : decode cX7_goesEach 32 = .ok (.iastore, 1) := by decide +kernel
theorem dX7_goesEach_33 : decode cX7_goesEach 33 = .ok (.iload_n 2, 1) := by decide +kernel
theorem dX7_goesEach_34 : decode cX7_goesEach 34 = .ok (.iconst 1, 1) := by decide +kernel
theorem dX7_goesEach_35 : decode cX7_goesEach 35 = .ok (.aload_n 0, 1) := by decide +kernel
theorem dX7_goesEach_36 : decode cX7_goesEach 36 = .ok (.getfield 19, 3) := by decide +kernel
theorem dX7_goesEach_39 : decode cX7_goesEach 39 = .ok (.iload_n 3, 1) := by decide +kernel
theorem dX7_goesEach_40 : decode cX7_goesEach 40 = .ok (.iaload, 1) := by decide +kernel
theorem dX7_goesEach_41 : decode cX7_goesEach 41 = .ok (.ishl, 1) := by decide +kernel
theorem dX7_goesEach_42 : decode cX7_goesEach 42 = .ok (.iconst (-1), 1) := by decide +kernel
theorem dX7_goesEach_43 : decode cX7_goesEach 43 = .ok (.ixor, 1) := by decide +kernel
theorem dX7_goesEach_44 : decode cX7_goesEach 44 = .ok (.iand, 1) := by decide +kernel
theorem dX7_goesEach_45 : decode cX7_goesEach 45 = .ok (.istore_n 2, 1) := by decide +kernel
theorem dX7_goesEach_46 : decode cX7_goesEach 46 = .ok (.iinc 1 1, 3) := by decide +kernel
theorem dX7_goesEach_49 : decode cX7_goesEach 49 = .ok (.iinc 3 1, 3) := by decide +kernel
theorem dX7_goesEach_52 : decode cX7_goesEach 52 = .ok (.goto (-39), 3) := by decide +kernel
theorem dX7_goesEach_55 : decode cX7_goesEach 55 = .ok (.iconst 0, 1) := by decide +kernel
theorem dX7_goesEach_56 : decode cX7_goesEach 56 = .ok (.istore_n 3, 1) := by decide +kernel
theorem dX7_goesEach_57 : decode cX7_goesEach 57 = .ok (.iload_n 3, 1) := by decide +kernel
theorem dX7_goesEach_58 : decode cX7_goesEach 58 = .ok (.bipush 10, 2) := by decide +kernel
theorem dX7_goesEach_60 : decode cX7_goesEach 60 = .ok (.if_icmp .ge 27, 3) := by decide +kernel
theorem dX7_goesEach_63 : decode cX7_goesEach 63 = .ok (.iload_n 2, 1) := by decide +kernel
theorem dX7_goesEach_64 : decode cX7_goesEach 64 = .ok (.iload_n 3, 1) := by decide +kernel
theorem dX7_goesEach_65 : decode cX7_goesEach 65 = .ok (.invokestatic 110, 3) := by decide +kernel
theorem dX7_goesEach_68 : decode cX7_goesEach 68 = .ok (.ifCond .eq 13, 3) := by decide +kernel
theorem dX7_goesEach_71 : decode cX7_goesEach 71 = .ok (.aload_n 0, 1) := by decide +kernel
theorem dX7_goesEach_72 : decode cX7_goesEach 72 = .ok (.getfield 43, 3) := by decide +kernel
theorem dX7_goesEach_75 : decode cX7_goesEach 75 = .ok (.iload_n 3, 1) := by decide +kernel
theorem dX7_goesEach_76 : decode cX7_goesEach 76 = .ok (.iload_n 1, 1) := by decide +kernel
theorem dX7_goesEach_77 : decode cX7_goesEach 77 = .ok (.iastore, 1) := by decide +kernel
theorem dX7_goesEach_78 : decode cX7_goesEach 78 = .ok (.iinc 1 1, 3) := by decide +kernel
theorem dX7_goesEach_81 : decode cX7_goesEach 81 = .ok (.iinc 3 1, 3) := by decide +kernel
theorem dX7_goesEach_84 : decode cX7_goesEach 84 = .ok (.goto (-27), 3) := by decide +kernel
theorem dX7_goesEach_87 : decode cX7_goesEach 87 = .ok (.return_, 1) := by decide +kernel
theorem dX7_soonest_0 : decode cX7_soonest 0 = .ok (.iconst (-1), 1) := by decide +kernel
theorem dX7_soonest_1 : decode cX7_soonest 1 = .ok (.istore_n 3, 1) := by decide +kernel
theorem dX7_soonest_2 : decode cX7_soonest 2 = .ok (.iconst 0, 1) := by decide +kernel
theorem dX7_soonest_3 : decode cX7_soonest 3 = .ok (.istore 4, 2) := by decide +kernel
theorem dX7_soonest_5 : decode cX7_soonest 5 = .ok (.iload 4, 2) := by decide +kernel
theorem dX7_soonest_7 : decode cX7_soonest 7 = .ok (.iload_n 2, 1) := by decide +kernel
theorem dX7_soonest_8 : decode cX7_soonest 8 = .ok (.if_icmp .ge 60, 3) := by decide +kernel
theorem dX7_soonest_11 : decode cX7_soonest 11 = .ok (.aload_n 0, 1) := by decide +kernel
theorem dX7_soonest_12 : decode cX7_soonest 12 = .ok (.getfield 46, 3) := by decide +kernel
theorem dX7_soonest_15 : decode cX7_soonest 15 = .ok (.iload 4, 2) := by decide +kernel
theorem dX7_soonest_17 : decode cX7_soonest 17 = .ok (.iaload, 1) := by decide +kernel
theorem dX7_soonest_18 : decode cX7_soonest 18 = .ok (.iload_n 1, 1) := by decide +kernel
theorem dX7_soonest_19 : decode cX7_soonest 19 = .ok (.if_icmp .le 7, 3) := by decide +kernel
theorem dX7_soonest_22 : decode cX7_soonest 22 = .ok (.iconst 1, 1) := by decide +kernel
theorem dX7_soonest_23 : decode cX7_soonest 23 = .ok (.goto 4, 3) := by decide +kernel
theorem dX7_soonest_26 : decode cX7_soonest 26 = .ok (.iconst 0, 1) := by decide +kernel
theorem dX7_soonest_27 : decode cX7_soonest 27 = .ok (.istore 5, 2) := by decide +kernel
theorem dX7_soonest_29 : decode cX7_soonest 29 = .ok (.iload 5, 2) := by decide +kernel
theorem dX7_soonest_31 : decode cX7_soonest 31 = .ok (.ifCond .eq 29, 3) := by decide +kernel
theorem dX7_soonest_34 : decode cX7_soonest 34 = .ok (.iload_n 3, 1) := by decide +kernel
theorem dX7_soonest_35 : decode cX7_soonest 35 = .ok (.iconst (-1), 1) := by decide +kernel
theorem dX7_soonest_36 : decode cX7_soonest 36 = .ok (.if_icmp .eq 19, 3) := by decide +kernel
theorem dX7_soonest_39 : decode cX7_soonest 39 = .ok (.aload_n 0, 1) := by decide +kernel
theorem dX7_soonest_40 : decode cX7_soonest 40 = .ok (.getfield 46, 3) := by decide +kernel
theorem dX7_soonest_43 : decode cX7_soonest 43 = .ok (.iload 4, 2) := by decide +kernel
theorem dX7_soonest_45 : decode cX7_soonest 45 = .ok (.iaload, 1) := by decide +kernel
theorem dX7_soonest_46 : decode cX7_soonest 46 = .ok (.aload_n 0, 1) := by decide +kernel
theorem dX7_soonest_47 : decode cX7_soonest 47 = .ok (.getfield 46, 3) := by decide +kernel
theorem dX7_soonest_50 : decode cX7_soonest 50 = .ok (.iload_n 3, 1) := by decide +kernel
theorem dX7_soonest_51 : decode cX7_soonest 51 = .ok (.iaload, 1) := by decide +kernel
theorem dX7_soonest_52 : decode cX7_soonest 52 = .ok (.if_icmp .ge 8, 3) := by decide +kernel
theorem dX7_soonest_55 : decode cX7_soonest 55 = .ok (.iload 4, 2) := by decide +kernel
theorem dX7_soonest_57 : decode cX7_soonest 57 = .ok (.goto 4, 3) := by decide +kernel
theorem dX7_soonest_60 : decode cX7_soonest 60 = .ok (.iload_n 3, 1) := by decide +kernel
theorem dX7_soonest_61 : decode cX7_soonest 61 = .ok (.istore_n 3, 1) := by decide +kernel
theorem dX7_soonest_62 : decode cX7_soonest 62 = .ok (.iinc 4 1, 3) := by decide +kernel
theorem dX7_soonest_65 : decode cX7_soonest 65 = .ok (.goto (-60), 3) := by decide +kernel
theorem dX7_soonest_68 : decode cX7_soonest 68 = .ok (.iload_n 3, 1) := by decide +kernel
theorem dX7_soonest_69 : decode cX7_soonest 69 = .ok (.ireturn, 1) := by decide +kernel
theorem dX7_rowsOf_0 : decode cX7_rowsOf 0 = .ok (.aload_n 0, 1) := by decide +kernel
theorem dX7_rowsOf_1 : decode cX7_rowsOf 1 = .ok (.invokevirtual 179, 3) := by decide +kernel
theorem dX7_rowsOf_4 : decode cX7_rowsOf 4 = .ok (.iload_n 1, 1) := by decide +kernel
theorem dX7_rowsOf_5 : decode cX7_rowsOf 5 = .ok (.iconst (-1), 1) := by decide +kernel
theorem dX7_rowsOf_6 : decode cX7_rowsOf 6 = .ok (.if_icmp .eq 17, 3) := by decide +kernel
theorem dX7_rowsOf_9 : decode cX7_rowsOf 9 = .ok (.aload_n 0, 1) := by decide +kernel
theorem dX7_rowsOf_10 : decode cX7_rowsOf 10 = .ok (.getfield 121, 3) := by decide +kernel
theorem dX7_rowsOf_13 : decode cX7_rowsOf 13 = .ok (.iload_n 1, 1) := by decide +kernel
theorem dX7_rowsOf_14 : decode cX7_rowsOf 14 = .ok (.invokestatic 110, 3) := by decide +kernel
theorem dX7_rowsOf_17 : decode cX7_rowsOf 17 = .ok (.ifCond .ne 6, 3) := by decide +kernel
theorem dX7_rowsOf_20 : decode cX7_rowsOf 20 = .ok (.bipush (-3), 2) := by decide +kernel
theorem dX7_rowsOf_22 : decode cX7_rowsOf 22 = .ok (.ireturn, 1) := by decide +kernel
theorem dX7_rowsOf_23 : decode cX7_rowsOf 23 = .ok (.iconst 0, 1) := by decide +kernel
theorem dX7_rowsOf_24 : decode cX7_rowsOf 24 = .ok (.istore_n 2, 1) := by decide +kernel
theorem dX7_rowsOf_25 : decode cX7_rowsOf 25 = .ok (.iconst (-1), 1) := by decide +kernel
theorem dX7_rowsOf_26 : decode cX7_rowsOf 26 = .ok (.istore_n 3, 1) := by decide +kernel
theorem dX7_rowsOf_27 : decode cX7_rowsOf 27 = .ok (.iconst 0, 1) := by decide +kernel
theorem dX7_rowsOf_28 : decode cX7_rowsOf 28 = .ok (.istore 4, 2) := by decide +kernel
theorem dX7_rowsOf_30 : decode cX7_rowsOf 30 = .ok (.iload 4, 2) := by decide +kernel
theorem dX7_rowsOf_32 : decode cX7_rowsOf 32 = .ok (.aload_n 0, 1) := by decide +kernel
theorem dX7_rowsOf_33 : decode cX7_rowsOf 33 = .ok (.getfield 118, 3) := by decide +kernel
theorem dX7_rowsOf_36 : decode cX7_rowsOf 36 = .ok (.if_icmp .ge 77, 3) := by decide +kernel
theorem dX7_rowsOf_39 : decode cX7_rowsOf 39 = .ok (.aload_n 0, 1) := by decide +kernel
theorem dX7_rowsOf_40 : decode cX7_rowsOf 40 = .ok (.aload_n 0, 1) := by decide +kernel
theorem dX7_rowsOf_41 : decode cX7_rowsOf 41 = .ok (.getfield 43, 3) := by decide +kernel
theorem dX7_rowsOf_44 : decode cX7_rowsOf 44 = .ok (.aload_n 0, 1) := by decide +kernel
theorem dX7_rowsOf_45 : decode cX7_rowsOf 45 = .ok (.getfield 16, 3) := by decide +kernel
theorem dX7_rowsOf_48 : decode cX7_rowsOf 48 = .ok (.iload 4, 2) := by decide +kernel
theorem dX7_rowsOf_50 : decode cX7_rowsOf 50 = .ok (.iaload, 1) := by decide +kernel
theorem dX7_rowsOf_51 : decode cX7_rowsOf 51 = .ok (.iaload, 1) := by decide +kernel
theorem dX7_rowsOf_52 : decode cX7_rowsOf 52 = .ok (.iload_n 2, 1) := by decide +kernel
theorem dX7_rowsOf_53 : decode cX7_rowsOf 53 = .ok (.invokevirtual 182, 3) := by decide +kernel
theorem dX7_rowsOf_56 : decode cX7_rowsOf 56 = .ok (.istore 5, 2) := by decide +kernel
theorem dX7_rowsOf_58 : decode cX7_rowsOf 58 = .ok (.iload 5, 2) := by decide +kernel
theorem dX7_rowsOf_60 : decode cX7_rowsOf 60 = .ok (.iconst (-1), 1) := by decide +kernel
theorem dX7_rowsOf_61 : decode cX7_rowsOf 61 = .ok (.if_icmp .ne 9, 3) := by decide +kernel
theorem dX7_rowsOf_64 : decode cX7_rowsOf 64 = .ok (.iload_n 2, 1) := by decide +kernel
theorem dX7_rowsOf_65 : decode cX7_rowsOf 65 = .ok (.istore 5, 2) := by decide +kernel
theorem dX7_rowsOf_67 : decode cX7_rowsOf 67 = .ok (.iinc 2 1, 3) := by decide +kernel
theorem dX7_rowsOf_70 : decode cX7_rowsOf 70 = .ok (.aload_n 0, 1) := by decide +kernel
theorem dX7_rowsOf_71 : decode cX7_rowsOf 71 = .ok (.getfield 46, 3) := by decide +kernel
theorem dX7_rowsOf_74 : decode cX7_rowsOf 74 = .ok (.iload 5, 2) := by decide +kernel
theorem dX7_rowsOf_76 : decode cX7_rowsOf 76 = .ok (.aload_n 0, 1) := by decide +kernel
theorem dX7_rowsOf_77 : decode cX7_rowsOf 77 = .ok (.getfield 43, 3) := by decide +kernel
theorem dX7_rowsOf_80 : decode cX7_rowsOf 80 = .ok (.aload_n 0, 1) := by decide +kernel
theorem dX7_rowsOf_81 : decode cX7_rowsOf 81 = .ok (.getfield 16, 3) := by decide +kernel
theorem dX7_rowsOf_84 : decode cX7_rowsOf 84 = .ok (.iload 4, 2) := by decide +kernel
theorem dX7_rowsOf_86 : decode cX7_rowsOf 86 = .ok (.iaload, 1) := by decide +kernel
theorem dX7_rowsOf_87 : decode cX7_rowsOf 87 = .ok (.iaload, 1) := by decide +kernel
theorem dX7_rowsOf_88 : decode cX7_rowsOf 88 = .ok (.iastore, 1) := by decide +kernel
theorem dX7_rowsOf_89 : decode cX7_rowsOf 89 = .ok (.aload_n 0, 1) := by decide +kernel
theorem dX7_rowsOf_90 : decode cX7_rowsOf 90 = .ok (.getfield 16, 3) := by decide +kernel
theorem dX7_rowsOf_93 : decode cX7_rowsOf 93 = .ok (.iload 4, 2) := by decide +kernel
theorem dX7_rowsOf_95 : decode cX7_rowsOf 95 = .ok (.iaload, 1) := by decide +kernel
theorem dX7_rowsOf_96 : decode cX7_rowsOf 96 = .ok (.iload_n 1, 1) := by decide +kernel
theorem dX7_rowsOf_97 : decode cX7_rowsOf 97 = .ok (.if_icmp .ne 8, 3) := by decide +kernel
theorem dX7_rowsOf_100 : decode cX7_rowsOf 100 = .ok (.iload 5, 2) := by decide +kernel
theorem dX7_rowsOf_102 : decode cX7_rowsOf 102 = .ok (.goto 4, 3) := by decide +kernel
theorem dX7_rowsOf_105 : decode cX7_rowsOf 105 = .ok (.iload_n 3, 1) := by decide +kernel
theorem dX7_rowsOf_106 : decode cX7_rowsOf 106 = .ok (.istore_n 3, 1) := by decide +kernel
theorem dX7_rowsOf_107 : decode cX7_rowsOf 107 = .ok (.iinc 4 1, 3) := by decide +kernel
theorem dX7_rowsOf_110 : decode cX7_rowsOf 110 = .ok (.goto (-80), 3) := by decide +kernel
theorem dX7_rowsOf_113 : decode cX7_rowsOf 113 = .ok (.iload_n 1, 1) := by decide +kernel
theorem dX7_rowsOf_114 : decode cX7_rowsOf 114 = .ok (.iconst (-1), 1) := by decide +kernel
theorem dX7_rowsOf_115 : decode cX7_rowsOf 115 = .ok (.if_icmp .ne 7, 3) := by decide +kernel
theorem dX7_rowsOf_118 : decode cX7_rowsOf 118 = .ok (.iload_n 2, 1) := by decide +kernel
theorem dX7_rowsOf_119 : decode cX7_rowsOf 119 = .ok (.goto 4, 3) := by decide +kernel
theorem dX7_rowsOf_122 : decode cX7_rowsOf 122 = .ok (.iload_n 3, 1) := by decide +kernel
theorem dX7_rowsOf_123 : decode cX7_rowsOf 123 = .ok (.ireturn, 1) := by decide +kernel
theorem dX7_rows_0 : decode cX7_rows 0 = .ok (.iload_n 1, 1) := by decide +kernel
theorem dX7_rows_1 : decode cX7_rows 1 = .ok (.iconst (-1), 1) := by decide +kernel
theorem dX7_rows_2 : decode cX7_rows 2 = .ok (.bipush 9, 2) := by decide +kernel
theorem dX7_rows_4 : decode cX7_rows 4 = .ok (.invokestatic 99, 3) := by decide +kernel
theorem dX7_rows_7 : decode cX7_rows 7 = .ok (.ifCond .eq 11, 3) := by decide +kernel
theorem dX7_rows_10 : decode cX7_rows 10 = .ok (.aload_n 0, 1) := by decide +kernel
theorem dX7_rows_11 : decode cX7_rows 11 = .ok (.iload_n 1, 1) := by decide +kernel
theorem dX7_rows_12 : decode cX7_rows 12 = .ok (.invokevirtual 185, 3) := by decide +kernel
theorem dX7_rows_15 : decode cX7_rows 15 = .ok (.goto 5, 3) := by decide +kernel
theorem dX7_rows_18 : decode cX7_rows 18 = .ok (.bipush (-2), 2) := by decide +kernel
theorem dX7_rows_20 : decode cX7_rows 20 = .ok (.ireturn, 1) := by decide +kernel
theorem dX7_proofOf_0 : decode cX7_proofOf 0 = .ok (.aload_n 0, 1) := by decide +kernel
theorem dX7_proofOf_1 : decode cX7_proofOf 1 = .ok (.invokevirtual 179, 3) := by decide +kernel
theorem dX7_proofOf_4 : decode cX7_proofOf 4 = .ok (.iconst 0, 1) := by decide +kernel
theorem dX7_proofOf_5 : decode cX7_proofOf 5 = .ok (.istore_n 2, 1) := by decide +kernel
theorem dX7_proofOf_6 : decode cX7_proofOf 6 = .ok (.aload_n 0, 1) := by decide +kernel
theorem dX7_proofOf_7 : decode cX7_proofOf 7 = .ok (.getfield 118, 3) := by decide +kernel
theorem dX7_proofOf_10 : decode cX7_proofOf 10 = .ok (.iconst 1, 1) := by decide +kernel
theorem dX7_proofOf_11 : decode cX7_proofOf 11 = .ok (.isub, 1) := by decide +kernel
theorem dX7_proofOf_12 : decode cX7_proofOf 12 = .ok (.istore_n 3, 1) := by decide +kernel
theorem dX7_proofOf_13 : decode cX7_proofOf 13 = .ok (.iload_n 3, 1) := by decide +kernel
theorem dX7_proofOf_14 : decode cX7_proofOf 14 = .ok (.ifCond .lt 137, 3) := by decide +kernel
theorem dX7_proofOf_17 : decode cX7_proofOf 17 = .ok (.aload_n 0, 1) := by decide +kernel
theorem dX7_proofOf_18 : decode cX7_proofOf 18 = .ok (.getfield 52, 3) := by decide +kernel
theorem dX7_proofOf_21 : decode cX7_proofOf 21 = .ok (.iload_n 3, 1) := by decide +kernel
theorem dX7_proofOf_22 : decode cX7_proofOf 22 = .ok (.iconst 1, 1) := by decide +kernel
theorem dX7_proofOf_23 : decode cX7_proofOf 23 = .ok (.iastore, 1) := by decide +kernel
theorem dX7_proofOf_24 : decode cX7_proofOf 24 = .ok (.iload_n 3, 1) := by decide +kernel
theorem dX7_proofOf_25 : decode cX7_proofOf 25 = .ok (.iconst 1, 1) := by decide +kernel
theorem dX7_proofOf_26 : decode cX7_proofOf 26 = .ok (.iadd, 1) := by decide +kernel
theorem dX7_proofOf_27 : decode cX7_proofOf 27 = .ok (.istore 4, 2) := by decide +kernel
theorem dX7_proofOf_29 : decode cX7_proofOf 29 = .ok (.iload 4, 2) := by decide +kernel
theorem dX7_proofOf_31 : decode cX7_proofOf 31 = .ok (.aload_n 0, 1) := by decide +kernel
theorem dX7_proofOf_32 : decode cX7_proofOf 32 = .ok (.getfield 118, 3) := by decide +kernel
theorem dX7_proofOf_35 : decode cX7_proofOf 35 = .ok (.if_icmp .ge 89, 3) := by decide +kernel
theorem dX7_proofOf_38 : decode cX7_proofOf 38 = .ok (.aload_n 0, 1) := by decide +kernel
theorem dX7_proofOf_39 : decode cX7_proofOf 39 = .ok (.getfield 43, 3) := by decide +kernel
theorem dX7_proofOf_42 : decode cX7_proofOf 42 = .ok (.aload_n 0, 1) := by decide +kernel
theorem dX7_proofOf_43 : decode cX7_proofOf 43 = .ok (.getfield 16, 3) := by decide +kernel
theorem dX7_proofOf_46 : decode cX7_proofOf 46 = .ok (.iload 4, 2) := by decide +kernel
theorem dX7_proofOf_48 : decode cX7_proofOf 48 = .ok (.iaload, 1) := by decide +kernel
theorem dX7_proofOf_49 : decode cX7_proofOf 49 = .ok (.iaload, 1) := by decide +kernel
theorem dX7_proofOf_50 : decode cX7_proofOf 50 = .ok (.aload_n 0, 1) := by decide +kernel
theorem dX7_proofOf_51 : decode cX7_proofOf 51 = .ok (.getfield 43, 3) := by decide +kernel
theorem dX7_proofOf_54 : decode cX7_proofOf 54 = .ok (.aload_n 0, 1) := by decide +kernel
theorem dX7_proofOf_55 : decode cX7_proofOf 55 = .ok (.getfield 16, 3) := by decide +kernel
theorem dX7_proofOf_58 : decode cX7_proofOf 58 = .ok (.iload_n 3, 1) := by decide +kernel
theorem dX7_proofOf_59 : decode cX7_proofOf 59 = .ok (.iaload, 1) := by decide +kernel
theorem dX7_proofOf_60 : decode cX7_proofOf 60 = .ok (.iaload, 1) := by decide +kernel
theorem dX7_proofOf_61 : decode cX7_proofOf 61 = .ok (.if_icmp .le 25, 3) := by decide +kernel
theorem dX7_proofOf_64 : decode cX7_proofOf 64 = .ok (.aload_n 0, 1) := by decide +kernel
theorem dX7_proofOf_65 : decode cX7_proofOf 65 = .ok (.getfield 52, 3) := by decide +kernel
theorem dX7_proofOf_68 : decode cX7_proofOf 68 = .ok (.iload 4, 2) := by decide +kernel
theorem dX7_proofOf_70 : decode cX7_proofOf 70 = .ok (.iaload, 1) := by decide +kernel
theorem dX7_proofOf_71 : decode cX7_proofOf 71 = .ok (.iconst 1, 1) := by decide +kernel
theorem dX7_proofOf_72 : decode cX7_proofOf 72 = .ok (.iadd, 1) := by decide +kernel
theorem dX7_proofOf_73 : decode cX7_proofOf 73 = .ok (.aload_n 0, 1) := by decide +kernel
theorem dX7_proofOf_74 : decode cX7_proofOf 74 = .ok (.getfield 52, 3) := by decide +kernel
theorem dX7_proofOf_77 : decode cX7_proofOf 77 = .ok (.iload_n 3, 1) := by decide +kernel
theorem dX7_proofOf_78 : decode cX7_proofOf 78 = .ok (.iaload, 1) := by decide +kernel
theorem dX7_proofOf_79 : decode cX7_proofOf 79 = .ok (.if_icmp .le 7, 3) := by decide +kernel
theorem dX7_proofOf_82 : decode cX7_proofOf 82 = .ok (.iconst 1, 1) := by decide +kernel
theorem dX7_proofOf_83 : decode cX7_proofOf 83 = .ok (.goto 4, 3) := by decide +kernel
theorem dX7_proofOf_86 : decode cX7_proofOf 86 = .ok (.iconst 0, 1) := by decide +kernel
theorem dX7_proofOf_87 : decode cX7_proofOf 87 = .ok (.istore 5, 2) := by decide +kernel
theorem dX7_proofOf_89 : decode cX7_proofOf 89 = .ok (.aload_n 0, 1) := by decide +kernel
theorem dX7_proofOf_90 : decode cX7_proofOf 90 = .ok (.getfield 52, 3) := by decide +kernel
theorem dX7_proofOf_93 : decode cX7_proofOf 93 = .ok (.iload_n 3, 1) := by decide +kernel
theorem dX7_proofOf_94 : decode cX7_proofOf 94 = .ok (.iload 5, 2) := by decide +kernel
theorem dX7_proofOf_96 : decode cX7_proofOf 96 = .ok (.ifCond .eq 15, 3) := by decide +kernel
theorem dX7_proofOf_99 : decode cX7_proofOf 99 = .ok (.aload_n 0, 1) := by decide +kernel
theorem dX7_proofOf_100 : decode cX7_proofOf 100 = .ok (.getfield 52, 3) := by decide +kernel
theorem dX7_proofOf_103 : decode cX7_proofOf 103 = .ok (.iload 4, 2) := by decide +kernel
theorem dX7_proofOf_105 : decode cX7_proofOf 105 = .ok (.iaload, 1) := by decide +kernel
theorem dX7_proofOf_106 : decode cX7_proofOf 106 = .ok (.iconst 1, 1) := by decide +kernel
theorem dX7_proofOf_107 : decode cX7_proofOf 107 = .ok (.iadd, 1) := by decide +kernel
theorem dX7_proofOf_108 : decode cX7_proofOf 108 = .ok (.goto 9, 3) := by decide +kernel
theorem dX7_proofOf_111 : decode cX7_proofOf 111 = .ok (.aload_n 0, 1) := by decide +kernel
theorem dX7_proofOf_112 : decode cX7_proofOf 112 = .ok (.getfield 52, 3) := by decide +kernel
theorem dX7_proofOf_115 : decode cX7_proofOf 115 = .ok (.iload_n 3, 1) := by decide +kernel
theorem dX7_proofOf_116 : decode cX7_proofOf 116 = .ok (.iaload, 1) := by decide +kernel
theorem dX7_proofOf_117 : decode cX7_proofOf 117 = .ok (.iastore, 1) := by decide +kernel
theorem dX7_proofOf_118 : decode cX7_proofOf 118 = .ok (.iinc 4 1, 3) := by decide +kernel
theorem dX7_proofOf_121 : decode cX7_proofOf 121 = .ok (.goto (-92), 3) := by decide +kernel
theorem dX7_proofOf_124 : decode cX7_proofOf 124 = .ok (.aload_n 0, 1) := by decide +kernel
theorem dX7_proofOf_125 : decode cX7_proofOf 125 = .ok (.getfield 52, 3) := by decide +kernel
theorem dX7_proofOf_128 : decode cX7_proofOf 128 = .ok (.iload_n 3, 1) := by decide +kernel
theorem dX7_proofOf_129 : decode cX7_proofOf 129 = .ok (.iaload, 1) := by decide +kernel
theorem dX7_proofOf_130 : decode cX7_proofOf 130 = .ok (.iload_n 2, 1) := by decide +kernel
theorem dX7_proofOf_131 : decode cX7_proofOf 131 = .ok (.if_icmp .le 12, 3) := by decide +kernel
theorem dX7_proofOf_134 : decode cX7_proofOf 134 = .ok (.aload_n 0, 1) := by decide +kernel
theorem dX7_proofOf_135 : decode cX7_proofOf 135 = .ok (.getfield 52, 3) := by decide +kernel
theorem dX7_proofOf_138 : decode cX7_proofOf 138 = .ok (.iload_n 3, 1) := by decide +kernel
theorem dX7_proofOf_139 : decode cX7_proofOf 139 = .ok (.iaload, 1) := by decide +kernel
theorem dX7_proofOf_140 : decode cX7_proofOf 140 = .ok (.goto 4, 3) := by decide +kernel
theorem dX7_proofOf_143 : decode cX7_proofOf 143 = .ok (.iload_n 2, 1) := by decide +kernel
theorem dX7_proofOf_144 : decode cX7_proofOf 144 = .ok (.istore_n 2, 1) := by decide +kernel
theorem dX7_proofOf_145 : decode cX7_proofOf 145 = .ok (.iinc 3 (-1), 3) := by decide +kernel
theorem dX7_proofOf_148 : decode cX7_proofOf 148 = .ok (.goto (-135), 3) := by decide +kernel
theorem dX7_proofOf_151 : decode cX7_proofOf 151 = .ok (.iload_n 1, 1) := by decide +kernel
theorem dX7_proofOf_152 : decode cX7_proofOf 152 = .ok (.iconst (-1), 1) := by decide +kernel
theorem dX7_proofOf_153 : decode cX7_proofOf 153 = .ok (.if_icmp .eq 8, 3) := by decide +kernel
theorem dX7_proofOf_156 : decode cX7_proofOf 156 = .ok (.iload_n 1, 1) := by decide +kernel
theorem dX7_proofOf_157 : decode cX7_proofOf 157 = .ok (.iload_n 2, 1) := by decide +kernel
theorem dX7_proofOf_158 : decode cX7_proofOf 158 = .ok (.if_icmp .lt 14, 3) := by decide +kernel
theorem dX7_proofOf_161 : decode cX7_proofOf 161 = .ok (.iload_n 1, 1) := by decide +kernel
theorem dX7_proofOf_162 : decode cX7_proofOf 162 = .ok (.iconst (-1), 1) := by decide +kernel
theorem dX7_proofOf_163 : decode cX7_proofOf 163 = .ok (.if_icmp .ne 7, 3) := by decide +kernel
theorem dX7_proofOf_166 : decode cX7_proofOf 166 = .ok (.iload_n 2, 1) := by decide +kernel
theorem dX7_proofOf_167 : decode cX7_proofOf 167 = .ok (.goto 4, 3) := by decide +kernel
theorem dX7_proofOf_170 : decode cX7_proofOf 170 = .ok (.iconst (-1), 1) := by decide +kernel
theorem dX7_proofOf_171 : decode cX7_proofOf 171 = .ok (.ireturn, 1) := by decide +kernel
theorem dX7_proofOf_172 : decode cX7_proofOf 172 = .ok (.iconst (-1), 1) := by decide +kernel
theorem dX7_proofOf_173 : decode cX7_proofOf 173 = .ok (.istore_n 3, 1) := by decide +kernel
theorem dX7_proofOf_174 : decode cX7_proofOf 174 = .ok (.iconst 0, 1) := by decide +kernel
theorem dX7_proofOf_175 : decode cX7_proofOf 175 = .ok (.istore 4, 2) := by decide +kernel
theorem dX7_proofOf_177 : decode cX7_proofOf 177 = .ok (.iload 4, 2) := by decide +kernel
theorem dX7_proofOf_179 : decode cX7_proofOf 179 = .ok (.iload_n 1, 1) := by decide +kernel
theorem dX7_proofOf_180 : decode cX7_proofOf 180 = .ok (.if_icmp .gt 124, 3) := by decide +kernel
theorem dX7_proofOf_183 : decode cX7_proofOf 183 = .ok (.iconst (-1), 1) := by decide +kernel
theorem dX7_proofOf_184 : decode cX7_proofOf 184 = .ok (.istore 5, 2) := by decide +kernel
theorem dX7_proofOf_186 : decode cX7_proofOf 186 = .ok (.iload_n 3, 1) := by decide +kernel
theorem dX7_proofOf_187 : decode cX7_proofOf 187 = .ok (.iconst 1, 1) := by decide +kernel
theorem dX7_proofOf_188 : decode cX7_proofOf 188 = .ok (.iadd, 1) := by decide +kernel
theorem dX7_proofOf_189 : decode cX7_proofOf 189 = .ok (.istore 6, 2) := by decide +kernel
theorem dX7_proofOf_191 : decode cX7_proofOf 191 = .ok (.iload 6, 2) := by decide +kernel
theorem dX7_proofOf_193 : decode cX7_proofOf 193 = .ok (.aload_n 0, 1) := by decide +kernel
theorem dX7_proofOf_194 : decode cX7_proofOf 194 = .ok (.getfield 118, 3) := by decide +kernel
theorem dX7_proofOf_197 : decode cX7_proofOf 197 = .ok (.if_icmp .ge 98, 3) := by decide +kernel
theorem dX7_proofOf_200 : decode cX7_proofOf 200 = .ok (.aload_n 0, 1) := by decide +kernel
theorem dX7_proofOf_201 : decode cX7_proofOf 201 = .ok (.getfield 52, 3) := by decide +kernel
theorem dX7_proofOf_204 : decode cX7_proofOf 204 = .ok (.iload 6, 2) := by decide +kernel
theorem dX7_proofOf_206 : decode cX7_proofOf 206 = .ok (.iaload, 1) := by decide +kernel
theorem dX7_proofOf_207 : decode cX7_proofOf 207 = .ok (.iload_n 2, 1) := by decide +kernel
theorem dX7_proofOf_208 : decode cX7_proofOf 208 = .ok (.iload 4, 2) := by decide +kernel
theorem dX7_proofOf_210 : decode cX7_proofOf 210 = .ok (.isub, 1) := by decide +kernel
theorem dX7_proofOf_211 : decode cX7_proofOf 211 = .ok (.if_icmp .ne 38, 3) := by decide +kernel
theorem dX7_proofOf_214 : decode cX7_proofOf 214 = .ok (.iload_n 3, 1) := by decide +kernel
theorem dX7_proofOf_215 : decode cX7_proofOf 215 = .ok (.iconst (-1), 1) := by decide +kernel
theorem dX7_proofOf_216 : decode cX7_proofOf 216 = .ok (.if_icmp .eq 29, 3) := by decide +kernel
theorem dX7_proofOf_219 : decode cX7_proofOf 219 = .ok (.aload_n 0, 1) := by decide +kernel
theorem dX7_proofOf_220 : decode cX7_proofOf 220 = .ok (.getfield 43, 3) := by decide +kernel
theorem dX7_proofOf_223 : decode cX7_proofOf 223 = .ok (.aload_n 0, 1) := by decide +kernel
theorem dX7_proofOf_224 : decode cX7_proofOf 224 = .ok (.getfield 16, 3) := by decide +kernel
theorem dX7_proofOf_227 : decode cX7_proofOf 227 = .ok (.iload 6, 2) := by decide +kernel
theorem dX7_proofOf_229 : decode cX7_proofOf 229 = .ok (.iaload, 1) := by decide +kernel
theorem dX7_proofOf_230 : decode cX7_proofOf 230 = .ok (.iaload, 1) := by decide +kernel
theorem dX7_proofOf_231 : decode cX7_proofOf 231 = .ok (.aload_n 0, 1) := by decide +kernel
theorem dX7_proofOf_232 : decode cX7_proofOf 232 = .ok (.getfield 43, 3) := by decide +kernel
theorem dX7_proofOf_235 : decode cX7_proofOf 235 = .ok (.aload_n 0, 1) := by decide +kernel
theorem dX7_proofOf_236 : decode cX7_proofOf 236 = .ok (.getfield 16, 3) := by decide +kernel
theorem dX7_proofOf_239 : decode cX7_proofOf 239 = .ok (.iload_n 3, 1) := by decide +kernel
theorem dX7_proofOf_240 : decode cX7_proofOf 240 = .ok (.iaload, 1) := by decide +kernel
theorem dX7_proofOf_241 : decode cX7_proofOf 241 = .ok (.iaload, 1) := by decide +kernel
theorem dX7_proofOf_242 : decode cX7_proofOf 242 = .ok (.if_icmp .le 7, 3) := by decide +kernel
theorem dX7_proofOf_245 : decode cX7_proofOf 245 = .ok (.iconst 1, 1) := by decide +kernel
theorem dX7_proofOf_246 : decode cX7_proofOf 246 = .ok (.goto 4, 3) := by decide +kernel
theorem dX7_proofOf_249 : decode cX7_proofOf 249 = .ok (.iconst 0, 1) := by decide +kernel
theorem dX7_proofOf_250 : decode cX7_proofOf 250 = .ok (.istore 7, 2) := by decide +kernel
theorem dX7_proofOf_252 : decode cX7_proofOf 252 = .ok (.iload 7, 2) := by decide +kernel
theorem dX7_proofOf_254 : decode cX7_proofOf 254 = .ok (.ifCond .eq 31, 3) := by decide +kernel
theorem dX7_proofOf_257 : decode cX7_proofOf 257 = .ok (.iload 5, 2) := by decide +kernel
theorem dX7_proofOf_259 : decode cX7_proofOf 259 = .ok (.iconst (-1), 1) := by decide +kernel
theorem dX7_proofOf_260 : decode cX7_proofOf 260 = .ok (.if_icmp .eq 20, 3) := by decide +kernel
theorem dX7_proofOf_263 : decode cX7_proofOf 263 = .ok (.aload_n 0, 1) := by decide +kernel
theorem dX7_proofOf_264 : decode cX7_proofOf 264 = .ok (.getfield 16, 3) := by decide +kernel
theorem dX7_proofOf_267 : decode cX7_proofOf 267 = .ok (.iload 6, 2) := by decide +kernel
theorem dX7_proofOf_269 : decode cX7_proofOf 269 = .ok (.iaload, 1) := by decide +kernel
theorem dX7_proofOf_270 : decode cX7_proofOf 270 = .ok (.aload_n 0, 1) := by decide +kernel
theorem dX7_proofOf_271 : decode cX7_proofOf 271 = .ok (.getfield 16, 3) := by decide +kernel
theorem dX7_proofOf_274 : decode cX7_proofOf 274 = .ok (.iload 5, 2) := by decide +kernel
theorem dX7_proofOf_276 : decode cX7_proofOf 276 = .ok (.iaload, 1) := by decide +kernel
theorem dX7_proofOf_277 : decode cX7_proofOf 277 = .ok (.if_icmp .ge 8, 3) := by decide +kernel
theorem dX7_proofOf_280 : decode cX7_proofOf 280 = .ok (.iload 6, 2) := by decide +kernel
theorem dX7_proofOf_282 : decode cX7_proofOf 282 = .ok (.goto 5, 3) := by decide +kernel
theorem dX7_proofOf_285 : decode cX7_proofOf 285 = .ok (.iload 5, 2) := by decide +kernel
theorem dX7_proofOf_287 : decode cX7_proofOf 287 = .ok (.istore 5, 2) := by decide +kernel
theorem dX7_proofOf_289 : decode cX7_proofOf 289 = .ok (.iinc 6 1, 3) := by decide +kernel
theorem dX7_proofOf_292 : decode cX7_proofOf 292 = .ok (.goto (-101), 3) := by decide +kernel
theorem dX7_proofOf_295 : decode cX7_proofOf 295 = .ok (.iload 5, 2) := by decide +kernel
theorem dX7_proofOf_297 : decode cX7_proofOf 297 = .ok (.istore_n 3, 1) := by decide +kernel
theorem dX7_proofOf_298 : decode cX7_proofOf 298 = .ok (.iinc 4 1, 3) := by decide +kernel
theorem dX7_proofOf_301 : decode cX7_proofOf 301 = .ok (.goto (-124), 3) := by decide +kernel
theorem dX7_proofOf_304 : decode cX7_proofOf 304 = .ok (.aload_n 0, 1) := by decide +kernel
theorem dX7_proofOf_305 : decode cX7_proofOf 305 = .ok (.getfield 16, 3) := by decide +kernel
theorem dX7_proofOf_308 : decode cX7_proofOf 308 = .ok (.iload_n 3, 1) := by decide +kernel
theorem dX7_proofOf_309 : decode cX7_proofOf 309 = .ok (.iaload, 1) := by decide +kernel
theorem dX7_proofOf_310 : decode cX7_proofOf 310 = .ok (.ireturn, 1) := by decide +kernel
theorem dX7_proof_0 : decode cX7_proof 0 = .ok (.iload_n 1, 1) := by decide +kernel
theorem dX7_proof_1 : decode cX7_proof 1 = .ok (.iconst (-1), 1) := by decide +kernel
theorem dX7_proof_2 : decode cX7_proof 2 = .ok (.bipush 9, 2) := by decide +kernel
theorem dX7_proof_4 : decode cX7_proof 4 = .ok (.invokestatic 99, 3) := by decide +kernel
theorem dX7_proof_7 : decode cX7_proof 7 = .ok (.ifCond .eq 11, 3) := by decide +kernel
theorem dX7_proof_10 : decode cX7_proof 10 = .ok (.aload_n 0, 1) := by decide +kernel
theorem dX7_proof_11 : decode cX7_proof 11 = .ok (.iload_n 1, 1) := by decide +kernel
theorem dX7_proof_12 : decode cX7_proof 12 = .ok (.invokevirtual 188, 3) := by decide +kernel
theorem dX7_proof_15 : decode cX7_proof 15 = .ok (.goto 5, 3) := by decide +kernel
theorem dX7_proof_18 : decode cX7_proof 18 = .ok (.bipush (-2), 2) := by decide +kernel
theorem dX7_proof_20 : decode cX7_proof 20 = .ok (.ireturn, 1) := by decide +kernel
theorem dX7_liftedBy_0 : decode cX7_liftedBy 0 = .ok (.iconst 0, 1) := by decide +kernel
theorem dX7_liftedBy_1 : decode cX7_liftedBy 1 = .ok (.istore_n 2, 1) := by decide +kernel
theorem dX7_liftedBy_2 : decode cX7_liftedBy 2 = .ok (.iconst 0, 1) := by decide +kernel
theorem dX7_liftedBy_3 : decode cX7_liftedBy 3 = .ok (.istore_n 3, 1) := by decide +kernel
theorem dX7_liftedBy_4 : decode cX7_liftedBy 4 = .ok (.iload_n 3, 1) := by decide +kernel
theorem dX7_liftedBy_5 : decode cX7_liftedBy 5 = .ok (.iload_n 1, 1) := by decide +kernel
theorem dX7_liftedBy_6 : decode cX7_liftedBy 6 = .ok (.if_icmp .ge 76, 3) := by decide +kernel
theorem dX7_liftedBy_9 : decode cX7_liftedBy 9 = .ok (.iload_n 3, 1) := by decide +kernel
theorem dX7_liftedBy_10 : decode cX7_liftedBy 10 = .ok (.iconst 1, 1) := by decide +kernel
theorem dX7_liftedBy_11 : decode cX7_liftedBy 11 = .ok (.iadd, 1) := by decide +kernel
theorem dX7_liftedBy_12 : decode cX7_liftedBy 12 = .ok (.istore 4, 2) := by decide +kernel
theorem dX7_liftedBy_14 : decode cX7_liftedBy 14 = .ok (.iload 4, 2) := by decide +kernel
theorem dX7_liftedBy_16 : decode cX7_liftedBy 16 = .ok (.iload_n 1, 1) := by decide +kernel
theorem dX7_liftedBy_17 : decode cX7_liftedBy 17 = .ok (.if_icmp .ge 59, 3) := by decide +kernel
theorem dX7_liftedBy_20 : decode cX7_liftedBy 20 = .ok (.iload_n 2, 1) := by decide +kernel
theorem dX7_liftedBy_21 : decode cX7_liftedBy 21 = .ok (.aload_n 0, 1) := by decide +kernel
theorem dX7_liftedBy_22 : decode cX7_liftedBy 22 = .ok (.getfield 49, 3) := by decide +kernel
theorem dX7_liftedBy_25 : decode cX7_liftedBy 25 = .ok (.iload_n 3, 1) := by decide +kernel
theorem dX7_liftedBy_26 : decode cX7_liftedBy 26 = .ok (.iaload, 1) := by decide +kernel
theorem dX7_liftedBy_27 : decode cX7_liftedBy 27 = .ok (.aload_n 0, 1) := by decide +kernel
theorem dX7_liftedBy_28 : decode cX7_liftedBy 28 = .ok (.getfield 49, 3) := by decide +kernel
theorem dX7_liftedBy_31 : decode cX7_liftedBy 31 = .ok (.iload 4, 2) := by decide +kernel
theorem dX7_liftedBy_33 : decode cX7_liftedBy 33 = .ok (.iaload, 1) := by decide +kernel
theorem dX7_liftedBy_34 : decode cX7_liftedBy 34 = .ok (.if_icmp .ne 33, 3) := by decide +kernel
theorem dX7_liftedBy_37 : decode cX7_liftedBy 37 = .ok (.aload_n 0, 1) := by decide +kernel
theorem dX7_liftedBy_38 : decode cX7_liftedBy 38 = .ok (.getfield 43, 3) := by decide +kernel
theorem dX7_liftedBy_41 : decode cX7_liftedBy 41 = .ok (.aload_n 0, 1) := by decide +kernel
theorem dX7_liftedBy_42 : decode cX7_liftedBy 42 = .ok (.getfield 16, 3) := by decide +kernel
theorem dX7_liftedBy_45 : decode cX7_liftedBy 45 = .ok (.iload_n 3, 1) := by decide +kernel
theorem dX7_liftedBy_46 : decode cX7_liftedBy 46 = .ok (.iaload, 1) := by decide +kernel
theorem dX7_liftedBy_47 : decode cX7_liftedBy 47 = .ok (.iaload, 1) := by decide +kernel
theorem dX7_liftedBy_48 : decode cX7_liftedBy 48 = .ok (.aload_n 0, 1) := by decide +kernel
theorem dX7_liftedBy_49 : decode cX7_liftedBy 49 = .ok (.getfield 43, 3) := by decide +kernel
theorem dX7_liftedBy_52 : decode cX7_liftedBy 52 = .ok (.aload_n 0, 1) := by decide +kernel
theorem dX7_liftedBy_53 : decode cX7_liftedBy 53 = .ok (.getfield 16, 3) := by decide +kernel
theorem dX7_liftedBy_56 : decode cX7_liftedBy 56 = .ok (.iload 4, 2) := by decide +kernel
theorem dX7_liftedBy_58 : decode cX7_liftedBy 58 = .ok (.iaload, 1) := by decide +kernel
theorem dX7_liftedBy_59 : decode cX7_liftedBy 59 = .ok (.iaload, 1) := by decide +kernel
theorem dX7_liftedBy_60 : decode cX7_liftedBy 60 = .ok (.if_icmp .ge 7, 3) := by decide +kernel
theorem dX7_liftedBy_63 : decode cX7_liftedBy 63 = .ok (.iconst 1, 1) := by decide +kernel
theorem dX7_liftedBy_64 : decode cX7_liftedBy 64 = .ok (.goto 4, 3) := by decide +kernel
theorem dX7_liftedBy_67 : decode cX7_liftedBy 67 = .ok (.iconst 0, 1) := by decide +kernel
theorem dX7_liftedBy_68 : decode cX7_liftedBy 68 = .ok (.iadd, 1) := by decide +kernel
theorem dX7_liftedBy_69 : decode cX7_liftedBy 69 = .ok (.istore_n 2, 1) := by decide +kernel
theorem dX7_liftedBy_70 : decode cX7_liftedBy 70 = .ok (.iinc 4 1, 3) := by decide +kernel
theorem dX7_liftedBy_73 : decode cX7_liftedBy 73 = .ok (.goto (-59), 3) := by decide +kernel
theorem dX7_liftedBy_76 : decode cX7_liftedBy 76 = .ok (.iinc 3 1, 3) := by decide +kernel
theorem dX7_liftedBy_79 : decode cX7_liftedBy 79 = .ok (.goto (-75), 3) := by decide +kernel
theorem dX7_liftedBy_82 : decode cX7_liftedBy 82 = .ok (.iload_n 2, 1) := by decide +kernel
theorem dX7_liftedBy_83 : decode cX7_liftedBy 83 = .ok (.ireturn, 1) := by decide +kernel
theorem dX7_seven_0 : decode cX7_seven 0 = .ok (.aload_n 0, 1) := by decide +kernel
theorem dX7_seven_1 : decode cX7_seven 1 = .ok (.getfield 118, 3) := by decide +kernel
theorem dX7_seven_4 : decode cX7_seven 4 = .ok (.bipush 7, 2) := by decide +kernel
theorem dX7_seven_6 : decode cX7_seven 6 = .ok (.if_icmp .ge 10, 3) := by decide +kernel
theorem dX7_seven_9 : decode cX7_seven 9 = .ok (.aload_n 0, 1) := by decide +kernel
theorem dX7_seven_10 : decode cX7_seven 10 = .ok (.getfield 118, 3) := by decide +kernel
theorem dX7_seven_13 : decode cX7_seven 13 = .ok (.goto 5, 3) := by decide +kernel
theorem dX7_seven_16 : decode cX7_seven 16 = .ok (.bipush 7, 2) := by decide +kernel
theorem dX7_seven_18 : decode cX7_seven 18 = .ok (.ireturn, 1) := by decide +kernel
theorem dX7_leastOf_0 : decode cX7_leastOf 0 = .ok (.aload_n 0, 1) := by decide +kernel
theorem dX7_leastOf_1 : decode cX7_leastOf 1 = .ok (.invokevirtual 179, 3) := by decide +kernel
theorem dX7_leastOf_4 : decode cX7_leastOf 4 = .ok (.aload_n 0, 1) := by decide +kernel
theorem dX7_leastOf_5 : decode cX7_leastOf 5 = .ok (.invokevirtual 191, 3) := by decide +kernel
theorem dX7_leastOf_8 : decode cX7_leastOf 8 = .ok (.istore_n 3, 1) := by decide +kernel
theorem dX7_leastOf_9 : decode cX7_leastOf 9 = .ok (.iconst 1, 1) := by decide +kernel
theorem dX7_leastOf_10 : decode cX7_leastOf 10 = .ok (.istore 4, 2) := by decide +kernel
theorem dX7_leastOf_12 : decode cX7_leastOf 12 = .ok (.iconst 0, 1) := by decide +kernel
theorem dX7_leastOf_13 : decode cX7_leastOf 13 = .ok (.istore 5, 2) := by decide +kernel
theorem dX7_leastOf_15 : decode cX7_leastOf 15 = .ok (.iload 5, 2) := by decide +kernel
theorem dX7_leastOf_17 : decode cX7_leastOf 17 = .ok (.iload_n 3, 1) := by decide +kernel
theorem dX7_leastOf_18 : decode cX7_leastOf 18 = .ok (.if_icmp .ge 15, 3) := by decide +kernel
theorem dX7_leastOf_21 : decode cX7_leastOf 21 = .ok (.iload 4, 2) := by decide +kernel
theorem dX7_leastOf_23 : decode cX7_leastOf 23 = .ok (.iload_n 1, 1) := by decide +kernel
theorem dX7_leastOf_24 : decode cX7_leastOf 24 = .ok (.imul, 1) := by decide +kernel
theorem dX7_leastOf_25 : decode cX7_leastOf 25 = .ok (.istore 4, 2) := by decide +kernel
theorem dX7_leastOf_27 : decode cX7_leastOf 27 = .ok (.iinc 5 1, 3) := by decide +kernel
theorem dX7_leastOf_30 : decode cX7_leastOf 30 = .ok (.goto (-15), 3) := by decide +kernel
theorem dX7_leastOf_33 : decode cX7_leastOf 33 = .ok (.iconst (-1), 1) := by decide +kernel
theorem dX7_leastOf_34 : decode cX7_leastOf 34 = .ok (.istore 5, 2) := by decide +kernel
theorem dX7_leastOf_36 : decode cX7_leastOf 36 = .ok (.iconst 0, 1) := by decide +kernel
theorem dX7_leastOf_37 : decode cX7_leastOf 37 = .ok (.istore 6, 2) := by decide +kernel
theorem dX7_leastOf_39 : decode cX7_leastOf 39 = .ok (.iconst 0, 1) := by decide +kernel
theorem dX7_leastOf_40 : decode cX7_leastOf 40 = .ok (.istore 7, 2) := by decide +kernel
theorem dX7_leastOf_42 : decode cX7_leastOf 42 = .ok (.iload 7, 2) := by decide +kernel
theorem dX7_leastOf_44 : decode cX7_leastOf 44 = .ok (.iload 4, 2) := by decide +kernel
theorem dX7_leastOf_46 : decode cX7_leastOf 46 = .ok (.if_icmp .ge 97, 3) := by decide +kernel
theorem dX7_leastOf_49 : decode cX7_leastOf 49 = .ok (.iload 7, 2) := by decide +kernel
theorem dX7_leastOf_51 : decode cX7_leastOf 51 = .ok (.istore 8, 2) := by decide +kernel
theorem dX7_leastOf_53 : decode cX7_leastOf 53 = .ok (.iload_n 3, 1) := by decide +kernel
theorem dX7_leastOf_54 : decode cX7_leastOf 54 = .ok (.iconst 1, 1) := by decide +kernel
theorem dX7_leastOf_55 : decode cX7_leastOf 55 = .ok (.isub, 1) := by decide +kernel
theorem dX7_leastOf_56 : decode cX7_leastOf 56 = .ok (.istore 9, 2) := by decide +kernel
theorem dX7_leastOf_58 : decode cX7_leastOf 58 = .ok (.iload 9, 2) := by decide +kernel
theorem dX7_leastOf_60 : decode cX7_leastOf 60 = .ok (.ifCond .lt 26, 3) := by decide +kernel
theorem dX7_leastOf_63 : decode cX7_leastOf 63 = .ok (.aload_n 0, 1) := by decide +kernel
theorem dX7_leastOf_64 : decode cX7_leastOf 64 = .ok (.getfield 49, 3) := by decide +kernel
theorem dX7_leastOf_67 : decode cX7_leastOf 67 = .ok (.iload 9, 2) := by decide +kernel
theorem dX7_leastOf_69 : decode cX7_leastOf 69 = .ok (.iload 8, 2) := by decide +kernel
theorem dX7_leastOf_71 : decode cX7_leastOf 71 = .ok (.iload_n 1, 1) := by decide +kernel
theorem dX7_leastOf_72 : decode cX7_leastOf 72 = .ok (.irem, 1) := by decide +kernel
theorem dX7_leastOf_73 : decode cX7_leastOf 73 = .ok (.iastore, 1) := by decide +kernel
theorem dX7_leastOf_74 : decode cX7_leastOf 74 = .ok (.iload 8, 2) := by decide +kernel
theorem dX7_leastOf_76 : decode cX7_leastOf 76 = .ok (.iload_n 1, 1) := by decide +kernel
theorem dX7_leastOf_77 : decode cX7_leastOf 77 = .ok (.idiv, 1) := by decide +kernel
theorem dX7_leastOf_78 : decode cX7_leastOf 78 = .ok (.istore 8, 2) := by decide +kernel
theorem dX7_leastOf_80 : decode cX7_leastOf 80 = .ok (.iinc 9 (-1), 3) := by decide +kernel
theorem dX7_leastOf_83 : decode cX7_leastOf 83 = .ok (.goto (-25), 3) := by decide +kernel
theorem dX7_leastOf_86 : decode cX7_leastOf 86 = .ok (.aload_n 0, 1) := by decide +kernel
theorem dX7_leastOf_87 : decode cX7_leastOf 87 = .ok (.iload_n 3, 1) := by decide +kernel
theorem dX7_leastOf_88 : decode cX7_leastOf 88 = .ok (.invokevirtual 194, 3) := by decide +kernel
theorem dX7_leastOf_91 : decode cX7_leastOf 91 = .ok (.istore 9, 2) := by decide +kernel
theorem dX7_leastOf_93 : decode cX7_leastOf 93 = .ok (.iload 5, 2) := by decide +kernel
theorem dX7_leastOf_95 : decode cX7_leastOf 95 = .ok (.iconst (-1), 1) := by decide +kernel
theorem dX7_leastOf_96 : decode cX7_leastOf 96 = .ok (.if_icmp .eq 10, 3) := by decide +kernel
theorem dX7_leastOf_99 : decode cX7_leastOf 99 = .ok (.iload 9, 2) := by decide +kernel
theorem dX7_leastOf_101 : decode cX7_leastOf 101 = .ok (.iload 5, 2) := by decide +kernel
theorem dX7_leastOf_103 : decode cX7_leastOf 103 = .ok (.if_icmp .ge 8, 3) := by decide +kernel
theorem dX7_leastOf_106 : decode cX7_leastOf 106 = .ok (.iload 7, 2) := by decide +kernel
theorem dX7_leastOf_108 : decode cX7_leastOf 108 = .ok (.goto 5, 3) := by decide +kernel
theorem dX7_leastOf_111 : decode cX7_leastOf 111 = .ok (.iload 6, 2) := by decide +kernel
theorem dX7_leastOf_113 : decode cX7_leastOf 113 = .ok (.istore 6, 2) := by decide +kernel
theorem dX7_leastOf_115 : decode cX7_leastOf 115 = .ok (.iload 5, 2) := by decide +kernel
theorem dX7_leastOf_117 : decode cX7_leastOf 117 = .ok (.iconst (-1), 1) := by decide +kernel
theorem dX7_leastOf_118 : decode cX7_leastOf 118 = .ok (.if_icmp .eq 10, 3) := by decide +kernel
theorem dX7_leastOf_121 : decode cX7_leastOf 121 = .ok (.iload 9, 2) := by decide +kernel
theorem dX7_leastOf_123 : decode cX7_leastOf 123 = .ok (.iload 5, 2) := by decide +kernel
theorem dX7_leastOf_125 : decode cX7_leastOf 125 = .ok (.if_icmp .ge 8, 3) := by decide +kernel
theorem dX7_leastOf_128 : decode cX7_leastOf 128 = .ok (.iload 9, 2) := by decide +kernel
theorem dX7_leastOf_130 : decode cX7_leastOf 130 = .ok (.goto 5, 3) := by decide +kernel
theorem dX7_leastOf_133 : decode cX7_leastOf 133 = .ok (.iload 5, 2) := by decide +kernel
theorem dX7_leastOf_135 : decode cX7_leastOf 135 = .ok (.istore 5, 2) := by decide +kernel
theorem dX7_leastOf_137 : decode cX7_leastOf 137 = .ok (.iinc 7 1, 3) := by decide +kernel
theorem dX7_leastOf_140 : decode cX7_leastOf 140 = .ok (.goto (-98), 3) := by decide +kernel
theorem dX7_leastOf_143 : decode cX7_leastOf 143 = .ok (.iload_n 2, 1) := by decide +kernel
theorem dX7_leastOf_144 : decode cX7_leastOf 144 = .ok (.iconst (-1), 1) := by decide +kernel
theorem dX7_leastOf_145 : decode cX7_leastOf 145 = .ok (.if_icmp .eq 8, 3) := by decide +kernel
theorem dX7_leastOf_148 : decode cX7_leastOf 148 = .ok (.iload_n 2, 1) := by decide +kernel
theorem dX7_leastOf_149 : decode cX7_leastOf 149 = .ok (.iload_n 3, 1) := by decide +kernel
theorem dX7_leastOf_150 : decode cX7_leastOf 150 = .ok (.if_icmp .lt 15, 3) := by decide +kernel
theorem dX7_leastOf_153 : decode cX7_leastOf 153 = .ok (.iload_n 2, 1) := by decide +kernel
theorem dX7_leastOf_154 : decode cX7_leastOf 154 = .ok (.iconst (-1), 1) := by decide +kernel
theorem dX7_leastOf_155 : decode cX7_leastOf 155 = .ok (.if_icmp .ne 8, 3) := by decide +kernel
theorem dX7_leastOf_158 : decode cX7_leastOf 158 = .ok (.iload 5, 2) := by decide +kernel
theorem dX7_leastOf_160 : decode cX7_leastOf 160 = .ok (.goto 4, 3) := by decide +kernel
theorem dX7_leastOf_163 : decode cX7_leastOf 163 = .ok (.iconst (-1), 1) := by decide +kernel
theorem dX7_leastOf_164 : decode cX7_leastOf 164 = .ok (.ireturn, 1) := by decide +kernel
theorem dX7_leastOf_165 : decode cX7_leastOf 165 = .ok (.iload_n 3, 1) := by decide +kernel
theorem dX7_leastOf_166 : decode cX7_leastOf 166 = .ok (.iconst 1, 1) := by decide +kernel
theorem dX7_leastOf_167 : decode cX7_leastOf 167 = .ok (.isub, 1) := by decide +kernel
theorem dX7_leastOf_168 : decode cX7_leastOf 168 = .ok (.istore 7, 2) := by decide +kernel
theorem dX7_leastOf_170 : decode cX7_leastOf 170 = .ok (.iload 7, 2) := by decide +kernel
theorem dX7_leastOf_172 : decode cX7_leastOf 172 = .ok (.iload_n 2, 1) := by decide +kernel
theorem dX7_leastOf_173 : decode cX7_leastOf 173 = .ok (.if_icmp .le 15, 3) := by decide +kernel
theorem dX7_leastOf_176 : decode cX7_leastOf 176 = .ok (.iload 6, 2) := by decide +kernel
theorem dX7_leastOf_178 : decode cX7_leastOf 178 = .ok (.iload_n 1, 1) := by decide +kernel
theorem dX7_leastOf_179 : decode cX7_leastOf 179 = .ok (.idiv, 1) := by decide +kernel
theorem dX7_leastOf_180 : decode cX7_leastOf 180 = .ok (.istore 6, 2) := by decide +kernel
theorem dX7_leastOf_182 : decode cX7_leastOf 182 = .ok (.iinc 7 (-1), 3) := by decide +kernel
theorem dX7_leastOf_185 : decode cX7_leastOf 185 = .ok (.goto (-15), 3) := by decide +kernel
theorem dX7_leastOf_188 : decode cX7_leastOf 188 = .ok (.iload 6, 2) := by decide +kernel
theorem dX7_leastOf_190 : decode cX7_leastOf 190 = .ok (.iload_n 1, 1) := by decide +kernel
theorem dX7_leastOf_191 : decode cX7_leastOf 191 = .ok (.irem, 1) := by decide +kernel
theorem dX7_leastOf_192 : decode cX7_leastOf 192 = .ok (.ireturn, 1) := by decide +kernel
theorem dX7_least_0 : decode cX7_least 0 = .ok (.iload_n 1, 1) := by decide +kernel
theorem dX7_least_1 : decode cX7_least 1 = .ok (.iconst 1, 1) := by decide +kernel
theorem dX7_least_2 : decode cX7_least 2 = .ok (.iconst 3, 1) := by decide +kernel
theorem dX7_least_3 : decode cX7_least 3 = .ok (.invokestatic 99, 3) := by decide +kernel
theorem dX7_least_6 : decode cX7_least 6 = .ok (.ifCond .eq 22, 3) := by decide +kernel
theorem dX7_least_9 : decode cX7_least 9 = .ok (.iload_n 2, 1) := by decide +kernel
theorem dX7_least_10 : decode cX7_least 10 = .ok (.iconst (-1), 1) := by decide +kernel
theorem dX7_least_11 : decode cX7_least 11 = .ok (.bipush 6, 2) := by decide +kernel
theorem dX7_least_13 : decode cX7_least 13 = .ok (.invokestatic 99, 3) := by decide +kernel
theorem dX7_least_16 : decode cX7_least 16 = .ok (.ifCond .eq 12, 3) := by decide +kernel
theorem dX7_least_19 : decode cX7_least 19 = .ok (.aload_n 0, 1) := by decide +kernel
theorem dX7_least_20 : decode cX7_least 20 = .ok (.iload_n 1, 1) := by decide +kernel
theorem dX7_least_21 : decode cX7_least 21 = .ok (.iload_n 2, 1) := by decide +kernel
theorem dX7_least_22 : decode cX7_least 22 = .ok (.invokevirtual 197, 3) := by decide +kernel
theorem dX7_least_25 : decode cX7_least 25 = .ok (.goto 5, 3) := by decide +kernel
theorem dX7_least_28 : decode cX7_least 28 = .ok (.bipush (-2), 2) := by decide +kernel
theorem dX7_least_30 : decode cX7_least 30 = .ok (.ireturn, 1) := by decide +kernel
theorem dX7_ruled_0 : decode cX7_ruled 0 = .ok (.iload_n 1, 1) := by decide +kernel
theorem dX7_ruled_1 : decode cX7_ruled 1 = .ok (.iconst 2, 1) := by decide +kernel
theorem dX7_ruled_2 : decode cX7_ruled 2 = .ok (.if_icmp .ge 15, 3) := by decide +kernel
theorem dX7_ruled_5 : decode cX7_ruled 5 = .ok (.iload_n 1, 1) := by decide +kernel
theorem dX7_ruled_6 : decode cX7_ruled 6 = .ok (.ifCond .ne 7, 3) := by decide +kernel
theorem dX7_ruled_9 : decode cX7_ruled 9 = .ok (.iconst 0, 1) := by decide +kernel
theorem dX7_ruled_10 : decode cX7_ruled 10 = .ok (.goto 6, 3) := by decide +kernel
theorem dX7_ruled_13 : decode cX7_ruled 13 = .ok (.iload_n 2, 1) := by decide +kernel
theorem dX7_ruled_14 : decode cX7_ruled 14 = .ok (.iload_n 3, 1) := by decide +kernel
theorem dX7_ruled_15 : decode cX7_ruled 15 = .ok (.irem, 1) := by decide +kernel
theorem dX7_ruled_16 : decode cX7_ruled 16 = .ok (.ireturn, 1) := by decide +kernel
theorem dX7_ruled_17 : decode cX7_ruled 17 = .ok (.iload_n 1, 1) := by decide +kernel
theorem dX7_ruled_18 : decode cX7_ruled 18 = .ok (.iconst 3, 1) := by decide +kernel
theorem dX7_ruled_19 : decode cX7_ruled 19 = .ok (.if_icmp .ne 22, 3) := by decide +kernel
theorem dX7_ruled_22 : decode cX7_ruled 22 = .ok (.aload_n 0, 1) := by decide +kernel
theorem dX7_ruled_23 : decode cX7_ruled 23 = .ok (.aload_n 0, 1) := by decide +kernel
theorem dX7_ruled_24 : decode cX7_ruled 24 = .ok (.getfield 43, 3) := by decide +kernel
theorem dX7_ruled_27 : decode cX7_ruled 27 = .ok (.aload_n 0, 1) := by decide +kernel
theorem dX7_ruled_28 : decode cX7_ruled 28 = .ok (.getfield 16, 3) := by decide +kernel
theorem dX7_ruled_31 : decode cX7_ruled 31 = .ok (.iload_n 2, 1) := by decide +kernel
theorem dX7_ruled_32 : decode cX7_ruled 32 = .ok (.iaload, 1) := by decide +kernel
theorem dX7_ruled_33 : decode cX7_ruled 33 = .ok (.iaload, 1) := by decide +kernel
theorem dX7_ruled_34 : decode cX7_ruled 34 = .ok (.iload_n 3, 1) := by decide +kernel
theorem dX7_ruled_35 : decode cX7_ruled 35 = .ok (.invokevirtual 182, 3) := by decide +kernel
theorem dX7_ruled_38 : decode cX7_ruled 38 = .ok (.goto 4, 3) := by decide +kernel
theorem dX7_ruled_41 : decode cX7_ruled 41 = .ok (.iconst (-1), 1) := by decide +kernel
theorem dX7_ruled_42 : decode cX7_ruled 42 = .ok (.istore 4, 2) := by decide +kernel
theorem dX7_ruled_44 : decode cX7_ruled 44 = .ok (.iconst 0, 1) := by decide +kernel
theorem dX7_ruled_45 : decode cX7_ruled 45 = .ok (.istore 5, 2) := by decide +kernel
theorem dX7_ruled_47 : decode cX7_ruled 47 = .ok (.iload 5, 2) := by decide +kernel
theorem dX7_ruled_49 : decode cX7_ruled 49 = .ok (.iload_n 3, 1) := by decide +kernel
theorem dX7_ruled_50 : decode cX7_ruled 50 = .ok (.if_icmp .ge 81, 3) := by decide +kernel
theorem dX7_ruled_53 : decode cX7_ruled 53 = .ok (.iload 4, 2) := by decide +kernel
theorem dX7_ruled_55 : decode cX7_ruled 55 = .ok (.iconst (-1), 1) := by decide +kernel
theorem dX7_ruled_56 : decode cX7_ruled 56 = .ok (.if_icmp .ne 75, 3) := by decide +kernel
theorem dX7_ruled_59 : decode cX7_ruled 59 = .ok (.iload_n 1, 1) := by decide +kernel
theorem dX7_ruled_60 : decode cX7_ruled 60 = .ok (.iconst 2, 1) := by decide +kernel
theorem dX7_ruled_61 : decode cX7_ruled 61 = .ok (.if_icmp .ne 70, 3) := by decide +kernel
theorem dX7_ruled_64 : decode cX7_ruled 64 = .ok (.iconst 1, 1) := by decide +kernel
theorem dX7_ruled_65 : decode cX7_ruled 65 = .ok (.istore 6, 2) := by decide +kernel
theorem dX7_ruled_67 : decode cX7_ruled 67 = .ok (.iconst 0, 1) := by decide +kernel
theorem dX7_ruled_68 : decode cX7_ruled 68 = .ok (.istore 7, 2) := by decide +kernel
theorem dX7_ruled_70 : decode cX7_ruled 70 = .ok (.iload 7, 2) := by decide +kernel
theorem dX7_ruled_72 : decode cX7_ruled 72 = .ok (.iload_n 3, 1) := by decide +kernel
theorem dX7_ruled_73 : decode cX7_ruled 73 = .ok (.if_icmp .ge 38, 3) := by decide +kernel
theorem dX7_ruled_76 : decode cX7_ruled 76 = .ok (.iload 6, 2) := by decide +kernel
theorem dX7_ruled_78 : decode cX7_ruled 78 = .ok (.ifCond .eq 24, 3) := by decide +kernel
theorem dX7_ruled_81 : decode cX7_ruled 81 = .ok (.aload_n 0, 1) := by decide +kernel
theorem dX7_ruled_82 : decode cX7_ruled 82 = .ok (.getfield 34, 3) := by decide +kernel
theorem dX7_ruled_85 : decode cX7_ruled 85 = .ok (.iload 5, 2) := by decide +kernel
theorem dX7_ruled_87 : decode cX7_ruled 87 = .ok (.iaload, 1) := by decide +kernel
theorem dX7_ruled_88 : decode cX7_ruled 88 = .ok (.aload_n 0, 1) := by decide +kernel
theorem dX7_ruled_89 : decode cX7_ruled 89 = .ok (.getfield 34, 3) := by decide +kernel
theorem dX7_ruled_92 : decode cX7_ruled 92 = .ok (.iload 7, 2) := by decide +kernel
theorem dX7_ruled_94 : decode cX7_ruled 94 = .ok (.iaload, 1) := by decide +kernel
theorem dX7_ruled_95 : decode cX7_ruled 95 = .ok (.if_icmp .gt 7, 3) := by decide +kernel
theorem dX7_ruled_98 : decode cX7_ruled 98 = .ok (.iconst 1, 1) := by decide +kernel
theorem dX7_ruled_99 : decode cX7_ruled 99 = .ok (.goto 4, 3) := by decide +kernel
theorem dX7_ruled_102 : decode cX7_ruled 102 = .ok (.iconst 0, 1) := by decide +kernel
theorem dX7_ruled_103 : decode cX7_ruled 103 = .ok (.istore 6, 2) := by decide +kernel
theorem dX7_ruled_105 : decode cX7_ruled 105 = .ok (.iinc 7 1, 3) := by decide +kernel
theorem dX7_ruled_108 : decode cX7_ruled 108 = .ok (.goto (-38), 3) := by decide +kernel
theorem dX7_ruled_111 : decode cX7_ruled 111 = .ok (.iload 6, 2) := by decide +kernel
theorem dX7_ruled_113 : decode cX7_ruled 113 = .ok (.ifCond .eq 8, 3) := by decide +kernel
theorem dX7_ruled_116 : decode cX7_ruled 116 = .ok (.iload 5, 2) := by decide +kernel
theorem dX7_ruled_118 : decode cX7_ruled 118 = .ok (.goto 5, 3) := by decide +kernel
theorem dX7_ruled_121 : decode cX7_ruled 121 = .ok (.iload 4, 2) := by decide +kernel
theorem dX7_ruled_123 : decode cX7_ruled 123 = .ok (.istore 4, 2) := by decide +kernel
theorem dX7_ruled_125 : decode cX7_ruled 125 = .ok (.iinc 5 1, 3) := by decide +kernel
theorem dX7_ruled_128 : decode cX7_ruled 128 = .ok (.goto (-81), 3) := by decide +kernel
theorem dX7_ruled_131 : decode cX7_ruled 131 = .ok (.iload 4, 2) := by decide +kernel
theorem dX7_ruled_133 : decode cX7_ruled 133 = .ok (.iconst (-1), 1) := by decide +kernel
theorem dX7_ruled_134 : decode cX7_ruled 134 = .ok (.if_icmp .eq 6, 3) := by decide +kernel
theorem dX7_ruled_137 : decode cX7_ruled 137 = .ok (.iload 4, 2) := by decide +kernel
theorem dX7_ruled_139 : decode cX7_ruled 139 = .ok (.ireturn, 1) := by decide +kernel
theorem dX7_ruled_140 : decode cX7_ruled 140 = .ok (.iconst 0, 1) := by decide +kernel
theorem dX7_ruled_141 : decode cX7_ruled 141 = .ok (.istore 4, 2) := by decide +kernel
theorem dX7_ruled_143 : decode cX7_ruled 143 = .ok (.iconst 1, 1) := by decide +kernel
theorem dX7_ruled_144 : decode cX7_ruled 144 = .ok (.istore 5, 2) := by decide +kernel
theorem dX7_ruled_146 : decode cX7_ruled 146 = .ok (.iload 5, 2) := by decide +kernel
theorem dX7_ruled_148 : decode cX7_ruled 148 = .ok (.iload_n 3, 1) := by decide +kernel
theorem dX7_ruled_149 : decode cX7_ruled 149 = .ok (.if_icmp .ge 35, 3) := by decide +kernel
theorem dX7_ruled_152 : decode cX7_ruled 152 = .ok (.aload_n 0, 1) := by decide +kernel
theorem dX7_ruled_153 : decode cX7_ruled 153 = .ok (.getfield 46, 3) := by decide +kernel
theorem dX7_ruled_156 : decode cX7_ruled 156 = .ok (.iload 5, 2) := by decide +kernel
theorem dX7_ruled_158 : decode cX7_ruled 158 = .ok (.iaload, 1) := by decide +kernel
theorem dX7_ruled_159 : decode cX7_ruled 159 = .ok (.aload_n 0, 1) := by decide +kernel
theorem dX7_ruled_160 : decode cX7_ruled 160 = .ok (.getfield 46, 3) := by decide +kernel
theorem dX7_ruled_163 : decode cX7_ruled 163 = .ok (.iload 4, 2) := by decide +kernel
theorem dX7_ruled_165 : decode cX7_ruled 165 = .ok (.iaload, 1) := by decide +kernel
theorem dX7_ruled_166 : decode cX7_ruled 166 = .ok (.if_icmp .le 8, 3) := by decide +kernel
theorem dX7_ruled_169 : decode cX7_ruled 169 = .ok (.iload 5, 2) := by decide +kernel
theorem dX7_ruled_171 : decode cX7_ruled 171 = .ok (.goto 5, 3) := by decide +kernel
theorem dX7_ruled_174 : decode cX7_ruled 174 = .ok (.iload 4, 2) := by decide +kernel
theorem dX7_ruled_176 : decode cX7_ruled 176 = .ok (.istore 4, 2) := by decide +kernel
theorem dX7_ruled_178 : decode cX7_ruled 178 = .ok (.iinc 5 1, 3) := by decide +kernel
theorem dX7_ruled_181 : decode cX7_ruled 181 = .ok (.goto (-35), 3) := by decide +kernel
theorem dX7_ruled_184 : decode cX7_ruled 184 = .ok (.iload 4, 2) := by decide +kernel
theorem dX7_ruled_186 : decode cX7_ruled 186 = .ok (.ireturn, 1) := by decide +kernel
theorem dX7_ruleBy_0 : decode cX7_ruleBy 0 = .ok (.aload_n 0, 1) := by decide +kernel
theorem dX7_ruleBy_1 : decode cX7_ruleBy 1 = .ok (.invokevirtual 179, 3) := by decide +kernel
theorem dX7_ruleBy_4 : decode cX7_ruleBy 4 = .ok (.iconst 0, 1) := by decide +kernel
theorem dX7_ruleBy_5 : decode cX7_ruleBy 5 = .ok (.istore 4, 2) := by decide +kernel
theorem dX7_ruleBy_7 : decode cX7_ruleBy 7 = .ok (.iload 4, 2) := by decide +kernel
theorem dX7_ruleBy_9 : decode cX7_ruleBy 9 = .ok (.bipush 10, 2) := by decide +kernel
theorem dX7_ruleBy_11 : decode cX7_ruleBy 11 = .ok (.if_icmp .ge 26, 3) := by decide +kernel
theorem dX7_ruleBy_14 : decode cX7_ruleBy 14 = .ok (.aload_n 0, 1) := by decide +kernel
theorem dX7_ruleBy_15 : decode cX7_ruleBy 15 = .ok (.getfield 34, 3) := by decide +kernel
theorem dX7_ruleBy_18 : decode cX7_ruleBy 18 = .ok (.iload 4, 2) := by decide +kernel
theorem dX7_ruleBy_20 : decode cX7_ruleBy 20 = .ok (.iconst 0, 1) := by decide +kernel
theorem dX7_ruleBy_21 : decode cX7_ruleBy 21 = .ok (.iastore, 1) := by decide +kernel
theorem dX7_ruleBy_22 : decode cX7_ruleBy 22 = .ok (.aload_n 0, 1) := by decide +kernel
theorem dX7_ruleBy_23 : decode cX7_ruleBy 23 = .ok (.getfield 46, 3) := by decide +kernel
theorem dX7_ruleBy_26 : decode cX7_ruleBy 26 = .ok (.iload 4, 2) := by decide +kernel
theorem dX7_ruleBy_28 : decode cX7_ruleBy 28 = .ok (.bipush 99, 2) := by decide +kernel
theorem dX7_ruleBy_30 : decode cX7_ruleBy 30 = .ok (.iastore, 1) := by decide +kernel
theorem dX7_ruleBy_31 : decode cX7_ruleBy 31 = .ok (.iinc 4 1, 3) := by decide +kernel
theorem dX7_ruleBy_34 : decode cX7_ruleBy 34 = .ok (.goto (-27), 3) := by decide +kernel
theorem dX7_ruleBy_37 : decode cX7_ruleBy 37 = .ok (.iconst 0, 1) := by decide +kernel
theorem dX7_ruleBy_38 : decode cX7_ruleBy 38 = .ok (.istore 4, 2) := by decide +kernel
theorem dX7_ruleBy_40 : decode cX7_ruleBy 40 = .ok (.iload 4, 2) := by decide +kernel
theorem dX7_ruleBy_42 : decode cX7_ruleBy 42 = .ok (.iload_n 3, 1) := by decide +kernel
theorem dX7_ruleBy_43 : decode cX7_ruleBy 43 = .ok (.if_icmp .ge 58, 3) := by decide +kernel
theorem dX7_ruleBy_46 : decode cX7_ruleBy 46 = .ok (.aload_n 0, 1) := by decide +kernel
theorem dX7_ruleBy_47 : decode cX7_ruleBy 47 = .ok (.iload_n 1, 1) := by decide +kernel
theorem dX7_ruleBy_48 : decode cX7_ruleBy 48 = .ok (.iload 4, 2) := by decide +kernel
theorem dX7_ruleBy_50 : decode cX7_ruleBy 50 = .ok (.iload_n 2, 1) := by decide +kernel
theorem dX7_ruleBy_51 : decode cX7_ruleBy 51 = .ok (.invokevirtual 200, 3) := by decide +kernel
theorem dX7_ruleBy_54 : decode cX7_ruleBy 54 = .ok (.istore 5, 2) := by decide +kernel
theorem dX7_ruleBy_56 : decode cX7_ruleBy 56 = .ok (.aload_n 0, 1) := by decide +kernel
theorem dX7_ruleBy_57 : decode cX7_ruleBy 57 = .ok (.getfield 49, 3) := by decide +kernel
theorem dX7_ruleBy_60 : decode cX7_ruleBy 60 = .ok (.iload 4, 2) := by decide +kernel
theorem dX7_ruleBy_62 : decode cX7_ruleBy 62 = .ok (.iload 5, 2) := by decide +kernel
theorem dX7_ruleBy_64 : decode cX7_ruleBy 64 = .ok (.iastore, 1) := by decide +kernel
theorem dX7_ruleBy_65 : decode cX7_ruleBy 65 = .ok (.aload_n 0, 1) := by decide +kernel
theorem dX7_ruleBy_66 : decode cX7_ruleBy 66 = .ok (.getfield 34, 3) := by decide +kernel
theorem dX7_ruleBy_69 : decode cX7_ruleBy 69 = .ok (.iload 5, 2) := by decide +kernel
theorem dX7_ruleBy_71 : decode cX7_ruleBy 71 = .ok (.dup2, 1) := by decide +kernel
theorem dX7_ruleBy_72 : decode cX7_ruleBy 72 = .ok (.iaload, 1) := by decide +kernel
theorem dX7_ruleBy_73 : decode cX7_ruleBy 73 = .ok (.iconst 1, 1) := by decide +kernel
theorem dX7_ruleBy_74 : decode cX7_ruleBy 74 = .ok (.iadd, 1) := by decide +kernel
theorem dX7_ruleBy_75 : decode cX7_ruleBy 75 = .ok (.iastore, 1) := by decide +kernel
theorem dX7_ruleBy_76 : decode cX7_ruleBy 76 = .ok (.aload_n 0, 1) := by decide +kernel
theorem dX7_ruleBy_77 : decode cX7_ruleBy 77 = .ok (.getfield 46, 3) := by decide +kernel
theorem dX7_ruleBy_80 : decode cX7_ruleBy 80 = .ok (.iload 5, 2) := by decide +kernel
theorem dX7_ruleBy_82 : decode cX7_ruleBy 82 = .ok (.aload_n 0, 1) := by decide +kernel
theorem dX7_ruleBy_83 : decode cX7_ruleBy 83 = .ok (.getfield 43, 3) := by decide +kernel
theorem dX7_ruleBy_86 : decode cX7_ruleBy 86 = .ok (.aload_n 0, 1) := by decide +kernel
theorem dX7_ruleBy_87 : decode cX7_ruleBy 87 = .ok (.getfield 16, 3) := by decide +kernel
theorem dX7_ruleBy_90 : decode cX7_ruleBy 90 = .ok (.iload 4, 2) := by decide +kernel
theorem dX7_ruleBy_92 : decode cX7_ruleBy 92 = .ok (.iaload, 1) := by decide +kernel
theorem dX7_ruleBy_93 : decode cX7_ruleBy 93 = .ok (.iaload, 1) := by decide +kernel
theorem dX7_ruleBy_94 : decode cX7_ruleBy 94 = .ok (.iastore, 1) := by decide +kernel
theorem dX7_ruleBy_95 : decode cX7_ruleBy 95 = .ok (.iinc 4 1, 3) := by decide +kernel
theorem dX7_ruleBy_98 : decode cX7_ruleBy 98 = .ok (.goto (-58), 3) := by decide +kernel
theorem dX7_ruleBy_101 : decode cX7_ruleBy 101 = .ok (.aload_n 0, 1) := by decide +kernel
theorem dX7_ruleBy_102 : decode cX7_ruleBy 102 = .ok (.iload_n 3, 1) := by decide +kernel
theorem dX7_ruleBy_103 : decode cX7_ruleBy 103 = .ok (.invokevirtual 194, 3) := by decide +kernel
theorem dX7_ruleBy_106 : decode cX7_ruleBy 106 = .ok (.ireturn, 1) := by decide +kernel
theorem dX7_ruleOf_0 : decode cX7_ruleOf 0 = .ok (.aload_n 0, 1) := by decide +kernel
theorem dX7_ruleOf_1 : decode cX7_ruleOf 1 = .ok (.invokevirtual 140, 3) := by decide +kernel
theorem dX7_ruleOf_4 : decode cX7_ruleOf 4 = .ok (.aload_n 0, 1) := by decide +kernel
theorem dX7_ruleOf_5 : decode cX7_ruleOf 5 = .ok (.iload_n 1, 1) := by decide +kernel
theorem dX7_ruleOf_6 : decode cX7_ruleOf 6 = .ok (.iload_n 2, 1) := by decide +kernel
theorem dX7_ruleOf_7 : decode cX7_ruleOf 7 = .ok (.aload_n 0, 1) := by decide +kernel
theorem dX7_ruleOf_8 : decode cX7_ruleOf 8 = .ok (.getfield 118, 3) := by decide +kernel
theorem dX7_ruleOf_11 : decode cX7_ruleOf 11 = .ok (.invokevirtual 203, 3) := by decide +kernel
theorem dX7_ruleOf_14 : decode cX7_ruleOf 14 = .ok (.ireturn, 1) := by decide +kernel
theorem dX7_rule_0 : decode cX7_rule 0 = .ok (.iload_n 1, 1) := by decide +kernel
theorem dX7_rule_1 : decode cX7_rule 1 = .ok (.iconst 0, 1) := by decide +kernel
theorem dX7_rule_2 : decode cX7_rule 2 = .ok (.iconst 3, 1) := by decide +kernel
theorem dX7_rule_3 : decode cX7_rule 3 = .ok (.invokestatic 99, 3) := by decide +kernel
theorem dX7_rule_6 : decode cX7_rule 6 = .ok (.ifCond .eq 22, 3) := by decide +kernel
theorem dX7_rule_9 : decode cX7_rule 9 = .ok (.iload_n 2, 1) := by decide +kernel
theorem dX7_rule_10 : decode cX7_rule 10 = .ok (.iconst 1, 1) := by decide +kernel
theorem dX7_rule_11 : decode cX7_rule 11 = .ok (.bipush 9, 2) := by decide +kernel
theorem dX7_rule_13 : decode cX7_rule 13 = .ok (.invokestatic 99, 3) := by decide +kernel
theorem dX7_rule_16 : decode cX7_rule 16 = .ok (.ifCond .eq 12, 3) := by decide +kernel
theorem dX7_rule_19 : decode cX7_rule 19 = .ok (.aload_n 0, 1) := by decide +kernel
theorem dX7_rule_20 : decode cX7_rule 20 = .ok (.iload_n 1, 1) := by decide +kernel
theorem dX7_rule_21 : decode cX7_rule 21 = .ok (.iload_n 2, 1) := by decide +kernel
theorem dX7_rule_22 : decode cX7_rule 22 = .ok (.invokevirtual 206, 3) := by decide +kernel
theorem dX7_rule_25 : decode cX7_rule 25 = .ok (.goto 5, 3) := by decide +kernel
theorem dX7_rule_28 : decode cX7_rule 28 = .ok (.bipush (-2), 2) := by decide +kernel
theorem dX7_rule_30 : decode cX7_rule 30 = .ok (.ireturn, 1) := by decide +kernel
theorem dX7_bestOf_0 : decode cX7_bestOf 0 = .ok (.iconst 0, 1) := by decide +kernel
theorem dX7_bestOf_1 : decode cX7_bestOf 1 = .ok (.istore_n 2, 1) := by decide +kernel
theorem dX7_bestOf_2 : decode cX7_bestOf 2 = .ok (.aload_n 0, 1) := by decide +kernel
theorem dX7_bestOf_3 : decode cX7_bestOf 3 = .ok (.iconst 0, 1) := by decide +kernel
theorem dX7_bestOf_4 : decode cX7_bestOf 4 = .ok (.iload_n 1, 1) := by decide +kernel
theorem dX7_bestOf_5 : decode cX7_bestOf 5 = .ok (.invokevirtual 206, 3) := by decide +kernel
theorem dX7_bestOf_8 : decode cX7_bestOf 8 = .ok (.istore_n 3, 1) := by decide +kernel
theorem dX7_bestOf_9 : decode cX7_bestOf 9 = .ok (.iconst 1, 1) := by decide +kernel
theorem dX7_bestOf_10 : decode cX7_bestOf 10 = .ok (.istore 4, 2) := by decide +kernel
theorem dX7_bestOf_12 : decode cX7_bestOf 12 = .ok (.iload 4, 2) := by decide +kernel
theorem dX7_bestOf_14 : decode cX7_bestOf 14 = .ok (.iconst 4, 1) := by decide +kernel
theorem dX7_bestOf_15 : decode cX7_bestOf 15 = .ok (.if_icmp .ge 44, 3) := by decide +kernel
theorem dX7_bestOf_18 : decode cX7_bestOf 18 = .ok (.aload_n 0, 1) := by decide +kernel
theorem dX7_bestOf_19 : decode cX7_bestOf 19 = .ok (.iload 4, 2) := by decide +kernel
theorem dX7_bestOf_21 : decode cX7_bestOf 21 = .ok (.iload_n 1, 1) := by decide +kernel
theorem dX7_bestOf_22 : decode cX7_bestOf 22 = .ok (.invokevirtual 206, 3) := by decide +kernel
theorem dX7_bestOf_25 : decode cX7_bestOf 25 = .ok (.istore 5, 2) := by decide +kernel
theorem dX7_bestOf_27 : decode cX7_bestOf 27 = .ok (.iload 5, 2) := by decide +kernel
theorem dX7_bestOf_29 : decode cX7_bestOf 29 = .ok (.iload_n 3, 1) := by decide +kernel
theorem dX7_bestOf_30 : decode cX7_bestOf 30 = .ok (.if_icmp .ge 8, 3) := by decide +kernel
theorem dX7_bestOf_33 : decode cX7_bestOf 33 = .ok (.iload 4, 2) := by decide +kernel
theorem dX7_bestOf_35 : decode cX7_bestOf 35 = .ok (.goto 4, 3) := by decide +kernel
theorem dX7_bestOf_38 : decode cX7_bestOf 38 = .ok (.iload_n 2, 1) := by decide +kernel
theorem dX7_bestOf_39 : decode cX7_bestOf 39 = .ok (.istore_n 2, 1) := by decide +kernel
theorem dX7_bestOf_40 : decode cX7_bestOf 40 = .ok (.iload 5, 2) := by decide +kernel
theorem dX7_bestOf_42 : decode cX7_bestOf 42 = .ok (.iload_n 3, 1) := by decide +kernel
theorem dX7_bestOf_43 : decode cX7_bestOf 43 = .ok (.if_icmp .ge 8, 3) := by decide +kernel
theorem dX7_bestOf_46 : decode cX7_bestOf 46 = .ok (.iload 5, 2) := by decide +kernel
theorem dX7_bestOf_48 : decode cX7_bestOf 48 = .ok (.goto 4, 3) := by decide +kernel
theorem dX7_bestOf_51 : decode cX7_bestOf 51 = .ok (.iload_n 3, 1) := by decide +kernel
theorem dX7_bestOf_52 : decode cX7_bestOf 52 = .ok (.istore_n 3, 1) := by decide +kernel
theorem dX7_bestOf_53 : decode cX7_bestOf 53 = .ok (.iinc 4 1, 3) := by decide +kernel
theorem dX7_bestOf_56 : decode cX7_bestOf 56 = .ok (.goto (-44), 3) := by decide +kernel
theorem dX7_bestOf_59 : decode cX7_bestOf 59 = .ok (.iload_n 2, 1) := by decide +kernel
theorem dX7_bestOf_60 : decode cX7_bestOf 60 = .ok (.ireturn, 1) := by decide +kernel
theorem dX7_best_0 : decode cX7_best 0 = .ok (.iload_n 1, 1) := by decide +kernel
theorem dX7_best_1 : decode cX7_best 1 = .ok (.iconst 1, 1) := by decide +kernel
theorem dX7_best_2 : decode cX7_best 2 = .ok (.bipush 9, 2) := by decide +kernel
theorem dX7_best_4 : decode cX7_best 4 = .ok (.invokestatic 99, 3) := by decide +kernel
theorem dX7_best_7 : decode cX7_best 7 = .ok (.ifCond .eq 11, 3) := by decide +kernel
theorem dX7_best_10 : decode cX7_best 10 = .ok (.aload_n 0, 1) := by decide +kernel
theorem dX7_best_11 : decode cX7_best 11 = .ok (.iload_n 1, 1) := by decide +kernel
theorem dX7_best_12 : decode cX7_best 12 = .ok (.invokevirtual 209, 3) := by decide +kernel
theorem dX7_best_15 : decode cX7_best 15 = .ok (.goto 5, 3) := by decide +kernel
theorem dX7_best_18 : decode cX7_best 18 = .ok (.bipush (-2), 2) := by decide +kernel
theorem dX7_best_20 : decode cX7_best 20 = .ok (.ireturn, 1) := by decide +kernel
theorem dX7_gapOf_0 : decode cX7_gapOf 0 = .ok (.aload_n 0, 1) := by decide +kernel
theorem dX7_gapOf_1 : decode cX7_gapOf 1 = .ok (.iload_n 1, 1) := by decide +kernel
theorem dX7_gapOf_2 : decode cX7_gapOf 2 = .ok (.iconst (-1), 1) := by decide +kernel
theorem dX7_gapOf_3 : decode cX7_gapOf 3 = .ok (.invokevirtual 197, 3) := by decide +kernel
theorem dX7_gapOf_6 : decode cX7_gapOf 6 = .ok (.istore_n 2, 1) := by decide +kernel
theorem dX7_gapOf_7 : decode cX7_gapOf 7 = .ok (.aload_n 0, 1) := by decide +kernel
theorem dX7_gapOf_8 : decode cX7_gapOf 8 = .ok (.iconst 0, 1) := by decide +kernel
theorem dX7_gapOf_9 : decode cX7_gapOf 9 = .ok (.iload_n 1, 1) := by decide +kernel
theorem dX7_gapOf_10 : decode cX7_gapOf 10 = .ok (.aload_n 0, 1) := by decide +kernel
theorem dX7_gapOf_11 : decode cX7_gapOf 11 = .ok (.invokevirtual 191, 3) := by decide +kernel
theorem dX7_gapOf_14 : decode cX7_gapOf 14 = .ok (.invokevirtual 203, 3) := by decide +kernel
theorem dX7_gapOf_17 : decode cX7_gapOf 17 = .ok (.istore_n 3, 1) := by decide +kernel
theorem dX7_gapOf_18 : decode cX7_gapOf 18 = .ok (.iconst 1, 1) := by decide +kernel
theorem dX7_gapOf_19 : decode cX7_gapOf 19 = .ok (.istore 4, 2) := by decide +kernel
theorem dX7_gapOf_21 : decode cX7_gapOf 21 = .ok (.iload 4, 2) := by decide +kernel
theorem dX7_gapOf_23 : decode cX7_gapOf 23 = .ok (.iconst 4, 1) := by decide +kernel
theorem dX7_gapOf_24 : decode cX7_gapOf 24 = .ok (.if_icmp .ge 35, 3) := by decide +kernel
theorem dX7_gapOf_27 : decode cX7_gapOf 27 = .ok (.aload_n 0, 1) := by decide +kernel
theorem dX7_gapOf_28 : decode cX7_gapOf 28 = .ok (.iload 4, 2) := by decide +kernel
theorem dX7_gapOf_30 : decode cX7_gapOf 30 = .ok (.iload_n 1, 1) := by decide +kernel
theorem dX7_gapOf_31 : decode cX7_gapOf 31 = .ok (.aload_n 0, 1) := by decide +kernel
theorem dX7_gapOf_32 : decode cX7_gapOf 32 = .ok (.invokevirtual 191, 3) := by decide +kernel
theorem dX7_gapOf_35 : decode cX7_gapOf 35 = .ok (.invokevirtual 203, 3) := by decide +kernel
theorem dX7_gapOf_38 : decode cX7_gapOf 38 = .ok (.istore 5, 2) := by decide +kernel
theorem dX7_gapOf_40 : decode cX7_gapOf 40 = .ok (.iload 5, 2) := by decide +kernel
theorem dX7_gapOf_42 : decode cX7_gapOf 42 = .ok (.iload_n 3, 1) := by decide +kernel
theorem dX7_gapOf_43 : decode cX7_gapOf 43 = .ok (.if_icmp .ge 8, 3) := by decide +kernel
theorem dX7_gapOf_46 : decode cX7_gapOf 46 = .ok (.iload 5, 2) := by decide +kernel
theorem dX7_gapOf_48 : decode cX7_gapOf 48 = .ok (.goto 4, 3) := by decide +kernel
theorem dX7_gapOf_51 : decode cX7_gapOf 51 = .ok (.iload_n 3, 1) := by decide +kernel
theorem dX7_gapOf_52 : decode cX7_gapOf 52 = .ok (.istore_n 3, 1) := by decide +kernel
theorem dX7_gapOf_53 : decode cX7_gapOf 53 = .ok (.iinc 4 1, 3) := by decide +kernel
theorem dX7_gapOf_56 : decode cX7_gapOf 56 = .ok (.goto (-35), 3) := by decide +kernel
theorem dX7_gapOf_59 : decode cX7_gapOf 59 = .ok (.iload_n 3, 1) := by decide +kernel
theorem dX7_gapOf_60 : decode cX7_gapOf 60 = .ok (.iload_n 2, 1) := by decide +kernel
theorem dX7_gapOf_61 : decode cX7_gapOf 61 = .ok (.isub, 1) := by decide +kernel
theorem dX7_gapOf_62 : decode cX7_gapOf 62 = .ok (.ireturn, 1) := by decide +kernel
theorem dX7_gap_0 : decode cX7_gap 0 = .ok (.iload_n 1, 1) := by decide +kernel
theorem dX7_gap_1 : decode cX7_gap 1 = .ok (.iconst 1, 1) := by decide +kernel
theorem dX7_gap_2 : decode cX7_gap 2 = .ok (.iconst 3, 1) := by decide +kernel
theorem dX7_gap_3 : decode cX7_gap 3 = .ok (.invokestatic 99, 3) := by decide +kernel
theorem dX7_gap_6 : decode cX7_gap 6 = .ok (.ifCond .eq 11, 3) := by decide +kernel
theorem dX7_gap_9 : decode cX7_gap 9 = .ok (.aload_n 0, 1) := by decide +kernel
theorem dX7_gap_10 : decode cX7_gap 10 = .ok (.iload_n 1, 1) := by decide +kernel
theorem dX7_gap_11 : decode cX7_gap 11 = .ok (.invokevirtual 212, 3) := by decide +kernel
theorem dX7_gap_14 : decode cX7_gap 14 = .ok (.goto 5, 3) := by decide +kernel
theorem dX7_gap_17 : decode cX7_gap 17 = .ok (.bipush (-2), 2) := by decide +kernel
theorem dX7_gap_19 : decode cX7_gap 19 = .ok (.ireturn, 1) := by decide +kernel
theorem dX7_meanOf_0 : decode cX7_meanOf 0 = .ok (.aload_n 0, 1) := by decide +kernel
theorem dX7_meanOf_1 : decode cX7_meanOf 1 = .ok (.iconst 0, 1) := by decide +kernel
theorem dX7_meanOf_2 : decode cX7_meanOf 2 = .ok (.invokevirtual 169, 3) := by decide +kernel
theorem dX7_meanOf_5 : decode cX7_meanOf 5 = .ok (.i2l, 1) := by decide +kernel
theorem dX7_meanOf_6 : decode cX7_meanOf 6 = .ok (.lstore_n 3, 1) := by decide +kernel
theorem dX7_meanOf_7 : decode cX7_meanOf 7 = .ok (.aload_n 0, 1) := by decide +kernel
theorem dX7_meanOf_8 : decode cX7_meanOf 8 = .ok (.iconst 1, 1) := by decide +kernel
theorem dX7_meanOf_9 : decode cX7_meanOf 9 = .ok (.invokevirtual 169, 3) := by decide +kernel
theorem dX7_meanOf_12 : decode cX7_meanOf 12 = .ok (.i2l, 1) := by decide +kernel
theorem dX7_meanOf_13 : decode cX7_meanOf 13 = .ok (.lstore 5, 2) := by decide +kernel
theorem dX7_meanOf_15 : decode cX7_meanOf 15 = .ok (.iload_n 1, 1) := by decide +kernel
theorem dX7_meanOf_16 : decode cX7_meanOf 16 = .ok (.i2l, 1) := by decide +kernel
theorem dX7_meanOf_17 : decode cX7_meanOf 17 = .ok (.lload_n 3, 1) := by decide +kernel
theorem dX7_meanOf_18 : decode cX7_meanOf 18 = .ok (.lmul, 1) := by decide +kernel
theorem dX7_meanOf_19 : decode cX7_meanOf 19 = .ok (.bipush 16, 2) := by decide +kernel
theorem dX7_meanOf_21 : decode cX7_meanOf 21 = .ok (.iload_n 1, 1) := by decide +kernel
theorem dX7_meanOf_22 : decode cX7_meanOf 22 = .ok (.isub, 1) := by decide +kernel
theorem dX7_meanOf_23 : decode cX7_meanOf 23 = .ok (.i2l, 1) := by decide +kernel
theorem dX7_meanOf_24 : decode cX7_meanOf 24 = .ok (.lload 5, 2) := by decide +kernel
theorem dX7_meanOf_26 : decode cX7_meanOf 26 = .ok (.lmul, 1) := by decide +kernel
theorem dX7_meanOf_27 : decode cX7_meanOf 27 = .ok (.ladd, 1) := by decide +kernel
theorem dX7_meanOf_28 : decode cX7_meanOf 28 = .ok (.ldc2_w 215, 3) := by decide +kernel
theorem dX7_meanOf_31 : decode cX7_meanOf 31 = .ok (.iload_n 2, 1) := by decide +kernel
theorem dX7_meanOf_32 : decode cX7_meanOf 32 = .ok (.invokestatic 217, 3) := by decide +kernel
theorem dX7_meanOf_35 : decode cX7_meanOf 35 = .ok (.lreturn, 1) := by decide +kernel
theorem dX7_mean_0 : decode cX7_mean 0 = .ok (.iload_n 1, 1) := by decide +kernel
theorem dX7_mean_1 : decode cX7_mean 1 = .ok (.iconst 0, 1) := by decide +kernel
theorem dX7_mean_2 : decode cX7_mean 2 = .ok (.bipush 16, 2) := by decide +kernel
theorem dX7_mean_4 : decode cX7_mean 4 = .ok (.invokestatic 99, 3) := by decide +kernel
theorem dX7_mean_7 : decode cX7_mean 7 = .ok (.ifCond .eq 21, 3) := by decide +kernel
theorem dX7_mean_10 : decode cX7_mean 10 = .ok (.iload_n 2, 1) := by decide +kernel
theorem dX7_mean_11 : decode cX7_mean 11 = .ok (.iconst 0, 1) := by decide +kernel
theorem dX7_mean_12 : decode cX7_mean 12 = .ok (.iconst 1, 1) := by decide +kernel
theorem dX7_mean_13 : decode cX7_mean 13 = .ok (.invokestatic 99, 3) := by decide +kernel
theorem dX7_mean_16 : decode cX7_mean 16 = .ok (.ifCond .eq 12, 3) := by decide +kernel
theorem dX7_mean_19 : decode cX7_mean 19 = .ok (.aload_n 0, 1) := by decide +kernel
theorem dX7_mean_20 : decode cX7_mean 20 = .ok (.iload_n 1, 1) := by decide +kernel
theorem dX7_mean_21 : decode cX7_mean 21 = .ok (.iload_n 2, 1) := by decide +kernel
theorem dX7_mean_22 : decode cX7_mean 22 = .ok (.invokevirtual 221, 3) := by decide +kernel
theorem dX7_mean_25 : decode cX7_mean 25 = .ok (.goto 8, 3) := by decide +kernel
theorem dX7_mean_28 : decode cX7_mean 28 = .ok (.bipush (-2), 2) := by decide +kernel
theorem dX7_mean_30 : decode cX7_mean 30 = .ok (.invokestatic 225, 3) := by decide +kernel
theorem dX7_mean_33 : decode cX7_mean 33 = .ok (.lreturn, 1) := by decide +kernel
theorem dX7_heapOf_0 : decode cX7_heapOf 0 = .ok (.aload_n 0, 1) := by decide +kernel
theorem dX7_heapOf_1 : decode cX7_heapOf 1 = .ok (.getfield 143, 3) := by decide +kernel
theorem dX7_heapOf_4 : decode cX7_heapOf 4 = .ok (.invokestatic 229, 3) := by decide +kernel
theorem dX7_heapOf_7 : decode cX7_heapOf 7 = .ok (.istore_n 3, 1) := by decide +kernel
theorem dX7_heapOf_8 : decode cX7_heapOf 8 = .ok (.lconst 0, 1) := by decide +kernel
theorem dX7_heapOf_9 : decode cX7_heapOf 9 = .ok (.lstore 4, 2) := by decide +kernel
theorem dX7_heapOf_11 : decode cX7_heapOf 11 = .ok (.iconst 0, 1) := by decide +kernel
theorem dX7_heapOf_12 : decode cX7_heapOf 12 = .ok (.istore 6, 2) := by decide +kernel
theorem dX7_heapOf_14 : decode cX7_heapOf 14 = .ok (.iload 6, 2) := by decide +kernel
theorem dX7_heapOf_16 : decode cX7_heapOf 16 = .ok (.aload_n 0, 1) := by decide +kernel
theorem dX7_heapOf_17 : decode cX7_heapOf 17 = .ok (.getfield 156, 3) := by decide +kernel
theorem dX7_heapOf_20 : decode cX7_heapOf 20 = .ok (.if_icmp .ge 42, 3) := by decide +kernel
theorem dX7_heapOf_23 : decode cX7_heapOf 23 = .ok (.lload 4, 2) := by decide +kernel
theorem dX7_heapOf_25 : decode cX7_heapOf 25 = .ok (.iload_n 1, 1) := by decide +kernel
theorem dX7_heapOf_26 : decode cX7_heapOf 26 = .ok (.iconst (-1), 1) := by decide +kernel
theorem dX7_heapOf_27 : decode cX7_heapOf 27 = .ok (.if_icmp .eq 9, 3) := by decide +kernel
theorem dX7_heapOf_30 : decode cX7_heapOf 30 = .ok (.iload_n 1, 1) := by decide +kernel
theorem dX7_heapOf_31 : decode cX7_heapOf 31 = .ok (.iload 6, 2) := by decide +kernel
theorem dX7_heapOf_33 : decode cX7_heapOf 33 = .ok (.if_icmp .ne 19, 3) := by decide +kernel
theorem dX7_heapOf_36 : decode cX7_heapOf 36 = .ok (.ldc2_w 232, 3) := by decide +kernel
theorem dX7_heapOf_39 : decode cX7_heapOf 39 = .ok (.iconst 2, 1) := by decide +kernel
theorem dX7_heapOf_40 : decode cX7_heapOf 40 = .ok (.iload_n 3, 1) := by decide +kernel
theorem dX7_heapOf_41 : decode cX7_heapOf 41 = .ok (.iload 6, 2) := by decide +kernel
theorem dX7_heapOf_43 : decode cX7_heapOf 43 = .ok (.isub, 1) := by decide +kernel
theorem dX7_heapOf_44 : decode cX7_heapOf 44 = .ok (.imul, 1) := by decide +kernel
theorem dX7_heapOf_45 : decode cX7_heapOf 45 = .ok (.iconst 1, 1) := by decide +kernel
theorem dX7_heapOf_46 : decode cX7_heapOf 46 = .ok (.iadd, 1) := by decide +kernel
theorem dX7_heapOf_47 : decode cX7_heapOf 47 = .ok (.i2l, 1) := by decide +kernel
theorem dX7_heapOf_48 : decode cX7_heapOf 48 = .ok (.lmul, 1) := by decide +kernel
theorem dX7_heapOf_49 : decode cX7_heapOf 49 = .ok (.goto 4, 3) := by decide +kernel
theorem dX7_heapOf_52 : decode cX7_heapOf 52 = .ok (.lconst 0, 1) := by decide +kernel
theorem dX7_heapOf_53 : decode cX7_heapOf 53 = .ok (.ladd, 1) := by decide +kernel
theorem dX7_heapOf_54 : decode cX7_heapOf 54 = .ok (.lstore 4, 2) := by decide +kernel
theorem dX7_heapOf_56 : decode cX7_heapOf 56 = .ok (.iinc 6 1, 3) := by decide +kernel
theorem dX7_heapOf_59 : decode cX7_heapOf 59 = .ok (.goto (-45), 3) := by decide +kernel
theorem dX7_heapOf_62 : decode cX7_heapOf 62 = .ok (.lload 4, 2) := by decide +kernel
theorem dX7_heapOf_64 : decode cX7_heapOf 64 = .ok (.ldc2_w 234, 3) := by decide +kernel
theorem dX7_heapOf_67 : decode cX7_heapOf 67 = .ok (.iload_n 2, 1) := by decide +kernel
theorem dX7_heapOf_68 : decode cX7_heapOf 68 = .ok (.invokestatic 217, 3) := by decide +kernel
theorem dX7_heapOf_71 : decode cX7_heapOf 71 = .ok (.lreturn, 1) := by decide +kernel
theorem dX7_heap_0 : decode cX7_heap 0 = .ok (.aload_n 0, 1) := by decide +kernel
theorem dX7_heap_1 : decode cX7_heap 1 = .ok (.iconst 0, 1) := by decide +kernel
theorem dX7_heap_2 : decode cX7_heap 2 = .ok (.invokevirtual 169, 3) := by decide +kernel
theorem dX7_heap_5 : decode cX7_heap 5 = .ok (.istore_n 3, 1) := by decide +kernel
theorem dX7_heap_6 : decode cX7_heap 6 = .ok (.iload_n 1, 1) := by decide +kernel
theorem dX7_heap_7 : decode cX7_heap 7 = .ok (.iconst (-1), 1) := by decide +kernel
theorem dX7_heap_8 : decode cX7_heap 8 = .ok (.aload_n 0, 1) := by decide +kernel
theorem dX7_heap_9 : decode cX7_heap 9 = .ok (.getfield 156, 3) := by decide +kernel
theorem dX7_heap_12 : decode cX7_heap 12 = .ok (.iconst 1, 1) := by decide +kernel
theorem dX7_heap_13 : decode cX7_heap 13 = .ok (.isub, 1) := by decide +kernel
theorem dX7_heap_14 : decode cX7_heap 14 = .ok (.invokestatic 99, 3) := by decide +kernel
theorem dX7_heap_17 : decode cX7_heap 17 = .ok (.ifCond .eq 21, 3) := by decide +kernel
theorem dX7_heap_20 : decode cX7_heap 20 = .ok (.iload_n 2, 1) := by decide +kernel
theorem dX7_heap_21 : decode cX7_heap 21 = .ok (.iconst 0, 1) := by decide +kernel
theorem dX7_heap_22 : decode cX7_heap 22 = .ok (.iconst 1, 1) := by decide +kernel
theorem dX7_heap_23 : decode cX7_heap 23 = .ok (.invokestatic 99, 3) := by decide +kernel
theorem dX7_heap_26 : decode cX7_heap 26 = .ok (.ifCond .eq 12, 3) := by decide +kernel
theorem dX7_heap_29 : decode cX7_heap 29 = .ok (.aload_n 0, 1) := by decide +kernel
theorem dX7_heap_30 : decode cX7_heap 30 = .ok (.iload_n 1, 1) := by decide +kernel
theorem dX7_heap_31 : decode cX7_heap 31 = .ok (.iload_n 2, 1) := by decide +kernel
theorem dX7_heap_32 : decode cX7_heap 32 = .ok (.invokevirtual 236, 3) := by decide +kernel
theorem dX7_heap_35 : decode cX7_heap 35 = .ok (.goto 8, 3) := by decide +kernel
theorem dX7_heap_38 : decode cX7_heap 38 = .ok (.bipush (-2), 2) := by decide +kernel
theorem dX7_heap_40 : decode cX7_heap 40 = .ok (.invokestatic 225, 3) := by decide +kernel
theorem dX7_heap_43 : decode cX7_heap 43 = .ok (.lreturn, 1) := by decide +kernel
theorem dX7_within_0 : decode cX7_within 0 = .ok (.iconst 0, 1) := by decide +kernel
theorem dX7_within_1 : decode cX7_within 1 = .ok (.istore_n 3, 1) := by decide +kernel
theorem dX7_within_2 : decode cX7_within 2 = .ok (.iconst 0, 1) := by decide +kernel
theorem dX7_within_3 : decode cX7_within 3 = .ok (.istore 4, 2) := by decide +kernel
theorem dX7_within_5 : decode cX7_within 5 = .ok (.iload 4, 2) := by decide +kernel
theorem dX7_within_7 : decode cX7_within 7 = .ok (.iload_n 1, 1) := by decide +kernel
theorem dX7_within_8 : decode cX7_within 8 = .ok (.if_icmp .ge 28, 3) := by decide +kernel
theorem dX7_within_11 : decode cX7_within 11 = .ok (.iload_n 3, 1) := by decide +kernel
theorem dX7_within_12 : decode cX7_within 12 = .ok (.aload_n 0, 1) := by decide +kernel
theorem dX7_within_13 : decode cX7_within 13 = .ok (.getfield 55, 3) := by decide +kernel
theorem dX7_within_16 : decode cX7_within 16 = .ok (.iload 4, 2) := by decide +kernel
theorem dX7_within_18 : decode cX7_within 18 = .ok (.iaload, 1) := by decide +kernel
theorem dX7_within_19 : decode cX7_within 19 = .ok (.iload_n 2, 1) := by decide +kernel
theorem dX7_within_20 : decode cX7_within 20 = .ok (.if_icmp .le 7, 3) := by decide +kernel
theorem dX7_within_23 : decode cX7_within 23 = .ok (.iconst 1, 1) := by decide +kernel
theorem dX7_within_24 : decode cX7_within 24 = .ok (.goto 4, 3) := by decide +kernel
theorem dX7_within_27 : decode cX7_within 27 = .ok (.iconst 0, 1) := by decide +kernel
theorem dX7_within_28 : decode cX7_within 28 = .ok (.iadd, 1) := by decide +kernel
theorem dX7_within_29 : decode cX7_within 29 = .ok (.istore_n 3, 1) := by decide +kernel
theorem dX7_within_30 : decode cX7_within 30 = .ok (.iinc 4 1, 3) := by decide +kernel
theorem dX7_within_33 : decode cX7_within 33 = .ok (.goto (-28), 3) := by decide +kernel
theorem dX7_within_36 : decode cX7_within 36 = .ok (.iload_n 3, 1) := by decide +kernel
theorem dX7_within_37 : decode cX7_within 37 = .ok (.ireturn, 1) := by decide +kernel
theorem dX7_outOf_0 : decode cX7_outOf 0 = .ok (.aload_n 0, 1) := by decide +kernel
theorem dX7_outOf_1 : decode cX7_outOf 1 = .ok (.iconst 0, 1) := by decide +kernel
theorem dX7_outOf_2 : decode cX7_outOf 2 = .ok (.invokevirtual 169, 3) := by decide +kernel
theorem dX7_outOf_5 : decode cX7_outOf 5 = .ok (.istore_n 2, 1) := by decide +kernel
theorem dX7_outOf_6 : decode cX7_outOf 6 = .ok (.iconst 0, 1) := by decide +kernel
theorem dX7_outOf_7 : decode cX7_outOf 7 = .ok (.istore_n 3, 1) := by decide +kernel
theorem dX7_outOf_8 : decode cX7_outOf 8 = .ok (.iconst 0, 1) := by decide +kernel
theorem dX7_outOf_9 : decode cX7_outOf 9 = .ok (.istore 4, 2) := by decide +kernel
theorem dX7_outOf_11 : decode cX7_outOf 11 = .ok (.iconst 0, 1) := by decide +kernel
theorem dX7_outOf_12 : decode cX7_outOf 12 = .ok (.istore 5, 2) := by decide +kernel
theorem dX7_outOf_14 : decode cX7_outOf 14 = .ok (.iload 5, 2) := by decide +kernel
theorem dX7_outOf_16 : decode cX7_outOf 16 = .ok (.aload_n 0, 1) := by decide +kernel
theorem dX7_outOf_17 : decode cX7_outOf 17 = .ok (.getfield 156, 3) := by decide +kernel
theorem dX7_outOf_20 : decode cX7_outOf 20 = .ok (.if_icmp .ge 114, 3) := by decide +kernel
theorem dX7_outOf_23 : decode cX7_outOf 23 = .ok (.aload_n 0, 1) := by decide +kernel
theorem dX7_outOf_24 : decode cX7_outOf 24 = .ok (.getfield 31, 3) := by decide +kernel
theorem dX7_outOf_27 : decode cX7_outOf 27 = .ok (.aload_n 0, 1) := by decide +kernel
theorem dX7_outOf_28 : decode cX7_outOf 28 = .ok (.getfield 37, 3) := by decide +kernel
theorem dX7_outOf_31 : decode cX7_outOf 31 = .ok (.iload 5, 2) := by decide +kernel
theorem dX7_outOf_33 : decode cX7_outOf 33 = .ok (.iaload, 1) := by decide +kernel
theorem dX7_outOf_34 : decode cX7_outOf 34 = .ok (.iaload, 1) := by decide +kernel
theorem dX7_outOf_35 : decode cX7_outOf 35 = .ok (.iload_n 3, 1) := by decide +kernel
theorem dX7_outOf_36 : decode cX7_outOf 36 = .ok (.if_icmp .le 18, 3) := by decide +kernel
theorem dX7_outOf_39 : decode cX7_outOf 39 = .ok (.aload_n 0, 1) := by decide +kernel
theorem dX7_outOf_40 : decode cX7_outOf 40 = .ok (.getfield 31, 3) := by decide +kernel
theorem dX7_outOf_43 : decode cX7_outOf 43 = .ok (.aload_n 0, 1) := by decide +kernel
theorem dX7_outOf_44 : decode cX7_outOf 44 = .ok (.getfield 37, 3) := by decide +kernel
theorem dX7_outOf_47 : decode cX7_outOf 47 = .ok (.iload 5, 2) := by decide +kernel
theorem dX7_outOf_49 : decode cX7_outOf 49 = .ok (.iaload, 1) := by decide +kernel
theorem dX7_outOf_50 : decode cX7_outOf 50 = .ok (.iaload, 1) := by decide +kernel
theorem dX7_outOf_51 : decode cX7_outOf 51 = .ok (.goto 4, 3) := by decide +kernel
theorem dX7_outOf_54 : decode cX7_outOf 54 = .ok (.iload_n 3, 1) := by decide +kernel
theorem dX7_outOf_55 : decode cX7_outOf 55 = .ok (.istore_n 3, 1) := by decide +kernel
theorem dX7_outOf_56 : decode cX7_outOf 56 = .ok (.aload_n 0, 1) := by decide +kernel
theorem dX7_outOf_57 : decode cX7_outOf 57 = .ok (.iload 5, 2) := by decide +kernel
theorem dX7_outOf_59 : decode cX7_outOf 59 = .ok (.iload_n 3, 1) := by decide +kernel
theorem dX7_outOf_60 : decode cX7_outOf 60 = .ok (.invokevirtual 239, 3) := by decide +kernel
theorem dX7_outOf_63 : decode cX7_outOf 63 = .ok (.aload_n 0, 1) := by decide +kernel
theorem dX7_outOf_64 : decode cX7_outOf 64 = .ok (.getfield 88, 3) := by decide +kernel
theorem dX7_outOf_67 : decode cX7_outOf 67 = .ok (.if_icmp .lt 9, 3) := by decide +kernel
theorem dX7_outOf_70 : decode cX7_outOf 70 = .ok (.iinc 3 1, 3) := by decide +kernel
theorem dX7_outOf_73 : decode cX7_outOf 73 = .ok (.goto (-17), 3) := by decide +kernel
theorem dX7_outOf_76 : decode cX7_outOf 76 = .ok (.aload_n 0, 1) := by decide +kernel
theorem dX7_outOf_77 : decode cX7_outOf 77 = .ok (.getfield 55, 3) := by decide +kernel
theorem dX7_outOf_80 : decode cX7_outOf 80 = .ok (.iload 5, 2) := by decide +kernel
theorem dX7_outOf_82 : decode cX7_outOf 82 = .ok (.iload_n 3, 1) := by decide +kernel
theorem dX7_outOf_83 : decode cX7_outOf 83 = .ok (.aload_n 0, 1) := by decide +kernel
theorem dX7_outOf_84 : decode cX7_outOf 84 = .ok (.getfield 91, 3) := by decide +kernel
theorem dX7_outOf_87 : decode cX7_outOf 87 = .ok (.iadd, 1) := by decide +kernel
theorem dX7_outOf_88 : decode cX7_outOf 88 = .ok (.aload_n 0, 1) := by decide +kernel
theorem dX7_outOf_89 : decode cX7_outOf 89 = .ok (.getfield 94, 3) := by decide +kernel
theorem dX7_outOf_92 : decode cX7_outOf 92 = .ok (.aload_n 0, 1) := by decide +kernel
theorem dX7_outOf_93 : decode cX7_outOf 93 = .ok (.getfield 40, 3) := by decide +kernel
theorem dX7_outOf_96 : decode cX7_outOf 96 = .ok (.iload 5, 2) := by decide +kernel
theorem dX7_outOf_98 : decode cX7_outOf 98 = .ok (.iaload, 1) := by decide +kernel
theorem dX7_outOf_99 : decode cX7_outOf 99 = .ok (.imul, 1) := by decide +kernel
theorem dX7_outOf_100 : decode cX7_outOf 100 = .ok (.iadd, 1) := by decide +kernel
theorem dX7_outOf_101 : decode cX7_outOf 101 = .ok (.iastore, 1) := by decide +kernel
theorem dX7_outOf_102 : decode cX7_outOf 102 = .ok (.aload_n 0, 1) := by decide +kernel
theorem dX7_outOf_103 : decode cX7_outOf 103 = .ok (.getfield 55, 3) := by decide +kernel
theorem dX7_outOf_106 : decode cX7_outOf 106 = .ok (.iload 5, 2) := by decide +kernel
theorem dX7_outOf_108 : decode cX7_outOf 108 = .ok (.iaload, 1) := by decide +kernel
theorem dX7_outOf_109 : decode cX7_outOf 109 = .ok (.iload 4, 2) := by decide +kernel
theorem dX7_outOf_111 : decode cX7_outOf 111 = .ok (.if_icmp .le 13, 3) := by decide +kernel
theorem dX7_outOf_114 : decode cX7_outOf 114 = .ok (.aload_n 0, 1) := by decide +kernel
theorem dX7_outOf_115 : decode cX7_outOf 115 = .ok (.getfield 55, 3) := by decide +kernel
theorem dX7_outOf_118 : decode cX7_outOf 118 = .ok (.iload 5, 2) := by decide +kernel
theorem dX7_outOf_120 : decode cX7_outOf 120 = .ok (.iaload, 1) := by decide +kernel
theorem dX7_outOf_121 : decode cX7_outOf 121 = .ok (.goto 5, 3) := by decide +kernel
theorem dX7_outOf_124 : decode cX7_outOf 124 = .ok (.iload 4, 2) := by decide +kernel
theorem dX7_outOf_126 : decode cX7_outOf 126 = .ok (.istore 4, 2) := by decide +kernel
theorem dX7_outOf_128 : decode cX7_outOf 128 = .ok (.iinc 5 1, 3) := by decide +kernel
theorem dX7_outOf_131 : decode cX7_outOf 131 = .ok (.goto (-117), 3) := by decide +kernel
theorem dX7_outOf_134 : decode cX7_outOf 134 = .ok (.aload_n 0, 1) := by decide +kernel
theorem dX7_outOf_135 : decode cX7_outOf 135 = .ok (.iload_n 1, 1) := by decide +kernel
theorem dX7_outOf_136 : decode cX7_outOf 136 = .ok (.invokevirtual 173, 3) := by decide +kernel
theorem dX7_outOf_139 : decode cX7_outOf 139 = .ok (.istore 5, 2) := by decide +kernel
theorem dX7_outOf_141 : decode cX7_outOf 141 = .ok (.iload_n 1, 1) := by decide +kernel
theorem dX7_outOf_142 : decode cX7_outOf 142 = .ok (.iconst (-1), 1) := by decide +kernel
theorem dX7_outOf_143 : decode cX7_outOf 143 = .ok (.if_icmp .ne 8, 3) := by decide +kernel
theorem dX7_outOf_146 : decode cX7_outOf 146 = .ok (.iload 4, 2) := by decide +kernel
theorem dX7_outOf_148 : decode cX7_outOf 148 = .ok (.goto 21, 3) := by decide +kernel
theorem dX7_outOf_151 : decode cX7_outOf 151 = .ok (.iload 5, 2) := by decide +kernel
theorem dX7_outOf_153 : decode cX7_outOf 153 = .ok (.iconst (-1), 1) := by decide +kernel
theorem dX7_outOf_154 : decode cX7_outOf 154 = .ok (.if_icmp .ne 8, 3) := by decide +kernel
theorem dX7_outOf_157 : decode cX7_outOf 157 = .ok (.bipush (-3), 2) := by decide +kernel
theorem dX7_outOf_159 : decode cX7_outOf 159 = .ok (.goto 10, 3) := by decide +kernel
theorem dX7_outOf_162 : decode cX7_outOf 162 = .ok (.aload_n 0, 1) := by decide +kernel
theorem dX7_outOf_163 : decode cX7_outOf 163 = .ok (.getfield 55, 3) := by decide +kernel
theorem dX7_outOf_166 : decode cX7_outOf 166 = .ok (.iload 5, 2) := by decide +kernel
theorem dX7_outOf_168 : decode cX7_outOf 168 = .ok (.iaload, 1) := by decide +kernel
theorem dX7_outOf_169 : decode cX7_outOf 169 = .ok (.ireturn, 1) := by decide +kernel
theorem dX7_out_0 : decode cX7_out 0 = .ok (.iload_n 1, 1) := by decide +kernel
theorem dX7_out_1 : decode cX7_out 1 = .ok (.iconst (-1), 1) := by decide +kernel
theorem dX7_out_2 : decode cX7_out 2 = .ok (.bipush 9, 2) := by decide +kernel
theorem dX7_out_4 : decode cX7_out 4 = .ok (.invokestatic 99, 3) := by decide +kernel
theorem dX7_out_7 : decode cX7_out 7 = .ok (.ifCond .eq 11, 3) := by decide +kernel
theorem dX7_out_10 : decode cX7_out 10 = .ok (.aload_n 0, 1) := by decide +kernel
theorem dX7_out_11 : decode cX7_out 11 = .ok (.iload_n 1, 1) := by decide +kernel
theorem dX7_out_12 : decode cX7_out 12 = .ok (.invokevirtual 242, 3) := by decide +kernel
theorem dX7_out_15 : decode cX7_out 15 = .ok (.goto 5, 3) := by decide +kernel
theorem dX7_out_18 : decode cX7_out 18 = .ok (.bipush (-2), 2) := by decide +kernel
theorem dX7_out_20 : decode cX7_out 20 = .ok (.ireturn, 1) := by decide +kernel
theorem dX7_ringOf_0 : decode cX7_ringOf 0 = .ok (.iconst 1, 1) := by decide +kernel
theorem dX7_ringOf_1 : decode cX7_ringOf 1 = .ok (.istore_n 2, 1) := by decide +kernel
theorem dX7_ringOf_2 : decode cX7_ringOf 2 = .ok (.aload_n 0, 1) := by decide +kernel
theorem dX7_ringOf_3 : decode cX7_ringOf 3 = .ok (.getfield 22, 3) := by decide +kernel
theorem dX7_ringOf_6 : decode cX7_ringOf 6 = .ok (.iload_n 1, 1) := by decide +kernel
theorem dX7_ringOf_7 : decode cX7_ringOf 7 = .ok (.iaload, 1) := by decide +kernel
theorem dX7_ringOf_8 : decode cX7_ringOf 8 = .ok (.istore_n 3, 1) := by decide +kernel
theorem dX7_ringOf_9 : decode cX7_ringOf 9 = .ok (.iload_n 3, 1) := by decide +kernel
theorem dX7_ringOf_10 : decode cX7_ringOf 10 = .ok (.iload_n 1, 1) := by decide +kernel
theorem dX7_ringOf_11 : decode cX7_ringOf 11 = .ok (.if_icmp .eq 16, 3) := by decide +kernel
theorem dX7_ringOf_14 : decode cX7_ringOf 14 = .ok (.aload_n 0, 1) := by decide +kernel
theorem dX7_ringOf_15 : decode cX7_ringOf 15 = .ok (.getfield 22, 3) := by decide +kernel
theorem dX7_ringOf_18 : decode cX7_ringOf 18 = .ok (.iload_n 3, 1) := by decide +kernel
theorem dX7_ringOf_19 : decode cX7_ringOf 19 = .ok (.iaload, 1) := by decide +kernel
theorem dX7_ringOf_20 : decode cX7_ringOf 20 = .ok (.istore_n 3, 1) := by decide +kernel
theorem dX7_ringOf_21 : decode cX7_ringOf 21 = .ok (.iinc 2 1, 3) := by decide +kernel
theorem dX7_ringOf_24 : decode cX7_ringOf 24 = .ok (.goto (-15), 3) := by decide +kernel
theorem dX7_ringOf_27 : decode cX7_ringOf 27 = .ok (.iload_n 2, 1) := by decide +kernel
theorem dX7_ringOf_28 : decode cX7_ringOf 28 = .ok (.ireturn, 1) := by decide +kernel
theorem dX7_wrongAll_0 : decode cX7_wrongAll 0 = .ok (.iconst 0, 1) := by decide +kernel
theorem dX7_wrongAll_1 : decode cX7_wrongAll 1 = .ok (.istore_n 1, 1) := by decide +kernel
theorem dX7_wrongAll_2 : decode cX7_wrongAll 2 = .ok (.iconst 0, 1) := by decide +kernel
theorem dX7_wrongAll_3 : decode cX7_wrongAll 3 = .ok (.istore_n 2, 1) := by decide +kernel
theorem dX7_wrongAll_4 : decode cX7_wrongAll 4 = .ok (.iload_n 2, 1) := by decide +kernel
theorem dX7_wrongAll_5 : decode cX7_wrongAll 5 = .ok (.aload_n 0, 1) := by decide +kernel
theorem dX7_wrongAll_6 : decode cX7_wrongAll 6 = .ok (.getfield 127, 3) := by decide +kernel
theorem dX7_wrongAll_9 : decode cX7_wrongAll 9 = .ok (.if_icmp .ge 27, 3) := by decide +kernel
theorem dX7_wrongAll_12 : decode cX7_wrongAll 12 = .ok (.iload_n 1, 1) := by decide +kernel
theorem dX7_wrongAll_13 : decode cX7_wrongAll 13 = .ok (.aload_n 0, 1) := by decide +kernel
theorem dX7_wrongAll_14 : decode cX7_wrongAll 14 = .ok (.getfield 22, 3) := by decide +kernel
theorem dX7_wrongAll_17 : decode cX7_wrongAll 17 = .ok (.iload_n 2, 1) := by decide +kernel
theorem dX7_wrongAll_18 : decode cX7_wrongAll 18 = .ok (.iaload, 1) := by decide +kernel
theorem dX7_wrongAll_19 : decode cX7_wrongAll 19 = .ok (.iload_n 2, 1) := by decide +kernel
theorem dX7_wrongAll_20 : decode cX7_wrongAll 20 = .ok (.if_icmp .eq 7, 3) := by decide +kernel
theorem dX7_wrongAll_23 : decode cX7_wrongAll 23 = .ok (.iconst 1, 1) := by decide +kernel
theorem dX7_wrongAll_24 : decode cX7_wrongAll 24 = .ok (.goto 4, 3) := by decide +kernel
theorem dX7_wrongAll_27 : decode cX7_wrongAll 27 = .ok (.iconst 0, 1) := by decide +kernel
theorem dX7_wrongAll_28 : decode cX7_wrongAll 28 = .ok (.iadd, 1) := by decide +kernel
theorem dX7_wrongAll_29 : decode cX7_wrongAll 29 = .ok (.istore_n 1, 1) := by decide +kernel
theorem dX7_wrongAll_30 : decode cX7_wrongAll 30 = .ok (.iinc 2 1, 3) := by decide +kernel
theorem dX7_wrongAll_33 : decode cX7_wrongAll 33 = .ok (.goto (-29), 3) := by decide +kernel
theorem dX7_wrongAll_36 : decode cX7_wrongAll 36 = .ok (.iload_n 1, 1) := by decide +kernel
theorem dX7_wrongAll_37 : decode cX7_wrongAll 37 = .ok (.ireturn, 1) := by decide +kernel
theorem dX7_wrong_0 : decode cX7_wrong 0 = .ok (.aload_n 0, 1) := by decide +kernel
theorem dX7_wrong_1 : decode cX7_wrong 1 = .ok (.invokevirtual 140, 3) := by decide +kernel
theorem dX7_wrong_4 : decode cX7_wrong 4 = .ok (.iload_n 1, 1) := by decide +kernel
theorem dX7_wrong_5 : decode cX7_wrong 5 = .ok (.iconst (-1), 1) := by decide +kernel
theorem dX7_wrong_6 : decode cX7_wrong 6 = .ok (.if_icmp .ne 10, 3) := by decide +kernel
theorem dX7_wrong_9 : decode cX7_wrong 9 = .ok (.aload_n 0, 1) := by decide +kernel
theorem dX7_wrong_10 : decode cX7_wrong 10 = .ok (.invokevirtual 245, 3) := by decide +kernel
theorem dX7_wrong_13 : decode cX7_wrong 13 = .ok (.goto 27, 3) := by decide +kernel
theorem dX7_wrong_16 : decode cX7_wrong 16 = .ok (.iload_n 1, 1) := by decide +kernel
theorem dX7_wrong_17 : decode cX7_wrong 17 = .ok (.iconst 0, 1) := by decide +kernel
theorem dX7_wrong_18 : decode cX7_wrong 18 = .ok (.aload_n 0, 1) := by decide +kernel
theorem dX7_wrong_19 : decode cX7_wrong 19 = .ok (.getfield 127, 3) := by decide +kernel
theorem dX7_wrong_22 : decode cX7_wrong 22 = .ok (.iconst 1, 1) := by decide +kernel
theorem dX7_wrong_23 : decode cX7_wrong 23 = .ok (.isub, 1) := by decide +kernel
theorem dX7_wrong_24 : decode cX7_wrong 24 = .ok (.invokestatic 99, 3) := by decide +kernel
theorem dX7_wrong_27 : decode cX7_wrong 27 = .ok (.ifCond .eq 11, 3) := by decide +kernel
theorem dX7_wrong_30 : decode cX7_wrong 30 = .ok (.aload_n 0, 1) := by decide +kernel
theorem dX7_wrong_31 : decode cX7_wrong 31 = .ok (.iload_n 1, 1) := by decide +kernel
theorem dX7_wrong_32 : decode cX7_wrong 32 = .ok (.invokevirtual 248, 3) := by decide +kernel
theorem dX7_wrong_35 : decode cX7_wrong 35 = .ok (.goto 5, 3) := by decide +kernel
theorem dX7_wrong_38 : decode cX7_wrong 38 = .ok (.bipush (-2), 2) := by decide +kernel
theorem dX7_wrong_40 : decode cX7_wrong 40 = .ok (.ireturn, 1) := by decide +kernel
theorem dX7_swapsNow_0 : decode cX7_swapsNow 0 = .ok (.aload_n 0, 1) := by decide +kernel
theorem dX7_swapsNow_1 : decode cX7_swapsNow 1 = .ok (.invokevirtual 140, 3) := by decide +kernel
theorem dX7_swapsNow_4 : decode cX7_swapsNow 4 = .ok (.iconst 1, 1) := by decide +kernel
theorem dX7_swapsNow_5 : decode cX7_swapsNow 5 = .ok (.aload_n 0, 1) := by decide +kernel
theorem dX7_swapsNow_6 : decode cX7_swapsNow 6 = .ok (.getfield 127, 3) := by decide +kernel
theorem dX7_swapsNow_9 : decode cX7_swapsNow 9 = .ok (.ishl, 1) := by decide +kernel
theorem dX7_swapsNow_10 : decode cX7_swapsNow 10 = .ok (.iconst 1, 1) := by decide +kernel
theorem dX7_swapsNow_11 : decode cX7_swapsNow 11 = .ok (.isub, 1) := by decide +kernel
theorem dX7_swapsNow_12 : decode cX7_swapsNow 12 = .ok (.istore_n 1, 1) := by decide +kernel
theorem dX7_swapsNow_13 : decode cX7_swapsNow 13 = .ok (.iconst 0, 1) := by decide +kernel
theorem dX7_swapsNow_14 : decode cX7_swapsNow 14 = .ok (.istore_n 2, 1) := by decide +kernel
theorem dX7_swapsNow_15 : decode cX7_swapsNow 15 = .ok (.iconst 0, 1) := by decide +kernel
theorem dX7_swapsNow_16 : decode cX7_swapsNow 16 = .ok (.istore_n 3, 1) := by decide +kernel
theorem dX7_swapsNow_17 : decode cX7_swapsNow 17 = .ok (.iload_n 3, 1) := by decide +kernel
theorem dX7_swapsNow_18 : decode cX7_swapsNow 18 = .ok (.aload_n 0, 1) := by decide +kernel
theorem dX7_swapsNow_19 : decode cX7_swapsNow 19 = .ok (.getfield 127, 3) := by decide +kernel
theorem dX7_swapsNow_22 : decode cX7_swapsNow 22 = .ok (.if_icmp .ge 58, 3) := by decide +kernel
theorem dX7_swapsNow_25 : decode cX7_swapsNow 25 = .ok (.iload_n 2, 1) := by decide +kernel
theorem dX7_swapsNow_26 : decode cX7_swapsNow 26 = .ok (.iload_n 1, 1) := by decide +kernel
theorem dX7_swapsNow_27 : decode cX7_swapsNow 27 = .ok (.iload_n 3, 1) := by decide +kernel
theorem dX7_swapsNow_28 : decode cX7_swapsNow 28 = .ok (.invokestatic 110, 3) := by decide +kernel
theorem dX7_swapsNow_31 : decode cX7_swapsNow 31 = .ok (.ifCond .eq 7, 3) := by decide +kernel
theorem dX7_swapsNow_34 : decode cX7_swapsNow 34 = .ok (.iconst 1, 1) := by decide +kernel
theorem dX7_swapsNow_35 : decode cX7_swapsNow 35 = .ok (.goto 4, 3) := by decide +kernel
theorem dX7_swapsNow_38 : decode cX7_swapsNow 38 = .ok (.iconst 0, 1) := by decide +kernel
theorem dX7_swapsNow_39 : decode cX7_swapsNow 39 = .ok (.iadd, 1) := by decide +kernel
theorem dX7_swapsNow_40 : decode cX7_swapsNow 40 = .ok (.istore_n 2, 1) := by decide +kernel
theorem dX7_swapsNow_41 : decode cX7_swapsNow 41 = .ok (.iload_n 3, 1) := by decide +kernel
theorem dX7_swapsNow_42 : decode cX7_swapsNow 42 = .ok (.istore 4, 2) := by decide +kernel
theorem dX7_swapsNow_44 : decode cX7_swapsNow 44 = .ok (.iload_n 1, 1) := by decide +kernel
theorem dX7_swapsNow_45 : decode cX7_swapsNow 45 = .ok (.iload 4, 2) := by decide +kernel
theorem dX7_swapsNow_47 : decode cX7_swapsNow 47 = .ok (.invokestatic 110, 3) := by decide +kernel
theorem dX7_swapsNow_50 : decode cX7_swapsNow 50 = .ok (.ifCond .eq 24, 3) := by decide +kernel
theorem dX7_swapsNow_53 : decode cX7_swapsNow 53 = .ok (.iload_n 1, 1) := by decide +kernel
theorem dX7_swapsNow_54 : decode cX7_swapsNow 54 = .ok (.iconst 1, 1) := by decide +kernel
theorem dX7_swapsNow_55 : decode cX7_swapsNow 55 = .ok (.iload 4, 2) := by decide +kernel
theorem dX7_swapsNow_57 : decode cX7_swapsNow 57 = .ok (.ishl, 1) := by decide +kernel
theorem dX7_swapsNow_58 : decode cX7_swapsNow 58 = .ok (.iconst (-1), 1) := by decide +kernel
theorem dX7_swapsNow_59 : decode cX7_swapsNow 59 = .ok (.ixor, 1) := by decide +kernel
theorem dX7_swapsNow_60 : decode cX7_swapsNow 60 = .ok (.iand, 1) := by decide +kernel
theorem dX7_swapsNow_61 : decode cX7_swapsNow 61 = .ok (.istore_n 1, 1) := by decide +kernel
theorem dX7_swapsNow_62 : decode cX7_swapsNow 62 = .ok (.aload_n 0, 1) := by decide +kernel
theorem dX7_swapsNow_63 : decode cX7_swapsNow 63 = .ok (.getfield 22, 3) := by decide +kernel
theorem dX7_swapsNow_66 : decode cX7_swapsNow 66 = .ok (.iload 4, 2) := by decide +kernel
theorem dX7_swapsNow_68 : decode cX7_swapsNow 68 = .ok (.iaload, 1) := by decide +kernel
theorem dX7_swapsNow_69 : decode cX7_swapsNow 69 = .ok (.istore 4, 2) := by decide +kernel
theorem dX7_swapsNow_71 : decode cX7_swapsNow 71 = .ok (.goto (-27), 3) := by decide +kernel
theorem dX7_swapsNow_74 : decode cX7_swapsNow 74 = .ok (.iinc 3 1, 3) := by decide +kernel
theorem dX7_swapsNow_77 : decode cX7_swapsNow 77 = .ok (.goto (-60), 3) := by decide +kernel
theorem dX7_swapsNow_80 : decode cX7_swapsNow 80 = .ok (.aload_n 0, 1) := by decide +kernel
theorem dX7_swapsNow_81 : decode cX7_swapsNow 81 = .ok (.getfield 127, 3) := by decide +kernel
theorem dX7_swapsNow_84 : decode cX7_swapsNow 84 = .ok (.iload_n 2, 1) := by decide +kernel
theorem dX7_swapsNow_85 : decode cX7_swapsNow 85 = .ok (.isub, 1) := by decide +kernel
theorem dX7_swapsNow_86 : decode cX7_swapsNow 86 = .ok (.ireturn, 1) := by decide +kernel
theorem dX7_swaps_0 : decode cX7_swaps 0 = .ok (.aload_n 0, 1) := by decide +kernel
theorem dX7_swaps_1 : decode cX7_swaps 1 = .ok (.invokevirtual 251, 3) := by decide +kernel
theorem dX7_swaps_4 : decode cX7_swaps 4 = .ok (.ireturn, 1) := by decide +kernel
theorem dX7_alikeOf_0 : decode cX7_alikeOf 0 = .ok (.aload_n 0, 1) := by decide +kernel
theorem dX7_alikeOf_1 : decode cX7_alikeOf 1 = .ok (.invokevirtual 140, 3) := by decide +kernel
theorem dX7_alikeOf_4 : decode cX7_alikeOf 4 = .ok (.lconst 1, 1) := by decide +kernel
theorem dX7_alikeOf_5 : decode cX7_alikeOf 5 = .ok (.lstore_n 2, 1) := by decide +kernel
theorem dX7_alikeOf_6 : decode cX7_alikeOf 6 = .ok (.lconst 1, 1) := by decide +kernel
theorem dX7_alikeOf_7 : decode cX7_alikeOf 7 = .ok (.lstore 4, 2) := by decide +kernel
theorem dX7_alikeOf_9 : decode cX7_alikeOf 9 = .ok (.iconst 0, 1) := by decide +kernel
theorem dX7_alikeOf_10 : decode cX7_alikeOf 10 = .ok (.istore 6, 2) := by decide +kernel
theorem dX7_alikeOf_12 : decode cX7_alikeOf 12 = .ok (.iload 6, 2) := by decide +kernel
theorem dX7_alikeOf_14 : decode cX7_alikeOf 14 = .ok (.iconst 4, 1) := by decide +kernel
theorem dX7_alikeOf_15 : decode cX7_alikeOf 15 = .ok (.if_icmp .ge 115, 3) := by decide +kernel
theorem dX7_alikeOf_18 : decode cX7_alikeOf 18 = .ok (.lconst 1, 1) := by decide +kernel
theorem dX7_alikeOf_19 : decode cX7_alikeOf 19 = .ok (.lstore 7, 2) := by decide +kernel
theorem dX7_alikeOf_21 : decode cX7_alikeOf 21 = .ok (.lconst 1, 1) := by decide +kernel
theorem dX7_alikeOf_22 : decode cX7_alikeOf 22 = .ok (.lstore 9, 2) := by decide +kernel
theorem dX7_alikeOf_24 : decode cX7_alikeOf 24 = .ok (.lconst 0, 1) := by decide +kernel
theorem dX7_alikeOf_25 : decode cX7_alikeOf 25 = .ok (.lstore 11, 2) := by decide +kernel
theorem dX7_alikeOf_27 : decode cX7_alikeOf 27 = .ok (.iconst 0, 1) := by decide +kernel
theorem dX7_alikeOf_28 : decode cX7_alikeOf 28 = .ok (.istore 13, 2) := by decide +kernel
theorem dX7_alikeOf_30 : decode cX7_alikeOf 30 = .ok (.iconst 0, 1) := by decide +kernel
theorem dX7_alikeOf_31 : decode cX7_alikeOf 31 = .ok (.istore 14, 2) := by decide +kernel
theorem dX7_alikeOf_33 : decode cX7_alikeOf 33 = .ok (.iload 14, 2) := by decide +kernel
theorem dX7_alikeOf_35 : decode cX7_alikeOf 35 = .ok (.bipush 10, 2) := by decide +kernel
theorem dX7_alikeOf_37 : decode cX7_alikeOf 37 = .ok (.if_icmp .ge 75, 3) := by decide +kernel
theorem dX7_alikeOf_40 : decode cX7_alikeOf 40 = .ok (.aload_n 0, 1) := by decide +kernel
theorem dX7_alikeOf_41 : decode cX7_alikeOf 41 = .ok (.getfield 121, 3) := by decide +kernel
theorem dX7_alikeOf_44 : decode cX7_alikeOf 44 = .ok (.iload 14, 2) := by decide +kernel
theorem dX7_alikeOf_46 : decode cX7_alikeOf 46 = .ok (.invokestatic 110, 3) := by decide +kernel
theorem dX7_alikeOf_49 : decode cX7_alikeOf 49 = .ok (.ifCond .eq 57, 3) := by decide +kernel
theorem dX7_alikeOf_52 : decode cX7_alikeOf 52 = .ok (.aload_n 0, 1) := by decide +kernel
theorem dX7_alikeOf_53 : decode cX7_alikeOf 53 = .ok (.getfield 28, 3) := by decide +kernel
theorem dX7_alikeOf_56 : decode cX7_alikeOf 56 = .ok (.iload 14, 2) := by decide +kernel
theorem dX7_alikeOf_58 : decode cX7_alikeOf 58 = .ok (.iaload, 1) := by decide +kernel
theorem dX7_alikeOf_59 : decode cX7_alikeOf 59 = .ok (.iload 6, 2) := by decide +kernel
theorem dX7_alikeOf_61 : decode cX7_alikeOf 61 = .ok (.if_icmp .ne 45, 3) := by decide +kernel
theorem dX7_alikeOf_64 : decode cX7_alikeOf 64 = .ok (.iinc 13 1, 3) := by decide +kernel
theorem dX7_alikeOf_67 : decode cX7_alikeOf 67 = .ok (.lload 7, 2) := by decide +kernel
theorem dX7_alikeOf_69 : decode cX7_alikeOf 69 = .ok (.iload 13, 2) := by decide +kernel
theorem dX7_alikeOf_71 : decode cX7_alikeOf 71 = .ok (.i2l, 1) := by decide +kernel
theorem dX7_alikeOf_72 : decode cX7_alikeOf 72 = .ok (.lmul, 1) := by decide +kernel
theorem dX7_alikeOf_73 : decode cX7_alikeOf 73 = .ok (.lstore 7, 2) := by decide +kernel
theorem dX7_alikeOf_75 : decode cX7_alikeOf 75 = .ok (.iload 13, 2) := by decide +kernel
theorem dX7_alikeOf_77 : decode cX7_alikeOf 77 = .ok (.iconst 1, 1) := by decide +kernel
theorem dX7_alikeOf_78 : decode cX7_alikeOf 78 = .ok (.if_icmp .ne 7, 3) := by decide +kernel
theorem dX7_alikeOf_81 : decode cX7_alikeOf 81 = .ok (.lconst 0, 1) := by decide +kernel
theorem dX7_alikeOf_82 : decode cX7_alikeOf 82 = .ok (.goto 14, 3) := by decide +kernel
theorem dX7_alikeOf_85 : decode cX7_alikeOf 85 = .ok (.iload 13, 2) := by decide +kernel
theorem dX7_alikeOf_87 : decode cX7_alikeOf 87 = .ok (.iconst 1, 1) := by decide +kernel
theorem dX7_alikeOf_88 : decode cX7_alikeOf 88 = .ok (.isub, 1) := by decide +kernel
theorem dX7_alikeOf_89 : decode cX7_alikeOf 89 = .ok (.i2l, 1) := by decide +kernel
theorem dX7_alikeOf_90 : decode cX7_alikeOf 90 = .ok (.lload 9, 2) := by decide +kernel
theorem dX7_alikeOf_92 : decode cX7_alikeOf 92 = .ok (.lload 11, 2) := by decide +kernel
theorem dX7_alikeOf_94 : decode cX7_alikeOf 94 = .ok (.ladd, 1) := by decide +kernel
theorem dX7_alikeOf_95 : decode cX7_alikeOf 95 = .ok (.lmul, 1) := by decide +kernel
theorem dX7_alikeOf_96 : decode cX7_alikeOf 96 = .ok (.lstore 15, 2) := by decide +kernel
theorem dX7_alikeOf_98 : decode cX7_alikeOf 98 = .ok (.lload 9, 2) := by decide +kernel
theorem dX7_alikeOf_100 : decode cX7_alikeOf 100 = .ok (.lstore 11, 2) := by decide +kernel
theorem dX7_alikeOf_102 : decode cX7_alikeOf 102 = .ok (.lload 15, 2) := by decide +kernel
theorem dX7_alikeOf_104 : decode cX7_alikeOf 104 = .ok (.lstore 9, 2) := by decide +kernel
theorem dX7_alikeOf_106 : decode cX7_alikeOf 106 = .ok (.iinc 14 1, 3) := by decide +kernel
theorem dX7_alikeOf_109 : decode cX7_alikeOf 109 = .ok (.goto (-76), 3) := by decide +kernel
theorem dX7_alikeOf_112 : decode cX7_alikeOf 112 = .ok (.lload_n 2, 1) := by decide +kernel
theorem dX7_alikeOf_113 : decode cX7_alikeOf 113 = .ok (.lload 7, 2) := by decide +kernel
theorem dX7_alikeOf_115 : decode cX7_alikeOf 115 = .ok (.lmul, 1) := by decide +kernel
theorem dX7_alikeOf_116 : decode cX7_alikeOf 116 = .ok (.lstore_n 2, 1) := by decide +kernel
theorem dX7_alikeOf_117 : decode cX7_alikeOf 117 = .ok (.lload 4, 2) := by decide +kernel
theorem dX7_alikeOf_119 : decode cX7_alikeOf 119 = .ok (.lload 9, 2) := by decide +kernel
theorem dX7_alikeOf_121 : decode cX7_alikeOf 121 = .ok (.lmul, 1) := by decide +kernel
theorem dX7_alikeOf_122 : decode cX7_alikeOf 122 = .ok (.lstore 4, 2) := by decide +kernel
theorem dX7_alikeOf_124 : decode cX7_alikeOf 124 = .ok (.iinc 6 1, 3) := by decide +kernel
theorem dX7_alikeOf_127 : decode cX7_alikeOf 127 = .ok (.goto (-115), 3) := by decide +kernel
theorem dX7_alikeOf_130 : decode cX7_alikeOf 130 = .ok (.iload_n 1, 1) := by decide +kernel
theorem dX7_alikeOf_131 : decode cX7_alikeOf 131 = .ok (.ifCond .ne 7, 3) := by decide +kernel
theorem dX7_alikeOf_134 : decode cX7_alikeOf 134 = .ok (.lload_n 2, 1) := by decide +kernel
theorem dX7_alikeOf_135 : decode cX7_alikeOf 135 = .ok (.goto 5, 3) := by decide +kernel
theorem dX7_alikeOf_138 : decode cX7_alikeOf 138 = .ok (.lload 4, 2) := by decide +kernel
theorem dX7_alikeOf_140 : decode cX7_alikeOf 140 = .ok (.lreturn, 1) := by decide +kernel
theorem dX7_alike_0 : decode cX7_alike 0 = .ok (.iload_n 1, 1) := by decide +kernel
theorem dX7_alike_1 : decode cX7_alike 1 = .ok (.iconst 0, 1) := by decide +kernel
theorem dX7_alike_2 : decode cX7_alike 2 = .ok (.iconst 1, 1) := by decide +kernel
theorem dX7_alike_3 : decode cX7_alike 3 = .ok (.invokestatic 99, 3) := by decide +kernel
theorem dX7_alike_6 : decode cX7_alike 6 = .ok (.ifCond .eq 11, 3) := by decide +kernel
theorem dX7_alike_9 : decode cX7_alike 9 = .ok (.aload_n 0, 1) := by decide +kernel
theorem dX7_alike_10 : decode cX7_alike 10 = .ok (.iload_n 1, 1) := by decide +kernel
theorem dX7_alike_11 : decode cX7_alike 11 = .ok (.invokevirtual 254, 3) := by decide +kernel
theorem dX7_alike_14 : decode cX7_alike 14 = .ok (.goto 8, 3) := by decide +kernel
theorem dX7_alike_17 : decode cX7_alike 17 = .ok (.bipush (-2), 2) := by decide +kernel
theorem dX7_alike_19 : decode cX7_alike 19 = .ok (.invokestatic 225, 3) := by decide +kernel
theorem dX7_alike_22 : decode cX7_alike 22 = .ok (.lreturn, 1) := by decide +kernel
theorem dX7_ahead_0 : decode cX7_ahead 0 = .ok (.iload_n 1, 1) := by decide +kernel
theorem dX7_ahead_1 : decode cX7_ahead 1 = .ok (.invokestatic 107, 3) := by decide +kernel
theorem dX7_ahead_4 : decode cX7_ahead 4 = .ok (.ifCond .eq 15, 3) := by decide +kernel
theorem dX7_ahead_7 : decode cX7_ahead 7 = .ok (.iload_n 2, 1) := by decide +kernel
theorem dX7_ahead_8 : decode cX7_ahead 8 = .ok (.invokestatic 107, 3) := by decide +kernel
theorem dX7_ahead_11 : decode cX7_ahead 11 = .ok (.ifCond .eq 8, 3) := by decide +kernel
theorem dX7_ahead_14 : decode cX7_ahead 14 = .ok (.iload_n 1, 1) := by decide +kernel
theorem dX7_ahead_15 : decode cX7_ahead 15 = .ok (.iload_n 2, 1) := by decide +kernel
theorem dX7_ahead_16 : decode cX7_ahead 16 = .ok (.if_icmp .ne 6, 3) := by decide +kernel
theorem dX7_ahead_19 : decode cX7_ahead 19 = .ok (.bipush (-2), 2) := by decide +kernel
theorem dX7_ahead_21 : decode cX7_ahead 21 = .ok (.ireturn, 1) := by decide +kernel
theorem dX7_ahead_22 : decode cX7_ahead 22 = .ok (.aload_n 0, 1) := by decide +kernel
theorem dX7_ahead_23 : decode cX7_ahead 23 = .ok (.getfield 257, 3) := by decide +kernel
theorem dX7_ahead_26 : decode cX7_ahead 26 = .ok (.bipush 8, 2) := by decide +kernel
theorem dX7_ahead_28 : decode cX7_ahead 28 = .ok (.if_icmp .ne 6, 3) := by decide +kernel
theorem dX7_ahead_31 : decode cX7_ahead 31 = .ok (.bipush (-4), 2) := by decide +kernel
theorem dX7_ahead_33 : decode cX7_ahead 33 = .ok (.ireturn, 1) := by decide +kernel
theorem dX7_ahead_34 : decode cX7_ahead 34 = .ok (.aload_n 0, 1) := by decide +kernel
theorem dX7_ahead_35 : decode cX7_ahead 35 = .ok (.getfield 58, 3) := by decide +kernel
theorem dX7_ahead_38 : decode cX7_ahead 38 = .ok (.aload_n 0, 1) := by decide +kernel
theorem dX7_ahead_39 : decode cX7_ahead 39 = .ok (.getfield 257, 3) := by decide +kernel
theorem dX7_ahead_42 : decode cX7_ahead 42 = .ok (.iload_n 1, 1) := by decide +kernel
theorem dX7_ahead_43 : decode cX7_ahead 43 = .ok (.iastore, 1) := by decide +kernel
theorem dX7_ahead_44 : decode cX7_ahead 44 = .ok (.aload_n 0, 1) := by decide +kernel
theorem dX7_ahead_45 : decode cX7_ahead 45 = .ok (.getfield 61, 3) := by decide +kernel
theorem dX7_ahead_48 : decode cX7_ahead 48 = .ok (.aload_n 0, 1) := by decide +kernel
theorem dX7_ahead_49 : decode cX7_ahead 49 = .ok (.getfield 257, 3) := by decide +kernel
theorem dX7_ahead_52 : decode cX7_ahead 52 = .ok (.iload_n 2, 1) := by decide +kernel
theorem dX7_ahead_53 : decode cX7_ahead 53 = .ok (.iastore, 1) := by decide +kernel
theorem dX7_ahead_54 : decode cX7_ahead 54 = .ok (.aload_n 0, 1) := by decide +kernel
theorem dX7_ahead_55 : decode cX7_ahead 55 = .ok (.dup, 1) := by decide +kernel
theorem dX7_ahead_56 : decode cX7_ahead 56 = .ok (.getfield 257, 3) := by decide +kernel
theorem dX7_ahead_59 : decode cX7_ahead 59 = .ok (.iconst 1, 1) := by decide +kernel
theorem dX7_ahead_60 : decode cX7_ahead 60 = .ok (.iadd, 1) := by decide +kernel
theorem dX7_ahead_61 : decode cX7_ahead 61 = .ok (.putfield 257, 3) := by decide +kernel
theorem dX7_ahead_64 : decode cX7_ahead 64 = .ok (.aload_n 0, 1) := by decide +kernel
theorem dX7_ahead_65 : decode cX7_ahead 65 = .ok (.getfield 257, 3) := by decide +kernel
theorem dX7_ahead_68 : decode cX7_ahead 68 = .ok (.ireturn, 1) := by decide +kernel
theorem dX7_forget_0 : decode cX7_forget 0 = .ok (.aload_n 0, 1) := by decide +kernel
theorem dX7_forget_1 : decode cX7_forget 1 = .ok (.getfield 257, 3) := by decide +kernel
theorem dX7_forget_4 : decode cX7_forget 4 = .ok (.istore_n 1, 1) := by decide +kernel
theorem dX7_forget_5 : decode cX7_forget 5 = .ok (.aload_n 0, 1) := by decide +kernel
theorem dX7_forget_6 : decode cX7_forget 6 = .ok (.iconst 0, 1) := by decide +kernel
theorem dX7_forget_7 : decode cX7_forget 7 = .ok (.putfield 257, 3) := by decide +kernel
theorem dX7_forget_10 : decode cX7_forget 10 = .ok (.iload_n 1, 1) := by decide +kernel
theorem dX7_forget_11 : decode cX7_forget 11 = .ok (.ireturn, 1) := by decide +kernel
theorem dX7_mayGo_0 : decode cX7_mayGo 0 = .ok (.iconst 1, 1) := by decide +kernel
theorem dX7_mayGo_1 : decode cX7_mayGo 1 = .ok (.istore_n 3, 1) := by decide +kernel
theorem dX7_mayGo_2 : decode cX7_mayGo 2 = .ok (.iconst 0, 1) := by decide +kernel
theorem dX7_mayGo_3 : decode cX7_mayGo 3 = .ok (.istore 4, 2) := by decide +kernel
theorem dX7_mayGo_5 : decode cX7_mayGo 5 = .ok (.iload 4, 2) := by decide +kernel
theorem dX7_mayGo_7 : decode cX7_mayGo 7 = .ok (.aload_n 0, 1) := by decide +kernel
theorem dX7_mayGo_8 : decode cX7_mayGo 8 = .ok (.getfield 257, 3) := by decide +kernel
theorem dX7_mayGo_11 : decode cX7_mayGo 11 = .ok (.if_icmp .ge 44, 3) := by decide +kernel
theorem dX7_mayGo_14 : decode cX7_mayGo 14 = .ok (.iload_n 3, 1) := by decide +kernel
theorem dX7_mayGo_15 : decode cX7_mayGo 15 = .ok (.ifCond .eq 32, 3) := by decide +kernel
theorem dX7_mayGo_18 : decode cX7_mayGo 18 = .ok (.aload_n 0, 1) := by decide +kernel
theorem dX7_mayGo_19 : decode cX7_mayGo 19 = .ok (.getfield 61, 3) := by decide +kernel
theorem dX7_mayGo_22 : decode cX7_mayGo 22 = .ok (.iload 4, 2) := by decide +kernel
theorem dX7_mayGo_24 : decode cX7_mayGo 24 = .ok (.iaload, 1) := by decide +kernel
theorem dX7_mayGo_25 : decode cX7_mayGo 25 = .ok (.iload_n 1, 1) := by decide +kernel
theorem dX7_mayGo_26 : decode cX7_mayGo 26 = .ok (.if_icmp .ne 17, 3) := by decide +kernel
theorem dX7_mayGo_29 : decode cX7_mayGo 29 = .ok (.iload_n 2, 1) := by decide +kernel
theorem dX7_mayGo_30 : decode cX7_mayGo 30 = .ok (.aload_n 0, 1) := by decide +kernel
theorem dX7_mayGo_31 : decode cX7_mayGo 31 = .ok (.getfield 58, 3) := by decide +kernel
theorem dX7_mayGo_34 : decode cX7_mayGo 34 = .ok (.iload 4, 2) := by decide +kernel
theorem dX7_mayGo_36 : decode cX7_mayGo 36 = .ok (.iaload, 1) := by decide +kernel
theorem dX7_mayGo_37 : decode cX7_mayGo 37 = .ok (.invokestatic 110, 3) := by decide +kernel
theorem dX7_mayGo_40 : decode cX7_mayGo 40 = .ok (.ifCond .eq 7, 3) := by decide +kernel
theorem dX7_mayGo_43 : decode cX7_mayGo 43 = .ok (.iconst 1, 1) := by decide +kernel
theorem dX7_mayGo_44 : decode cX7_mayGo 44 = .ok (.goto 4, 3) := by decide +kernel
theorem dX7_mayGo_47 : decode cX7_mayGo 47 = .ok (.iconst 0, 1) := by decide +kernel
theorem dX7_mayGo_48 : decode cX7_mayGo 48 = .ok (.istore_n 3, 1) := by decide +kernel
theorem dX7_mayGo_49 : decode cX7_mayGo 49 = .ok (.iinc 4 1, 3) := by decide +kernel
theorem dX7_mayGo_52 : decode cX7_mayGo 52 = .ok (.goto (-47), 3) := by decide +kernel
theorem dX7_mayGo_55 : decode cX7_mayGo 55 = .ok (.iload_n 3, 1) := by decide +kernel
theorem dX7_mayGo_56 : decode cX7_mayGo 56 = .ok (.ireturn, 1) := by decide +kernel
theorem dX7_ordersOf_0 : decode cX7_ordersOf 0 = .ok (.aload_n 0, 1) := by decide +kernel
theorem dX7_ordersOf_1 : decode cX7_ordersOf 1 = .ok (.invokevirtual 140, 3) := by decide +kernel
theorem dX7_ordersOf_4 : decode cX7_ordersOf 4 = .ok (.aload_n 0, 1) := by decide +kernel
theorem dX7_ordersOf_5 : decode cX7_ordersOf 5 = .ok (.getfield 121, 3) := by decide +kernel
theorem dX7_ordersOf_8 : decode cX7_ordersOf 8 = .ok (.iload_n 1, 1) := by decide +kernel
theorem dX7_ordersOf_9 : decode cX7_ordersOf 9 = .ok (.iconst (-1), 1) := by decide +kernel
theorem dX7_ordersOf_10 : decode cX7_ordersOf 10 = .ok (.ixor, 1) := by decide +kernel
theorem dX7_ordersOf_11 : decode cX7_ordersOf 11 = .ok (.iand, 1) := by decide +kernel
theorem dX7_ordersOf_12 : decode cX7_ordersOf 12 = .ok (.istore_n 2, 1) := by decide +kernel
theorem dX7_ordersOf_13 : decode cX7_ordersOf 13 = .ok (.iconst 0, 1) := by decide +kernel
theorem dX7_ordersOf_14 : decode cX7_ordersOf 14 = .ok (.istore_n 3, 1) := by decide +kernel
theorem dX7_ordersOf_15 : decode cX7_ordersOf 15 = .ok (.iload_n 3, 1) := by decide +kernel
theorem dX7_ordersOf_16 : decode cX7_ordersOf 16 = .ok (.aload_n 0, 1) := by decide +kernel
theorem dX7_ordersOf_17 : decode cX7_ordersOf 17 = .ok (.getfield 257, 3) := by decide +kernel
theorem dX7_ordersOf_20 : decode cX7_ordersOf 20 = .ok (.if_icmp .ge 37, 3) := by decide +kernel
theorem dX7_ordersOf_23 : decode cX7_ordersOf 23 = .ok (.iload_n 2, 1) := by decide +kernel
theorem dX7_ordersOf_24 : decode cX7_ordersOf 24 = .ok (.aload_n 0, 1) := by decide +kernel
theorem dX7_ordersOf_25 : decode cX7_ordersOf 25 = .ok (.getfield 58, 3) := by decide +kernel
theorem dX7_ordersOf_28 : decode cX7_ordersOf 28 = .ok (.iload_n 3, 1) := by decide +kernel
theorem dX7_ordersOf_29 : decode cX7_ordersOf 29 = .ok (.iaload, 1) := by decide +kernel
theorem dX7_ordersOf_30 : decode cX7_ordersOf 30 = .ok (.invokestatic 110, 3) := by decide +kernel
theorem dX7_ordersOf_33 : decode cX7_ordersOf 33 = .ok (.ifCond .eq 16, 3) := by decide +kernel
theorem dX7_ordersOf_36 : decode cX7_ordersOf 36 = .ok (.iload_n 2, 1) := by decide +kernel
theorem dX7_ordersOf_37 : decode cX7_ordersOf 37 = .ok (.aload_n 0, 1) := by decide +kernel
theorem dX7_ordersOf_38 : decode cX7_ordersOf 38 = .ok (.getfield 61, 3) := by decide +kernel
theorem dX7_ordersOf_41 : decode cX7_ordersOf 41 = .ok (.iload_n 3, 1) := by decide +kernel
theorem dX7_ordersOf_42 : decode cX7_ordersOf 42 = .ok (.iaload, 1) := by decide +kernel
theorem dX7_ordersOf_43 : decode cX7_ordersOf 43 = .ok (.invokestatic 110, 3) := by decide +kernel
theorem dX7_ordersOf_46 : decode cX7_ordersOf 46 = .ok (.ifCond .ne 5, 3) := by decide +kernel
theorem dX7_ordersOf_49 : decode cX7_ordersOf 49 = .ok (.lconst 0, 1) := by decide +kernel
theorem dX7_ordersOf_50 : decode cX7_ordersOf 50 = .ok (.lreturn, 1) := by decide +kernel
theorem dX7_ordersOf_51 : decode cX7_ordersOf 51 = .ok (.iinc 3 1, 3) := by decide +kernel
theorem dX7_ordersOf_54 : decode cX7_ordersOf 54 = .ok (.goto (-39), 3) := by decide +kernel
theorem dX7_ordersOf_57 : decode cX7_ordersOf 57 = .ok (.iconst 0, 1) := by decide +kernel
theorem dX7_ordersOf_58 : decode cX7_ordersOf 58 = .ok (.istore_n 3, 1) := by decide +kernel
theorem dX7_ordersOf_59 : decode cX7_ordersOf 59 = .ok (.iload_n 3, 1) := by decide +kernel
theorem dX7_ordersOf_60 : decode cX7_ordersOf 60 = .ok (.sipush 1024, 3) := by decide +kernel
theorem dX7_ordersOf_63 : decode cX7_ordersOf 63 = .ok (.if_icmp .ge 96, 3) := by decide +kernel
theorem dX7_ordersOf_66 : decode cX7_ordersOf 66 = .ok (.aload_n 0, 1) := by decide +kernel
theorem dX7_ordersOf_67 : decode cX7_ordersOf 67 = .ok (.getfield 64, 3) := by decide +kernel
theorem dX7_ordersOf_70 : decode cX7_ordersOf 70 = .ok (.iload_n 3, 1) := by decide +kernel
theorem dX7_ordersOf_71 : decode cX7_ordersOf 71 = .ok (.iload_n 3, 1) := by decide +kernel
theorem dX7_ordersOf_72 : decode cX7_ordersOf 72 = .ok (.ifCond .ne 7, 3) := by decide +kernel
theorem dX7_ordersOf_75 : decode cX7_ordersOf 75 = .ok (.lconst 1, 1) := by decide +kernel
theorem dX7_ordersOf_76 : decode cX7_ordersOf 76 = .ok (.goto 4, 3) := by decide +kernel
theorem dX7_ordersOf_79 : decode cX7_ordersOf 79 = .ok (.lconst 0, 1) := by decide +kernel
theorem dX7_ordersOf_80 : decode cX7_ordersOf 80 = .ok (.lastore, 1) := by decide +kernel
theorem dX7_ordersOf_81 : decode cX7_ordersOf 81 = .ok (.iconst 0, 1) := by decide +kernel
theorem dX7_ordersOf_82 : decode cX7_ordersOf 82 = .ok (.istore 4, 2) := by decide +kernel
theorem dX7_ordersOf_84 : decode cX7_ordersOf 84 = .ok (.iload 4, 2) := by decide +kernel
theorem dX7_ordersOf_86 : decode cX7_ordersOf 86 = .ok (.bipush 10, 2) := by decide +kernel
theorem dX7_ordersOf_88 : decode cX7_ordersOf 88 = .ok (.if_icmp .ge 65, 3) := by decide +kernel
theorem dX7_ordersOf_91 : decode cX7_ordersOf 91 = .ok (.iload_n 3, 1) := by decide +kernel
theorem dX7_ordersOf_92 : decode cX7_ordersOf 92 = .ok (.iload_n 2, 1) := by decide +kernel
theorem dX7_ordersOf_93 : decode cX7_ordersOf 93 = .ok (.iconst (-1), 1) := by decide +kernel
theorem dX7_ordersOf_94 : decode cX7_ordersOf 94 = .ok (.ixor, 1) := by decide +kernel
theorem dX7_ordersOf_95 : decode cX7_ordersOf 95 = .ok (.iand, 1) := by decide +kernel
theorem dX7_ordersOf_96 : decode cX7_ordersOf 96 = .ok (.ifCond .ne 57, 3) := by decide +kernel
theorem dX7_ordersOf_99 : decode cX7_ordersOf 99 = .ok (.iload_n 3, 1) := by decide +kernel
theorem dX7_ordersOf_100 : decode cX7_ordersOf 100 = .ok (.iload 4, 2) := by decide +kernel
theorem dX7_ordersOf_102 : decode cX7_ordersOf 102 = .ok (.invokestatic 110, 3) := by decide +kernel
theorem dX7_ordersOf_105 : decode cX7_ordersOf 105 = .ok (.ifCond .eq 42, 3) := by decide +kernel
theorem dX7_ordersOf_108 : decode cX7_ordersOf 108 = .ok (.aload_n 0, 1) := by decide +kernel
theorem dX7_ordersOf_109 : decode cX7_ordersOf 109 = .ok (.iload 4, 2) := by decide +kernel
theorem dX7_ordersOf_111 : decode cX7_ordersOf 111 = .ok (.iload_n 3, 1) := by decide +kernel
theorem dX7_ordersOf_112 : decode cX7_ordersOf 112 = .ok (.iconst 1, 1) := by decide +kernel
theorem dX7_ordersOf_113 : decode cX7_ordersOf 113 = .ok (.iload 4, 2) := by decide +kernel
theorem dX7_ordersOf_115 : decode cX7_ordersOf 115 = .ok (.ishl, 1) := by decide +kernel
theorem dX7_ordersOf_116 : decode cX7_ordersOf 116 = .ok (.iconst (-1), 1) := by decide +kernel
theorem dX7_ordersOf_117 : decode cX7_ordersOf 117 = .ok (.ixor, 1) := by decide +kernel
theorem dX7_ordersOf_118 : decode cX7_ordersOf 118 = .ok (.iand, 1) := by decide +kernel
theorem dX7_ordersOf_119 : decode cX7_ordersOf 119 = .ok (.invokevirtual 260, 3) := by decide +kernel
theorem dX7_ordersOf_122 : decode cX7_ordersOf 122 = .ok (.ifCond .eq 25, 3) := by decide +kernel
theorem dX7_ordersOf_125 : decode cX7_ordersOf 125 = .ok (.aload_n 0, 1) := by decide +kernel
theorem dX7_ordersOf_126 : decode cX7_ordersOf 126 = .ok (.getfield 64, 3) := by decide +kernel
theorem dX7_ordersOf_129 : decode cX7_ordersOf 129 = .ok (.iload_n 3, 1) := by decide +kernel
theorem dX7_ordersOf_130 : decode cX7_ordersOf 130 = .ok (.dup2, 1) := by decide +kernel
theorem dX7_ordersOf_131 : decode cX7_ordersOf 131 = .ok (.laload, 1) := by decide +kernel
theorem dX7_ordersOf_132 : decode cX7_ordersOf 132 = .ok (.aload_n 0, 1) := by decide +kernel
theorem dX7_ordersOf_133 : decode cX7_ordersOf 133 = .ok (.getfield 64, 3) := by decide +kernel
theorem dX7_ordersOf_136 : decode cX7_ordersOf 136 = .ok (.iload_n 3, 1) := by decide +kernel
theorem dX7_ordersOf_137 : decode cX7_ordersOf 137 = .ok (.iconst 1, 1) := by decide +kernel
theorem dX7_ordersOf_138 : decode cX7_ordersOf 138 = .ok (.iload 4, 2) := by decide +kernel
theorem dX7_ordersOf_140 : decode cX7_ordersOf 140 = .ok (.ishl, 1) := by decide +kernel
theorem dX7_ordersOf_141 : decode cX7_ordersOf 141 = .ok (.iconst (-1), 1) := by decide +kernel
theorem dX7_ordersOf_142 : decode cX7_ordersOf 142 = .ok (.ixor, 1) := by decide +kernel
theorem dX7_ordersOf_143 : decode cX7_ordersOf 143 = .ok (.iand, 1) := by decide +kernel
theorem dX7_ordersOf_144 : decode cX7_ordersOf 144 = .ok (.laload, 1) := by decide +kernel
theorem dX7_ordersOf_145 : decode cX7_ordersOf 145 = .ok (.ladd, 1) := by decide +kernel
theorem dX7_ordersOf_146 : decode cX7_ordersOf 146 = .ok (.lastore, 1) := by decide +kernel
theorem dX7_ordersOf_147 : decode cX7_ordersOf 147 = .ok (.iinc 4 1, 3) := by decide +kernel
theorem dX7_ordersOf_150 : decode cX7_ordersOf 150 = .ok (.goto (-66), 3) := by decide +kernel
theorem dX7_ordersOf_153 : decode cX7_ordersOf 153 = .ok (.iinc 3 1, 3) := by decide +kernel
theorem dX7_ordersOf_156 : decode cX7_ordersOf 156 = .ok (.goto (-97), 3) := by decide +kernel
theorem dX7_ordersOf_159 : decode cX7_ordersOf 159 = .ok (.aload_n 0, 1) := by decide +kernel
theorem dX7_ordersOf_160 : decode cX7_ordersOf 160 = .ok (.getfield 64, 3) := by decide +kernel
theorem dX7_ordersOf_163 : decode cX7_ordersOf 163 = .ok (.iload_n 2, 1) := by decide +kernel
theorem dX7_ordersOf_164 : decode cX7_ordersOf 164 = .ok (.laload, 1) := by decide +kernel
theorem dX7_ordersOf_165 : decode cX7_ordersOf 165 = .ok (.lreturn, 1) := by decide +kernel
theorem dX7_fits_0 : decode cX7_fits 0 = .ok (.iload_n 1, 1) := by decide +kernel
theorem dX7_fits_1 : decode cX7_fits 1 = .ok (.iconst 0, 1) := by decide +kernel
theorem dX7_fits_2 : decode cX7_fits 2 = .ok (.sipush 1023, 3) := by decide +kernel
theorem dX7_fits_5 : decode cX7_fits 5 = .ok (.invokestatic 99, 3) := by decide +kernel
theorem dX7_fits_8 : decode cX7_fits 8 = .ok (.ifCond .eq 11, 3) := by decide +kernel
theorem dX7_fits_11 : decode cX7_fits 11 = .ok (.aload_n 0, 1) := by decide +kernel
theorem dX7_fits_12 : decode cX7_fits 12 = .ok (.iload_n 1, 1) := by decide +kernel
theorem dX7_fits_13 : decode cX7_fits 13 = .ok (.invokevirtual 263, 3) := by decide +kernel
theorem dX7_fits_16 : decode cX7_fits 16 = .ok (.goto 8, 3) := by decide +kernel
theorem dX7_fits_19 : decode cX7_fits 19 = .ok (.bipush (-2), 2) := by decide +kernel
theorem dX7_fits_21 : decode cX7_fits 21 = .ok (.invokestatic 225, 3) := by decide +kernel
theorem dX7_fits_24 : decode cX7_fits 24 = .ok (.lreturn, 1) := by decide +kernel
theorem dX7_sureOf_0 : decode cX7_sureOf 0 = .ok (.aload_n 0, 1) := by decide +kernel
theorem dX7_sureOf_1 : decode cX7_sureOf 1 = .ok (.iload_n 1, 1) := by decide +kernel
theorem dX7_sureOf_2 : decode cX7_sureOf 2 = .ok (.invokevirtual 263, 3) := by decide +kernel
theorem dX7_sureOf_5 : decode cX7_sureOf 5 = .ok (.lconst 0, 1) := by decide +kernel
theorem dX7_sureOf_6 : decode cX7_sureOf 6 = .ok (.lcmp, 1) := by decide +kernel
theorem dX7_sureOf_7 : decode cX7_sureOf 7 = .ok (.ifCond .ne 5, 3) := by decide +kernel
theorem dX7_sureOf_10 : decode cX7_sureOf 10 = .ok (.iconst 0, 1) := by decide +kernel
theorem dX7_sureOf_11 : decode cX7_sureOf 11 = .ok (.ireturn, 1) := by decide +kernel
theorem dX7_sureOf_12 : decode cX7_sureOf 12 = .ok (.aload_n 0, 1) := by decide +kernel
theorem dX7_sureOf_13 : decode cX7_sureOf 13 = .ok (.getfield 58, 3) := by decide +kernel
theorem dX7_sureOf_16 : decode cX7_sureOf 16 = .ok (.aload_n 0, 1) := by decide +kernel
theorem dX7_sureOf_17 : decode cX7_sureOf 17 = .ok (.getfield 257, 3) := by decide +kernel
theorem dX7_sureOf_20 : decode cX7_sureOf 20 = .ok (.iload_n 3, 1) := by decide +kernel
theorem dX7_sureOf_21 : decode cX7_sureOf 21 = .ok (.iastore, 1) := by decide +kernel
theorem dX7_sureOf_22 : decode cX7_sureOf 22 = .ok (.aload_n 0, 1) := by decide +kernel
theorem dX7_sureOf_23 : decode cX7_sureOf 23 = .ok (.getfield 61, 3) := by decide +kernel
theorem dX7_sureOf_26 : decode cX7_sureOf 26 = .ok (.aload_n 0, 1) := by decide +kernel
theorem dX7_sureOf_27 : decode cX7_sureOf 27 = .ok (.getfield 257, 3) := by decide +kernel
theorem dX7_sureOf_30 : decode cX7_sureOf 30 = .ok (.iload_n 2, 1) := by decide +kernel
theorem dX7_sureOf_31 : decode cX7_sureOf 31 = .ok (.iastore, 1) := by decide +kernel
theorem dX7_sureOf_32 : decode cX7_sureOf 32 = .ok (.aload_n 0, 1) := by decide +kernel
theorem dX7_sureOf_33 : decode cX7_sureOf 33 = .ok (.dup, 1) := by decide +kernel
theorem dX7_sureOf_34 : decode cX7_sureOf 34 = .ok (.getfield 257, 3) := by decide +kernel
theorem dX7_sureOf_37 : decode cX7_sureOf 37 = .ok (.iconst 1, 1) := by decide +kernel
theorem dX7_sureOf_38 : decode cX7_sureOf 38 = .ok (.iadd, 1) := by decide +kernel
theorem dX7_sureOf_39 : decode cX7_sureOf 39 = .ok (.putfield 257, 3) := by decide +kernel
theorem dX7_sureOf_42 : decode cX7_sureOf 42 = .ok (.aload_n 0, 1) := by decide +kernel
theorem dX7_sureOf_43 : decode cX7_sureOf 43 = .ok (.iload_n 1, 1) := by decide +kernel
theorem dX7_sureOf_44 : decode cX7_sureOf 44 = .ok (.invokevirtual 263, 3) := by decide +kernel
theorem dX7_sureOf_47 : decode cX7_sureOf 47 = .ok (.lstore 4, 2) := by decide +kernel
theorem dX7_sureOf_49 : decode cX7_sureOf 49 = .ok (.aload_n 0, 1) := by decide +kernel
theorem dX7_sureOf_50 : decode cX7_sureOf 50 = .ok (.dup, 1) := by decide +kernel
theorem dX7_sureOf_51 : decode cX7_sureOf 51 = .ok (.getfield 257, 3) := by decide +kernel
theorem dX7_sureOf_54 : decode cX7_sureOf 54 = .ok (.iconst 1, 1) := by decide +kernel
theorem dX7_sureOf_55 : decode cX7_sureOf 55 = .ok (.isub, 1) := by decide +kernel
theorem dX7_sureOf_56 : decode cX7_sureOf 56 = .ok (.putfield 257, 3) := by decide +kernel
theorem dX7_sureOf_59 : decode cX7_sureOf 59 = .ok (.lload 4, 2) := by decide +kernel
theorem dX7_sureOf_61 : decode cX7_sureOf 61 = .ok (.lconst 0, 1) := by decide +kernel
theorem dX7_sureOf_62 : decode cX7_sureOf 62 = .ok (.lcmp, 1) := by decide +kernel
theorem dX7_sureOf_63 : decode cX7_sureOf 63 = .ok (.ifCond .ne 7, 3) := by decide +kernel
theorem dX7_sureOf_66 : decode cX7_sureOf 66 = .ok (.iconst 1, 1) := by decide +kernel
theorem dX7_sureOf_67 : decode cX7_sureOf 67 = .ok (.goto 4, 3) := by decide +kernel
theorem dX7_sureOf_70 : decode cX7_sureOf 70 = .ok (.iconst 0, 1) := by decide +kernel
theorem dX7_sureOf_71 : decode cX7_sureOf 71 = .ok (.ireturn, 1) := by decide +kernel
theorem dX7_sure_0 : decode cX7_sure 0 = .ok (.aload_n 0, 1) := by decide +kernel
theorem dX7_sure_1 : decode cX7_sure 1 = .ok (.invokevirtual 140, 3) := by decide +kernel
theorem dX7_sure_4 : decode cX7_sure 4 = .ok (.iload_n 1, 1) := by decide +kernel
theorem dX7_sure_5 : decode cX7_sure 5 = .ok (.iconst 0, 1) := by decide +kernel
theorem dX7_sure_6 : decode cX7_sure 6 = .ok (.sipush 1023, 3) := by decide +kernel
theorem dX7_sure_9 : decode cX7_sure 9 = .ok (.invokestatic 99, 3) := by decide +kernel
theorem dX7_sure_12 : decode cX7_sure 12 = .ok (.ifCond .eq 26, 3) := by decide +kernel
theorem dX7_sure_15 : decode cX7_sure 15 = .ok (.iload_n 2, 1) := by decide +kernel
theorem dX7_sure_16 : decode cX7_sure 16 = .ok (.invokestatic 107, 3) := by decide +kernel
theorem dX7_sure_19 : decode cX7_sure 19 = .ok (.ifCond .eq 19, 3) := by decide +kernel
theorem dX7_sure_22 : decode cX7_sure 22 = .ok (.iload_n 3, 1) := by decide +kernel
theorem dX7_sure_23 : decode cX7_sure 23 = .ok (.invokestatic 107, 3) := by decide +kernel
theorem dX7_sure_26 : decode cX7_sure 26 = .ok (.ifCond .eq 12, 3) := by decide +kernel
theorem dX7_sure_29 : decode cX7_sure 29 = .ok (.iload_n 2, 1) := by decide +kernel
theorem dX7_sure_30 : decode cX7_sure 30 = .ok (.iload_n 3, 1) := by decide +kernel
theorem dX7_sure_31 : decode cX7_sure 31 = .ok (.if_icmp .eq 7, 3) := by decide +kernel
theorem dX7_sure_34 : decode cX7_sure 34 = .ok (.iconst 1, 1) := by decide +kernel
theorem dX7_sure_35 : decode cX7_sure 35 = .ok (.goto 4, 3) := by decide +kernel
theorem dX7_sure_38 : decode cX7_sure 38 = .ok (.iconst 0, 1) := by decide +kernel
theorem dX7_sure_39 : decode cX7_sure 39 = .ok (.istore 4, 2) := by decide +kernel
theorem dX7_sure_41 : decode cX7_sure 41 = .ok (.iload 4, 2) := by decide +kernel
theorem dX7_sure_43 : decode cX7_sure 43 = .ok (.ifCond .eq 43, 3) := by decide +kernel
theorem dX7_sure_46 : decode cX7_sure 46 = .ok (.aload_n 0, 1) := by decide +kernel
theorem dX7_sure_47 : decode cX7_sure 47 = .ok (.getfield 121, 3) := by decide +kernel
theorem dX7_sure_50 : decode cX7_sure 50 = .ok (.iload_n 1, 1) := by decide +kernel
theorem dX7_sure_51 : decode cX7_sure 51 = .ok (.iconst (-1), 1) := by decide +kernel
theorem dX7_sure_52 : decode cX7_sure 52 = .ok (.ixor, 1) := by decide +kernel
theorem dX7_sure_53 : decode cX7_sure 53 = .ok (.iand, 1) := by decide +kernel
theorem dX7_sure_54 : decode cX7_sure 54 = .ok (.iload_n 2, 1) := by decide +kernel
theorem dX7_sure_55 : decode cX7_sure 55 = .ok (.invokestatic 110, 3) := by decide +kernel
theorem dX7_sure_58 : decode cX7_sure 58 = .ok (.ifCond .eq 28, 3) := by decide +kernel
theorem dX7_sure_61 : decode cX7_sure 61 = .ok (.aload_n 0, 1) := by decide +kernel
theorem dX7_sure_62 : decode cX7_sure 62 = .ok (.getfield 121, 3) := by decide +kernel
theorem dX7_sure_65 : decode cX7_sure 65 = .ok (.iload_n 1, 1) := by decide +kernel
theorem dX7_sure_66 : decode cX7_sure 66 = .ok (.iconst (-1), 1) := by decide +kernel
theorem dX7_sure_67 : decode cX7_sure 67 = .ok (.ixor, 1) := by decide +kernel
theorem dX7_sure_68 : decode cX7_sure 68 = .ok (.iand, 1) := by decide +kernel
theorem dX7_sure_69 : decode cX7_sure 69 = .ok (.iload_n 3, 1) := by decide +kernel
theorem dX7_sure_70 : decode cX7_sure 70 = .ok (.invokestatic 110, 3) := by decide +kernel
theorem dX7_sure_73 : decode cX7_sure 73 = .ok (.ifCond .eq 13, 3) := by decide +kernel
theorem dX7_sure_76 : decode cX7_sure 76 = .ok (.aload_n 0, 1) := by decide +kernel
theorem dX7_sure_77 : decode cX7_sure 77 = .ok (.iload_n 1, 1) := by decide +kernel
theorem dX7_sure_78 : decode cX7_sure 78 = .ok (.iload_n 2, 1) := by decide +kernel
theorem dX7_sure_79 : decode cX7_sure 79 = .ok (.iload_n 3, 1) := by decide +kernel
theorem dX7_sure_80 : decode cX7_sure 80 = .ok (.invokevirtual 266, 3) := by decide +kernel
theorem dX7_sure_83 : decode cX7_sure 83 = .ok (.goto 5, 3) := by decide +kernel
theorem dX7_sure_86 : decode cX7_sure 86 = .ok (.bipush (-2), 2) := by decide +kernel
theorem dX7_sure_88 : decode cX7_sure 88 = .ok (.ireturn, 1) := by decide +kernel
theorem dX7_firstsOf_0 : decode cX7_firstsOf 0 = .ok (.aload_n 0, 1) := by decide +kernel
theorem dX7_firstsOf_1 : decode cX7_firstsOf 1 = .ok (.iload_n 1, 1) := by decide +kernel
theorem dX7_firstsOf_2 : decode cX7_firstsOf 2 = .ok (.invokevirtual 263, 3) := by decide +kernel
theorem dX7_firstsOf_5 : decode cX7_firstsOf 5 = .ok (.lconst 0, 1) := by decide +kernel
theorem dX7_firstsOf_6 : decode cX7_firstsOf 6 = .ok (.lcmp, 1) := by decide +kernel
theorem dX7_firstsOf_7 : decode cX7_firstsOf 7 = .ok (.ifCond .ne 5, 3) := by decide +kernel
theorem dX7_firstsOf_10 : decode cX7_firstsOf 10 = .ok (.iconst 0, 1) := by decide +kernel
theorem dX7_firstsOf_11 : decode cX7_firstsOf 11 = .ok (.ireturn, 1) := by decide +kernel
theorem dX7_firstsOf_12 : decode cX7_firstsOf 12 = .ok (.iconst 0, 1) := by decide +kernel
theorem dX7_firstsOf_13 : decode cX7_firstsOf 13 = .ok (.istore_n 2, 1) := by decide +kernel
theorem dX7_firstsOf_14 : decode cX7_firstsOf 14 = .ok (.iconst 0, 1) := by decide +kernel
theorem dX7_firstsOf_15 : decode cX7_firstsOf 15 = .ok (.istore_n 3, 1) := by decide +kernel
theorem dX7_firstsOf_16 : decode cX7_firstsOf 16 = .ok (.iload_n 3, 1) := by decide +kernel
theorem dX7_firstsOf_17 : decode cX7_firstsOf 17 = .ok (.bipush 10, 2) := by decide +kernel
theorem dX7_firstsOf_19 : decode cX7_firstsOf 19 = .ok (.if_icmp .ge 43, 3) := by decide +kernel
theorem dX7_firstsOf_22 : decode cX7_firstsOf 22 = .ok (.iload_n 2, 1) := by decide +kernel
theorem dX7_firstsOf_23 : decode cX7_firstsOf 23 = .ok (.aload_n 0, 1) := by decide +kernel
theorem dX7_firstsOf_24 : decode cX7_firstsOf 24 = .ok (.getfield 121, 3) := by decide +kernel
theorem dX7_firstsOf_27 : decode cX7_firstsOf 27 = .ok (.iload_n 1, 1) := by decide +kernel
theorem dX7_firstsOf_28 : decode cX7_firstsOf 28 = .ok (.iconst (-1), 1) := by decide +kernel
theorem dX7_firstsOf_29 : decode cX7_firstsOf 29 = .ok (.ixor, 1) := by decide +kernel
theorem dX7_firstsOf_30 : decode cX7_firstsOf 30 = .ok (.iand, 1) := by decide +kernel
theorem dX7_firstsOf_31 : decode cX7_firstsOf 31 = .ok (.iload_n 3, 1) := by decide +kernel
theorem dX7_firstsOf_32 : decode cX7_firstsOf 32 = .ok (.invokestatic 110, 3) := by decide +kernel
theorem dX7_firstsOf_35 : decode cX7_firstsOf 35 = .ok (.ifCond .eq 18, 3) := by decide +kernel
theorem dX7_firstsOf_38 : decode cX7_firstsOf 38 = .ok (.aload_n 0, 1) := by decide +kernel
theorem dX7_firstsOf_39 : decode cX7_firstsOf 39 = .ok (.iload_n 3, 1) := by decide +kernel
theorem dX7_firstsOf_40 : decode cX7_firstsOf 40 = .ok (.iconst 0, 1) := by decide +kernel
theorem dX7_firstsOf_41 : decode cX7_firstsOf 41 = .ok (.invokevirtual 260, 3) := by decide +kernel
theorem dX7_firstsOf_44 : decode cX7_firstsOf 44 = .ok (.ifCond .eq 9, 3) := by decide +kernel
theorem dX7_firstsOf_47 : decode cX7_firstsOf 47 = .ok (.iconst 1, 1) := by decide +kernel
theorem dX7_firstsOf_48 : decode cX7_firstsOf 48 = .ok (.iload_n 3, 1) := by decide +kernel
theorem dX7_firstsOf_49 : decode cX7_firstsOf 49 = .ok (.ishl, 1) := by decide +kernel
theorem dX7_firstsOf_50 : decode cX7_firstsOf 50 = .ok (.goto 4, 3) := by decide +kernel
theorem dX7_firstsOf_53 : decode cX7_firstsOf 53 = .ok (.iconst 0, 1) := by decide +kernel
theorem dX7_firstsOf_54 : decode cX7_firstsOf 54 = .ok (.ior, 1) := by decide +kernel
theorem dX7_firstsOf_55 : decode cX7_firstsOf 55 = .ok (.istore_n 2, 1) := by decide +kernel
theorem dX7_firstsOf_56 : decode cX7_firstsOf 56 = .ok (.iinc 3 1, 3) := by decide +kernel
theorem dX7_firstsOf_59 : decode cX7_firstsOf 59 = .ok (.goto (-43), 3) := by decide +kernel
theorem dX7_firstsOf_62 : decode cX7_firstsOf 62 = .ok (.iload_n 2, 1) := by decide +kernel
theorem dX7_firstsOf_63 : decode cX7_firstsOf 63 = .ok (.ireturn, 1) := by decide +kernel
theorem dX7_firsts_0 : decode cX7_firsts 0 = .ok (.iload_n 1, 1) := by decide +kernel
theorem dX7_firsts_1 : decode cX7_firsts 1 = .ok (.iconst 0, 1) := by decide +kernel
theorem dX7_firsts_2 : decode cX7_firsts 2 = .ok (.sipush 1023, 3) := by decide +kernel
theorem dX7_firsts_5 : decode cX7_firsts 5 = .ok (.invokestatic 99, 3) := by decide +kernel
theorem dX7_firsts_8 : decode cX7_firsts 8 = .ok (.ifCond .eq 11, 3) := by decide +kernel
theorem dX7_firsts_11 : decode cX7_firsts 11 = .ok (.aload_n 0, 1) := by decide +kernel
theorem dX7_firsts_12 : decode cX7_firsts 12 = .ok (.iload_n 1, 1) := by decide +kernel
theorem dX7_firsts_13 : decode cX7_firsts 13 = .ok (.invokevirtual 269, 3) := by decide +kernel
theorem dX7_firsts_16 : decode cX7_firsts 16 = .ok (.goto 5, 3) := by decide +kernel
theorem dX7_firsts_19 : decode cX7_firsts 19 = .ok (.bipush (-2), 2) := by decide +kernel
theorem dX7_firsts_21 : decode cX7_firsts 21 = .ok (.ireturn, 1) := by decide +kernel
theorem dX7_pick_0 : decode cX7_pick 0 = .ok (.iload_n 1, 1) := by decide +kernel
theorem dX7_pick_1 : decode cX7_pick 1 = .ok (.istore_n 2, 1) := by decide +kernel
theorem dX7_pick_2 : decode cX7_pick 2 = .ok (.iconst 0, 1) := by decide +kernel
theorem dX7_pick_3 : decode cX7_pick 3 = .ok (.istore_n 3, 1) := by decide +kernel
theorem dX7_pick_4 : decode cX7_pick 4 = .ok (.iload_n 3, 1) := by decide +kernel
theorem dX7_pick_5 : decode cX7_pick 5 = .ok (.bipush 10, 2) := by decide +kernel
theorem dX7_pick_7 : decode cX7_pick 7 = .ok (.if_icmp .ge 23, 3) := by decide +kernel
theorem dX7_pick_10 : decode cX7_pick 10 = .ok (.iload_n 2, 1) := by decide +kernel
theorem dX7_pick_11 : decode cX7_pick 11 = .ok (.iload_n 0, 1) := by decide +kernel
theorem dX7_pick_12 : decode cX7_pick 12 = .ok (.iload_n 3, 1) := by decide +kernel
theorem dX7_pick_13 : decode cX7_pick 13 = .ok (.ishr, 1) := by decide +kernel
theorem dX7_pick_14 : decode cX7_pick 14 = .ok (.iconst 1, 1) := by decide +kernel
theorem dX7_pick_15 : decode cX7_pick 15 = .ok (.iand, 1) := by decide +kernel
theorem dX7_pick_16 : decode cX7_pick 16 = .ok (.isub, 1) := by decide +kernel
theorem dX7_pick_17 : decode cX7_pick 17 = .ok (.istore_n 2, 1) := by decide +kernel
theorem dX7_pick_18 : decode cX7_pick 18 = .ok (.iload_n 2, 1) := by decide +kernel
theorem dX7_pick_19 : decode cX7_pick 19 = .ok (.ifCond .ge 5, 3) := by decide +kernel
theorem dX7_pick_22 : decode cX7_pick 22 = .ok (.iload_n 3, 1) := by decide +kernel
theorem dX7_pick_23 : decode cX7_pick 23 = .ok (.ireturn, 1) := by decide +kernel
theorem dX7_pick_24 : decode cX7_pick 24 = .ok (.iinc 3 1, 3) := by decide +kernel
theorem dX7_pick_27 : decode cX7_pick 27 = .ok (.goto (-23), 3) := by decide +kernel
theorem dX7_pick_30 : decode cX7_pick 30 = .ok (.iconst (-1), 1) := by decide +kernel
theorem dX7_pick_31 : decode cX7_pick 31 = .ok (.ireturn, 1) := by decide +kernel
theorem dX7_nightOf_0 : decode cX7_nightOf 0 = .ok (.aload_n 0, 1) := by decide +kernel
theorem dX7_nightOf_1 : decode cX7_nightOf 1 = .ok (.invokevirtual 149, 3) := by decide +kernel
theorem dX7_nightOf_4 : decode cX7_nightOf 4 = .ok (.iload_n 1, 1) := by decide +kernel
theorem dX7_nightOf_5 : decode cX7_nightOf 5 = .ok (.istore_n 3, 1) := by decide +kernel
theorem dX7_nightOf_6 : decode cX7_nightOf 6 = .ok (.lconst 0, 1) := by decide +kernel
theorem dX7_nightOf_7 : decode cX7_nightOf 7 = .ok (.lstore 4, 2) := by decide +kernel
theorem dX7_nightOf_9 : decode cX7_nightOf 9 = .ok (.iconst 0, 1) := by decide +kernel
theorem dX7_nightOf_10 : decode cX7_nightOf 10 = .ok (.istore 6, 2) := by decide +kernel
theorem dX7_nightOf_12 : decode cX7_nightOf 12 = .ok (.iload 6, 2) := by decide +kernel
theorem dX7_nightOf_14 : decode cX7_nightOf 14 = .ok (.iload_n 2, 1) := by decide +kernel
theorem dX7_nightOf_15 : decode cX7_nightOf 15 = .ok (.if_icmp .ge 96, 3) := by decide +kernel
theorem dX7_nightOf_18 : decode cX7_nightOf 18 = .ok (.aload_n 0, 1) := by decide +kernel
theorem dX7_nightOf_19 : decode cX7_nightOf 19 = .ok (.getfield 121, 3) := by decide +kernel
theorem dX7_nightOf_22 : decode cX7_nightOf 22 = .ok (.istore 7, 2) := by decide +kernel
theorem dX7_nightOf_24 : decode cX7_nightOf 24 = .ok (.iload 7, 2) := by decide +kernel
theorem dX7_nightOf_26 : decode cX7_nightOf 26 = .ok (.ifCond .eq 79, 3) := by decide +kernel
theorem dX7_nightOf_29 : decode cX7_nightOf 29 = .ok (.ldc_w 272, 3) := by decide +kernel
theorem dX7_nightOf_32 : decode cX7_nightOf 32 = .ok (.iload_n 3, 1) := by decide +kernel
theorem dX7_nightOf_33 : decode cX7_nightOf 33 = .ok (.imul, 1) := by decide +kernel
theorem dX7_nightOf_34 : decode cX7_nightOf 34 = .ok (.sipush 12345, 3) := by decide +kernel
theorem dX7_nightOf_37 : decode cX7_nightOf 37 = .ok (.iadd, 1) := by decide +kernel
theorem dX7_nightOf_38 : decode cX7_nightOf 38 = .ok (.istore_n 3, 1) := by decide +kernel
theorem dX7_nightOf_39 : decode cX7_nightOf 39 = .ok (.iload 7, 2) := by decide +kernel
theorem dX7_nightOf_41 : decode cX7_nightOf 41 = .ok (.iload_n 3, 1) := by decide +kernel
theorem dX7_nightOf_42 : decode cX7_nightOf 42 = .ok (.bipush 16, 2) := by decide +kernel
theorem dX7_nightOf_44 : decode cX7_nightOf 44 = .ok (.iushr, 1) := by decide +kernel
theorem dX7_nightOf_45 : decode cX7_nightOf 45 = .ok (.iload 7, 2) := by decide +kernel
theorem dX7_nightOf_47 : decode cX7_nightOf 47 = .ok (.invokestatic 229, 3) := by decide +kernel
theorem dX7_nightOf_50 : decode cX7_nightOf 50 = .ok (.irem, 1) := by decide +kernel
theorem dX7_nightOf_51 : decode cX7_nightOf 51 = .ok (.invokestatic 273, 3) := by decide +kernel
theorem dX7_nightOf_54 : decode cX7_nightOf 54 = .ok (.istore 8, 2) := by decide +kernel
theorem dX7_nightOf_56 : decode cX7_nightOf 56 = .ok (.iload 7, 2) := by decide +kernel
theorem dX7_nightOf_58 : decode cX7_nightOf 58 = .ok (.iconst 1, 1) := by decide +kernel
theorem dX7_nightOf_59 : decode cX7_nightOf 59 = .ok (.iload 8, 2) := by decide +kernel
theorem dX7_nightOf_61 : decode cX7_nightOf 61 = .ok (.ishl, 1) := by decide +kernel
theorem dX7_nightOf_62 : decode cX7_nightOf 62 = .ok (.iconst (-1), 1) := by decide +kernel
theorem dX7_nightOf_63 : decode cX7_nightOf 63 = .ok (.ixor, 1) := by decide +kernel
theorem dX7_nightOf_64 : decode cX7_nightOf 64 = .ok (.iand, 1) := by decide +kernel
theorem dX7_nightOf_65 : decode cX7_nightOf 65 = .ok (.istore 7, 2) := by decide +kernel
theorem dX7_nightOf_67 : decode cX7_nightOf 67 = .ok (.lload 4, 2) := by decide +kernel
theorem dX7_nightOf_69 : decode cX7_nightOf 69 = .ok (.aload_n 0, 1) := by decide +kernel
theorem dX7_nightOf_70 : decode cX7_nightOf 70 = .ok (.getfield 143, 3) := by decide +kernel
theorem dX7_nightOf_73 : decode cX7_nightOf 73 = .ok (.iload 8, 2) := by decide +kernel
theorem dX7_nightOf_75 : decode cX7_nightOf 75 = .ok (.invokestatic 110, 3) := by decide +kernel
theorem dX7_nightOf_78 : decode cX7_nightOf 78 = .ok (.ifCond .eq 20, 3) := by decide +kernel
theorem dX7_nightOf_81 : decode cX7_nightOf 81 = .ok (.aload_n 0, 1) := by decide +kernel
theorem dX7_nightOf_82 : decode cX7_nightOf 82 = .ok (.iload 8, 2) := by decide +kernel
theorem dX7_nightOf_84 : decode cX7_nightOf 84 = .ok (.iload 7, 2) := by decide +kernel
theorem dX7_nightOf_86 : decode cX7_nightOf 86 = .ok (.aload_n 0, 1) := by decide +kernel
theorem dX7_nightOf_87 : decode cX7_nightOf 87 = .ok (.getfield 143, 3) := by decide +kernel
theorem dX7_nightOf_90 : decode cX7_nightOf 90 = .ok (.iand, 1) := by decide +kernel
theorem dX7_nightOf_91 : decode cX7_nightOf 91 = .ok (.invokevirtual 159, 3) := by decide +kernel
theorem dX7_nightOf_94 : decode cX7_nightOf 94 = .ok (.i2l, 1) := by decide +kernel
theorem dX7_nightOf_95 : decode cX7_nightOf 95 = .ok (.goto 4, 3) := by decide +kernel
theorem dX7_nightOf_98 : decode cX7_nightOf 98 = .ok (.lconst 0, 1) := by decide +kernel
theorem dX7_nightOf_99 : decode cX7_nightOf 99 = .ok (.ladd, 1) := by decide +kernel
theorem dX7_nightOf_100 : decode cX7_nightOf 100 = .ok (.lstore 4, 2) := by decide +kernel
theorem dX7_nightOf_102 : decode cX7_nightOf 102 = .ok (.goto (-78), 3) := by decide +kernel
theorem dX7_nightOf_105 : decode cX7_nightOf 105 = .ok (.iinc 6 1, 3) := by decide +kernel
theorem dX7_nightOf_108 : decode cX7_nightOf 108 = .ok (.goto (-96), 3) := by decide +kernel
theorem dX7_nightOf_111 : decode cX7_nightOf 111 = .ok (.lload 4, 2) := by decide +kernel
theorem dX7_nightOf_113 : decode cX7_nightOf 113 = .ok (.lreturn, 1) := by decide +kernel
theorem dX7_night_0 : decode cX7_night 0 = .ok (.iload_n 2, 1) := by decide +kernel
theorem dX7_night_1 : decode cX7_night 1 = .ok (.iconst 1, 1) := by decide +kernel
theorem dX7_night_2 : decode cX7_night 2 = .ok (.bipush 60, 2) := by decide +kernel
theorem dX7_night_4 : decode cX7_night 4 = .ok (.invokestatic 99, 3) := by decide +kernel
theorem dX7_night_7 : decode cX7_night 7 = .ok (.ifCond .eq 12, 3) := by decide +kernel
theorem dX7_night_10 : decode cX7_night 10 = .ok (.aload_n 0, 1) := by decide +kernel
theorem dX7_night_11 : decode cX7_night 11 = .ok (.iload_n 1, 1) := by decide +kernel
theorem dX7_night_12 : decode cX7_night 12 = .ok (.iload_n 2, 1) := by decide +kernel
theorem dX7_night_13 : decode cX7_night 13 = .ok (.invokevirtual 276, 3) := by decide +kernel
theorem dX7_night_16 : decode cX7_night 16 = .ok (.goto 8, 3) := by decide +kernel
theorem dX7_night_19 : decode cX7_night 19 = .ok (.bipush (-2), 2) := by decide +kernel
theorem dX7_night_21 : decode cX7_night 21 = .ok (.invokestatic 225, 3) := by decide +kernel
theorem dX7_night_24 : decode cX7_night 24 = .ok (.lreturn, 1) := by decide +kernel
theorem dX7_meets_0 : decode cX7_meets 0 = .ok (.aload_n 0, 1) := by decide +kernel
theorem dX7_meets_1 : decode cX7_meets 1 = .ok (.iload_n 1, 1) := by decide +kernel
theorem dX7_meets_2 : decode cX7_meets 2 = .ok (.putfield 279, 3) := by decide +kernel
theorem dX7_meets_5 : decode cX7_meets 5 = .ok (.bipush (-10), 2) := by decide +kernel
theorem dX7_meets_7 : decode cX7_meets 7 = .ok (.iload_n 1, 1) := by decide +kernel
theorem dX7_meets_8 : decode cX7_meets 8 = .ok (.isub, 1) := by decide +kernel
theorem dX7_meets_9 : decode cX7_meets 9 = .ok (.ireturn, 1) := by decide +kernel
theorem dX7_isSheet_0 : decode cX7_isSheet 0 = .ok (.iload_n 0, 1) := by decide +kernel
theorem dX7_isSheet_1 : decode cX7_isSheet 1 = .ok (.iconst 0, 1) := by decide +kernel
theorem dX7_isSheet_2 : decode cX7_isSheet 2 = .ok (.iconst 3, 1) := by decide +kernel
theorem dX7_isSheet_3 : decode cX7_isSheet 3 = .ok (.invokestatic 99, 3) := by decide +kernel
theorem dX7_isSheet_6 : decode cX7_isSheet 6 = .ok (.ireturn, 1) := by decide +kernel
theorem dX7_sheet_0 : decode cX7_sheet 0 = .ok (.iload_n 1, 1) := by decide +kernel
theorem dX7_sheet_1 : decode cX7_sheet 1 = .ok (.invokestatic 134, 3) := by decide +kernel
theorem dX7_sheet_4 : decode cX7_sheet 4 = .ok (.ifCond .eq 18, 3) := by decide +kernel
theorem dX7_sheet_7 : decode cX7_sheet 7 = .ok (.iload_n 2, 1) := by decide +kernel
theorem dX7_sheet_8 : decode cX7_sheet 8 = .ok (.iconst 0, 1) := by decide +kernel
theorem dX7_sheet_9 : decode cX7_sheet 9 = .ok (.iconst 2, 1) := by decide +kernel
theorem dX7_sheet_10 : decode cX7_sheet 10 = .ok (.invokestatic 99, 3) := by decide +kernel
theorem dX7_sheet_13 : decode cX7_sheet 13 = .ok (.ifCond .eq 9, 3) := by decide +kernel
theorem dX7_sheet_16 : decode cX7_sheet 16 = .ok (.iload_n 3, 1) := by decide +kernel
theorem dX7_sheet_17 : decode cX7_sheet 17 = .ok (.bipush 48, 2) := by decide +kernel
theorem dX7_sheet_19 : decode cX7_sheet 19 = .ok (.if_icmp .le 6, 3) := by decide +kernel
theorem dX7_sheet_22 : decode cX7_sheet 22 = .ok (.bipush (-2), 2) := by decide +kernel
theorem dX7_sheet_24 : decode cX7_sheet 24 = .ok (.ireturn, 1) := by decide +kernel
theorem dX7_sheet_25 : decode cX7_sheet 25 = .ok (.iload_n 3, 1) := by decide +kernel
theorem dX7_sheet_26 : decode cX7_sheet 26 = .ok (.ifCond .ge 9, 3) := by decide +kernel
theorem dX7_sheet_29 : decode cX7_sheet 29 = .ok (.aload_n 0, 1) := by decide +kernel
theorem dX7_sheet_30 : decode cX7_sheet 30 = .ok (.iconst 5, 1) := by decide +kernel
theorem dX7_sheet_31 : decode cX7_sheet 31 = .ok (.invokevirtual 137, 3) := by decide +kernel
theorem dX7_sheet_34 : decode cX7_sheet 34 = .ok (.ireturn, 1) := by decide +kernel
theorem dX7_sheet_35 : decode cX7_sheet 35 = .ok (.aload_n 0, 1) := by decide +kernel
theorem dX7_sheet_36 : decode cX7_sheet 36 = .ok (.getfield 68, 3) := by decide +kernel
theorem dX7_sheet_39 : decode cX7_sheet 39 = .ok (.iload_n 1, 1) := by decide +kernel
theorem dX7_sheet_40 : decode cX7_sheet 40 = .ok (.iconst 1, 1) := by decide +kernel
theorem dX7_sheet_41 : decode cX7_sheet 41 = .ok (.bastore, 1) := by decide +kernel
theorem dX7_sheet_42 : decode cX7_sheet 42 = .ok (.aload_n 0, 1) := by decide +kernel
theorem dX7_sheet_43 : decode cX7_sheet 43 = .ok (.getfield 72, 3) := by decide +kernel
theorem dX7_sheet_46 : decode cX7_sheet 46 = .ok (.iload_n 1, 1) := by decide +kernel
theorem dX7_sheet_47 : decode cX7_sheet 47 = .ok (.iload_n 2, 1) := by decide +kernel
theorem dX7_sheet_48 : decode cX7_sheet 48 = .ok (.iastore, 1) := by decide +kernel
theorem dX7_sheet_49 : decode cX7_sheet 49 = .ok (.aload_n 0, 1) := by decide +kernel
theorem dX7_sheet_50 : decode cX7_sheet 50 = .ok (.getfield 75, 3) := by decide +kernel
theorem dX7_sheet_53 : decode cX7_sheet 53 = .ok (.iload_n 1, 1) := by decide +kernel
theorem dX7_sheet_54 : decode cX7_sheet 54 = .ok (.iload_n 3, 1) := by decide +kernel
theorem dX7_sheet_55 : decode cX7_sheet 55 = .ok (.iastore, 1) := by decide +kernel
theorem dX7_sheet_56 : decode cX7_sheet 56 = .ok (.iconst 0, 1) := by decide +kernel
theorem dX7_sheet_57 : decode cX7_sheet 57 = .ok (.istore 4, 2) := by decide +kernel
theorem dX7_sheet_59 : decode cX7_sheet 59 = .ok (.iload 4, 2) := by decide +kernel
theorem dX7_sheet_61 : decode cX7_sheet 61 = .ok (.bipush 48, 2) := by decide +kernel
theorem dX7_sheet_63 : decode cX7_sheet 63 = .ok (.if_icmp .ge 22, 3) := by decide +kernel
theorem dX7_sheet_66 : decode cX7_sheet 66 = .ok (.aload_n 0, 1) := by decide +kernel
theorem dX7_sheet_67 : decode cX7_sheet 67 = .ok (.getfield 78, 3) := by decide +kernel
theorem dX7_sheet_70 : decode cX7_sheet 70 = .ok (.bipush 48, 2) := by decide +kernel
theorem dX7_sheet_72 : decode cX7_sheet 72 = .ok (.iload_n 1, 1) := by decide +kernel
theorem dX7_sheet_73 : decode cX7_sheet 73 = .ok (.imul, 1) := by decide +kernel
theorem dX7_sheet_74 : decode cX7_sheet 74 = .ok (.iload 4, 2) := by decide +kernel
theorem dX7_sheet_76 : decode cX7_sheet 76 = .ok (.iadd, 1) := by decide +kernel
theorem dX7_sheet_77 : decode cX7_sheet 77 = .ok (.iconst 0, 1) := by decide +kernel
theorem dX7_sheet_78 : decode cX7_sheet 78 = .ok (.iastore, 1) := by decide +kernel
theorem dX7_sheet_79 : decode cX7_sheet 79 = .ok (.iinc 4 1, 3) := by decide +kernel
theorem dX7_sheet_82 : decode cX7_sheet 82 = .ok (.goto (-23), 3) := by decide +kernel
theorem dX7_sheet_85 : decode cX7_sheet 85 = .ok (.iload_n 3, 1) := by decide +kernel
theorem dX7_sheet_86 : decode cX7_sheet 86 = .ok (.ireturn, 1) := by decide +kernel
theorem dX7_lose_0 : decode cX7_lose 0 = .ok (.iload_n 1, 1) := by decide +kernel
theorem dX7_lose_1 : decode cX7_lose 1 = .ok (.invokestatic 134, 3) := by decide +kernel
theorem dX7_lose_4 : decode cX7_lose 4 = .ok (.ifCond .ne 6, 3) := by decide +kernel
theorem dX7_lose_7 : decode cX7_lose 7 = .ok (.bipush (-2), 2) := by decide +kernel
theorem dX7_lose_9 : decode cX7_lose 9 = .ok (.ireturn, 1) := by decide +kernel
theorem dX7_lose_10 : decode cX7_lose 10 = .ok (.aload_n 0, 1) := by decide +kernel
theorem dX7_lose_11 : decode cX7_lose 11 = .ok (.getfield 68, 3) := by decide +kernel
theorem dX7_lose_14 : decode cX7_lose 14 = .ok (.iload_n 1, 1) := by decide +kernel
theorem dX7_lose_15 : decode cX7_lose 15 = .ok (.baload, 1) := by decide +kernel
theorem dX7_lose_16 : decode cX7_lose 16 = .ok (.ifCond .ne 9, 3) := by decide +kernel
theorem dX7_lose_19 : decode cX7_lose 19 = .ok (.aload_n 0, 1) := by decide +kernel
theorem dX7_lose_20 : decode cX7_lose 20 = .ok (.iconst 1, 1) := by decide +kernel
theorem dX7_lose_21 : decode cX7_lose 21 = .ok (.invokevirtual 137, 3) := by decide +kernel
theorem dX7_lose_24 : decode cX7_lose 24 = .ok (.ireturn, 1) := by decide +kernel
theorem dX7_lose_25 : decode cX7_lose 25 = .ok (.aload_n 0, 1) := by decide +kernel
theorem dX7_lose_26 : decode cX7_lose 26 = .ok (.getfield 68, 3) := by decide +kernel
theorem dX7_lose_29 : decode cX7_lose 29 = .ok (.iload_n 1, 1) := by decide +kernel
theorem dX7_lose_30 : decode cX7_lose 30 = .ok (.iconst 0, 1) := by decide +kernel
theorem dX7_lose_31 : decode cX7_lose 31 = .ok (.bastore, 1) := by decide +kernel
theorem dX7_lose_32 : decode cX7_lose 32 = .ok (.aload_n 0, 1) := by decide +kernel
theorem dX7_lose_33 : decode cX7_lose 33 = .ok (.getfield 75, 3) := by decide +kernel
theorem dX7_lose_36 : decode cX7_lose 36 = .ok (.iload_n 1, 1) := by decide +kernel
theorem dX7_lose_37 : decode cX7_lose 37 = .ok (.iaload, 1) := by decide +kernel
theorem dX7_lose_38 : decode cX7_lose 38 = .ok (.ireturn, 1) := by decide +kernel
theorem dX7_lacks_0 : decode cX7_lacks 0 = .ok (.aload_n 0, 1) := by decide +kernel
theorem dX7_lacks_1 : decode cX7_lacks 1 = .ok (.getfield 68, 3) := by decide +kernel
theorem dX7_lacks_4 : decode cX7_lacks 4 = .ok (.iload_n 1, 1) := by decide +kernel
theorem dX7_lacks_5 : decode cX7_lacks 5 = .ok (.baload, 1) := by decide +kernel
theorem dX7_lacks_6 : decode cX7_lacks 6 = .ok (.ifCond .ne 7, 3) := by decide +kernel
theorem dX7_lacks_9 : decode cX7_lacks 9 = .ok (.iconst 1, 1) := by decide +kernel
theorem dX7_lacks_10 : decode cX7_lacks 10 = .ok (.goto 38, 3) := by decide +kernel
theorem dX7_lacks_13 : decode cX7_lacks 13 = .ok (.aload_n 0, 1) := by decide +kernel
theorem dX7_lacks_14 : decode cX7_lacks 14 = .ok (.getfield 72, 3) := by decide +kernel
theorem dX7_lacks_17 : decode cX7_lacks 17 = .ok (.iload_n 1, 1) := by decide +kernel
theorem dX7_lacks_18 : decode cX7_lacks 18 = .ok (.iaload, 1) := by decide +kernel
theorem dX7_lacks_19 : decode cX7_lacks 19 = .ok (.iload_n 2, 1) := by decide +kernel
theorem dX7_lacks_20 : decode cX7_lacks 20 = .ok (.if_icmp .eq 7, 3) := by decide +kernel
theorem dX7_lacks_23 : decode cX7_lacks 23 = .ok (.iconst 3, 1) := by decide +kernel
theorem dX7_lacks_24 : decode cX7_lacks 24 = .ok (.goto 24, 3) := by decide +kernel
theorem dX7_lacks_27 : decode cX7_lacks 27 = .ok (.iload_n 3, 1) := by decide +kernel
theorem dX7_lacks_28 : decode cX7_lacks 28 = .ok (.iconst 0, 1) := by decide +kernel
theorem dX7_lacks_29 : decode cX7_lacks 29 = .ok (.aload_n 0, 1) := by decide +kernel
theorem dX7_lacks_30 : decode cX7_lacks 30 = .ok (.getfield 75, 3) := by decide +kernel
theorem dX7_lacks_33 : decode cX7_lacks 33 = .ok (.iload_n 1, 1) := by decide +kernel
theorem dX7_lacks_34 : decode cX7_lacks 34 = .ok (.iaload, 1) := by decide +kernel
theorem dX7_lacks_35 : decode cX7_lacks 35 = .ok (.iconst 1, 1) := by decide +kernel
theorem dX7_lacks_36 : decode cX7_lacks 36 = .ok (.isub, 1) := by decide +kernel
theorem dX7_lacks_37 : decode cX7_lacks 37 = .ok (.invokestatic 99, 3) := by decide +kernel
theorem dX7_lacks_40 : decode cX7_lacks 40 = .ok (.ifCond .eq 7, 3) := by decide +kernel
theorem dX7_lacks_43 : decode cX7_lacks 43 = .ok (.iconst 0, 1) := by decide +kernel
theorem dX7_lacks_44 : decode cX7_lacks 44 = .ok (.goto 4, 3) := by decide +kernel
theorem dX7_lacks_47 : decode cX7_lacks 47 = .ok (.iconst 2, 1) := by decide +kernel
theorem dX7_lacks_48 : decode cX7_lacks 48 = .ok (.ireturn, 1) := by decide +kernel
theorem dX7_keep_0 : decode cX7_keep 0 = .ok (.aload_n 0, 1) := by decide +kernel
theorem dX7_keep_1 : decode cX7_keep 1 = .ok (.getfield 78, 3) := by decide +kernel
theorem dX7_keep_4 : decode cX7_keep 4 = .ok (.bipush 48, 2) := by decide +kernel
theorem dX7_keep_6 : decode cX7_keep 6 = .ok (.iload_n 1, 1) := by decide +kernel
theorem dX7_keep_7 : decode cX7_keep 7 = .ok (.imul, 1) := by decide +kernel
theorem dX7_keep_8 : decode cX7_keep 8 = .ok (.iload_n 2, 1) := by decide +kernel
theorem dX7_keep_9 : decode cX7_keep 9 = .ok (.iadd, 1) := by decide +kernel
theorem dX7_keep_10 : decode cX7_keep 10 = .ok (.aload_n 0, 1) := by decide +kernel
theorem dX7_keep_11 : decode cX7_keep 11 = .ok (.getfield 72, 3) := by decide +kernel
theorem dX7_keep_14 : decode cX7_keep 14 = .ok (.iload_n 1, 1) := by decide +kernel
theorem dX7_keep_15 : decode cX7_keep 15 = .ok (.iaload, 1) := by decide +kernel
theorem dX7_keep_16 : decode cX7_keep 16 = .ok (.ifCond .ne 8, 3) := by decide +kernel
theorem dX7_keep_19 : decode cX7_keep 19 = .ok (.iload_n 3, 1) := by decide +kernel
theorem dX7_keep_20 : decode cX7_keep 20 = .ok (.i2b, 1) := by decide +kernel
theorem dX7_keep_21 : decode cX7_keep 21 = .ok (.goto 19, 3) := by decide +kernel
theorem dX7_keep_24 : decode cX7_keep 24 = .ok (.aload_n 0, 1) := by decide +kernel
theorem dX7_keep_25 : decode cX7_keep 25 = .ok (.getfield 72, 3) := by decide +kernel
theorem dX7_keep_28 : decode cX7_keep 28 = .ok (.iload_n 1, 1) := by decide +kernel
theorem dX7_keep_29 : decode cX7_keep 29 = .ok (.iaload, 1) := by decide +kernel
theorem dX7_keep_30 : decode cX7_keep 30 = .ok (.iconst 1, 1) := by decide +kernel
theorem dX7_keep_31 : decode cX7_keep 31 = .ok (.if_icmp .ne 8, 3) := by decide +kernel
theorem dX7_keep_34 : decode cX7_keep 34 = .ok (.iload_n 3, 1) := by decide +kernel
theorem dX7_keep_35 : decode cX7_keep 35 = .ok (.i2s, 1) := by decide +kernel
theorem dX7_keep_36 : decode cX7_keep 36 = .ok (.goto 4, 3) := by decide +kernel
theorem dX7_keep_39 : decode cX7_keep 39 = .ok (.iload_n 3, 1) := by decide +kernel
theorem dX7_keep_40 : decode cX7_keep 40 = .ok (.iastore, 1) := by decide +kernel
theorem dX7_keep_41 : decode cX7_keep 41 = .ok (.return_, 1) := by decide +kernel
theorem dX7_put_0 : decode cX7_put 0 = .ok (.iload_n 1, 1) := by decide +kernel
theorem dX7_put_1 : decode cX7_put 1 = .ok (.invokestatic 134, 3) := by decide +kernel
theorem dX7_put_4 : decode cX7_put 4 = .ok (.ifCond .eq 12, 3) := by decide +kernel
theorem dX7_put_7 : decode cX7_put 7 = .ok (.iload_n 2, 1) := by decide +kernel
theorem dX7_put_8 : decode cX7_put 8 = .ok (.iconst 0, 1) := by decide +kernel
theorem dX7_put_9 : decode cX7_put 9 = .ok (.iconst 2, 1) := by decide +kernel
theorem dX7_put_10 : decode cX7_put 10 = .ok (.invokestatic 99, 3) := by decide +kernel
theorem dX7_put_13 : decode cX7_put 13 = .ok (.ifCond .ne 6, 3) := by decide +kernel
theorem dX7_put_16 : decode cX7_put 16 = .ok (.bipush (-2), 2) := by decide +kernel
theorem dX7_put_18 : decode cX7_put 18 = .ok (.ireturn, 1) := by decide +kernel
theorem dX7_put_19 : decode cX7_put 19 = .ok (.aload_n 0, 1) := by decide +kernel
theorem dX7_put_20 : decode cX7_put 20 = .ok (.iload_n 1, 1) := by decide +kernel
theorem dX7_put_21 : decode cX7_put 21 = .ok (.iload_n 2, 1) := by decide +kernel
theorem dX7_put_22 : decode cX7_put 22 = .ok (.iload_n 3, 1) := by decide +kernel
theorem dX7_put_23 : decode cX7_put 23 = .ok (.invokevirtual 282, 3) := by decide +kernel
theorem dX7_put_26 : decode cX7_put 26 = .ok (.istore 5, 2) := by decide +kernel
theorem dX7_put_28 : decode cX7_put 28 = .ok (.iload 5, 2) := by decide +kernel
theorem dX7_put_30 : decode cX7_put 30 = .ok (.ifCond .le 10, 3) := by decide +kernel
theorem dX7_put_33 : decode cX7_put 33 = .ok (.aload_n 0, 1) := by decide +kernel
theorem dX7_put_34 : decode cX7_put 34 = .ok (.iload 5, 2) := by decide +kernel
theorem dX7_put_36 : decode cX7_put 36 = .ok (.invokevirtual 137, 3) := by decide +kernel
theorem dX7_put_39 : decode cX7_put 39 = .ok (.ireturn, 1) := by decide +kernel
theorem dX7_put_40 : decode cX7_put 40 = .ok (.aload_n 0, 1) := by decide +kernel
theorem dX7_put_41 : decode cX7_put 41 = .ok (.iload_n 1, 1) := by decide +kernel
theorem dX7_put_42 : decode cX7_put 42 = .ok (.iload_n 3, 1) := by decide +kernel
theorem dX7_put_43 : decode cX7_put 43 = .ok (.iload 4, 2) := by decide +kernel
theorem dX7_put_45 : decode cX7_put 45 = .ok (.invokevirtual 285, 3) := by decide +kernel
theorem dX7_put_48 : decode cX7_put 48 = .ok (.iconst 1, 1) := by decide +kernel
theorem dX7_put_49 : decode cX7_put 49 = .ok (.ireturn, 1) := by decide +kernel
theorem dX7_get_0 : decode cX7_get 0 = .ok (.iload_n 1, 1) := by decide +kernel
theorem dX7_get_1 : decode cX7_get 1 = .ok (.invokestatic 134, 3) := by decide +kernel
theorem dX7_get_4 : decode cX7_get 4 = .ok (.ifCond .eq 12, 3) := by decide +kernel
theorem dX7_get_7 : decode cX7_get 7 = .ok (.iload_n 2, 1) := by decide +kernel
theorem dX7_get_8 : decode cX7_get 8 = .ok (.iconst 0, 1) := by decide +kernel
theorem dX7_get_9 : decode cX7_get 9 = .ok (.iconst 2, 1) := by decide +kernel
theorem dX7_get_10 : decode cX7_get 10 = .ok (.invokestatic 99, 3) := by decide +kernel
theorem dX7_get_13 : decode cX7_get 13 = .ok (.ifCond .ne 7, 3) := by decide +kernel
theorem dX7_get_16 : decode cX7_get 16 = .ok (.ldc_w 289, 3) := by decide +kernel
theorem dX7_get_19 : decode cX7_get 19 = .ok (.ireturn, 1) := by decide +kernel
theorem dX7_get_20 : decode cX7_get 20 = .ok (.aload_n 0, 1) := by decide +kernel
theorem dX7_get_21 : decode cX7_get 21 = .ok (.iload_n 1, 1) := by decide +kernel
theorem dX7_get_22 : decode cX7_get 22 = .ok (.iload_n 2, 1) := by decide +kernel
theorem dX7_get_23 : decode cX7_get 23 = .ok (.iload_n 3, 1) := by decide +kernel
theorem dX7_get_24 : decode cX7_get 24 = .ok (.invokevirtual 282, 3) := by decide +kernel
theorem dX7_get_27 : decode cX7_get 27 = .ok (.istore 4, 2) := by decide +kernel
theorem dX7_get_29 : decode cX7_get 29 = .ok (.iload 4, 2) := by decide +kernel
theorem dX7_get_31 : decode cX7_get 31 = .ok (.ifCond .le 13, 3) := by decide +kernel
theorem dX7_get_34 : decode cX7_get 34 = .ok (.aload_n 0, 1) := by decide +kernel
theorem dX7_get_35 : decode cX7_get 35 = .ok (.iload 4, 2) := by decide +kernel
theorem dX7_get_37 : decode cX7_get 37 = .ok (.putfield 279, 3) := by decide +kernel
theorem dX7_get_40 : decode cX7_get 40 = .ok (.ldc_w 289, 3) := by decide +kernel
theorem dX7_get_43 : decode cX7_get 43 = .ok (.ireturn, 1) := by decide +kernel
theorem dX7_get_44 : decode cX7_get 44 = .ok (.aload_n 0, 1) := by decide +kernel
theorem dX7_get_45 : decode cX7_get 45 = .ok (.getfield 78, 3) := by decide +kernel
theorem dX7_get_48 : decode cX7_get 48 = .ok (.bipush 48, 2) := by decide +kernel
theorem dX7_get_50 : decode cX7_get 50 = .ok (.iload_n 1, 1) := by decide +kernel
theorem dX7_get_51 : decode cX7_get 51 = .ok (.imul, 1) := by decide +kernel
theorem dX7_get_52 : decode cX7_get 52 = .ok (.iload_n 3, 1) := by decide +kernel
theorem dX7_get_53 : decode cX7_get 53 = .ok (.iadd, 1) := by decide +kernel
theorem dX7_get_54 : decode cX7_get 54 = .ok (.iaload, 1) := by decide +kernel
theorem dX7_get_55 : decode cX7_get 55 = .ok (.ireturn, 1) := by decide +kernel
theorem dX7_copy_0 : decode cX7_copy 0 = .ok (.iload_n 1, 1) := by decide +kernel
theorem dX7_copy_1 : decode cX7_copy 1 = .ok (.invokestatic 134, 3) := by decide +kernel
theorem dX7_copy_4 : decode cX7_copy 4 = .ok (.ifCond .eq 10, 3) := by decide +kernel
theorem dX7_copy_7 : decode cX7_copy 7 = .ok (.iload_n 3, 1) := by decide +kernel
theorem dX7_copy_8 : decode cX7_copy 8 = .ok (.invokestatic 134, 3) := by decide +kernel
theorem dX7_copy_11 : decode cX7_copy 11 = .ok (.ifCond .ne 6, 3) := by decide +kernel
theorem dX7_copy_14 : decode cX7_copy 14 = .ok (.bipush (-2), 2) := by decide +kernel
theorem dX7_copy_16 : decode cX7_copy 16 = .ok (.ireturn, 1) := by decide +kernel
theorem dX7_copy_17 : decode cX7_copy 17 = .ok (.aload_n 0, 1) := by decide +kernel
theorem dX7_copy_18 : decode cX7_copy 18 = .ok (.getfield 68, 3) := by decide +kernel
theorem dX7_copy_21 : decode cX7_copy 21 = .ok (.iload_n 1, 1) := by decide +kernel
theorem dX7_copy_22 : decode cX7_copy 22 = .ok (.baload, 1) := by decide +kernel
theorem dX7_copy_23 : decode cX7_copy 23 = .ok (.ifCond .eq 12, 3) := by decide +kernel
theorem dX7_copy_26 : decode cX7_copy 26 = .ok (.aload_n 0, 1) := by decide +kernel
theorem dX7_copy_27 : decode cX7_copy 27 = .ok (.getfield 68, 3) := by decide +kernel
theorem dX7_copy_30 : decode cX7_copy 30 = .ok (.iload_n 3, 1) := by decide +kernel
theorem dX7_copy_31 : decode cX7_copy 31 = .ok (.baload, 1) := by decide +kernel
theorem dX7_copy_32 : decode cX7_copy 32 = .ok (.ifCond .ne 9, 3) := by decide +kernel
theorem dX7_copy_35 : decode cX7_copy 35 = .ok (.aload_n 0, 1) := by decide +kernel
theorem dX7_copy_36 : decode cX7_copy 36 = .ok (.iconst 1, 1) := by decide +kernel
theorem dX7_copy_37 : decode cX7_copy 37 = .ok (.invokevirtual 137, 3) := by decide +kernel
theorem dX7_copy_40 : decode cX7_copy 40 = .ok (.ireturn, 1) := by decide +kernel
theorem dX7_copy_41 : decode cX7_copy 41 = .ok (.aload_n 0, 1) := by decide +kernel
theorem dX7_copy_42 : decode cX7_copy 42 = .ok (.getfield 72, 3) := by decide +kernel
theorem dX7_copy_45 : decode cX7_copy 45 = .ok (.iload_n 1, 1) := by decide +kernel
theorem dX7_copy_46 : decode cX7_copy 46 = .ok (.iaload, 1) := by decide +kernel
theorem dX7_copy_47 : decode cX7_copy 47 = .ok (.aload_n 0, 1) := by decide +kernel
theorem dX7_copy_48 : decode cX7_copy 48 = .ok (.getfield 72, 3) := by decide +kernel
theorem dX7_copy_51 : decode cX7_copy 51 = .ok (.iload_n 3, 1) := by decide +kernel
theorem dX7_copy_52 : decode cX7_copy 52 = .ok (.iaload, 1) := by decide +kernel
theorem dX7_copy_53 : decode cX7_copy 53 = .ok (.if_icmp .eq 9, 3) := by decide +kernel
theorem dX7_copy_56 : decode cX7_copy 56 = .ok (.aload_n 0, 1) := by decide +kernel
theorem dX7_copy_57 : decode cX7_copy 57 = .ok (.iconst 4, 1) := by decide +kernel
theorem dX7_copy_58 : decode cX7_copy 58 = .ok (.invokevirtual 137, 3) := by decide +kernel
theorem dX7_copy_61 : decode cX7_copy 61 = .ok (.ireturn, 1) := by decide +kernel
theorem dX7_copy_62 : decode cX7_copy 62 = .ok (.iload_n 2, 1) := by decide +kernel
theorem dX7_copy_63 : decode cX7_copy 63 = .ok (.ifCond .lt 48, 3) := by decide +kernel
theorem dX7_copy_66 : decode cX7_copy 66 = .ok (.iload 4, 2) := by decide +kernel
theorem dX7_copy_68 : decode cX7_copy 68 = .ok (.ifCond .lt 43, 3) := by decide +kernel
theorem dX7_copy_71 : decode cX7_copy 71 = .ok (.iload 5, 2) := by decide +kernel
theorem dX7_copy_73 : decode cX7_copy 73 = .ok (.ifCond .lt 38, 3) := by decide +kernel
theorem dX7_copy_76 : decode cX7_copy 76 = .ok (.iload_n 2, 1) := by decide +kernel
theorem dX7_copy_77 : decode cX7_copy 77 = .ok (.i2l, 1) := by decide +kernel
theorem dX7_copy_78 : decode cX7_copy 78 = .ok (.iload 5, 2) := by decide +kernel
theorem dX7_copy_80 : decode cX7_copy 80 = .ok (.i2l, 1) := by decide +kernel
theorem dX7_copy_81 : decode cX7_copy 81 = .ok (.ladd, 1) := by decide +kernel
theorem dX7_copy_82 : decode cX7_copy 82 = .ok (.aload_n 0, 1) := by decide +kernel
theorem dX7_copy_83 : decode cX7_copy 83 = .ok (.getfield 75, 3) := by decide +kernel
theorem dX7_copy_86 : decode cX7_copy 86 = .ok (.iload_n 1, 1) := by decide +kernel
theorem dX7_copy_87 : decode cX7_copy 87 = .ok (.iaload, 1) := by decide +kernel
theorem dX7_copy_88 : decode cX7_copy 88 = .ok (.i2l, 1) := by decide +kernel
theorem dX7_copy_89 : decode cX7_copy 89 = .ok (.lcmp, 1) := by decide +kernel
theorem dX7_copy_90 : decode cX7_copy 90 = .ok (.ifCond .gt 21, 3) := by decide +kernel
theorem dX7_copy_93 : decode cX7_copy 93 = .ok (.iload 4, 2) := by decide +kernel
theorem dX7_copy_95 : decode cX7_copy 95 = .ok (.i2l, 1) := by decide +kernel
theorem dX7_copy_96 : decode cX7_copy 96 = .ok (.iload 5, 2) := by decide +kernel
theorem dX7_copy_98 : decode cX7_copy 98 = .ok (.i2l, 1) := by decide +kernel
theorem dX7_copy_99 : decode cX7_copy 99 = .ok (.ladd, 1) := by decide +kernel
theorem dX7_copy_100 : decode cX7_copy 100 = .ok (.aload_n 0, 1) := by decide +kernel
theorem dX7_copy_101 : decode cX7_copy 101 = .ok (.getfield 75, 3) := by decide +kernel
theorem dX7_copy_104 : decode cX7_copy 104 = .ok (.iload_n 3, 1) := by decide +kernel
theorem dX7_copy_105 : decode cX7_copy 105 = .ok (.iaload, 1) := by decide +kernel
theorem dX7_copy_106 : decode cX7_copy 106 = .ok (.i2l, 1) := by decide +kernel
theorem dX7_copy_107 : decode cX7_copy 107 = .ok (.lcmp, 1) := by decide +kernel
theorem dX7_copy_108 : decode cX7_copy 108 = .ok (.ifCond .le 9, 3) := by decide +kernel
theorem dX7_copy_111 : decode cX7_copy 111 = .ok (.aload_n 0, 1) := by decide +kernel
theorem dX7_copy_112 : decode cX7_copy 112 = .ok (.iconst 2, 1) := by decide +kernel
theorem dX7_copy_113 : decode cX7_copy 113 = .ok (.invokevirtual 137, 3) := by decide +kernel
theorem dX7_copy_116 : decode cX7_copy 116 = .ok (.ireturn, 1) := by decide +kernel
theorem dX7_copy_117 : decode cX7_copy 117 = .ok (.iconst 0, 1) := by decide +kernel
theorem dX7_copy_118 : decode cX7_copy 118 = .ok (.istore 6, 2) := by decide +kernel
theorem dX7_copy_120 : decode cX7_copy 120 = .ok (.iload 6, 2) := by decide +kernel
theorem dX7_copy_122 : decode cX7_copy 122 = .ok (.iload 5, 2) := by decide +kernel
theorem dX7_copy_124 : decode cX7_copy 124 = .ok (.if_icmp .ge 30, 3) := by decide +kernel
theorem dX7_copy_127 : decode cX7_copy 127 = .ok (.aload_n 0, 1) := by decide +kernel
theorem dX7_copy_128 : decode cX7_copy 128 = .ok (.getfield 81, 3) := by decide +kernel
theorem dX7_copy_131 : decode cX7_copy 131 = .ok (.iload 6, 2) := by decide +kernel
theorem dX7_copy_133 : decode cX7_copy 133 = .ok (.aload_n 0, 1) := by decide +kernel
theorem dX7_copy_134 : decode cX7_copy 134 = .ok (.getfield 78, 3) := by decide +kernel
theorem dX7_copy_137 : decode cX7_copy 137 = .ok (.bipush 48, 2) := by decide +kernel
theorem dX7_copy_139 : decode cX7_copy 139 = .ok (.iload_n 1, 1) := by decide +kernel
theorem dX7_copy_140 : decode cX7_copy 140 = .ok (.imul, 1) := by decide +kernel
theorem dX7_copy_141 : decode cX7_copy 141 = .ok (.iload_n 2, 1) := by decide +kernel
theorem dX7_copy_142 : decode cX7_copy 142 = .ok (.iadd, 1) := by decide +kernel
theorem dX7_copy_143 : decode cX7_copy 143 = .ok (.iload 6, 2) := by decide +kernel
theorem dX7_copy_145 : decode cX7_copy 145 = .ok (.iadd, 1) := by decide +kernel
theorem dX7_copy_146 : decode cX7_copy 146 = .ok (.iaload, 1) := by decide +kernel
theorem dX7_copy_147 : decode cX7_copy 147 = .ok (.iastore, 1) := by decide +kernel
theorem dX7_copy_148 : decode cX7_copy 148 = .ok (.iinc 6 1, 3) := by decide +kernel
theorem dX7_copy_151 : decode cX7_copy 151 = .ok (.goto (-31), 3) := by decide +kernel
theorem dX7_copy_154 : decode cX7_copy 154 = .ok (.iconst 0, 1) := by decide +kernel
theorem dX7_copy_155 : decode cX7_copy 155 = .ok (.istore 6, 2) := by decide +kernel
theorem dX7_copy_157 : decode cX7_copy 157 = .ok (.iload 6, 2) := by decide +kernel
theorem dX7_copy_159 : decode cX7_copy 159 = .ok (.iload 5, 2) := by decide +kernel
theorem dX7_copy_161 : decode cX7_copy 161 = .ok (.if_icmp .ge 31, 3) := by decide +kernel
theorem dX7_copy_164 : decode cX7_copy 164 = .ok (.aload_n 0, 1) := by decide +kernel
theorem dX7_copy_165 : decode cX7_copy 165 = .ok (.getfield 78, 3) := by decide +kernel
theorem dX7_copy_168 : decode cX7_copy 168 = .ok (.bipush 48, 2) := by decide +kernel
theorem dX7_copy_170 : decode cX7_copy 170 = .ok (.iload_n 3, 1) := by decide +kernel
theorem dX7_copy_171 : decode cX7_copy 171 = .ok (.imul, 1) := by decide +kernel
theorem dX7_copy_172 : decode cX7_copy 172 = .ok (.iload 4, 2) := by decide +kernel
theorem dX7_copy_174 : decode cX7_copy 174 = .ok (.iadd, 1) := by decide +kernel
theorem dX7_copy_175 : decode cX7_copy 175 = .ok (.iload 6, 2) := by decide +kernel
theorem dX7_copy_177 : decode cX7_copy 177 = .ok (.iadd, 1) := by decide +kernel
theorem dX7_copy_178 : decode cX7_copy 178 = .ok (.aload_n 0, 1) := by decide +kernel
theorem dX7_copy_179 : decode cX7_copy 179 = .ok (.getfield 81, 3) := by decide +kernel
theorem dX7_copy_182 : decode cX7_copy 182 = .ok (.iload 6, 2) := by decide +kernel
theorem dX7_copy_184 : decode cX7_copy 184 = .ok (.iaload, 1) := by decide +kernel
theorem dX7_copy_185 : decode cX7_copy 185 = .ok (.iastore, 1) := by decide +kernel
theorem dX7_copy_186 : decode cX7_copy 186 = .ok (.iinc 6 1, 3) := by decide +kernel
theorem dX7_copy_189 : decode cX7_copy 189 = .ok (.goto (-32), 3) := by decide +kernel
theorem dX7_copy_192 : decode cX7_copy 192 = .ok (.iconst 1, 1) := by decide +kernel
theorem dX7_copy_193 : decode cX7_copy 193 = .ok (.ireturn, 1) := by decide +kernel
theorem dX7_write_0 : decode cX7_write 0 = .ok (.iload_n 1, 1) := by decide +kernel
theorem dX7_write_1 : decode cX7_write 1 = .ok (.invokestatic 134, 3) := by decide +kernel
theorem dX7_write_4 : decode cX7_write 4 = .ok (.ifCond .ne 6, 3) := by decide +kernel
theorem dX7_write_7 : decode cX7_write 7 = .ok (.bipush (-2), 2) := by decide +kernel
theorem dX7_write_9 : decode cX7_write 9 = .ok (.ireturn, 1) := by decide +kernel
theorem dX7_write_10 : decode cX7_write 10 = .ok (.aload_n 0, 1) := by decide +kernel
theorem dX7_write_11 : decode cX7_write 11 = .ok (.getfield 68, 3) := by decide +kernel
theorem dX7_write_14 : decode cX7_write 14 = .ok (.iload_n 1, 1) := by decide +kernel
theorem dX7_write_15 : decode cX7_write 15 = .ok (.baload, 1) := by decide +kernel
theorem dX7_write_16 : decode cX7_write 16 = .ok (.ifCond .ne 9, 3) := by decide +kernel
theorem dX7_write_19 : decode cX7_write 19 = .ok (.aload_n 0, 1) := by decide +kernel
theorem dX7_write_20 : decode cX7_write 20 = .ok (.iconst 1, 1) := by decide +kernel
theorem dX7_write_21 : decode cX7_write 21 = .ok (.invokevirtual 137, 3) := by decide +kernel
theorem dX7_write_24 : decode cX7_write 24 = .ok (.ireturn, 1) := by decide +kernel
theorem dX7_write_25 : decode cX7_write 25 = .ok (.aload_n 0, 1) := by decide +kernel
theorem dX7_write_26 : decode cX7_write 26 = .ok (.iconst 0, 1) := by decide +kernel
theorem dX7_write_27 : decode cX7_write 27 = .ok (.invokevirtual 169, 3) := by decide +kernel
theorem dX7_write_30 : decode cX7_write 30 = .ok (.istore_n 2, 1) := by decide +kernel
theorem dX7_write_31 : decode cX7_write 31 = .ok (.iconst 0, 1) := by decide +kernel
theorem dX7_write_32 : decode cX7_write 32 = .ok (.istore_n 3, 1) := by decide +kernel
theorem dX7_write_33 : decode cX7_write 33 = .ok (.iload_n 3, 1) := by decide +kernel
theorem dX7_write_34 : decode cX7_write 34 = .ok (.aload_n 0, 1) := by decide +kernel
theorem dX7_write_35 : decode cX7_write 35 = .ok (.getfield 75, 3) := by decide +kernel
theorem dX7_write_38 : decode cX7_write 38 = .ok (.iload_n 1, 1) := by decide +kernel
theorem dX7_write_39 : decode cX7_write 39 = .ok (.iaload, 1) := by decide +kernel
theorem dX7_write_40 : decode cX7_write 40 = .ok (.if_icmp .ge 29, 3) := by decide +kernel
theorem dX7_write_43 : decode cX7_write 43 = .ok (.iload_n 3, 1) := by decide +kernel
theorem dX7_write_44 : decode cX7_write 44 = .ok (.aload_n 0, 1) := by decide +kernel
theorem dX7_write_45 : decode cX7_write 45 = .ok (.getfield 156, 3) := by decide +kernel
theorem dX7_write_48 : decode cX7_write 48 = .ok (.if_icmp .ge 21, 3) := by decide +kernel
theorem dX7_write_51 : decode cX7_write 51 = .ok (.aload_n 0, 1) := by decide +kernel
theorem dX7_write_52 : decode cX7_write 52 = .ok (.iload_n 1, 1) := by decide +kernel
theorem dX7_write_53 : decode cX7_write 53 = .ok (.iload_n 3, 1) := by decide +kernel
theorem dX7_write_54 : decode cX7_write 54 = .ok (.aload_n 0, 1) := by decide +kernel
theorem dX7_write_55 : decode cX7_write 55 = .ok (.getfield 40, 3) := by decide +kernel
theorem dX7_write_58 : decode cX7_write 58 = .ok (.iload_n 3, 1) := by decide +kernel
theorem dX7_write_59 : decode cX7_write 59 = .ok (.iaload, 1) := by decide +kernel
theorem dX7_write_60 : decode cX7_write 60 = .ok (.invokevirtual 285, 3) := by decide +kernel
theorem dX7_write_63 : decode cX7_write 63 = .ok (.iinc 3 1, 3) := by decide +kernel
theorem dX7_write_66 : decode cX7_write 66 = .ok (.goto (-33), 3) := by decide +kernel
theorem dX7_write_69 : decode cX7_write 69 = .ok (.iload_n 3, 1) := by decide +kernel
theorem dX7_write_70 : decode cX7_write 70 = .ok (.ireturn, 1) := by decide +kernel
theorem dX7_sumOf_0 : decode cX7_sumOf 0 = .ok (.aload_n 0, 1) := by decide +kernel
theorem dX7_sumOf_1 : decode cX7_sumOf 1 = .ok (.invokevirtual 149, 3) := by decide +kernel
theorem dX7_sumOf_4 : decode cX7_sumOf 4 = .ok (.iconst 0, 1) := by decide +kernel
theorem dX7_sumOf_5 : decode cX7_sumOf 5 = .ok (.istore_n 2, 1) := by decide +kernel
theorem dX7_sumOf_6 : decode cX7_sumOf 6 = .ok (.iconst 0, 1) := by decide +kernel
theorem dX7_sumOf_7 : decode cX7_sumOf 7 = .ok (.istore_n 3, 1) := by decide +kernel
theorem dX7_sumOf_8 : decode cX7_sumOf 8 = .ok (.iload_n 3, 1) := by decide +kernel
theorem dX7_sumOf_9 : decode cX7_sumOf 9 = .ok (.bipush 10, 2) := by decide +kernel
theorem dX7_sumOf_11 : decode cX7_sumOf 11 = .ok (.if_icmp .ge 26, 3) := by decide +kernel
theorem dX7_sumOf_14 : decode cX7_sumOf 14 = .ok (.iload_n 2, 1) := by decide +kernel
theorem dX7_sumOf_15 : decode cX7_sumOf 15 = .ok (.aload_n 0, 1) := by decide +kernel
theorem dX7_sumOf_16 : decode cX7_sumOf 16 = .ok (.getfield 34, 3) := by decide +kernel
theorem dX7_sumOf_19 : decode cX7_sumOf 19 = .ok (.iload_n 3, 1) := by decide +kernel
theorem dX7_sumOf_20 : decode cX7_sumOf 20 = .ok (.iaload, 1) := by decide +kernel
theorem dX7_sumOf_21 : decode cX7_sumOf 21 = .ok (.ifCond .le 7, 3) := by decide +kernel
theorem dX7_sumOf_24 : decode cX7_sumOf 24 = .ok (.iconst 1, 1) := by decide +kernel
theorem dX7_sumOf_25 : decode cX7_sumOf 25 = .ok (.goto 4, 3) := by decide +kernel
theorem dX7_sumOf_28 : decode cX7_sumOf 28 = .ok (.iconst 0, 1) := by decide +kernel
theorem dX7_sumOf_29 : decode cX7_sumOf 29 = .ok (.iadd, 1) := by decide +kernel
theorem dX7_sumOf_30 : decode cX7_sumOf 30 = .ok (.istore_n 2, 1) := by decide +kernel
theorem dX7_sumOf_31 : decode cX7_sumOf 31 = .ok (.iinc 3 1, 3) := by decide +kernel
theorem dX7_sumOf_34 : decode cX7_sumOf 34 = .ok (.goto (-26), 3) := by decide +kernel
theorem dX7_sumOf_37 : decode cX7_sumOf 37 = .ok (.iload_n 1, 1) := by decide +kernel
theorem dX7_sumOf_38 : decode cX7_sumOf 38 = .ok (.ifCond .ne 10, 3) := by decide +kernel
theorem dX7_sumOf_41 : decode cX7_sumOf 41 = .ok (.aload_n 0, 1) := by decide +kernel
theorem dX7_sumOf_42 : decode cX7_sumOf 42 = .ok (.getfield 118, 3) := by decide +kernel
theorem dX7_sumOf_45 : decode cX7_sumOf 45 = .ok (.goto 43, 3) := by decide +kernel
theorem dX7_sumOf_48 : decode cX7_sumOf 48 = .ok (.iload_n 1, 1) := by decide +kernel
theorem dX7_sumOf_49 : decode cX7_sumOf 49 = .ok (.iconst 1, 1) := by decide +kernel
theorem dX7_sumOf_50 : decode cX7_sumOf 50 = .ok (.if_icmp .ne 10, 3) := by decide +kernel
theorem dX7_sumOf_53 : decode cX7_sumOf 53 = .ok (.aload_n 0, 1) := by decide +kernel
theorem dX7_sumOf_54 : decode cX7_sumOf 54 = .ok (.getfield 124, 3) := by decide +kernel
theorem dX7_sumOf_57 : decode cX7_sumOf 57 = .ok (.goto 31, 3) := by decide +kernel
theorem dX7_sumOf_60 : decode cX7_sumOf 60 = .ok (.iload_n 1, 1) := by decide +kernel
theorem dX7_sumOf_61 : decode cX7_sumOf 61 = .ok (.iconst 2, 1) := by decide +kernel
theorem dX7_sumOf_62 : decode cX7_sumOf 62 = .ok (.if_icmp .ne 10, 3) := by decide +kernel
theorem dX7_sumOf_65 : decode cX7_sumOf 65 = .ok (.aload_n 0, 1) := by decide +kernel
theorem dX7_sumOf_66 : decode cX7_sumOf 66 = .ok (.getfield 127, 3) := by decide +kernel
theorem dX7_sumOf_69 : decode cX7_sumOf 69 = .ok (.goto 19, 3) := by decide +kernel
theorem dX7_sumOf_72 : decode cX7_sumOf 72 = .ok (.iload_n 1, 1) := by decide +kernel
theorem dX7_sumOf_73 : decode cX7_sumOf 73 = .ok (.iconst 3, 1) := by decide +kernel
theorem dX7_sumOf_74 : decode cX7_sumOf 74 = .ok (.if_icmp .ne 13, 3) := by decide +kernel
theorem dX7_sumOf_77 : decode cX7_sumOf 77 = .ok (.aload_n 0, 1) := by decide +kernel
theorem dX7_sumOf_78 : decode cX7_sumOf 78 = .ok (.getfield 143, 3) := by decide +kernel
theorem dX7_sumOf_81 : decode cX7_sumOf 81 = .ok (.invokestatic 229, 3) := by decide +kernel
theorem dX7_sumOf_84 : decode cX7_sumOf 84 = .ok (.goto 4, 3) := by decide +kernel
theorem dX7_sumOf_87 : decode cX7_sumOf 87 = .ok (.iload_n 2, 1) := by decide +kernel
theorem dX7_sumOf_88 : decode cX7_sumOf 88 = .ok (.ireturn, 1) := by decide +kernel
theorem dX7_count_0 : decode cX7_count 0 = .ok (.iload_n 1, 1) := by decide +kernel
theorem dX7_count_1 : decode cX7_count 1 = .ok (.tableswitch 77 0 8 #[51, 51, 51, 51, 51, 57, 62, 67, 72], 51) := by decide +kernel
theorem dX7_count_52 : decode cX7_count 52 = .ok (.aload_n 0, 1) := by decide +kernel
theorem dX7_count_53 : decode cX7_count 53 = .ok (.iload_n 1, 1) := by decide +kernel
theorem dX7_count_54 : decode cX7_count 54 = .ok (.invokevirtual 290, 3) := by decide +kernel
theorem dX7_count_57 : decode cX7_count 57 = .ok (.ireturn, 1) := by decide +kernel
theorem dX7_count_58 : decode cX7_count 58 = .ok (.aload_n 0, 1) := by decide +kernel
theorem dX7_count_59 : decode cX7_count 59 = .ok (.getfield 257, 3) := by decide +kernel
theorem dX7_count_62 : decode cX7_count 62 = .ok (.ireturn, 1) := by decide +kernel
theorem dX7_count_63 : decode cX7_count 63 = .ok (.aload_n 0, 1) := by decide +kernel
theorem dX7_count_64 : decode cX7_count 64 = .ok (.getfield 88, 3) := by decide +kernel
theorem dX7_count_67 : decode cX7_count 67 = .ok (.ireturn, 1) := by decide +kernel
theorem dX7_count_68 : decode cX7_count 68 = .ok (.aload_n 0, 1) := by decide +kernel
theorem dX7_count_69 : decode cX7_count 69 = .ok (.getfield 84, 3) := by decide +kernel
theorem dX7_count_72 : decode cX7_count 72 = .ok (.ireturn, 1) := by decide +kernel
theorem dX7_count_73 : decode cX7_count 73 = .ok (.aload_n 0, 1) := by decide +kernel
theorem dX7_count_74 : decode cX7_count 74 = .ok (.getfield 279, 3) := by decide +kernel
theorem dX7_count_77 : decode cX7_count 77 = .ok (.ireturn, 1) := by decide +kernel
theorem dX7_count_78 : decode cX7_count 78 = .ok (.bipush (-2), 2) := by decide +kernel
theorem dX7_count_80 : decode cX7_count 80 = .ok (.ireturn, 1) := by decide +kernel
theorem dX7_digest_0 : decode cX7_digest 0 = .ok (.ldc2_w 293, 3) := by decide +kernel
theorem dX7_digest_3 : decode cX7_digest 3 = .ok (.lstore_n 1, 1) := by decide +kernel
theorem dX7_digest_4 : decode cX7_digest 4 = .ok (.iconst 0, 1) := by decide +kernel
theorem dX7_digest_5 : decode cX7_digest 5 = .ok (.istore_n 3, 1) := by decide +kernel
theorem dX7_digest_6 : decode cX7_digest 6 = .ok (.iload_n 3, 1) := by decide +kernel
theorem dX7_digest_7 : decode cX7_digest 7 = .ok (.bipush 8, 2) := by decide +kernel
theorem dX7_digest_9 : decode cX7_digest 9 = .ok (.if_icmp .ge 22, 3) := by decide +kernel
theorem dX7_digest_12 : decode cX7_digest 12 = .ok (.ldc2_w 295, 3) := by decide +kernel
theorem dX7_digest_15 : decode cX7_digest 15 = .ok (.lload_n 1, 1) := by decide +kernel
theorem dX7_digest_16 : decode cX7_digest 16 = .ok (.lmul, 1) := by decide +kernel
theorem dX7_digest_17 : decode cX7_digest 17 = .ok (.aload_n 0, 1) := by decide +kernel
theorem dX7_digest_18 : decode cX7_digest 18 = .ok (.iload_n 3, 1) := by decide +kernel
theorem dX7_digest_19 : decode cX7_digest 19 = .ok (.invokevirtual 297, 3) := by decide +kernel
theorem dX7_digest_22 : decode cX7_digest 22 = .ok (.i2l, 1) := by decide +kernel
theorem dX7_digest_23 : decode cX7_digest 23 = .ok (.ladd, 1) := by decide +kernel
theorem dX7_digest_24 : decode cX7_digest 24 = .ok (.lstore_n 1, 1) := by decide +kernel
theorem dX7_digest_25 : decode cX7_digest 25 = .ok (.iinc 3 1, 3) := by decide +kernel
theorem dX7_digest_28 : decode cX7_digest 28 = .ok (.goto (-22), 3) := by decide +kernel
theorem dX7_digest_31 : decode cX7_digest 31 = .ok (.iconst 0, 1) := by decide +kernel
theorem dX7_digest_32 : decode cX7_digest 32 = .ok (.istore_n 3, 1) := by decide +kernel
theorem dX7_digest_33 : decode cX7_digest 33 = .ok (.iload_n 3, 1) := by decide +kernel
theorem dX7_digest_34 : decode cX7_digest 34 = .ok (.iconst 3, 1) := by decide +kernel
theorem dX7_digest_35 : decode cX7_digest 35 = .ok (.if_icmp .ge 22, 3) := by decide +kernel
theorem dX7_digest_38 : decode cX7_digest 38 = .ok (.ldc2_w 295, 3) := by decide +kernel
theorem dX7_digest_41 : decode cX7_digest 41 = .ok (.lload_n 1, 1) := by decide +kernel
theorem dX7_digest_42 : decode cX7_digest 42 = .ok (.lmul, 1) := by decide +kernel
theorem dX7_digest_43 : decode cX7_digest 43 = .ok (.aload_n 0, 1) := by decide +kernel
theorem dX7_digest_44 : decode cX7_digest 44 = .ok (.iload_n 3, 1) := by decide +kernel
theorem dX7_digest_45 : decode cX7_digest 45 = .ok (.invokevirtual 130, 3) := by decide +kernel
theorem dX7_digest_48 : decode cX7_digest 48 = .ok (.i2l, 1) := by decide +kernel
theorem dX7_digest_49 : decode cX7_digest 49 = .ok (.ladd, 1) := by decide +kernel
theorem dX7_digest_50 : decode cX7_digest 50 = .ok (.lstore_n 1, 1) := by decide +kernel
theorem dX7_digest_51 : decode cX7_digest 51 = .ok (.iinc 3 1, 3) := by decide +kernel
theorem dX7_digest_54 : decode cX7_digest 54 = .ok (.goto (-21), 3) := by decide +kernel
theorem dX7_digest_57 : decode cX7_digest 57 = .ok (.ldc2_w 295, 3) := by decide +kernel
theorem dX7_digest_60 : decode cX7_digest 60 = .ok (.lload_n 1, 1) := by decide +kernel
theorem dX7_digest_61 : decode cX7_digest 61 = .ok (.lmul, 1) := by decide +kernel
theorem dX7_digest_62 : decode cX7_digest 62 = .ok (.aload_n 0, 1) := by decide +kernel
theorem dX7_digest_63 : decode cX7_digest 63 = .ok (.invokevirtual 152, 3) := by decide +kernel
theorem dX7_digest_66 : decode cX7_digest 66 = .ok (.i2l, 1) := by decide +kernel
theorem dX7_digest_67 : decode cX7_digest 67 = .ok (.ladd, 1) := by decide +kernel
theorem dX7_digest_68 : decode cX7_digest 68 = .ok (.lstore_n 1, 1) := by decide +kernel
theorem dX7_digest_69 : decode cX7_digest 69 = .ok (.iconst 0, 1) := by decide +kernel
theorem dX7_digest_70 : decode cX7_digest 70 = .ok (.istore_n 3, 1) := by decide +kernel
theorem dX7_digest_71 : decode cX7_digest 71 = .ok (.iload_n 3, 1) := by decide +kernel
theorem dX7_digest_72 : decode cX7_digest 72 = .ok (.bipush 10, 2) := by decide +kernel
theorem dX7_digest_74 : decode cX7_digest 74 = .ok (.if_icmp .ge 61, 3) := by decide +kernel
theorem dX7_digest_77 : decode cX7_digest 77 = .ok (.ldc2_w 295, 3) := by decide +kernel
theorem dX7_digest_80 : decode cX7_digest 80 = .ok (.lload_n 1, 1) := by decide +kernel
theorem dX7_digest_81 : decode cX7_digest 81 = .ok (.lmul, 1) := by decide +kernel
theorem dX7_digest_82 : decode cX7_digest 82 = .ok (.aload_n 0, 1) := by decide +kernel
theorem dX7_digest_83 : decode cX7_digest 83 = .ok (.iload_n 3, 1) := by decide +kernel
theorem dX7_digest_84 : decode cX7_digest 84 = .ok (.invokevirtual 176, 3) := by decide +kernel
theorem dX7_digest_87 : decode cX7_digest 87 = .ok (.i2l, 1) := by decide +kernel
theorem dX7_digest_88 : decode cX7_digest 88 = .ok (.ladd, 1) := by decide +kernel
theorem dX7_digest_89 : decode cX7_digest 89 = .ok (.lstore_n 1, 1) := by decide +kernel
theorem dX7_digest_90 : decode cX7_digest 90 = .ok (.ldc2_w 295, 3) := by decide +kernel
theorem dX7_digest_93 : decode cX7_digest 93 = .ok (.lload_n 1, 1) := by decide +kernel
theorem dX7_digest_94 : decode cX7_digest 94 = .ok (.lmul, 1) := by decide +kernel
theorem dX7_digest_95 : decode cX7_digest 95 = .ok (.aload_n 0, 1) := by decide +kernel
theorem dX7_digest_96 : decode cX7_digest 96 = .ok (.iload_n 3, 1) := by decide +kernel
theorem dX7_digest_97 : decode cX7_digest 97 = .ok (.invokevirtual 185, 3) := by decide +kernel
theorem dX7_digest_100 : decode cX7_digest 100 = .ok (.i2l, 1) := by decide +kernel
theorem dX7_digest_101 : decode cX7_digest 101 = .ok (.ladd, 1) := by decide +kernel
theorem dX7_digest_102 : decode cX7_digest 102 = .ok (.lstore_n 1, 1) := by decide +kernel
theorem dX7_digest_103 : decode cX7_digest 103 = .ok (.ldc2_w 295, 3) := by decide +kernel
theorem dX7_digest_106 : decode cX7_digest 106 = .ok (.lload_n 1, 1) := by decide +kernel
theorem dX7_digest_107 : decode cX7_digest 107 = .ok (.lmul, 1) := by decide +kernel
theorem dX7_digest_108 : decode cX7_digest 108 = .ok (.aload_n 0, 1) := by decide +kernel
theorem dX7_digest_109 : decode cX7_digest 109 = .ok (.iload_n 3, 1) := by decide +kernel
theorem dX7_digest_110 : decode cX7_digest 110 = .ok (.invokevirtual 242, 3) := by decide +kernel
theorem dX7_digest_113 : decode cX7_digest 113 = .ok (.i2l, 1) := by decide +kernel
theorem dX7_digest_114 : decode cX7_digest 114 = .ok (.ladd, 1) := by decide +kernel
theorem dX7_digest_115 : decode cX7_digest 115 = .ok (.lstore_n 1, 1) := by decide +kernel
theorem dX7_digest_116 : decode cX7_digest 116 = .ok (.ldc2_w 295, 3) := by decide +kernel
theorem dX7_digest_119 : decode cX7_digest 119 = .ok (.lload_n 1, 1) := by decide +kernel
theorem dX7_digest_120 : decode cX7_digest 120 = .ok (.lmul, 1) := by decide +kernel
theorem dX7_digest_121 : decode cX7_digest 121 = .ok (.aload_n 0, 1) := by decide +kernel
theorem dX7_digest_122 : decode cX7_digest 122 = .ok (.iload_n 3, 1) := by decide +kernel
theorem dX7_digest_123 : decode cX7_digest 123 = .ok (.invokevirtual 300, 3) := by decide +kernel
theorem dX7_digest_126 : decode cX7_digest 126 = .ok (.i2l, 1) := by decide +kernel
theorem dX7_digest_127 : decode cX7_digest 127 = .ok (.ladd, 1) := by decide +kernel
theorem dX7_digest_128 : decode cX7_digest 128 = .ok (.lstore_n 1, 1) := by decide +kernel
theorem dX7_digest_129 : decode cX7_digest 129 = .ok (.iinc 3 1, 3) := by decide +kernel
theorem dX7_digest_132 : decode cX7_digest 132 = .ok (.goto (-61), 3) := by decide +kernel
theorem dX7_digest_135 : decode cX7_digest 135 = .ok (.ldc2_w 295, 3) := by decide +kernel
theorem dX7_digest_138 : decode cX7_digest 138 = .ok (.lload_n 1, 1) := by decide +kernel
theorem dX7_digest_139 : decode cX7_digest 139 = .ok (.lmul, 1) := by decide +kernel
theorem dX7_digest_140 : decode cX7_digest 140 = .ok (.aload_n 0, 1) := by decide +kernel
theorem dX7_digest_141 : decode cX7_digest 141 = .ok (.iconst (-1), 1) := by decide +kernel
theorem dX7_digest_142 : decode cX7_digest 142 = .ok (.invokevirtual 176, 3) := by decide +kernel
theorem dX7_digest_145 : decode cX7_digest 145 = .ok (.i2l, 1) := by decide +kernel
theorem dX7_digest_146 : decode cX7_digest 146 = .ok (.ladd, 1) := by decide +kernel
theorem dX7_digest_147 : decode cX7_digest 147 = .ok (.lstore_n 1, 1) := by decide +kernel
theorem dX7_digest_148 : decode cX7_digest 148 = .ok (.ldc2_w 295, 3) := by decide +kernel
theorem dX7_digest_151 : decode cX7_digest 151 = .ok (.lload_n 1, 1) := by decide +kernel
theorem dX7_digest_152 : decode cX7_digest 152 = .ok (.lmul, 1) := by decide +kernel
theorem dX7_digest_153 : decode cX7_digest 153 = .ok (.aload_n 0, 1) := by decide +kernel
theorem dX7_digest_154 : decode cX7_digest 154 = .ok (.iconst (-1), 1) := by decide +kernel
theorem dX7_digest_155 : decode cX7_digest 155 = .ok (.invokevirtual 185, 3) := by decide +kernel
theorem dX7_digest_158 : decode cX7_digest 158 = .ok (.i2l, 1) := by decide +kernel
theorem dX7_digest_159 : decode cX7_digest 159 = .ok (.ladd, 1) := by decide +kernel
theorem dX7_digest_160 : decode cX7_digest 160 = .ok (.lstore_n 1, 1) := by decide +kernel
theorem dX7_digest_161 : decode cX7_digest 161 = .ok (.iconst (-1), 1) := by decide +kernel
theorem dX7_digest_162 : decode cX7_digest 162 = .ok (.istore_n 3, 1) := by decide +kernel
theorem dX7_digest_163 : decode cX7_digest 163 = .ok (.iload_n 3, 1) := by decide +kernel
theorem dX7_digest_164 : decode cX7_digest 164 = .ok (.iconst 3, 1) := by decide +kernel
theorem dX7_digest_165 : decode cX7_digest 165 = .ok (.if_icmp .ge 22, 3) := by decide +kernel
theorem dX7_digest_168 : decode cX7_digest 168 = .ok (.ldc2_w 295, 3) := by decide +kernel
theorem dX7_digest_171 : decode cX7_digest 171 = .ok (.lload_n 1, 1) := by decide +kernel
theorem dX7_digest_172 : decode cX7_digest 172 = .ok (.lmul, 1) := by decide +kernel
theorem dX7_digest_173 : decode cX7_digest 173 = .ok (.aload_n 0, 1) := by decide +kernel
theorem dX7_digest_174 : decode cX7_digest 174 = .ok (.iload_n 3, 1) := by decide +kernel
theorem dX7_digest_175 : decode cX7_digest 175 = .ok (.invokevirtual 188, 3) := by decide +kernel
theorem dX7_digest_178 : decode cX7_digest 178 = .ok (.i2l, 1) := by decide +kernel
theorem dX7_digest_179 : decode cX7_digest 179 = .ok (.ladd, 1) := by decide +kernel
theorem dX7_digest_180 : decode cX7_digest 180 = .ok (.lstore_n 1, 1) := by decide +kernel
theorem dX7_digest_181 : decode cX7_digest 181 = .ok (.iinc 3 1, 3) := by decide +kernel
theorem dX7_digest_184 : decode cX7_digest 184 = .ok (.goto (-21), 3) := by decide +kernel
theorem dX7_digest_187 : decode cX7_digest 187 = .ok (.ldc2_w 295, 3) := by decide +kernel
theorem dX7_digest_190 : decode cX7_digest 190 = .ok (.lload_n 1, 1) := by decide +kernel
theorem dX7_digest_191 : decode cX7_digest 191 = .ok (.lmul, 1) := by decide +kernel
theorem dX7_digest_192 : decode cX7_digest 192 = .ok (.aload_n 0, 1) := by decide +kernel
theorem dX7_digest_193 : decode cX7_digest 193 = .ok (.iconst (-1), 1) := by decide +kernel
theorem dX7_digest_194 : decode cX7_digest 194 = .ok (.invokevirtual 242, 3) := by decide +kernel
theorem dX7_digest_197 : decode cX7_digest 197 = .ok (.i2l, 1) := by decide +kernel
theorem dX7_digest_198 : decode cX7_digest 198 = .ok (.ladd, 1) := by decide +kernel
theorem dX7_digest_199 : decode cX7_digest 199 = .ok (.lstore_n 1, 1) := by decide +kernel
theorem dX7_digest_200 : decode cX7_digest 200 = .ok (.ldc2_w 295, 3) := by decide +kernel
theorem dX7_digest_203 : decode cX7_digest 203 = .ok (.lload_n 1, 1) := by decide +kernel
theorem dX7_digest_204 : decode cX7_digest 204 = .ok (.lmul, 1) := by decide +kernel
theorem dX7_digest_205 : decode cX7_digest 205 = .ok (.aload_n 0, 1) := by decide +kernel
theorem dX7_digest_206 : decode cX7_digest 206 = .ok (.iconst (-1), 1) := by decide +kernel
theorem dX7_digest_207 : decode cX7_digest 207 = .ok (.invokevirtual 300, 3) := by decide +kernel
theorem dX7_digest_210 : decode cX7_digest 210 = .ok (.i2l, 1) := by decide +kernel
theorem dX7_digest_211 : decode cX7_digest 211 = .ok (.ladd, 1) := by decide +kernel
theorem dX7_digest_212 : decode cX7_digest 212 = .ok (.lstore_n 1, 1) := by decide +kernel
theorem dX7_digest_213 : decode cX7_digest 213 = .ok (.ldc2_w 295, 3) := by decide +kernel
theorem dX7_digest_216 : decode cX7_digest 216 = .ok (.lload_n 1, 1) := by decide +kernel
theorem dX7_digest_217 : decode cX7_digest 217 = .ok (.lmul, 1) := by decide +kernel
theorem dX7_digest_218 : decode cX7_digest 218 = .ok (.aload_n 0, 1) := by decide +kernel
theorem dX7_digest_219 : decode cX7_digest 219 = .ok (.invokevirtual 251, 3) := by decide +kernel
theorem dX7_digest_222 : decode cX7_digest 222 = .ok (.i2l, 1) := by decide +kernel
theorem dX7_digest_223 : decode cX7_digest 223 = .ok (.ladd, 1) := by decide +kernel
theorem dX7_digest_224 : decode cX7_digest 224 = .ok (.lstore_n 1, 1) := by decide +kernel
theorem dX7_digest_225 : decode cX7_digest 225 = .ok (.iconst (-1), 1) := by decide +kernel
theorem dX7_digest_226 : decode cX7_digest 226 = .ok (.istore_n 3, 1) := by decide +kernel
theorem dX7_digest_227 : decode cX7_digest 227 = .ok (.iload_n 3, 1) := by decide +kernel
theorem dX7_digest_228 : decode cX7_digest 228 = .ok (.iconst 2, 1) := by decide +kernel
theorem dX7_digest_229 : decode cX7_digest 229 = .ok (.if_icmp .ge 23, 3) := by decide +kernel
theorem dX7_digest_232 : decode cX7_digest 232 = .ok (.ldc2_w 295, 3) := by decide +kernel
theorem dX7_digest_235 : decode cX7_digest 235 = .ok (.lload_n 1, 1) := by decide +kernel
theorem dX7_digest_236 : decode cX7_digest 236 = .ok (.lmul, 1) := by decide +kernel
theorem dX7_digest_237 : decode cX7_digest 237 = .ok (.aload_n 0, 1) := by decide +kernel
theorem dX7_digest_238 : decode cX7_digest 238 = .ok (.iconst 2, 1) := by decide +kernel
theorem dX7_digest_239 : decode cX7_digest 239 = .ok (.iload_n 3, 1) := by decide +kernel
theorem dX7_digest_240 : decode cX7_digest 240 = .ok (.invokevirtual 197, 3) := by decide +kernel
theorem dX7_digest_243 : decode cX7_digest 243 = .ok (.i2l, 1) := by decide +kernel
theorem dX7_digest_244 : decode cX7_digest 244 = .ok (.ladd, 1) := by decide +kernel
theorem dX7_digest_245 : decode cX7_digest 245 = .ok (.lstore_n 1, 1) := by decide +kernel
theorem dX7_digest_246 : decode cX7_digest 246 = .ok (.iinc 3 1, 3) := by decide +kernel
theorem dX7_digest_249 : decode cX7_digest 249 = .ok (.goto (-22), 3) := by decide +kernel
theorem dX7_digest_252 : decode cX7_digest 252 = .ok (.iconst 0, 1) := by decide +kernel
theorem dX7_digest_253 : decode cX7_digest 253 = .ok (.istore_n 3, 1) := by decide +kernel
theorem dX7_digest_254 : decode cX7_digest 254 = .ok (.iload_n 3, 1) := by decide +kernel
theorem dX7_digest_255 : decode cX7_digest 255 = .ok (.iconst 4, 1) := by decide +kernel
theorem dX7_digest_256 : decode cX7_digest 256 = .ok (.if_icmp .ge 23, 3) := by decide +kernel
theorem dX7_digest_259 : decode cX7_digest 259 = .ok (.ldc2_w 295, 3) := by decide +kernel
theorem dX7_digest_262 : decode cX7_digest 262 = .ok (.lload_n 1, 1) := by decide +kernel
theorem dX7_digest_263 : decode cX7_digest 263 = .ok (.lmul, 1) := by decide +kernel
theorem dX7_digest_264 : decode cX7_digest 264 = .ok (.aload_n 0, 1) := by decide +kernel
theorem dX7_digest_265 : decode cX7_digest 265 = .ok (.iload_n 3, 1) := by decide +kernel
theorem dX7_digest_266 : decode cX7_digest 266 = .ok (.iconst 2, 1) := by decide +kernel
theorem dX7_digest_267 : decode cX7_digest 267 = .ok (.invokevirtual 206, 3) := by decide +kernel
theorem dX7_digest_270 : decode cX7_digest 270 = .ok (.i2l, 1) := by decide +kernel
theorem dX7_digest_271 : decode cX7_digest 271 = .ok (.ladd, 1) := by decide +kernel
theorem dX7_digest_272 : decode cX7_digest 272 = .ok (.lstore_n 1, 1) := by decide +kernel
theorem dX7_digest_273 : decode cX7_digest 273 = .ok (.iinc 3 1, 3) := by decide +kernel
theorem dX7_digest_276 : decode cX7_digest 276 = .ok (.goto (-22), 3) := by decide +kernel
theorem dX7_digest_279 : decode cX7_digest 279 = .ok (.ldc2_w 295, 3) := by decide +kernel
theorem dX7_digest_282 : decode cX7_digest 282 = .ok (.lload_n 1, 1) := by decide +kernel
theorem dX7_digest_283 : decode cX7_digest 283 = .ok (.lmul, 1) := by decide +kernel
theorem dX7_digest_284 : decode cX7_digest 284 = .ok (.aload_n 0, 1) := by decide +kernel
theorem dX7_digest_285 : decode cX7_digest 285 = .ok (.iconst 2, 1) := by decide +kernel
theorem dX7_digest_286 : decode cX7_digest 286 = .ok (.invokevirtual 209, 3) := by decide +kernel
theorem dX7_digest_289 : decode cX7_digest 289 = .ok (.i2l, 1) := by decide +kernel
theorem dX7_digest_290 : decode cX7_digest 290 = .ok (.ladd, 1) := by decide +kernel
theorem dX7_digest_291 : decode cX7_digest 291 = .ok (.lstore_n 1, 1) := by decide +kernel
theorem dX7_digest_292 : decode cX7_digest 292 = .ok (.ldc2_w 295, 3) := by decide +kernel
theorem dX7_digest_295 : decode cX7_digest 295 = .ok (.lload_n 1, 1) := by decide +kernel
theorem dX7_digest_296 : decode cX7_digest 296 = .ok (.lmul, 1) := by decide +kernel
theorem dX7_digest_297 : decode cX7_digest 297 = .ok (.aload_n 0, 1) := by decide +kernel
theorem dX7_digest_298 : decode cX7_digest 298 = .ok (.iconst 2, 1) := by decide +kernel
theorem dX7_digest_299 : decode cX7_digest 299 = .ok (.invokevirtual 212, 3) := by decide +kernel
theorem dX7_digest_302 : decode cX7_digest 302 = .ok (.i2l, 1) := by decide +kernel
theorem dX7_digest_303 : decode cX7_digest 303 = .ok (.ladd, 1) := by decide +kernel
theorem dX7_digest_304 : decode cX7_digest 304 = .ok (.lstore_n 1, 1) := by decide +kernel
theorem dX7_digest_305 : decode cX7_digest 305 = .ok (.ldc2_w 295, 3) := by decide +kernel
theorem dX7_digest_308 : decode cX7_digest 308 = .ok (.lload_n 1, 1) := by decide +kernel
theorem dX7_digest_309 : decode cX7_digest 309 = .ok (.lmul, 1) := by decide +kernel
theorem dX7_digest_310 : decode cX7_digest 310 = .ok (.aload_n 0, 1) := by decide +kernel
theorem dX7_digest_311 : decode cX7_digest 311 = .ok (.iconst 5, 1) := by decide +kernel
theorem dX7_digest_312 : decode cX7_digest 312 = .ok (.iconst 0, 1) := by decide +kernel
theorem dX7_digest_313 : decode cX7_digest 313 = .ok (.invokevirtual 221, 3) := by decide +kernel
theorem dX7_digest_316 : decode cX7_digest 316 = .ok (.ladd, 1) := by decide +kernel
theorem dX7_digest_317 : decode cX7_digest 317 = .ok (.lstore_n 1, 1) := by decide +kernel
theorem dX7_digest_318 : decode cX7_digest 318 = .ok (.ldc2_w 295, 3) := by decide +kernel
theorem dX7_digest_321 : decode cX7_digest 321 = .ok (.lload_n 1, 1) := by decide +kernel
theorem dX7_digest_322 : decode cX7_digest 322 = .ok (.lmul, 1) := by decide +kernel
theorem dX7_digest_323 : decode cX7_digest 323 = .ok (.aload_n 0, 1) := by decide +kernel
theorem dX7_digest_324 : decode cX7_digest 324 = .ok (.iconst 5, 1) := by decide +kernel
theorem dX7_digest_325 : decode cX7_digest 325 = .ok (.iconst 1, 1) := by decide +kernel
theorem dX7_digest_326 : decode cX7_digest 326 = .ok (.invokevirtual 221, 3) := by decide +kernel
theorem dX7_digest_329 : decode cX7_digest 329 = .ok (.ladd, 1) := by decide +kernel
theorem dX7_digest_330 : decode cX7_digest 330 = .ok (.lstore_n 1, 1) := by decide +kernel
theorem dX7_digest_331 : decode cX7_digest 331 = .ok (.ldc2_w 295, 3) := by decide +kernel
theorem dX7_digest_334 : decode cX7_digest 334 = .ok (.lload_n 1, 1) := by decide +kernel
theorem dX7_digest_335 : decode cX7_digest 335 = .ok (.lmul, 1) := by decide +kernel
theorem dX7_digest_336 : decode cX7_digest 336 = .ok (.aload_n 0, 1) := by decide +kernel
theorem dX7_digest_337 : decode cX7_digest 337 = .ok (.iconst (-1), 1) := by decide +kernel
theorem dX7_digest_338 : decode cX7_digest 338 = .ok (.iconst 0, 1) := by decide +kernel
theorem dX7_digest_339 : decode cX7_digest 339 = .ok (.invokevirtual 303, 3) := by decide +kernel
theorem dX7_digest_342 : decode cX7_digest 342 = .ok (.ladd, 1) := by decide +kernel
theorem dX7_digest_343 : decode cX7_digest 343 = .ok (.lstore_n 1, 1) := by decide +kernel
theorem dX7_digest_344 : decode cX7_digest 344 = .ok (.ldc2_w 295, 3) := by decide +kernel
theorem dX7_digest_347 : decode cX7_digest 347 = .ok (.lload_n 1, 1) := by decide +kernel
theorem dX7_digest_348 : decode cX7_digest 348 = .ok (.lmul, 1) := by decide +kernel
theorem dX7_digest_349 : decode cX7_digest 349 = .ok (.aload_n 0, 1) := by decide +kernel
theorem dX7_digest_350 : decode cX7_digest 350 = .ok (.iconst (-1), 1) := by decide +kernel
theorem dX7_digest_351 : decode cX7_digest 351 = .ok (.iconst 1, 1) := by decide +kernel
theorem dX7_digest_352 : decode cX7_digest 352 = .ok (.invokevirtual 303, 3) := by decide +kernel
theorem dX7_digest_355 : decode cX7_digest 355 = .ok (.ladd, 1) := by decide +kernel
theorem dX7_digest_356 : decode cX7_digest 356 = .ok (.lstore_n 1, 1) := by decide +kernel
theorem dX7_digest_357 : decode cX7_digest 357 = .ok (.ldc2_w 295, 3) := by decide +kernel
theorem dX7_digest_360 : decode cX7_digest 360 = .ok (.lload_n 1, 1) := by decide +kernel
theorem dX7_digest_361 : decode cX7_digest 361 = .ok (.lmul, 1) := by decide +kernel
theorem dX7_digest_362 : decode cX7_digest 362 = .ok (.aload_n 0, 1) := by decide +kernel
theorem dX7_digest_363 : decode cX7_digest 363 = .ok (.iconst 0, 1) := by decide +kernel
theorem dX7_digest_364 : decode cX7_digest 364 = .ok (.iconst 0, 1) := by decide +kernel
theorem dX7_digest_365 : decode cX7_digest 365 = .ok (.invokevirtual 303, 3) := by decide +kernel
theorem dX7_digest_368 : decode cX7_digest 368 = .ok (.ladd, 1) := by decide +kernel
theorem dX7_digest_369 : decode cX7_digest 369 = .ok (.lstore_n 1, 1) := by decide +kernel
theorem dX7_digest_370 : decode cX7_digest 370 = .ok (.ldc2_w 295, 3) := by decide +kernel
theorem dX7_digest_373 : decode cX7_digest 373 = .ok (.lload_n 1, 1) := by decide +kernel
theorem dX7_digest_374 : decode cX7_digest 374 = .ok (.lmul, 1) := by decide +kernel
theorem dX7_digest_375 : decode cX7_digest 375 = .ok (.aload_n 0, 1) := by decide +kernel
theorem dX7_digest_376 : decode cX7_digest 376 = .ok (.iconst 0, 1) := by decide +kernel
theorem dX7_digest_377 : decode cX7_digest 377 = .ok (.iconst 1, 1) := by decide +kernel
theorem dX7_digest_378 : decode cX7_digest 378 = .ok (.invokevirtual 303, 3) := by decide +kernel
theorem dX7_digest_381 : decode cX7_digest 381 = .ok (.ladd, 1) := by decide +kernel
theorem dX7_digest_382 : decode cX7_digest 382 = .ok (.lstore_n 1, 1) := by decide +kernel
theorem dX7_digest_383 : decode cX7_digest 383 = .ok (.ldc2_w 295, 3) := by decide +kernel
theorem dX7_digest_386 : decode cX7_digest 386 = .ok (.lload_n 1, 1) := by decide +kernel
theorem dX7_digest_387 : decode cX7_digest 387 = .ok (.lmul, 1) := by decide +kernel
theorem dX7_digest_388 : decode cX7_digest 388 = .ok (.aload_n 0, 1) := by decide +kernel
theorem dX7_digest_389 : decode cX7_digest 389 = .ok (.iconst 0, 1) := by decide +kernel
theorem dX7_digest_390 : decode cX7_digest 390 = .ok (.invokevirtual 254, 3) := by decide +kernel
theorem dX7_digest_393 : decode cX7_digest 393 = .ok (.ladd, 1) := by decide +kernel
theorem dX7_digest_394 : decode cX7_digest 394 = .ok (.lstore_n 1, 1) := by decide +kernel
theorem dX7_digest_395 : decode cX7_digest 395 = .ok (.ldc2_w 295, 3) := by decide +kernel
theorem dX7_digest_398 : decode cX7_digest 398 = .ok (.lload_n 1, 1) := by decide +kernel
theorem dX7_digest_399 : decode cX7_digest 399 = .ok (.lmul, 1) := by decide +kernel
theorem dX7_digest_400 : decode cX7_digest 400 = .ok (.aload_n 0, 1) := by decide +kernel
theorem dX7_digest_401 : decode cX7_digest 401 = .ok (.iconst 1, 1) := by decide +kernel
theorem dX7_digest_402 : decode cX7_digest 402 = .ok (.invokevirtual 254, 3) := by decide +kernel
theorem dX7_digest_405 : decode cX7_digest 405 = .ok (.ladd, 1) := by decide +kernel
theorem dX7_digest_406 : decode cX7_digest 406 = .ok (.lstore_n 1, 1) := by decide +kernel
theorem dX7_digest_407 : decode cX7_digest 407 = .ok (.ldc2_w 295, 3) := by decide +kernel
theorem dX7_digest_410 : decode cX7_digest 410 = .ok (.lload_n 1, 1) := by decide +kernel
theorem dX7_digest_411 : decode cX7_digest 411 = .ok (.lmul, 1) := by decide +kernel
theorem dX7_digest_412 : decode cX7_digest 412 = .ok (.aload_n 0, 1) := by decide +kernel
theorem dX7_digest_413 : decode cX7_digest 413 = .ok (.iconst 1, 1) := by decide +kernel
theorem dX7_digest_414 : decode cX7_digest 414 = .ok (.invokevirtual 263, 3) := by decide +kernel
theorem dX7_digest_417 : decode cX7_digest 417 = .ok (.ladd, 1) := by decide +kernel
theorem dX7_digest_418 : decode cX7_digest 418 = .ok (.lstore_n 1, 1) := by decide +kernel
theorem dX7_digest_419 : decode cX7_digest 419 = .ok (.ldc2_w 295, 3) := by decide +kernel
theorem dX7_digest_422 : decode cX7_digest 422 = .ok (.lload_n 1, 1) := by decide +kernel
theorem dX7_digest_423 : decode cX7_digest 423 = .ok (.lmul, 1) := by decide +kernel
theorem dX7_digest_424 : decode cX7_digest 424 = .ok (.aload_n 0, 1) := by decide +kernel
theorem dX7_digest_425 : decode cX7_digest 425 = .ok (.iconst 1, 1) := by decide +kernel
theorem dX7_digest_426 : decode cX7_digest 426 = .ok (.invokevirtual 269, 3) := by decide +kernel
theorem dX7_digest_429 : decode cX7_digest 429 = .ok (.i2l, 1) := by decide +kernel
theorem dX7_digest_430 : decode cX7_digest 430 = .ok (.ladd, 1) := by decide +kernel
theorem dX7_digest_431 : decode cX7_digest 431 = .ok (.lstore_n 1, 1) := by decide +kernel
theorem dX7_digest_432 : decode cX7_digest 432 = .ok (.ldc2_w 295, 3) := by decide +kernel
theorem dX7_digest_435 : decode cX7_digest 435 = .ok (.lload_n 1, 1) := by decide +kernel
theorem dX7_digest_436 : decode cX7_digest 436 = .ok (.lmul, 1) := by decide +kernel
theorem dX7_digest_437 : decode cX7_digest 437 = .ok (.aload_n 0, 1) := by decide +kernel
theorem dX7_digest_438 : decode cX7_digest 438 = .ok (.bipush 7, 2) := by decide +kernel
theorem dX7_digest_440 : decode cX7_digest 440 = .ok (.iconst 3, 1) := by decide +kernel
theorem dX7_digest_441 : decode cX7_digest 441 = .ok (.invokevirtual 276, 3) := by decide +kernel
theorem dX7_digest_444 : decode cX7_digest 444 = .ok (.ladd, 1) := by decide +kernel
theorem dX7_digest_445 : decode cX7_digest 445 = .ok (.lreturn, 1) := by decide +kernel
