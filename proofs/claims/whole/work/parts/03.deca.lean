theorem dX0_init_0 : decode cX0_init 0 = .ok (.aload_n 0, 1) := by decide +kernel
theorem dX0_init_1 : decode cX0_init 1 = .ok (.invokespecial 3, 3) := by decide +kernel
theorem dX0_init_4 : decode cX0_init 4 = .ok (.aload_n 0, 1) := by decide +kernel
theorem dX0_init_5 : decode cX0_init 5 = .ok (.bipush 10, 2) := by decide +kernel
theorem dX0_init_7 : decode cX0_init 7 = .ok (.newarray .int, 2) := by decide +kernel
theorem dX0_init_9 : decode cX0_init 9 = .ok (.putfield 9, 3) := by decide +kernel
theorem dX0_init_12 : decode cX0_init 12 = .ok (.aload_n 0, 1) := by decide +kernel
theorem dX0_init_13 : decode cX0_init 13 = .ok (.bipush 10, 2) := by decide +kernel
theorem dX0_init_15 : decode cX0_init 15 = .ok (.newarray .int, 2) := by decide +kernel
theorem dX0_init_17 : decode cX0_init 17 = .ok (.putfield 15, 3) := by decide +kernel
theorem dX0_init_20 : decode cX0_init 20 = .ok (.aload_n 0, 1) := by decide +kernel
theorem dX0_init_21 : decode cX0_init 21 = .ok (.bipush 10, 2) := by decide +kernel
theorem dX0_init_23 : decode cX0_init 23 = .ok (.newarray .int, 2) := by decide +kernel
theorem dX0_init_25 : decode cX0_init 25 = .ok (.putfield 18, 3) := by decide +kernel
theorem dX0_init_28 : decode cX0_init 28 = .ok (.aload_n 0, 1) := by decide +kernel
theorem dX0_init_29 : decode cX0_init 29 = .ok (.bipush 7, 2) := by decide +kernel
theorem dX0_init_31 : decode cX0_init 31 = .ok (.newarray .int, 2) := by decide +kernel
theorem dX0_init_33 : decode cX0_init 33 = .ok (.putfield 21, 3) := by decide +kernel
theorem dX0_init_36 : decode cX0_init 36 = .ok (.aload_n 0, 1) := by decide +kernel
theorem dX0_init_37 : decode cX0_init 37 = .ok (.bipush 10, 2) := by decide +kernel
theorem dX0_init_39 : decode cX0_init 39 = .ok (.newarray .int, 2) := by decide +kernel
theorem dX0_init_41 : decode cX0_init 41 = .ok (.putfield 24, 3) := by decide +kernel
theorem dX0_init_44 : decode cX0_init 44 = .ok (.aload_n 0, 1) := by decide +kernel
theorem dX0_init_45 : decode cX0_init 45 = .ok (.bipush 10, 2) := by decide +kernel
theorem dX0_init_47 : decode cX0_init 47 = .ok (.newarray .int, 2) := by decide +kernel
theorem dX0_init_49 : decode cX0_init 49 = .ok (.putfield 27, 3) := by decide +kernel
theorem dX0_init_52 : decode cX0_init 52 = .ok (.aload_n 0, 1) := by decide +kernel
theorem dX0_init_53 : decode cX0_init 53 = .ok (.bipush 10, 2) := by decide +kernel
theorem dX0_init_55 : decode cX0_init 55 = .ok (.newarray .int, 2) := by decide +kernel
theorem dX0_init_57 : decode cX0_init 57 = .ok (.putfield 30, 3) := by decide +kernel
theorem dX0_init_60 : decode cX0_init 60 = .ok (.aload_n 0, 1) := by decide +kernel
theorem dX0_init_61 : decode cX0_init 61 = .ok (.bipush 10, 2) := by decide +kernel
theorem dX0_init_63 : decode cX0_init 63 = .ok (.newarray .int, 2) := by decide +kernel
theorem dX0_init_65 : decode cX0_init 65 = .ok (.putfield 33, 3) := by decide +kernel
theorem dX0_init_68 : decode cX0_init 68 = .ok (.return_, 1) := by decide +kernel
theorem dX0_order_0 : decode cX0_order 0 = .ok (.aload_n 0, 1) := by decide +kernel
theorem dX0_order_1 : decode cX0_order 1 = .ok (.aload_n 1, 1) := by decide +kernel
theorem dX0_order_2 : decode cX0_order 2 = .ok (.getfield 36, 3) := by decide +kernel
theorem dX0_order_5 : decode cX0_order 5 = .ok (.putfield 42, 3) := by decide +kernel
theorem dX0_order_8 : decode cX0_order 8 = .ok (.aload_n 2, 1) := by decide +kernel
theorem dX0_order_9 : decode cX0_order 9 = .ok (.getfield 36, 3) := by decide +kernel
theorem dX0_order_12 : decode cX0_order 12 = .ok (.istore_n 3, 1) := by decide +kernel
theorem dX0_order_13 : decode cX0_order 13 = .ok (.iconst 0, 1) := by decide +kernel
theorem dX0_order_14 : decode cX0_order 14 = .ok (.istore 4, 2) := by decide +kernel
theorem dX0_order_16 : decode cX0_order 16 = .ok (.iload 4, 2) := by decide +kernel
theorem dX0_order_18 : decode cX0_order 18 = .ok (.bipush 10, 2) := by decide +kernel
theorem dX0_order_20 : decode cX0_order 20 = .ok (.if_icmp .ge 66, 3) := by decide +kernel
theorem dX0_order_23 : decode cX0_order 23 = .ok (.aload_n 1, 1) := by decide +kernel
theorem dX0_order_24 : decode cX0_order 24 = .ok (.iload 4, 2) := by decide +kernel
theorem dX0_order_26 : decode cX0_order 26 = .ok (.invokevirtual 45, 3) := by decide +kernel
theorem dX0_order_29 : decode cX0_order 29 = .ok (.istore 5, 2) := by decide +kernel
theorem dX0_order_31 : decode cX0_order 31 = .ok (.aload_n 2, 1) := by decide +kernel
theorem dX0_order_32 : decode cX0_order 32 = .ok (.iload 4, 2) := by decide +kernel
theorem dX0_order_34 : decode cX0_order 34 = .ok (.invokevirtual 45, 3) := by decide +kernel
theorem dX0_order_37 : decode cX0_order 37 = .ok (.istore 6, 2) := by decide +kernel
theorem dX0_order_39 : decode cX0_order 39 = .ok (.iload 5, 2) := by decide +kernel
theorem dX0_order_41 : decode cX0_order 41 = .ok (.iconst (-1), 1) := by decide +kernel
theorem dX0_order_42 : decode cX0_order 42 = .ok (.if_icmp .eq 21, 3) := by decide +kernel
theorem dX0_order_45 : decode cX0_order 45 = .ok (.iload 6, 2) := by decide +kernel
theorem dX0_order_47 : decode cX0_order 47 = .ok (.iconst (-1), 1) := by decide +kernel
theorem dX0_order_48 : decode cX0_order 48 = .ok (.if_icmp .eq 15, 3) := by decide +kernel
theorem dX0_order_51 : decode cX0_order 51 = .ok (.aload_n 0, 1) := by decide +kernel
theorem dX0_order_52 : decode cX0_order 52 = .ok (.getfield 9, 3) := by decide +kernel
theorem dX0_order_55 : decode cX0_order 55 = .ok (.iload 5, 2) := by decide +kernel
theorem dX0_order_57 : decode cX0_order 57 = .ok (.iload 6, 2) := by decide +kernel
theorem dX0_order_59 : decode cX0_order 59 = .ok (.iastore, 1) := by decide +kernel
theorem dX0_order_60 : decode cX0_order 60 = .ok (.goto 20, 3) := by decide +kernel
theorem dX0_order_63 : decode cX0_order 63 = .ok (.iload 5, 2) := by decide +kernel
theorem dX0_order_65 : decode cX0_order 65 = .ok (.iconst (-1), 1) := by decide +kernel
theorem dX0_order_66 : decode cX0_order 66 = .ok (.if_icmp .eq 14, 3) := by decide +kernel
theorem dX0_order_69 : decode cX0_order 69 = .ok (.aload_n 0, 1) := by decide +kernel
theorem dX0_order_70 : decode cX0_order 70 = .ok (.getfield 9, 3) := by decide +kernel
theorem dX0_order_73 : decode cX0_order 73 = .ok (.iload 5, 2) := by decide +kernel
theorem dX0_order_75 : decode cX0_order 75 = .ok (.iload_n 3, 1) := by decide +kernel
theorem dX0_order_76 : decode cX0_order 76 = .ok (.iastore, 1) := by decide +kernel
theorem dX0_order_77 : decode cX0_order 77 = .ok (.iinc 3 1, 3) := by decide +kernel
theorem dX0_order_80 : decode cX0_order 80 = .ok (.iinc 4 1, 3) := by decide +kernel
theorem dX0_order_83 : decode cX0_order 83 = .ok (.goto (-67), 3) := by decide +kernel
theorem dX0_order_86 : decode cX0_order 86 = .ok (.iconst 0, 1) := by decide +kernel
theorem dX0_order_87 : decode cX0_order 87 = .ok (.istore 4, 2) := by decide +kernel
theorem dX0_order_89 : decode cX0_order 89 = .ok (.iload 4, 2) := by decide +kernel
theorem dX0_order_91 : decode cX0_order 91 = .ok (.aload_n 0, 1) := by decide +kernel
theorem dX0_order_92 : decode cX0_order 92 = .ok (.getfield 42, 3) := by decide +kernel
theorem dX0_order_95 : decode cX0_order 95 = .ok (.if_icmp .ge 65, 3) := by decide +kernel
theorem dX0_order_98 : decode cX0_order 98 = .ok (.aload_n 0, 1) := by decide +kernel
theorem dX0_order_99 : decode cX0_order 99 = .ok (.getfield 15, 3) := by decide +kernel
theorem dX0_order_102 : decode cX0_order 102 = .ok (.iload 4, 2) := by decide +kernel
theorem dX0_order_104 : decode cX0_order 104 = .ok (.iconst 0, 1) := by decide +kernel
theorem dX0_order_105 : decode cX0_order 105 = .ok (.iastore, 1) := by decide +kernel
theorem dX0_order_106 : decode cX0_order 106 = .ok (.iconst 0, 1) := by decide +kernel
theorem dX0_order_107 : decode cX0_order 107 = .ok (.istore 5, 2) := by decide +kernel
theorem dX0_order_109 : decode cX0_order 109 = .ok (.iload 5, 2) := by decide +kernel
theorem dX0_order_111 : decode cX0_order 111 = .ok (.iload 4, 2) := by decide +kernel
theorem dX0_order_113 : decode cX0_order 113 = .ok (.if_icmp .ge 41, 3) := by decide +kernel
theorem dX0_order_116 : decode cX0_order 116 = .ok (.aload_n 0, 1) := by decide +kernel
theorem dX0_order_117 : decode cX0_order 117 = .ok (.getfield 9, 3) := by decide +kernel
theorem dX0_order_120 : decode cX0_order 120 = .ok (.iload 5, 2) := by decide +kernel
theorem dX0_order_122 : decode cX0_order 122 = .ok (.iaload, 1) := by decide +kernel
theorem dX0_order_123 : decode cX0_order 123 = .ok (.aload_n 0, 1) := by decide +kernel
theorem dX0_order_124 : decode cX0_order 124 = .ok (.getfield 9, 3) := by decide +kernel
theorem dX0_order_127 : decode cX0_order 127 = .ok (.iload 4, 2) := by decide +kernel
theorem dX0_order_129 : decode cX0_order 129 = .ok (.iaload, 1) := by decide +kernel
theorem dX0_order_130 : decode cX0_order 130 = .ok (.if_icmp .ge 18, 3) := by decide +kernel
theorem dX0_order_133 : decode cX0_order 133 = .ok (.aload_n 0, 1) := by decide +kernel
theorem dX0_order_134 : decode cX0_order 134 = .ok (.getfield 15, 3) := by decide +kernel
theorem dX0_order_137 : decode cX0_order 137 = .ok (.iload 4, 2) := by decide +kernel
theorem dX0_order_139 : decode cX0_order 139 = .ok (.dup2, 1) := by decide +kernel
theorem dX0_order_140 : decode cX0_order 140 = .ok (.iaload, 1) := by decide +kernel
theorem dX0_order_141 : decode cX0_order 141 = .ok (.iload 5, 2) := by decide +kernel
theorem dX0_order_143 : decode cX0_order 143 = .ok (.invokestatic 49, 3) := by decide +kernel
theorem dX0_order_146 : decode cX0_order 146 = .ok (.ior, 1) := by decide +kernel
theorem dX0_order_147 : decode cX0_order 147 = .ok (.iastore, 1) := by decide +kernel
theorem dX0_order_148 : decode cX0_order 148 = .ok (.iinc 5 1, 3) := by decide +kernel
theorem dX0_order_151 : decode cX0_order 151 = .ok (.goto (-42), 3) := by decide +kernel
theorem dX0_order_154 : decode cX0_order 154 = .ok (.iinc 4 1, 3) := by decide +kernel
theorem dX0_order_157 : decode cX0_order 157 = .ok (.goto (-68), 3) := by decide +kernel
theorem dX0_order_160 : decode cX0_order 160 = .ok (.return_, 1) := by decide +kernel
theorem dX0_firstOnes_0 : decode cX0_firstOnes 0 = .ok (.aload_n 0, 1) := by decide +kernel
theorem dX0_firstOnes_1 : decode cX0_firstOnes 1 = .ok (.getfield 42, 3) := by decide +kernel
theorem dX0_firstOnes_4 : decode cX0_firstOnes 4 = .ok (.bipush 7, 2) := by decide +kernel
theorem dX0_firstOnes_6 : decode cX0_firstOnes 6 = .ok (.invokestatic 52, 3) := by decide +kernel
theorem dX0_firstOnes_9 : decode cX0_firstOnes 9 = .ok (.ireturn, 1) := by decide +kernel
theorem dX0_layByRule_0 : decode cX0_layByRule 0 = .ok (.aload_n 0, 1) := by decide +kernel
theorem dX0_layByRule_1 : decode cX0_layByRule 1 = .ok (.invokevirtual 58, 3) := by decide +kernel
theorem dX0_layByRule_4 : decode cX0_layByRule 4 = .ok (.iconst 0, 1) := by decide +kernel
theorem dX0_layByRule_5 : decode cX0_layByRule 5 = .ok (.istore 4, 2) := by decide +kernel
theorem dX0_layByRule_7 : decode cX0_layByRule 7 = .ok (.iconst 0, 1) := by decide +kernel
theorem dX0_layByRule_8 : decode cX0_layByRule 8 = .ok (.istore 5, 2) := by decide +kernel
theorem dX0_layByRule_10 : decode cX0_layByRule 10 = .ok (.iload 5, 2) := by decide +kernel
theorem dX0_layByRule_12 : decode cX0_layByRule 12 = .ok (.iload_n 3, 1) := by decide +kernel
theorem dX0_layByRule_13 : decode cX0_layByRule 13 = .ok (.if_icmp .ge 115, 3) := by decide +kernel
theorem dX0_layByRule_16 : decode cX0_layByRule 16 = .ok (.iconst 0, 1) := by decide +kernel
theorem dX0_layByRule_17 : decode cX0_layByRule 17 = .ok (.istore 6, 2) := by decide +kernel
theorem dX0_layByRule_19 : decode cX0_layByRule 19 = .ok (.iload_n 1, 1) := by decide +kernel
theorem dX0_layByRule_20 : decode cX0_layByRule 20 = .ok (.iconst 1, 1) := by decide +kernel
theorem dX0_layByRule_21 : decode cX0_layByRule 21 = .ok (.if_icmp .ne 16, 3) := by decide +kernel
theorem dX0_layByRule_24 : decode cX0_layByRule 24 = .ok (.iload_n 2, 1) := by decide +kernel
theorem dX0_layByRule_25 : decode cX0_layByRule 25 = .ok (.ifCond .le 12, 3) := by decide +kernel
theorem dX0_layByRule_28 : decode cX0_layByRule 28 = .ok (.iload 5, 2) := by decide +kernel
theorem dX0_layByRule_30 : decode cX0_layByRule 30 = .ok (.iload_n 2, 1) := by decide +kernel
theorem dX0_layByRule_31 : decode cX0_layByRule 31 = .ok (.irem, 1) := by decide +kernel
theorem dX0_layByRule_32 : decode cX0_layByRule 32 = .ok (.istore 6, 2) := by decide +kernel
theorem dX0_layByRule_34 : decode cX0_layByRule 34 = .ok (.goto 37, 3) := by decide +kernel
theorem dX0_layByRule_37 : decode cX0_layByRule 37 = .ok (.iload_n 1, 1) := by decide +kernel
theorem dX0_layByRule_38 : decode cX0_layByRule 38 = .ok (.iconst 2, 1) := by decide +kernel
theorem dX0_layByRule_39 : decode cX0_layByRule 39 = .ok (.if_icmp .ne 13, 3) := by decide +kernel
theorem dX0_layByRule_42 : decode cX0_layByRule 42 = .ok (.aload_n 0, 1) := by decide +kernel
theorem dX0_layByRule_43 : decode cX0_layByRule 43 = .ok (.iload_n 2, 1) := by decide +kernel
theorem dX0_layByRule_44 : decode cX0_layByRule 44 = .ok (.invokevirtual 61, 3) := by decide +kernel
theorem dX0_layByRule_47 : decode cX0_layByRule 47 = .ok (.istore 6, 2) := by decide +kernel
theorem dX0_layByRule_49 : decode cX0_layByRule 49 = .ok (.goto 22, 3) := by decide +kernel
theorem dX0_layByRule_52 : decode cX0_layByRule 52 = .ok (.iload_n 1, 1) := by decide +kernel
theorem dX0_layByRule_53 : decode cX0_layByRule 53 = .ok (.iconst 3, 1) := by decide +kernel
theorem dX0_layByRule_54 : decode cX0_layByRule 54 = .ok (.if_icmp .ne 17, 3) := by decide +kernel
theorem dX0_layByRule_57 : decode cX0_layByRule 57 = .ok (.aload_n 0, 1) := by decide +kernel
theorem dX0_layByRule_58 : decode cX0_layByRule 58 = .ok (.iload_n 2, 1) := by decide +kernel
theorem dX0_layByRule_59 : decode cX0_layByRule 59 = .ok (.aload_n 0, 1) := by decide +kernel
theorem dX0_layByRule_60 : decode cX0_layByRule 60 = .ok (.getfield 9, 3) := by decide +kernel
theorem dX0_layByRule_63 : decode cX0_layByRule 63 = .ok (.iload 5, 2) := by decide +kernel
theorem dX0_layByRule_65 : decode cX0_layByRule 65 = .ok (.iaload, 1) := by decide +kernel
theorem dX0_layByRule_66 : decode cX0_layByRule 66 = .ok (.invokevirtual 64, 3) := by decide +kernel
theorem dX0_layByRule_69 : decode cX0_layByRule 69 = .ok (.istore 6, 2) := by decide +kernel
theorem dX0_layByRule_71 : decode cX0_layByRule 71 = .ok (.iload 4, 2) := by decide +kernel
theorem dX0_layByRule_73 : decode cX0_layByRule 73 = .ok (.aload_n 0, 1) := by decide +kernel
theorem dX0_layByRule_74 : decode cX0_layByRule 74 = .ok (.iload 5, 2) := by decide +kernel
theorem dX0_layByRule_76 : decode cX0_layByRule 76 = .ok (.iload 6, 2) := by decide +kernel
theorem dX0_layByRule_78 : decode cX0_layByRule 78 = .ok (.invokevirtual 67, 3) := by decide +kernel
theorem dX0_layByRule_81 : decode cX0_layByRule 81 = .ok (.iadd, 1) := by decide +kernel
theorem dX0_layByRule_82 : decode cX0_layByRule 82 = .ok (.istore 4, 2) := by decide +kernel
theorem dX0_layByRule_84 : decode cX0_layByRule 84 = .ok (.aload_n 0, 1) := by decide +kernel
theorem dX0_layByRule_85 : decode cX0_layByRule 85 = .ok (.getfield 27, 3) := by decide +kernel
theorem dX0_layByRule_88 : decode cX0_layByRule 88 = .ok (.iload 6, 2) := by decide +kernel
theorem dX0_layByRule_90 : decode cX0_layByRule 90 = .ok (.dup2, 1) := by decide +kernel
theorem dX0_layByRule_91 : decode cX0_layByRule 91 = .ok (.iaload, 1) := by decide +kernel
theorem dX0_layByRule_92 : decode cX0_layByRule 92 = .ok (.iload 5, 2) := by decide +kernel
theorem dX0_layByRule_94 : decode cX0_layByRule 94 = .ok (.invokestatic 49, 3) := by decide +kernel
theorem dX0_layByRule_97 : decode cX0_layByRule 97 = .ok (.ior, 1) := by decide +kernel
theorem dX0_layByRule_98 : decode cX0_layByRule 98 = .ok (.iastore, 1) := by decide +kernel
theorem dX0_layByRule_99 : decode cX0_layByRule 99 = .ok (.aload_n 0, 1) := by decide +kernel
theorem dX0_layByRule_100 : decode cX0_layByRule 100 = .ok (.getfield 30, 3) := by decide +kernel
theorem dX0_layByRule_103 : decode cX0_layByRule 103 = .ok (.iload 6, 2) := by decide +kernel
theorem dX0_layByRule_105 : decode cX0_layByRule 105 = .ok (.aload_n 0, 1) := by decide +kernel
theorem dX0_layByRule_106 : decode cX0_layByRule 106 = .ok (.getfield 9, 3) := by decide +kernel
theorem dX0_layByRule_109 : decode cX0_layByRule 109 = .ok (.iload 5, 2) := by decide +kernel
theorem dX0_layByRule_111 : decode cX0_layByRule 111 = .ok (.iaload, 1) := by decide +kernel
theorem dX0_layByRule_112 : decode cX0_layByRule 112 = .ok (.iastore, 1) := by decide +kernel
theorem dX0_layByRule_113 : decode cX0_layByRule 113 = .ok (.aload_n 0, 1) := by decide +kernel
theorem dX0_layByRule_114 : decode cX0_layByRule 114 = .ok (.getfield 18, 3) := by decide +kernel
theorem dX0_layByRule_117 : decode cX0_layByRule 117 = .ok (.iload 5, 2) := by decide +kernel
theorem dX0_layByRule_119 : decode cX0_layByRule 119 = .ok (.iload 6, 2) := by decide +kernel
theorem dX0_layByRule_121 : decode cX0_layByRule 121 = .ok (.iastore, 1) := by decide +kernel
theorem dX0_layByRule_122 : decode cX0_layByRule 122 = .ok (.iinc 5 1, 3) := by decide +kernel
theorem dX0_layByRule_125 : decode cX0_layByRule 125 = .ok (.goto (-115), 3) := by decide +kernel
theorem dX0_layByRule_128 : decode cX0_layByRule 128 = .ok (.iload 4, 2) := by decide +kernel
theorem dX0_layByRule_130 : decode cX0_layByRule 130 = .ok (.ireturn, 1) := by decide +kernel
theorem dX0_emptyRows_0 : decode cX0_emptyRows 0 = .ok (.iconst 0, 1) := by decide +kernel
theorem dX0_emptyRows_1 : decode cX0_emptyRows 1 = .ok (.istore_n 1, 1) := by decide +kernel
theorem dX0_emptyRows_2 : decode cX0_emptyRows 2 = .ok (.iload_n 1, 1) := by decide +kernel
theorem dX0_emptyRows_3 : decode cX0_emptyRows 3 = .ok (.bipush 10, 2) := by decide +kernel
theorem dX0_emptyRows_5 : decode cX0_emptyRows 5 = .ok (.if_icmp .ge 24, 3) := by decide +kernel
theorem dX0_emptyRows_8 : decode cX0_emptyRows 8 = .ok (.aload_n 0, 1) := by decide +kernel
theorem dX0_emptyRows_9 : decode cX0_emptyRows 9 = .ok (.getfield 27, 3) := by decide +kernel
theorem dX0_emptyRows_12 : decode cX0_emptyRows 12 = .ok (.iload_n 1, 1) := by decide +kernel
theorem dX0_emptyRows_13 : decode cX0_emptyRows 13 = .ok (.iconst 0, 1) := by decide +kernel
theorem dX0_emptyRows_14 : decode cX0_emptyRows 14 = .ok (.iastore, 1) := by decide +kernel
theorem dX0_emptyRows_15 : decode cX0_emptyRows 15 = .ok (.aload_n 0, 1) := by decide +kernel
theorem dX0_emptyRows_16 : decode cX0_emptyRows 16 = .ok (.getfield 30, 3) := by decide +kernel
theorem dX0_emptyRows_19 : decode cX0_emptyRows 19 = .ok (.iload_n 1, 1) := by decide +kernel
theorem dX0_emptyRows_20 : decode cX0_emptyRows 20 = .ok (.bipush 10, 2) := by decide +kernel
theorem dX0_emptyRows_22 : decode cX0_emptyRows 22 = .ok (.iastore, 1) := by decide +kernel
theorem dX0_emptyRows_23 : decode cX0_emptyRows 23 = .ok (.iinc 1 1, 3) := by decide +kernel
theorem dX0_emptyRows_26 : decode cX0_emptyRows 26 = .ok (.goto (-24), 3) := by decide +kernel
theorem dX0_emptyRows_29 : decode cX0_emptyRows 29 = .ok (.return_, 1) := by decide +kernel
theorem dX0_liftedWith_0 : decode cX0_liftedWith 0 = .ok (.aload_n 0, 1) := by decide +kernel
theorem dX0_liftedWith_1 : decode cX0_liftedWith 1 = .ok (.getfield 15, 3) := by decide +kernel
theorem dX0_liftedWith_4 : decode cX0_liftedWith 4 = .ok (.iload_n 1, 1) := by decide +kernel
theorem dX0_liftedWith_5 : decode cX0_liftedWith 5 = .ok (.iaload, 1) := by decide +kernel
theorem dX0_liftedWith_6 : decode cX0_liftedWith 6 = .ok (.aload_n 0, 1) := by decide +kernel
theorem dX0_liftedWith_7 : decode cX0_liftedWith 7 = .ok (.getfield 27, 3) := by decide +kernel
theorem dX0_liftedWith_10 : decode cX0_liftedWith 10 = .ok (.iload_n 2, 1) := by decide +kernel
theorem dX0_liftedWith_11 : decode cX0_liftedWith 11 = .ok (.iaload, 1) := by decide +kernel
theorem dX0_liftedWith_12 : decode cX0_liftedWith 12 = .ok (.iand, 1) := by decide +kernel
theorem dX0_liftedWith_13 : decode cX0_liftedWith 13 = .ok (.invokestatic 70, 3) := by decide +kernel
theorem dX0_liftedWith_16 : decode cX0_liftedWith 16 = .ok (.ireturn, 1) := by decide +kernel
theorem dX0_rowWithFewest_0 : decode cX0_rowWithFewest 0 = .ok (.iconst 0, 1) := by decide +kernel
theorem dX0_rowWithFewest_1 : decode cX0_rowWithFewest 1 = .ok (.istore_n 2, 1) := by decide +kernel
theorem dX0_rowWithFewest_2 : decode cX0_rowWithFewest 2 = .ok (.iconst 1, 1) := by decide +kernel
theorem dX0_rowWithFewest_3 : decode cX0_rowWithFewest 3 = .ok (.istore_n 3, 1) := by decide +kernel
theorem dX0_rowWithFewest_4 : decode cX0_rowWithFewest 4 = .ok (.iload_n 3, 1) := by decide +kernel
theorem dX0_rowWithFewest_5 : decode cX0_rowWithFewest 5 = .ok (.iload_n 1, 1) := by decide +kernel
theorem dX0_rowWithFewest_6 : decode cX0_rowWithFewest 6 = .ok (.if_icmp .ge 32, 3) := by decide +kernel
theorem dX0_rowWithFewest_9 : decode cX0_rowWithFewest 9 = .ok (.aload_n 0, 1) := by decide +kernel
theorem dX0_rowWithFewest_10 : decode cX0_rowWithFewest 10 = .ok (.getfield 27, 3) := by decide +kernel
theorem dX0_rowWithFewest_13 : decode cX0_rowWithFewest 13 = .ok (.iload_n 3, 1) := by decide +kernel
theorem dX0_rowWithFewest_14 : decode cX0_rowWithFewest 14 = .ok (.iaload, 1) := by decide +kernel
theorem dX0_rowWithFewest_15 : decode cX0_rowWithFewest 15 = .ok (.invokestatic 70, 3) := by decide +kernel
theorem dX0_rowWithFewest_18 : decode cX0_rowWithFewest 18 = .ok (.aload_n 0, 1) := by decide +kernel
theorem dX0_rowWithFewest_19 : decode cX0_rowWithFewest 19 = .ok (.getfield 27, 3) := by decide +kernel
theorem dX0_rowWithFewest_22 : decode cX0_rowWithFewest 22 = .ok (.iload_n 2, 1) := by decide +kernel
theorem dX0_rowWithFewest_23 : decode cX0_rowWithFewest 23 = .ok (.iaload, 1) := by decide +kernel
theorem dX0_rowWithFewest_24 : decode cX0_rowWithFewest 24 = .ok (.invokestatic 70, 3) := by decide +kernel
theorem dX0_rowWithFewest_27 : decode cX0_rowWithFewest 27 = .ok (.if_icmp .ge 5, 3) := by decide +kernel
theorem dX0_rowWithFewest_30 : decode cX0_rowWithFewest 30 = .ok (.iload_n 3, 1) := by decide +kernel
theorem dX0_rowWithFewest_31 : decode cX0_rowWithFewest 31 = .ok (.istore_n 2, 1) := by decide +kernel
theorem dX0_rowWithFewest_32 : decode cX0_rowWithFewest 32 = .ok (.iinc 3 1, 3) := by decide +kernel
theorem dX0_rowWithFewest_35 : decode cX0_rowWithFewest 35 = .ok (.goto (-31), 3) := by decide +kernel
theorem dX0_rowWithFewest_38 : decode cX0_rowWithFewest 38 = .ok (.iload_n 2, 1) := by decide +kernel
theorem dX0_rowWithFewest_39 : decode cX0_rowWithFewest 39 = .ok (.ireturn, 1) := by decide +kernel
theorem dX0_rowGoingSoonest_0 : decode cX0_rowGoingSoonest 0 = .ok (.iconst (-1), 1) := by decide +kernel
theorem dX0_rowGoingSoonest_1 : decode cX0_rowGoingSoonest 1 = .ok (.istore_n 3, 1) := by decide +kernel
theorem dX0_rowGoingSoonest_2 : decode cX0_rowGoingSoonest 2 = .ok (.iconst 0, 1) := by decide +kernel
theorem dX0_rowGoingSoonest_3 : decode cX0_rowGoingSoonest 3 = .ok (.istore 4, 2) := by decide +kernel
theorem dX0_rowGoingSoonest_5 : decode cX0_rowGoingSoonest 5 = .ok (.iconst 0, 1) := by decide +kernel
theorem dX0_rowGoingSoonest_6 : decode cX0_rowGoingSoonest 6 = .ok (.istore 5, 2) := by decide +kernel
theorem dX0_rowGoingSoonest_8 : decode cX0_rowGoingSoonest 8 = .ok (.iload 5, 2) := by decide +kernel
theorem dX0_rowGoingSoonest_10 : decode cX0_rowGoingSoonest 10 = .ok (.iload_n 1, 1) := by decide +kernel
theorem dX0_rowGoingSoonest_11 : decode cX0_rowGoingSoonest 11 = .ok (.if_icmp .ge 59, 3) := by decide +kernel
theorem dX0_rowGoingSoonest_14 : decode cX0_rowGoingSoonest 14 = .ok (.aload_n 0, 1) := by decide +kernel
theorem dX0_rowGoingSoonest_15 : decode cX0_rowGoingSoonest 15 = .ok (.getfield 30, 3) := by decide +kernel
theorem dX0_rowGoingSoonest_18 : decode cX0_rowGoingSoonest 18 = .ok (.iload 5, 2) := by decide +kernel
theorem dX0_rowGoingSoonest_20 : decode cX0_rowGoingSoonest 20 = .ok (.iaload, 1) := by decide +kernel
theorem dX0_rowGoingSoonest_21 : decode cX0_rowGoingSoonest 21 = .ok (.istore 6, 2) := by decide +kernel
theorem dX0_rowGoingSoonest_23 : decode cX0_rowGoingSoonest 23 = .ok (.iload 6, 2) := by decide +kernel
theorem dX0_rowGoingSoonest_25 : decode cX0_rowGoingSoonest 25 = .ok (.iload_n 2, 1) := by decide +kernel
theorem dX0_rowGoingSoonest_26 : decode cX0_rowGoingSoonest 26 = .ok (.if_icmp .le 22, 3) := by decide +kernel
theorem dX0_rowGoingSoonest_29 : decode cX0_rowGoingSoonest 29 = .ok (.iload_n 3, 1) := by decide +kernel
theorem dX0_rowGoingSoonest_30 : decode cX0_rowGoingSoonest 30 = .ok (.iconst (-1), 1) := by decide +kernel
theorem dX0_rowGoingSoonest_31 : decode cX0_rowGoingSoonest 31 = .ok (.if_icmp .eq 14, 3) := by decide +kernel
theorem dX0_rowGoingSoonest_34 : decode cX0_rowGoingSoonest 34 = .ok (.iload 6, 2) := by decide +kernel
theorem dX0_rowGoingSoonest_36 : decode cX0_rowGoingSoonest 36 = .ok (.aload_n 0, 1) := by decide +kernel
theorem dX0_rowGoingSoonest_37 : decode cX0_rowGoingSoonest 37 = .ok (.getfield 30, 3) := by decide +kernel
theorem dX0_rowGoingSoonest_40 : decode cX0_rowGoingSoonest 40 = .ok (.iload_n 3, 1) := by decide +kernel
theorem dX0_rowGoingSoonest_41 : decode cX0_rowGoingSoonest 41 = .ok (.iaload, 1) := by decide +kernel
theorem dX0_rowGoingSoonest_42 : decode cX0_rowGoingSoonest 42 = .ok (.if_icmp .ge 6, 3) := by decide +kernel
theorem dX0_rowGoingSoonest_45 : decode cX0_rowGoingSoonest 45 = .ok (.iload 5, 2) := by decide +kernel
theorem dX0_rowGoingSoonest_47 : decode cX0_rowGoingSoonest 47 = .ok (.istore_n 3, 1) := by decide +kernel
theorem dX0_rowGoingSoonest_48 : decode cX0_rowGoingSoonest 48 = .ok (.iload 6, 2) := by decide +kernel
theorem dX0_rowGoingSoonest_50 : decode cX0_rowGoingSoonest 50 = .ok (.aload_n 0, 1) := by decide +kernel
theorem dX0_rowGoingSoonest_51 : decode cX0_rowGoingSoonest 51 = .ok (.getfield 30, 3) := by decide +kernel
theorem dX0_rowGoingSoonest_54 : decode cX0_rowGoingSoonest 54 = .ok (.iload 4, 2) := by decide +kernel
theorem dX0_rowGoingSoonest_56 : decode cX0_rowGoingSoonest 56 = .ok (.iaload, 1) := by decide +kernel
theorem dX0_rowGoingSoonest_57 : decode cX0_rowGoingSoonest 57 = .ok (.if_icmp .le 7, 3) := by decide +kernel
theorem dX0_rowGoingSoonest_60 : decode cX0_rowGoingSoonest 60 = .ok (.iload 5, 2) := by decide +kernel
theorem dX0_rowGoingSoonest_62 : decode cX0_rowGoingSoonest 62 = .ok (.istore 4, 2) := by decide +kernel
theorem dX0_rowGoingSoonest_64 : decode cX0_rowGoingSoonest 64 = .ok (.iinc 5 1, 3) := by decide +kernel
theorem dX0_rowGoingSoonest_67 : decode cX0_rowGoingSoonest 67 = .ok (.goto (-59), 3) := by decide +kernel
theorem dX0_rowGoingSoonest_70 : decode cX0_rowGoingSoonest 70 = .ok (.iload_n 3, 1) := by decide +kernel
theorem dX0_rowGoingSoonest_71 : decode cX0_rowGoingSoonest 71 = .ok (.iconst (-1), 1) := by decide +kernel
theorem dX0_rowGoingSoonest_72 : decode cX0_rowGoingSoonest 72 = .ok (.if_icmp .ne 8, 3) := by decide +kernel
theorem dX0_rowGoingSoonest_75 : decode cX0_rowGoingSoonest 75 = .ok (.iload 4, 2) := by decide +kernel
theorem dX0_rowGoingSoonest_77 : decode cX0_rowGoingSoonest 77 = .ok (.goto 4, 3) := by decide +kernel
theorem dX0_rowGoingSoonest_80 : decode cX0_rowGoingSoonest 80 = .ok (.iload_n 3, 1) := by decide +kernel
theorem dX0_rowGoingSoonest_81 : decode cX0_rowGoingSoonest 81 = .ok (.ireturn, 1) := by decide +kernel
theorem dX0_usedRows_0 : decode cX0_usedRows 0 = .ok (.iconst 0, 1) := by decide +kernel
theorem dX0_usedRows_1 : decode cX0_usedRows 1 = .ok (.istore_n 1, 1) := by decide +kernel
theorem dX0_usedRows_2 : decode cX0_usedRows 2 = .ok (.iconst 0, 1) := by decide +kernel
theorem dX0_usedRows_3 : decode cX0_usedRows 3 = .ok (.istore_n 2, 1) := by decide +kernel
theorem dX0_usedRows_4 : decode cX0_usedRows 4 = .ok (.iload_n 2, 1) := by decide +kernel
theorem dX0_usedRows_5 : decode cX0_usedRows 5 = .ok (.aload_n 0, 1) := by decide +kernel
theorem dX0_usedRows_6 : decode cX0_usedRows 6 = .ok (.getfield 42, 3) := by decide +kernel
theorem dX0_usedRows_9 : decode cX0_usedRows 9 = .ok (.if_icmp .ge 22, 3) := by decide +kernel
theorem dX0_usedRows_12 : decode cX0_usedRows 12 = .ok (.iload_n 1, 1) := by decide +kernel
theorem dX0_usedRows_13 : decode cX0_usedRows 13 = .ok (.aload_n 0, 1) := by decide +kernel
theorem dX0_usedRows_14 : decode cX0_usedRows 14 = .ok (.getfield 18, 3) := by decide +kernel
theorem dX0_usedRows_17 : decode cX0_usedRows 17 = .ok (.iload_n 2, 1) := by decide +kernel
theorem dX0_usedRows_18 : decode cX0_usedRows 18 = .ok (.iaload, 1) := by decide +kernel
theorem dX0_usedRows_19 : decode cX0_usedRows 19 = .ok (.iconst 1, 1) := by decide +kernel
theorem dX0_usedRows_20 : decode cX0_usedRows 20 = .ok (.iadd, 1) := by decide +kernel
theorem dX0_usedRows_21 : decode cX0_usedRows 21 = .ok (.invokestatic 75, 3) := by decide +kernel
theorem dX0_usedRows_24 : decode cX0_usedRows 24 = .ok (.istore_n 1, 1) := by decide +kernel
theorem dX0_usedRows_25 : decode cX0_usedRows 25 = .ok (.iinc 2 1, 3) := by decide +kernel
theorem dX0_usedRows_28 : decode cX0_usedRows 28 = .ok (.goto (-24), 3) := by decide +kernel
theorem dX0_usedRows_31 : decode cX0_usedRows 31 = .ok (.iload_n 1, 1) := by decide +kernel
theorem dX0_usedRows_32 : decode cX0_usedRows 32 = .ok (.ireturn, 1) := by decide +kernel
theorem dX0_bestRule_0 : decode cX0_bestRule 0 = .ok (.iconst 0, 1) := by decide +kernel
theorem dX0_bestRule_1 : decode cX0_bestRule 1 = .ok (.istore_n 3, 1) := by decide +kernel
theorem dX0_bestRule_2 : decode cX0_bestRule 2 = .ok (.aload_n 0, 1) := by decide +kernel
theorem dX0_bestRule_3 : decode cX0_bestRule 3 = .ok (.iconst 0, 1) := by decide +kernel
theorem dX0_bestRule_4 : decode cX0_bestRule 4 = .ok (.iload_n 1, 1) := by decide +kernel
theorem dX0_bestRule_5 : decode cX0_bestRule 5 = .ok (.iload_n 2, 1) := by decide +kernel
theorem dX0_bestRule_6 : decode cX0_bestRule 6 = .ok (.invokevirtual 78, 3) := by decide +kernel
theorem dX0_bestRule_9 : decode cX0_bestRule 9 = .ok (.istore 4, 2) := by decide +kernel
theorem dX0_bestRule_11 : decode cX0_bestRule 11 = .ok (.iconst 1, 1) := by decide +kernel
theorem dX0_bestRule_12 : decode cX0_bestRule 12 = .ok (.istore 5, 2) := by decide +kernel
theorem dX0_bestRule_14 : decode cX0_bestRule 14 = .ok (.iload 5, 2) := by decide +kernel
theorem dX0_bestRule_16 : decode cX0_bestRule 16 = .ok (.iconst 4, 1) := by decide +kernel
theorem dX0_bestRule_17 : decode cX0_bestRule 17 = .ok (.if_icmp .ge 33, 3) := by decide +kernel
theorem dX0_bestRule_20 : decode cX0_bestRule 20 = .ok (.aload_n 0, 1) := by decide +kernel
theorem dX0_bestRule_21 : decode cX0_bestRule 21 = .ok (.iload 5, 2) := by decide +kernel
theorem dX0_bestRule_23 : decode cX0_bestRule 23 = .ok (.iload_n 1, 1) := by decide +kernel
theorem dX0_bestRule_24 : decode cX0_bestRule 24 = .ok (.iload_n 2, 1) := by decide +kernel
theorem dX0_bestRule_25 : decode cX0_bestRule 25 = .ok (.invokevirtual 78, 3) := by decide +kernel
theorem dX0_bestRule_28 : decode cX0_bestRule 28 = .ok (.istore 6, 2) := by decide +kernel
theorem dX0_bestRule_30 : decode cX0_bestRule 30 = .ok (.iload 6, 2) := by decide +kernel
theorem dX0_bestRule_32 : decode cX0_bestRule 32 = .ok (.iload 4, 2) := by decide +kernel
theorem dX0_bestRule_34 : decode cX0_bestRule 34 = .ok (.if_icmp .ge 10, 3) := by decide +kernel
theorem dX0_bestRule_37 : decode cX0_bestRule 37 = .ok (.iload 6, 2) := by decide +kernel
theorem dX0_bestRule_39 : decode cX0_bestRule 39 = .ok (.istore 4, 2) := by decide +kernel
theorem dX0_bestRule_41 : decode cX0_bestRule 41 = .ok (.iload 5, 2) := by decide +kernel
theorem dX0_bestRule_43 : decode cX0_bestRule 43 = .ok (.istore_n 3, 1) := by decide +kernel
theorem dX0_bestRule_44 : decode cX0_bestRule 44 = .ok (.iinc 5 1, 3) := by decide +kernel
theorem dX0_bestRule_47 : decode cX0_bestRule 47 = .ok (.goto (-33), 3) := by decide +kernel
theorem dX0_bestRule_50 : decode cX0_bestRule 50 = .ok (.iload_n 3, 1) := by decide +kernel
theorem dX0_bestRule_51 : decode cX0_bestRule 51 = .ok (.ireturn, 1) := by decide +kernel
theorem dX0_findProof_0 : decode cX0_findProof 0 = .ok (.iconst 0, 1) := by decide +kernel
theorem dX0_findProof_1 : decode cX0_findProof 1 = .ok (.istore_n 2, 1) := by decide +kernel
theorem dX0_findProof_2 : decode cX0_findProof 2 = .ok (.aload_n 0, 1) := by decide +kernel
theorem dX0_findProof_3 : decode cX0_findProof 3 = .ok (.getfield 42, 3) := by decide +kernel
theorem dX0_findProof_6 : decode cX0_findProof 6 = .ok (.iconst 1, 1) := by decide +kernel
theorem dX0_findProof_7 : decode cX0_findProof 7 = .ok (.isub, 1) := by decide +kernel
theorem dX0_findProof_8 : decode cX0_findProof 8 = .ok (.istore_n 3, 1) := by decide +kernel
theorem dX0_findProof_9 : decode cX0_findProof 9 = .ok (.iload_n 3, 1) := by decide +kernel
theorem dX0_findProof_10 : decode cX0_findProof 10 = .ok (.ifCond .lt 87, 3) := by decide +kernel
theorem dX0_findProof_13 : decode cX0_findProof 13 = .ok (.aload_n 0, 1) := by decide +kernel
theorem dX0_findProof_14 : decode cX0_findProof 14 = .ok (.getfield 33, 3) := by decide +kernel
theorem dX0_findProof_17 : decode cX0_findProof 17 = .ok (.iload_n 3, 1) := by decide +kernel
theorem dX0_findProof_18 : decode cX0_findProof 18 = .ok (.iconst 1, 1) := by decide +kernel
theorem dX0_findProof_19 : decode cX0_findProof 19 = .ok (.iastore, 1) := by decide +kernel
theorem dX0_findProof_20 : decode cX0_findProof 20 = .ok (.iload_n 3, 1) := by decide +kernel
theorem dX0_findProof_21 : decode cX0_findProof 21 = .ok (.iconst 1, 1) := by decide +kernel
theorem dX0_findProof_22 : decode cX0_findProof 22 = .ok (.iadd, 1) := by decide +kernel
theorem dX0_findProof_23 : decode cX0_findProof 23 = .ok (.istore 4, 2) := by decide +kernel
theorem dX0_findProof_25 : decode cX0_findProof 25 = .ok (.iload 4, 2) := by decide +kernel
theorem dX0_findProof_27 : decode cX0_findProof 27 = .ok (.aload_n 0, 1) := by decide +kernel
theorem dX0_findProof_28 : decode cX0_findProof 28 = .ok (.getfield 42, 3) := by decide +kernel
theorem dX0_findProof_31 : decode cX0_findProof 31 = .ok (.if_icmp .ge 49, 3) := by decide +kernel
theorem dX0_findProof_34 : decode cX0_findProof 34 = .ok (.aload_n 0, 1) := by decide +kernel
theorem dX0_findProof_35 : decode cX0_findProof 35 = .ok (.getfield 9, 3) := by decide +kernel
theorem dX0_findProof_38 : decode cX0_findProof 38 = .ok (.iload 4, 2) := by decide +kernel
theorem dX0_findProof_40 : decode cX0_findProof 40 = .ok (.iaload, 1) := by decide +kernel
theorem dX0_findProof_41 : decode cX0_findProof 41 = .ok (.aload_n 0, 1) := by decide +kernel
theorem dX0_findProof_42 : decode cX0_findProof 42 = .ok (.getfield 9, 3) := by decide +kernel
theorem dX0_findProof_45 : decode cX0_findProof 45 = .ok (.iload_n 3, 1) := by decide +kernel
theorem dX0_findProof_46 : decode cX0_findProof 46 = .ok (.iaload, 1) := by decide +kernel
theorem dX0_findProof_47 : decode cX0_findProof 47 = .ok (.if_icmp .le 27, 3) := by decide +kernel
theorem dX0_findProof_50 : decode cX0_findProof 50 = .ok (.aload_n 0, 1) := by decide +kernel
theorem dX0_findProof_51 : decode cX0_findProof 51 = .ok (.getfield 33, 3) := by decide +kernel
theorem dX0_findProof_54 : decode cX0_findProof 54 = .ok (.iload_n 3, 1) := by decide +kernel
theorem dX0_findProof_55 : decode cX0_findProof 55 = .ok (.aload_n 0, 1) := by decide +kernel
theorem dX0_findProof_56 : decode cX0_findProof 56 = .ok (.getfield 33, 3) := by decide +kernel
theorem dX0_findProof_59 : decode cX0_findProof 59 = .ok (.iload_n 3, 1) := by decide +kernel
theorem dX0_findProof_60 : decode cX0_findProof 60 = .ok (.iaload, 1) := by decide +kernel
theorem dX0_findProof_61 : decode cX0_findProof 61 = .ok (.aload_n 0, 1) := by decide +kernel
theorem dX0_findProof_62 : decode cX0_findProof 62 = .ok (.getfield 33, 3) := by decide +kernel
theorem dX0_findProof_65 : decode cX0_findProof 65 = .ok (.iload 4, 2) := by decide +kernel
theorem dX0_findProof_67 : decode cX0_findProof 67 = .ok (.iaload, 1) := by decide +kernel
theorem dX0_findProof_68 : decode cX0_findProof 68 = .ok (.iconst 1, 1) := by decide +kernel
theorem dX0_findProof_69 : decode cX0_findProof 69 = .ok (.iadd, 1) := by decide +kernel
theorem dX0_findProof_70 : decode cX0_findProof 70 = .ok (.invokestatic 75, 3) := by decide +kernel
theorem dX0_findProof_73 : decode cX0_findProof 73 = .ok (.iastore, 1) := by decide +kernel
theorem dX0_findProof_74 : decode cX0_findProof 74 = .ok (.iinc 4 1, 3) := by decide +kernel
theorem dX0_findProof_77 : decode cX0_findProof 77 = .ok (.goto (-52), 3) := by decide +kernel
theorem dX0_findProof_80 : decode cX0_findProof 80 = .ok (.iload_n 2, 1) := by decide +kernel
theorem dX0_findProof_81 : decode cX0_findProof 81 = .ok (.aload_n 0, 1) := by decide +kernel
theorem dX0_findProof_82 : decode cX0_findProof 82 = .ok (.getfield 33, 3) := by decide +kernel
theorem dX0_findProof_85 : decode cX0_findProof 85 = .ok (.iload_n 3, 1) := by decide +kernel
theorem dX0_findProof_86 : decode cX0_findProof 86 = .ok (.iaload, 1) := by decide +kernel
theorem dX0_findProof_87 : decode cX0_findProof 87 = .ok (.invokestatic 75, 3) := by decide +kernel
theorem dX0_findProof_90 : decode cX0_findProof 90 = .ok (.istore_n 2, 1) := by decide +kernel
theorem dX0_findProof_91 : decode cX0_findProof 91 = .ok (.iinc 3 (-1), 3) := by decide +kernel
theorem dX0_findProof_94 : decode cX0_findProof 94 = .ok (.goto (-85), 3) := by decide +kernel
theorem dX0_findProof_97 : decode cX0_findProof 97 = .ok (.iconst (-1), 1) := by decide +kernel
theorem dX0_findProof_98 : decode cX0_findProof 98 = .ok (.istore_n 3, 1) := by decide +kernel
theorem dX0_findProof_99 : decode cX0_findProof 99 = .ok (.iconst 0, 1) := by decide +kernel
theorem dX0_findProof_100 : decode cX0_findProof 100 = .ok (.istore 4, 2) := by decide +kernel
theorem dX0_findProof_102 : decode cX0_findProof 102 = .ok (.iload 4, 2) := by decide +kernel
theorem dX0_findProof_104 : decode cX0_findProof 104 = .ok (.iload_n 2, 1) := by decide +kernel
theorem dX0_findProof_105 : decode cX0_findProof 105 = .ok (.if_icmp .ge 32, 3) := by decide +kernel
theorem dX0_findProof_108 : decode cX0_findProof 108 = .ok (.aload_n 0, 1) := by decide +kernel
theorem dX0_findProof_109 : decode cX0_findProof 109 = .ok (.iload_n 3, 1) := by decide +kernel
theorem dX0_findProof_110 : decode cX0_findProof 110 = .ok (.iload_n 2, 1) := by decide +kernel
theorem dX0_findProof_111 : decode cX0_findProof 111 = .ok (.iload 4, 2) := by decide +kernel
theorem dX0_findProof_113 : decode cX0_findProof 113 = .ok (.isub, 1) := by decide +kernel
theorem dX0_findProof_114 : decode cX0_findProof 114 = .ok (.aload_n 1, 1) := by decide +kernel
theorem dX0_findProof_115 : decode cX0_findProof 115 = .ok (.invokevirtual 82, 3) := by decide +kernel
theorem dX0_findProof_118 : decode cX0_findProof 118 = .ok (.istore_n 3, 1) := by decide +kernel
theorem dX0_findProof_119 : decode cX0_findProof 119 = .ok (.aload_n 0, 1) := by decide +kernel
theorem dX0_findProof_120 : decode cX0_findProof 120 = .ok (.getfield 24, 3) := by decide +kernel
theorem dX0_findProof_123 : decode cX0_findProof 123 = .ok (.iload 4, 2) := by decide +kernel
theorem dX0_findProof_125 : decode cX0_findProof 125 = .ok (.aload_n 1, 1) := by decide +kernel
theorem dX0_findProof_126 : decode cX0_findProof 126 = .ok (.iload_n 3, 1) := by decide +kernel
theorem dX0_findProof_127 : decode cX0_findProof 127 = .ok (.invokevirtual 86, 3) := by decide +kernel
theorem dX0_findProof_130 : decode cX0_findProof 130 = .ok (.iastore, 1) := by decide +kernel
theorem dX0_findProof_131 : decode cX0_findProof 131 = .ok (.iinc 4 1, 3) := by decide +kernel
theorem dX0_findProof_134 : decode cX0_findProof 134 = .ok (.goto (-32), 3) := by decide +kernel
theorem dX0_findProof_137 : decode cX0_findProof 137 = .ok (.iload_n 2, 1) := by decide +kernel
theorem dX0_findProof_138 : decode cX0_findProof 138 = .ok (.ireturn, 1) := by decide +kernel
theorem dX0_leastLetterBehind_0 : decode cX0_leastLetterBehind 0 = .ok (.iconst (-1), 1) := by decide +kernel
theorem dX0_leastLetterBehind_1 : decode cX0_leastLetterBehind 1 = .ok (.istore 4, 2) := by decide +kernel
theorem dX0_leastLetterBehind_3 : decode cX0_leastLetterBehind 3 = .ok (.iload_n 1, 1) := by decide +kernel
theorem dX0_leastLetterBehind_4 : decode cX0_leastLetterBehind 4 = .ok (.iconst 1, 1) := by decide +kernel
theorem dX0_leastLetterBehind_5 : decode cX0_leastLetterBehind 5 = .ok (.iadd, 1) := by decide +kernel
theorem dX0_leastLetterBehind_6 : decode cX0_leastLetterBehind 6 = .ok (.istore 5, 2) := by decide +kernel
theorem dX0_leastLetterBehind_8 : decode cX0_leastLetterBehind 8 = .ok (.iload 5, 2) := by decide +kernel
theorem dX0_leastLetterBehind_10 : decode cX0_leastLetterBehind 10 = .ok (.aload_n 0, 1) := by decide +kernel
theorem dX0_leastLetterBehind_11 : decode cX0_leastLetterBehind 11 = .ok (.getfield 42, 3) := by decide +kernel
theorem dX0_leastLetterBehind_14 : decode cX0_leastLetterBehind 14 = .ok (.if_icmp .ge 78, 3) := by decide +kernel
theorem dX0_leastLetterBehind_17 : decode cX0_leastLetterBehind 17 = .ok (.iload_n 1, 1) := by decide +kernel
theorem dX0_leastLetterBehind_18 : decode cX0_leastLetterBehind 18 = .ok (.iconst (-1), 1) := by decide +kernel
theorem dX0_leastLetterBehind_19 : decode cX0_leastLetterBehind 19 = .ok (.if_icmp .eq 19, 3) := by decide +kernel
theorem dX0_leastLetterBehind_22 : decode cX0_leastLetterBehind 22 = .ok (.aload_n 0, 1) := by decide +kernel
theorem dX0_leastLetterBehind_23 : decode cX0_leastLetterBehind 23 = .ok (.getfield 9, 3) := by decide +kernel
theorem dX0_leastLetterBehind_26 : decode cX0_leastLetterBehind 26 = .ok (.iload 5, 2) := by decide +kernel
theorem dX0_leastLetterBehind_28 : decode cX0_leastLetterBehind 28 = .ok (.iaload, 1) := by decide +kernel
theorem dX0_leastLetterBehind_29 : decode cX0_leastLetterBehind 29 = .ok (.aload_n 0, 1) := by decide +kernel
theorem dX0_leastLetterBehind_30 : decode cX0_leastLetterBehind 30 = .ok (.getfield 9, 3) := by decide +kernel
theorem dX0_leastLetterBehind_33 : decode cX0_leastLetterBehind 33 = .ok (.iload_n 1, 1) := by decide +kernel
theorem dX0_leastLetterBehind_34 : decode cX0_leastLetterBehind 34 = .ok (.iaload, 1) := by decide +kernel
theorem dX0_leastLetterBehind_35 : decode cX0_leastLetterBehind 35 = .ok (.if_icmp .le 7, 3) := by decide +kernel
theorem dX0_leastLetterBehind_38 : decode cX0_leastLetterBehind 38 = .ok (.iconst 1, 1) := by decide +kernel
theorem dX0_leastLetterBehind_39 : decode cX0_leastLetterBehind 39 = .ok (.goto 4, 3) := by decide +kernel
theorem dX0_leastLetterBehind_42 : decode cX0_leastLetterBehind 42 = .ok (.iconst 0, 1) := by decide +kernel
theorem dX0_leastLetterBehind_43 : decode cX0_leastLetterBehind 43 = .ok (.istore 6, 2) := by decide +kernel
theorem dX0_leastLetterBehind_45 : decode cX0_leastLetterBehind 45 = .ok (.iload 6, 2) := by decide +kernel
theorem dX0_leastLetterBehind_47 : decode cX0_leastLetterBehind 47 = .ok (.ifCond .eq 39, 3) := by decide +kernel
theorem dX0_leastLetterBehind_50 : decode cX0_leastLetterBehind 50 = .ok (.aload_n 0, 1) := by decide +kernel
theorem dX0_leastLetterBehind_51 : decode cX0_leastLetterBehind 51 = .ok (.getfield 33, 3) := by decide +kernel
theorem dX0_leastLetterBehind_54 : decode cX0_leastLetterBehind 54 = .ok (.iload 5, 2) := by decide +kernel
theorem dX0_leastLetterBehind_56 : decode cX0_leastLetterBehind 56 = .ok (.iaload, 1) := by decide +kernel
theorem dX0_leastLetterBehind_57 : decode cX0_leastLetterBehind 57 = .ok (.iload_n 2, 1) := by decide +kernel
theorem dX0_leastLetterBehind_58 : decode cX0_leastLetterBehind 58 = .ok (.if_icmp .ne 28, 3) := by decide +kernel
theorem dX0_leastLetterBehind_61 : decode cX0_leastLetterBehind 61 = .ok (.iload 4, 2) := by decide +kernel
theorem dX0_leastLetterBehind_63 : decode cX0_leastLetterBehind 63 = .ok (.iconst (-1), 1) := by decide +kernel
theorem dX0_leastLetterBehind_64 : decode cX0_leastLetterBehind 64 = .ok (.if_icmp .eq 18, 3) := by decide +kernel
theorem dX0_leastLetterBehind_67 : decode cX0_leastLetterBehind 67 = .ok (.aload_n 3, 1) := by decide +kernel
theorem dX0_leastLetterBehind_68 : decode cX0_leastLetterBehind 68 = .ok (.iload 5, 2) := by decide +kernel
theorem dX0_leastLetterBehind_70 : decode cX0_leastLetterBehind 70 = .ok (.invokevirtual 86, 3) := by decide +kernel
theorem dX0_leastLetterBehind_73 : decode cX0_leastLetterBehind 73 = .ok (.aload_n 3, 1) := by decide +kernel
theorem dX0_leastLetterBehind_74 : decode cX0_leastLetterBehind 74 = .ok (.iload 4, 2) := by decide +kernel
theorem dX0_leastLetterBehind_76 : decode cX0_leastLetterBehind 76 = .ok (.invokevirtual 86, 3) := by decide +kernel
theorem dX0_leastLetterBehind_79 : decode cX0_leastLetterBehind 79 = .ok (.if_icmp .ge 7, 3) := by decide +kernel
theorem dX0_leastLetterBehind_82 : decode cX0_leastLetterBehind 82 = .ok (.iload 5, 2) := by decide +kernel
theorem dX0_leastLetterBehind_84 : decode cX0_leastLetterBehind 84 = .ok (.istore 4, 2) := by decide +kernel
theorem dX0_leastLetterBehind_86 : decode cX0_leastLetterBehind 86 = .ok (.iinc 5 1, 3) := by decide +kernel
theorem dX0_leastLetterBehind_89 : decode cX0_leastLetterBehind 89 = .ok (.goto (-81), 3) := by decide +kernel
theorem dX0_leastLetterBehind_92 : decode cX0_leastLetterBehind 92 = .ok (.iload 4, 2) := by decide +kernel
theorem dX0_leastLetterBehind_94 : decode cX0_leastLetterBehind 94 = .ok (.ireturn, 1) := by decide +kernel
theorem dX0_findLeast_0 : decode cX0_findLeast 0 = .ok (.aload_n 0, 1) := by decide +kernel
theorem dX0_findLeast_1 : decode cX0_findLeast 1 = .ok (.invokevirtual 58, 3) := by decide +kernel
theorem dX0_findLeast_4 : decode cX0_findLeast 4 = .ok (.aload_n 0, 1) := by decide +kernel
theorem dX0_findLeast_5 : decode cX0_findLeast 5 = .ok (.bipush 100, 2) := by decide +kernel
theorem dX0_findLeast_7 : decode cX0_findLeast 7 = .ok (.putfield 89, 3) := by decide +kernel
theorem dX0_findLeast_10 : decode cX0_findLeast 10 = .ok (.aload_n 0, 1) := by decide +kernel
theorem dX0_findLeast_11 : decode cX0_findLeast 11 = .ok (.iload_n 1, 1) := by decide +kernel
theorem dX0_findLeast_12 : decode cX0_findLeast 12 = .ok (.iconst 0, 1) := by decide +kernel
theorem dX0_findLeast_13 : decode cX0_findLeast 13 = .ok (.iconst 0, 1) := by decide +kernel
theorem dX0_findLeast_14 : decode cX0_findLeast 14 = .ok (.iconst 0, 1) := by decide +kernel
theorem dX0_findLeast_15 : decode cX0_findLeast 15 = .ok (.invokestatic 92, 3) := by decide +kernel
theorem dX0_findLeast_18 : decode cX0_findLeast 18 = .ok (.aload_n 0, 1) := by decide +kernel
theorem dX0_findLeast_19 : decode cX0_findLeast 19 = .ok (.getfield 89, 3) := by decide +kernel
theorem dX0_findLeast_22 : decode cX0_findLeast 22 = .ok (.ireturn, 1) := by decide +kernel
theorem dX0_tryRows_0 : decode cX0_tryRows 0 = .ok (.iload 4, 2) := by decide +kernel
theorem dX0_tryRows_2 : decode cX0_tryRows 2 = .ok (.aload_n 0, 1) := by decide +kernel
theorem dX0_tryRows_3 : decode cX0_tryRows 3 = .ok (.getfield 89, 3) := by decide +kernel
theorem dX0_tryRows_6 : decode cX0_tryRows 6 = .ok (.if_icmp .lt 4, 3) := by decide +kernel
theorem dX0_tryRows_9 : decode cX0_tryRows 9 = .ok (.return_, 1) := by decide +kernel
theorem dX0_tryRows_10 : decode cX0_tryRows 10 = .ok (.iload_n 2, 1) := by decide +kernel
theorem dX0_tryRows_11 : decode cX0_tryRows 11 = .ok (.aload_n 0, 1) := by decide +kernel
theorem dX0_tryRows_12 : decode cX0_tryRows 12 = .ok (.invokevirtual 96, 3) := by decide +kernel
theorem dX0_tryRows_15 : decode cX0_tryRows 15 = .ok (.if_icmp .lt 10, 3) := by decide +kernel
theorem dX0_tryRows_18 : decode cX0_tryRows 18 = .ok (.aload_n 0, 1) := by decide +kernel
theorem dX0_tryRows_19 : decode cX0_tryRows 19 = .ok (.iload 4, 2) := by decide +kernel
theorem dX0_tryRows_21 : decode cX0_tryRows 21 = .ok (.invokevirtual 100, 3) := by decide +kernel
theorem dX0_tryRows_24 : decode cX0_tryRows 24 = .ok (.return_, 1) := by decide +kernel
theorem dX0_tryRows_25 : decode cX0_tryRows 25 = .ok (.iconst 0, 1) := by decide +kernel
theorem dX0_tryRows_26 : decode cX0_tryRows 26 = .ok (.istore 5, 2) := by decide +kernel
theorem dX0_tryRows_28 : decode cX0_tryRows 28 = .ok (.iload 5, 2) := by decide +kernel
theorem dX0_tryRows_30 : decode cX0_tryRows 30 = .ok (.iload_n 1, 1) := by decide +kernel
theorem dX0_tryRows_31 : decode cX0_tryRows 31 = .ok (.if_icmp .ge 83, 3) := by decide +kernel
theorem dX0_tryRows_34 : decode cX0_tryRows 34 = .ok (.iload 5, 2) := by decide +kernel
theorem dX0_tryRows_36 : decode cX0_tryRows 36 = .ok (.iload_n 3, 1) := by decide +kernel
theorem dX0_tryRows_37 : decode cX0_tryRows 37 = .ok (.if_icmp .gt 77, 3) := by decide +kernel
theorem dX0_tryRows_40 : decode cX0_tryRows 40 = .ok (.aload_n 0, 1) := by decide +kernel
theorem dX0_tryRows_41 : decode cX0_tryRows 41 = .ok (.iload_n 2, 1) := by decide +kernel
theorem dX0_tryRows_42 : decode cX0_tryRows 42 = .ok (.iload 5, 2) := by decide +kernel
theorem dX0_tryRows_44 : decode cX0_tryRows 44 = .ok (.invokevirtual 67, 3) := by decide +kernel
theorem dX0_tryRows_47 : decode cX0_tryRows 47 = .ok (.istore 6, 2) := by decide +kernel
theorem dX0_tryRows_49 : decode cX0_tryRows 49 = .ok (.aload_n 0, 1) := by decide +kernel
theorem dX0_tryRows_50 : decode cX0_tryRows 50 = .ok (.getfield 18, 3) := by decide +kernel
theorem dX0_tryRows_53 : decode cX0_tryRows 53 = .ok (.iload_n 2, 1) := by decide +kernel
theorem dX0_tryRows_54 : decode cX0_tryRows 54 = .ok (.iload 5, 2) := by decide +kernel
theorem dX0_tryRows_56 : decode cX0_tryRows 56 = .ok (.iastore, 1) := by decide +kernel
theorem dX0_tryRows_57 : decode cX0_tryRows 57 = .ok (.aload_n 0, 1) := by decide +kernel
theorem dX0_tryRows_58 : decode cX0_tryRows 58 = .ok (.getfield 27, 3) := by decide +kernel
theorem dX0_tryRows_61 : decode cX0_tryRows 61 = .ok (.iload 5, 2) := by decide +kernel
theorem dX0_tryRows_63 : decode cX0_tryRows 63 = .ok (.dup2, 1) := by decide +kernel
theorem dX0_tryRows_64 : decode cX0_tryRows 64 = .ok (.iaload, 1) := by decide +kernel
theorem dX0_tryRows_65 : decode cX0_tryRows 65 = .ok (.iload_n 2, 1) := by decide +kernel
theorem dX0_tryRows_66 : decode cX0_tryRows 66 = .ok (.invokestatic 49, 3) := by decide +kernel
theorem dX0_tryRows_69 : decode cX0_tryRows 69 = .ok (.ior, 1) := by decide +kernel
theorem dX0_tryRows_70 : decode cX0_tryRows 70 = .ok (.iastore, 1) := by decide +kernel
theorem dX0_tryRows_71 : decode cX0_tryRows 71 = .ok (.aload_n 0, 1) := by decide +kernel
theorem dX0_tryRows_72 : decode cX0_tryRows 72 = .ok (.iload_n 1, 1) := by decide +kernel
theorem dX0_tryRows_73 : decode cX0_tryRows 73 = .ok (.iload_n 2, 1) := by decide +kernel
theorem dX0_tryRows_74 : decode cX0_tryRows 74 = .ok (.iconst 1, 1) := by decide +kernel
theorem dX0_tryRows_75 : decode cX0_tryRows 75 = .ok (.iadd, 1) := by decide +kernel
theorem dX0_tryRows_76 : decode cX0_tryRows 76 = .ok (.iload_n 3, 1) := by decide +kernel
theorem dX0_tryRows_77 : decode cX0_tryRows 77 = .ok (.iload 5, 2) := by decide +kernel
theorem dX0_tryRows_79 : decode cX0_tryRows 79 = .ok (.iconst 1, 1) := by decide +kernel
theorem dX0_tryRows_80 : decode cX0_tryRows 80 = .ok (.iadd, 1) := by decide +kernel
theorem dX0_tryRows_81 : decode cX0_tryRows 81 = .ok (.invokestatic 75, 3) := by decide +kernel
theorem dX0_tryRows_84 : decode cX0_tryRows 84 = .ok (.iload 4, 2) := by decide +kernel
theorem dX0_tryRows_86 : decode cX0_tryRows 86 = .ok (.iload 6, 2) := by decide +kernel
theorem dX0_tryRows_88 : decode cX0_tryRows 88 = .ok (.iadd, 1) := by decide +kernel
theorem dX0_tryRows_89 : decode cX0_tryRows 89 = .ok (.invokestatic 92, 3) := by decide +kernel
theorem dX0_tryRows_92 : decode cX0_tryRows 92 = .ok (.aload_n 0, 1) := by decide +kernel
theorem dX0_tryRows_93 : decode cX0_tryRows 93 = .ok (.getfield 27, 3) := by decide +kernel
theorem dX0_tryRows_96 : decode cX0_tryRows 96 = .ok (.iload 5, 2) := by decide +kernel
theorem dX0_tryRows_98 : decode cX0_tryRows 98 = .ok (.dup2, 1) := by decide +kernel
theorem dX0_tryRows_99 : decode cX0_tryRows 99 = .ok (.iaload, 1) := by decide +kernel
theorem dX0_tryRows_100 : decode cX0_tryRows 100 = .ok (.iload_n 2, 1) := by decide +kernel
theorem dX0_tryRows_101 : decode cX0_tryRows 101 = .ok (.invokestatic 49, 3) := by decide +kernel
theorem dX0_tryRows_104 : decode cX0_tryRows 104 = .ok (.iconst (-1), 1) := by decide +kernel
theorem dX0_tryRows_105 : decode cX0_tryRows 105 = .ok (.ixor, 1) := by decide +kernel
theorem dX0_tryRows_106 : decode cX0_tryRows 106 = .ok (.iand, 1) := by decide +kernel
theorem dX0_tryRows_107 : decode cX0_tryRows 107 = .ok (.iastore, 1) := by decide +kernel
theorem dX0_tryRows_108 : decode cX0_tryRows 108 = .ok (.iinc 5 1, 3) := by decide +kernel
theorem dX0_tryRows_111 : decode cX0_tryRows 111 = .ok (.goto (-83), 3) := by decide +kernel
theorem dX0_tryRows_114 : decode cX0_tryRows 114 = .ok (.return_, 1) := by decide +kernel
theorem dX0_keepLeast_0 : decode cX0_keepLeast 0 = .ok (.aload_n 0, 1) := by decide +kernel
theorem dX0_keepLeast_1 : decode cX0_keepLeast 1 = .ok (.iload_n 1, 1) := by decide +kernel
theorem dX0_keepLeast_2 : decode cX0_keepLeast 2 = .ok (.putfield 89, 3) := by decide +kernel
theorem dX0_keepLeast_5 : decode cX0_keepLeast 5 = .ok (.iconst 0, 1) := by decide +kernel
theorem dX0_keepLeast_6 : decode cX0_keepLeast 6 = .ok (.istore_n 2, 1) := by decide +kernel
theorem dX0_keepLeast_7 : decode cX0_keepLeast 7 = .ok (.iload_n 2, 1) := by decide +kernel
theorem dX0_keepLeast_8 : decode cX0_keepLeast 8 = .ok (.bipush 7, 2) := by decide +kernel
theorem dX0_keepLeast_10 : decode cX0_keepLeast 10 = .ok (.if_icmp .ge 21, 3) := by decide +kernel
theorem dX0_keepLeast_13 : decode cX0_keepLeast 13 = .ok (.aload_n 0, 1) := by decide +kernel
theorem dX0_keepLeast_14 : decode cX0_keepLeast 14 = .ok (.getfield 21, 3) := by decide +kernel
theorem dX0_keepLeast_17 : decode cX0_keepLeast 17 = .ok (.iload_n 2, 1) := by decide +kernel
theorem dX0_keepLeast_18 : decode cX0_keepLeast 18 = .ok (.aload_n 0, 1) := by decide +kernel
theorem dX0_keepLeast_19 : decode cX0_keepLeast 19 = .ok (.getfield 18, 3) := by decide +kernel
theorem dX0_keepLeast_22 : decode cX0_keepLeast 22 = .ok (.iload_n 2, 1) := by decide +kernel
theorem dX0_keepLeast_23 : decode cX0_keepLeast 23 = .ok (.iaload, 1) := by decide +kernel
theorem dX0_keepLeast_24 : decode cX0_keepLeast 24 = .ok (.iastore, 1) := by decide +kernel
theorem dX0_keepLeast_25 : decode cX0_keepLeast 25 = .ok (.iinc 2 1, 3) := by decide +kernel
theorem dX0_keepLeast_28 : decode cX0_keepLeast 28 = .ok (.goto (-21), 3) := by decide +kernel
theorem dX0_keepLeast_31 : decode cX0_keepLeast 31 = .ok (.return_, 1) := by decide +kernel
theorem dX1_init_0 : decode cX1_init 0 = .ok (.aload_n 0, 1) := by decide +kernel
theorem dX1_init_1 : decode cX1_init 1 = .ok (.invokespecial 3, 3) := by decide +kernel
theorem dX1_init_4 : decode cX1_init 4 = .ok (.aload_n 0, 1) := by decide +kernel
theorem dX1_init_5 : decode cX1_init 5 = .ok (.bipush 10, 2) := by decide +kernel
theorem dX1_init_7 : decode cX1_init 7 = .ok (.newarray .int, 2) := by decide +kernel
theorem dX1_init_9 : decode cX1_init 9 = .ok (.putfield 9, 3) := by decide +kernel
theorem dX1_init_12 : decode cX1_init 12 = .ok (.return_, 1) := by decide +kernel
theorem dX1_empty_0 : decode cX1_empty 0 = .ok (.aload_n 0, 1) := by decide +kernel
theorem dX1_empty_1 : decode cX1_empty 1 = .ok (.iconst 0, 1) := by decide +kernel
theorem dX1_empty_2 : decode cX1_empty 2 = .ok (.putfield 15, 3) := by decide +kernel
theorem dX1_empty_5 : decode cX1_empty 5 = .ok (.aload_n 0, 1) := by decide +kernel
theorem dX1_empty_6 : decode cX1_empty 6 = .ok (.iload_n 1, 1) := by decide +kernel
theorem dX1_empty_7 : decode cX1_empty 7 = .ok (.putfield 19, 3) := by decide +kernel
theorem dX1_empty_10 : decode cX1_empty 10 = .ok (.aload_n 0, 1) := by decide +kernel
theorem dX1_empty_11 : decode cX1_empty 11 = .ok (.iconst 0, 1) := by decide +kernel
theorem dX1_empty_12 : decode cX1_empty 12 = .ok (.putfield 22, 3) := by decide +kernel
theorem dX1_empty_15 : decode cX1_empty 15 = .ok (.return_, 1) := by decide +kernel
theorem dX1_enter_0 : decode cX1_enter 0 = .ok (.aload_n 0, 1) := by decide +kernel
theorem dX1_enter_1 : decode cX1_enter 1 = .ok (.getfield 22, 3) := by decide +kernel
theorem dX1_enter_4 : decode cX1_enter 4 = .ok (.iload_n 1, 1) := by decide +kernel
theorem dX1_enter_5 : decode cX1_enter 5 = .ok (.invokestatic 25, 3) := by decide +kernel
theorem dX1_enter_8 : decode cX1_enter 8 = .ok (.istore_n 3, 1) := by decide +kernel
theorem dX1_enter_9 : decode cX1_enter 9 = .ok (.iconst 0, 1) := by decide +kernel
theorem dX1_enter_10 : decode cX1_enter 10 = .ok (.istore 4, 2) := by decide +kernel
theorem dX1_enter_12 : decode cX1_enter 12 = .ok (.iload 4, 2) := by decide +kernel
theorem dX1_enter_14 : decode cX1_enter 14 = .ok (.aload_n 0, 1) := by decide +kernel
theorem dX1_enter_15 : decode cX1_enter 15 = .ok (.getfield 15, 3) := by decide +kernel
theorem dX1_enter_18 : decode cX1_enter 18 = .ok (.if_icmp .ge 27, 3) := by decide +kernel
theorem dX1_enter_21 : decode cX1_enter 21 = .ok (.aload_n 0, 1) := by decide +kernel
theorem dX1_enter_22 : decode cX1_enter 22 = .ok (.iload_n 3, 1) := by decide +kernel
theorem dX1_enter_23 : decode cX1_enter 23 = .ok (.invokevirtual 31, 3) := by decide +kernel
theorem dX1_enter_26 : decode cX1_enter 26 = .ok (.aload_n 0, 1) := by decide +kernel
theorem dX1_enter_27 : decode cX1_enter 27 = .ok (.getfield 19, 3) := by decide +kernel
theorem dX1_enter_30 : decode cX1_enter 30 = .ok (.if_icmp .lt 15, 3) := by decide +kernel
theorem dX1_enter_33 : decode cX1_enter 33 = .ok (.aload_n 0, 1) := by decide +kernel
theorem dX1_enter_34 : decode cX1_enter 34 = .ok (.iload_n 3, 1) := by decide +kernel
theorem dX1_enter_35 : decode cX1_enter 35 = .ok (.invokevirtual 35, 3) := by decide +kernel
theorem dX1_enter_38 : decode cX1_enter 38 = .ok (.istore_n 3, 1) := by decide +kernel
theorem dX1_enter_39 : decode cX1_enter 39 = .ok (.iinc 4 1, 3) := by decide +kernel
theorem dX1_enter_42 : decode cX1_enter 42 = .ok (.goto (-30), 3) := by decide +kernel
theorem dX1_enter_45 : decode cX1_enter 45 = .ok (.aload_n 0, 1) := by decide +kernel
theorem dX1_enter_46 : decode cX1_enter 46 = .ok (.iload_n 3, 1) := by decide +kernel
theorem dX1_enter_47 : decode cX1_enter 47 = .ok (.putfield 22, 3) := by decide +kernel
theorem dX1_enter_50 : decode cX1_enter 50 = .ok (.aload_n 0, 1) := by decide +kernel
theorem dX1_enter_51 : decode cX1_enter 51 = .ok (.getfield 15, 3) := by decide +kernel
theorem dX1_enter_54 : decode cX1_enter 54 = .ok (.bipush 10, 2) := by decide +kernel
theorem dX1_enter_56 : decode cX1_enter 56 = .ok (.if_icmp .ge 25, 3) := by decide +kernel
theorem dX1_enter_59 : decode cX1_enter 59 = .ok (.aload_n 0, 1) := by decide +kernel
theorem dX1_enter_60 : decode cX1_enter 60 = .ok (.getfield 9, 3) := by decide +kernel
theorem dX1_enter_63 : decode cX1_enter 63 = .ok (.aload_n 0, 1) := by decide +kernel
theorem dX1_enter_64 : decode cX1_enter 64 = .ok (.getfield 15, 3) := by decide +kernel
theorem dX1_enter_67 : decode cX1_enter 67 = .ok (.iload_n 3, 1) := by decide +kernel
theorem dX1_enter_68 : decode cX1_enter 68 = .ok (.iload_n 2, 1) := by decide +kernel
theorem dX1_enter_69 : decode cX1_enter 69 = .ok (.iadd, 1) := by decide +kernel
theorem dX1_enter_70 : decode cX1_enter 70 = .ok (.iastore, 1) := by decide +kernel
theorem dX1_enter_71 : decode cX1_enter 71 = .ok (.aload_n 0, 1) := by decide +kernel
theorem dX1_enter_72 : decode cX1_enter 72 = .ok (.dup, 1) := by decide +kernel
theorem dX1_enter_73 : decode cX1_enter 73 = .ok (.getfield 15, 3) := by decide +kernel
theorem dX1_enter_76 : decode cX1_enter 76 = .ok (.iconst 1, 1) := by decide +kernel
theorem dX1_enter_77 : decode cX1_enter 77 = .ok (.iadd, 1) := by decide +kernel
theorem dX1_enter_78 : decode cX1_enter 78 = .ok (.putfield 15, 3) := by decide +kernel
theorem dX1_enter_81 : decode cX1_enter 81 = .ok (.iload_n 3, 1) := by decide +kernel
theorem dX1_enter_82 : decode cX1_enter 82 = .ok (.iload_n 2, 1) := by decide +kernel
theorem dX1_enter_83 : decode cX1_enter 83 = .ok (.iadd, 1) := by decide +kernel
theorem dX1_enter_84 : decode cX1_enter 84 = .ok (.ireturn, 1) := by decide +kernel
theorem dX1_lastOut_0 : decode cX1_lastOut 0 = .ok (.iconst 0, 1) := by decide +kernel
theorem dX1_lastOut_1 : decode cX1_lastOut 1 = .ok (.istore_n 1, 1) := by decide +kernel
theorem dX1_lastOut_2 : decode cX1_lastOut 2 = .ok (.iconst 0, 1) := by decide +kernel
theorem dX1_lastOut_3 : decode cX1_lastOut 3 = .ok (.istore_n 2, 1) := by decide +kernel
theorem dX1_lastOut_4 : decode cX1_lastOut 4 = .ok (.iload_n 2, 1) := by decide +kernel
theorem dX1_lastOut_5 : decode cX1_lastOut 5 = .ok (.aload_n 0, 1) := by decide +kernel
theorem dX1_lastOut_6 : decode cX1_lastOut 6 = .ok (.getfield 15, 3) := by decide +kernel
theorem dX1_lastOut_9 : decode cX1_lastOut 9 = .ok (.if_icmp .ge 20, 3) := by decide +kernel
theorem dX1_lastOut_12 : decode cX1_lastOut 12 = .ok (.iload_n 1, 1) := by decide +kernel
theorem dX1_lastOut_13 : decode cX1_lastOut 13 = .ok (.aload_n 0, 1) := by decide +kernel
theorem dX1_lastOut_14 : decode cX1_lastOut 14 = .ok (.getfield 9, 3) := by decide +kernel
theorem dX1_lastOut_17 : decode cX1_lastOut 17 = .ok (.iload_n 2, 1) := by decide +kernel
theorem dX1_lastOut_18 : decode cX1_lastOut 18 = .ok (.iaload, 1) := by decide +kernel
theorem dX1_lastOut_19 : decode cX1_lastOut 19 = .ok (.invokestatic 25, 3) := by decide +kernel
theorem dX1_lastOut_22 : decode cX1_lastOut 22 = .ok (.istore_n 1, 1) := by decide +kernel
theorem dX1_lastOut_23 : decode cX1_lastOut 23 = .ok (.iinc 2 1, 3) := by decide +kernel
theorem dX1_lastOut_26 : decode cX1_lastOut 26 = .ok (.goto (-22), 3) := by decide +kernel
theorem dX1_lastOut_29 : decode cX1_lastOut 29 = .ok (.iload_n 1, 1) := by decide +kernel
theorem dX1_lastOut_30 : decode cX1_lastOut 30 = .ok (.ireturn, 1) := by decide +kernel
theorem dX1_inside_0 : decode cX1_inside 0 = .ok (.iconst 0, 1) := by decide +kernel
theorem dX1_inside_1 : decode cX1_inside 1 = .ok (.istore_n 2, 1) := by decide +kernel
theorem dX1_inside_2 : decode cX1_inside 2 = .ok (.iconst 0, 1) := by decide +kernel
theorem dX1_inside_3 : decode cX1_inside 3 = .ok (.istore_n 3, 1) := by decide +kernel
theorem dX1_inside_4 : decode cX1_inside 4 = .ok (.iload_n 3, 1) := by decide +kernel
theorem dX1_inside_5 : decode cX1_inside 5 = .ok (.aload_n 0, 1) := by decide +kernel
theorem dX1_inside_6 : decode cX1_inside 6 = .ok (.getfield 15, 3) := by decide +kernel
theorem dX1_inside_9 : decode cX1_inside 9 = .ok (.if_icmp .ge 22, 3) := by decide +kernel
theorem dX1_inside_12 : decode cX1_inside 12 = .ok (.aload_n 0, 1) := by decide +kernel
theorem dX1_inside_13 : decode cX1_inside 13 = .ok (.getfield 9, 3) := by decide +kernel
theorem dX1_inside_16 : decode cX1_inside 16 = .ok (.iload_n 3, 1) := by decide +kernel
theorem dX1_inside_17 : decode cX1_inside 17 = .ok (.iaload, 1) := by decide +kernel
theorem dX1_inside_18 : decode cX1_inside 18 = .ok (.iload_n 1, 1) := by decide +kernel
theorem dX1_inside_19 : decode cX1_inside 19 = .ok (.if_icmp .le 6, 3) := by decide +kernel
theorem dX1_inside_22 : decode cX1_inside 22 = .ok (.iinc 2 1, 3) := by decide +kernel
theorem dX1_inside_25 : decode cX1_inside 25 = .ok (.iinc 3 1, 3) := by decide +kernel
theorem dX1_inside_28 : decode cX1_inside 28 = .ok (.goto (-24), 3) := by decide +kernel
theorem dX1_inside_31 : decode cX1_inside 31 = .ok (.iload_n 2, 1) := by decide +kernel
theorem dX1_inside_32 : decode cX1_inside 32 = .ok (.ireturn, 1) := by decide +kernel
theorem dX1_nextOut_0 : decode cX1_nextOut 0 = .ok (.aload_n 0, 1) := by decide +kernel
theorem dX1_nextOut_1 : decode cX1_nextOut 1 = .ok (.invokevirtual 38, 3) := by decide +kernel
theorem dX1_nextOut_4 : decode cX1_nextOut 4 = .ok (.istore_n 2, 1) := by decide +kernel
theorem dX1_nextOut_5 : decode cX1_nextOut 5 = .ok (.iconst 0, 1) := by decide +kernel
theorem dX1_nextOut_6 : decode cX1_nextOut 6 = .ok (.istore_n 3, 1) := by decide +kernel
theorem dX1_nextOut_7 : decode cX1_nextOut 7 = .ok (.iload_n 3, 1) := by decide +kernel
theorem dX1_nextOut_8 : decode cX1_nextOut 8 = .ok (.aload_n 0, 1) := by decide +kernel
theorem dX1_nextOut_9 : decode cX1_nextOut 9 = .ok (.getfield 15, 3) := by decide +kernel
theorem dX1_nextOut_12 : decode cX1_nextOut 12 = .ok (.if_icmp .ge 30, 3) := by decide +kernel
theorem dX1_nextOut_15 : decode cX1_nextOut 15 = .ok (.aload_n 0, 1) := by decide +kernel
theorem dX1_nextOut_16 : decode cX1_nextOut 16 = .ok (.getfield 9, 3) := by decide +kernel
theorem dX1_nextOut_19 : decode cX1_nextOut 19 = .ok (.iload_n 3, 1) := by decide +kernel
theorem dX1_nextOut_20 : decode cX1_nextOut 20 = .ok (.iaload, 1) := by decide +kernel
theorem dX1_nextOut_21 : decode cX1_nextOut 21 = .ok (.iload_n 1, 1) := by decide +kernel
theorem dX1_nextOut_22 : decode cX1_nextOut 22 = .ok (.if_icmp .le 14, 3) := by decide +kernel
theorem dX1_nextOut_25 : decode cX1_nextOut 25 = .ok (.iload_n 2, 1) := by decide +kernel
theorem dX1_nextOut_26 : decode cX1_nextOut 26 = .ok (.aload_n 0, 1) := by decide +kernel
theorem dX1_nextOut_27 : decode cX1_nextOut 27 = .ok (.getfield 9, 3) := by decide +kernel
theorem dX1_nextOut_30 : decode cX1_nextOut 30 = .ok (.iload_n 3, 1) := by decide +kernel
theorem dX1_nextOut_31 : decode cX1_nextOut 31 = .ok (.iaload, 1) := by decide +kernel
theorem dX1_nextOut_32 : decode cX1_nextOut 32 = .ok (.invokestatic 42, 3) := by decide +kernel
theorem dX1_nextOut_35 : decode cX1_nextOut 35 = .ok (.istore_n 2, 1) := by decide +kernel
theorem dX1_nextOut_36 : decode cX1_nextOut 36 = .ok (.iinc 3 1, 3) := by decide +kernel
theorem dX1_nextOut_39 : decode cX1_nextOut 39 = .ok (.goto (-32), 3) := by decide +kernel
theorem dX1_nextOut_42 : decode cX1_nextOut 42 = .ok (.iload_n 2, 1) := by decide +kernel
theorem dX1_nextOut_43 : decode cX1_nextOut 43 = .ok (.ireturn, 1) := by decide +kernel
theorem dX2_init_0 : decode cX2_init 0 = .ok (.aload_n 0, 1) := by decide +kernel
theorem dX2_init_1 : decode cX2_init 1 = .ok (.invokespecial 3, 3) := by decide +kernel
theorem dX2_init_4 : decode cX2_init 4 = .ok (.aload_n 0, 1) := by decide +kernel
theorem dX2_init_5 : decode cX2_init 5 = .ok (.bipush 10, 2) := by decide +kernel
theorem dX2_init_7 : decode cX2_init 7 = .ok (.newarray .int, 2) := by decide +kernel
theorem dX2_init_9 : decode cX2_init 9 = .ok (.putfield 9, 3) := by decide +kernel
theorem dX2_init_12 : decode cX2_init 12 = .ok (.aload_n 0, 1) := by decide +kernel
theorem dX2_init_13 : decode cX2_init 13 = .ok (.bipush 10, 2) := by decide +kernel
theorem dX2_init_15 : decode cX2_init 15 = .ok (.newarray .int, 2) := by decide +kernel
theorem dX2_init_17 : decode cX2_init 17 = .ok (.putfield 15, 3) := by decide +kernel
theorem dX2_init_20 : decode cX2_init 20 = .ok (.aload_n 0, 1) := by decide +kernel
theorem dX2_init_21 : decode cX2_init 21 = .ok (.bipush 10, 2) := by decide +kernel
theorem dX2_init_23 : decode cX2_init 23 = .ok (.newarray .int, 2) := by decide +kernel
theorem dX2_init_25 : decode cX2_init 25 = .ok (.putfield 18, 3) := by decide +kernel
theorem dX2_init_28 : decode cX2_init 28 = .ok (.aload_n 0, 1) := by decide +kernel
theorem dX2_init_29 : decode cX2_init 29 = .ok (.bipush 10, 2) := by decide +kernel
theorem dX2_init_31 : decode cX2_init 31 = .ok (.newarray .int, 2) := by decide +kernel
theorem dX2_init_33 : decode cX2_init 33 = .ok (.putfield 21, 3) := by decide +kernel
theorem dX2_init_36 : decode cX2_init 36 = .ok (.return_, 1) := by decide +kernel
theorem dX2_lay_0 : decode cX2_lay 0 = .ok (.iconst 0, 1) := by decide +kernel
theorem dX2_lay_1 : decode cX2_lay 1 = .ok (.istore 4, 2) := by decide +kernel
theorem dX2_lay_3 : decode cX2_lay 3 = .ok (.iload 4, 2) := by decide +kernel
theorem dX2_lay_5 : decode cX2_lay 5 = .ok (.bipush 10, 2) := by decide +kernel
theorem dX2_lay_7 : decode cX2_lay 7 = .ok (.if_icmp .ge 25, 3) := by decide +kernel
theorem dX2_lay_10 : decode cX2_lay 10 = .ok (.aload_n 0, 1) := by decide +kernel
theorem dX2_lay_11 : decode cX2_lay 11 = .ok (.getfield 9, 3) := by decide +kernel
theorem dX2_lay_14 : decode cX2_lay 14 = .ok (.iload 4, 2) := by decide +kernel
theorem dX2_lay_16 : decode cX2_lay 16 = .ok (.iconst 0, 1) := by decide +kernel
theorem dX2_lay_17 : decode cX2_lay 17 = .ok (.iastore, 1) := by decide +kernel
theorem dX2_lay_18 : decode cX2_lay 18 = .ok (.aload_n 0, 1) := by decide +kernel
theorem dX2_lay_19 : decode cX2_lay 19 = .ok (.getfield 15, 3) := by decide +kernel
theorem dX2_lay_22 : decode cX2_lay 22 = .ok (.iload 4, 2) := by decide +kernel
theorem dX2_lay_24 : decode cX2_lay 24 = .ok (.iconst 0, 1) := by decide +kernel
theorem dX2_lay_25 : decode cX2_lay 25 = .ok (.iastore, 1) := by decide +kernel
theorem dX2_lay_26 : decode cX2_lay 26 = .ok (.iinc 4 1, 3) := by decide +kernel
theorem dX2_lay_29 : decode cX2_lay 29 = .ok (.goto (-26), 3) := by decide +kernel
theorem dX2_lay_32 : decode cX2_lay 32 = .ok (.aload_n 0, 1) := by decide +kernel
theorem dX2_lay_33 : decode cX2_lay 33 = .ok (.iconst 0, 1) := by decide +kernel
theorem dX2_lay_34 : decode cX2_lay 34 = .ok (.putfield 24, 3) := by decide +kernel
theorem dX2_lay_37 : decode cX2_lay 37 = .ok (.aload_n 0, 1) := by decide +kernel
theorem dX2_lay_38 : decode cX2_lay 38 = .ok (.iconst (-1), 1) := by decide +kernel
theorem dX2_lay_39 : decode cX2_lay 39 = .ok (.putfield 28, 3) := by decide +kernel
theorem dX2_lay_42 : decode cX2_lay 42 = .ok (.iconst 0, 1) := by decide +kernel
theorem dX2_lay_43 : decode cX2_lay 43 = .ok (.istore 4, 2) := by decide +kernel
theorem dX2_lay_45 : decode cX2_lay 45 = .ok (.iload 4, 2) := by decide +kernel
theorem dX2_lay_47 : decode cX2_lay 47 = .ok (.aload_n 1, 1) := by decide +kernel
theorem dX2_lay_48 : decode cX2_lay 48 = .ok (.getfield 31, 3) := by decide +kernel
theorem dX2_lay_51 : decode cX2_lay 51 = .ok (.if_icmp .ge 62, 3) := by decide +kernel
theorem dX2_lay_54 : decode cX2_lay 54 = .ok (.aload_n 1, 1) := by decide +kernel
theorem dX2_lay_55 : decode cX2_lay 55 = .ok (.iload 4, 2) := by decide +kernel
theorem dX2_lay_57 : decode cX2_lay 57 = .ok (.invokevirtual 36, 3) := by decide +kernel
theorem dX2_lay_60 : decode cX2_lay 60 = .ok (.istore 5, 2) := by decide +kernel
theorem dX2_lay_62 : decode cX2_lay 62 = .ok (.aload_n 2, 1) := by decide +kernel
theorem dX2_lay_63 : decode cX2_lay 63 = .ok (.iload 5, 2) := by decide +kernel
theorem dX2_lay_65 : decode cX2_lay 65 = .ok (.iaload, 1) := by decide +kernel
theorem dX2_lay_66 : decode cX2_lay 66 = .ok (.istore 6, 2) := by decide +kernel
theorem dX2_lay_68 : decode cX2_lay 68 = .ok (.aload_n 0, 1) := by decide +kernel
theorem dX2_lay_69 : decode cX2_lay 69 = .ok (.getfield 9, 3) := by decide +kernel
theorem dX2_lay_72 : decode cX2_lay 72 = .ok (.iload 6, 2) := by decide +kernel
theorem dX2_lay_74 : decode cX2_lay 74 = .ok (.iaload, 1) := by decide +kernel
theorem dX2_lay_75 : decode cX2_lay 75 = .ok (.invokestatic 40, 3) := by decide +kernel
theorem dX2_lay_78 : decode cX2_lay 78 = .ok (.iload_n 3, 1) := by decide +kernel
theorem dX2_lay_79 : decode cX2_lay 79 = .ok (.if_icmp .ge 14, 3) := by decide +kernel
theorem dX2_lay_82 : decode cX2_lay 82 = .ok (.aload_n 0, 1) := by decide +kernel
theorem dX2_lay_83 : decode cX2_lay 83 = .ok (.iload 5, 2) := by decide +kernel
theorem dX2_lay_85 : decode cX2_lay 85 = .ok (.iload 6, 2) := by decide +kernel
theorem dX2_lay_87 : decode cX2_lay 87 = .ok (.invokevirtual 45, 3) := by decide +kernel
theorem dX2_lay_90 : decode cX2_lay 90 = .ok (.goto 17, 3) := by decide +kernel
theorem dX2_lay_93 : decode cX2_lay 93 = .ok (.aload_n 0, 1) := by decide +kernel
theorem dX2_lay_94 : decode cX2_lay 94 = .ok (.getfield 28, 3) := by decide +kernel
theorem dX2_lay_97 : decode cX2_lay 97 = .ok (.iconst (-1), 1) := by decide +kernel
theorem dX2_lay_98 : decode cX2_lay 98 = .ok (.if_icmp .ne 9, 3) := by decide +kernel
theorem dX2_lay_101 : decode cX2_lay 101 = .ok (.aload_n 0, 1) := by decide +kernel
theorem dX2_lay_102 : decode cX2_lay 102 = .ok (.iload 5, 2) := by decide +kernel
theorem dX2_lay_104 : decode cX2_lay 104 = .ok (.putfield 28, 3) := by decide +kernel
theorem dX2_lay_107 : decode cX2_lay 107 = .ok (.iinc 4 1, 3) := by decide +kernel
theorem dX2_lay_110 : decode cX2_lay 110 = .ok (.goto (-65), 3) := by decide +kernel
theorem dX2_lay_113 : decode cX2_lay 113 = .ok (.return_, 1) := by decide +kernel
theorem dX2_layInFront_0 : decode cX2_layInFront 0 = .ok (.iconst 0, 1) := by decide +kernel
theorem dX2_layInFront_1 : decode cX2_layInFront 1 = .ok (.istore_n 3, 1) := by decide +kernel
theorem dX2_layInFront_2 : decode cX2_layInFront 2 = .ok (.iload_n 3, 1) := by decide +kernel
theorem dX2_layInFront_3 : decode cX2_layInFront 3 = .ok (.bipush 10, 2) := by decide +kernel
theorem dX2_layInFront_5 : decode cX2_layInFront 5 = .ok (.if_icmp .ge 35, 3) := by decide +kernel
theorem dX2_layInFront_8 : decode cX2_layInFront 8 = .ok (.aload_n 0, 1) := by decide +kernel
theorem dX2_layInFront_9 : decode cX2_layInFront 9 = .ok (.getfield 9, 3) := by decide +kernel
theorem dX2_layInFront_12 : decode cX2_layInFront 12 = .ok (.iload_n 2, 1) := by decide +kernel
theorem dX2_layInFront_13 : decode cX2_layInFront 13 = .ok (.iaload, 1) := by decide +kernel
theorem dX2_layInFront_14 : decode cX2_layInFront 14 = .ok (.iload_n 3, 1) := by decide +kernel
theorem dX2_layInFront_15 : decode cX2_layInFront 15 = .ok (.invokestatic 49, 3) := by decide +kernel
theorem dX2_layInFront_18 : decode cX2_layInFront 18 = .ok (.ifCond .eq 16, 3) := by decide +kernel
theorem dX2_layInFront_21 : decode cX2_layInFront 21 = .ok (.aload_n 0, 1) := by decide +kernel
theorem dX2_layInFront_22 : decode cX2_layInFront 22 = .ok (.getfield 15, 3) := by decide +kernel
theorem dX2_layInFront_25 : decode cX2_layInFront 25 = .ok (.iload_n 3, 1) := by decide +kernel
theorem dX2_layInFront_26 : decode cX2_layInFront 26 = .ok (.dup2, 1) := by decide +kernel
theorem dX2_layInFront_27 : decode cX2_layInFront 27 = .ok (.iaload, 1) := by decide +kernel
theorem dX2_layInFront_28 : decode cX2_layInFront 28 = .ok (.iload_n 1, 1) := by decide +kernel
theorem dX2_layInFront_29 : decode cX2_layInFront 29 = .ok (.invokestatic 53, 3) := by decide +kernel
theorem dX2_layInFront_32 : decode cX2_layInFront 32 = .ok (.ior, 1) := by decide +kernel
theorem dX2_layInFront_33 : decode cX2_layInFront 33 = .ok (.iastore, 1) := by decide +kernel
theorem dX2_layInFront_34 : decode cX2_layInFront 34 = .ok (.iinc 3 1, 3) := by decide +kernel
theorem dX2_layInFront_37 : decode cX2_layInFront 37 = .ok (.goto (-35), 3) := by decide +kernel
theorem dX2_layInFront_40 : decode cX2_layInFront 40 = .ok (.aload_n 0, 1) := by decide +kernel
theorem dX2_layInFront_41 : decode cX2_layInFront 41 = .ok (.getfield 9, 3) := by decide +kernel
theorem dX2_layInFront_44 : decode cX2_layInFront 44 = .ok (.iload_n 2, 1) := by decide +kernel
theorem dX2_layInFront_45 : decode cX2_layInFront 45 = .ok (.dup2, 1) := by decide +kernel
theorem dX2_layInFront_46 : decode cX2_layInFront 46 = .ok (.iaload, 1) := by decide +kernel
theorem dX2_layInFront_47 : decode cX2_layInFront 47 = .ok (.iload_n 1, 1) := by decide +kernel
theorem dX2_layInFront_48 : decode cX2_layInFront 48 = .ok (.invokestatic 53, 3) := by decide +kernel
theorem dX2_layInFront_51 : decode cX2_layInFront 51 = .ok (.ior, 1) := by decide +kernel
theorem dX2_layInFront_52 : decode cX2_layInFront 52 = .ok (.iastore, 1) := by decide +kernel
theorem dX2_layInFront_53 : decode cX2_layInFront 53 = .ok (.aload_n 0, 1) := by decide +kernel
theorem dX2_layInFront_54 : decode cX2_layInFront 54 = .ok (.dup, 1) := by decide +kernel
theorem dX2_layInFront_55 : decode cX2_layInFront 55 = .ok (.getfield 24, 3) := by decide +kernel
theorem dX2_layInFront_58 : decode cX2_layInFront 58 = .ok (.iload_n 1, 1) := by decide +kernel
theorem dX2_layInFront_59 : decode cX2_layInFront 59 = .ok (.invokestatic 53, 3) := by decide +kernel
theorem dX2_layInFront_62 : decode cX2_layInFront 62 = .ok (.ior, 1) := by decide +kernel
theorem dX2_layInFront_63 : decode cX2_layInFront 63 = .ok (.putfield 24, 3) := by decide +kernel
theorem dX2_layInFront_66 : decode cX2_layInFront 66 = .ok (.return_, 1) := by decide +kernel
theorem dX2_letGo_0 : decode cX2_letGo 0 = .ok (.iconst 0, 1) := by decide +kernel
theorem dX2_letGo_1 : decode cX2_letGo 1 = .ok (.istore_n 2, 1) := by decide +kernel
theorem dX2_letGo_2 : decode cX2_letGo 2 = .ok (.iload_n 2, 1) := by decide +kernel
theorem dX2_letGo_3 : decode cX2_letGo 3 = .ok (.bipush 10, 2) := by decide +kernel
theorem dX2_letGo_5 : decode cX2_letGo 5 = .ok (.if_icmp .ge 17, 3) := by decide +kernel
theorem dX2_letGo_8 : decode cX2_letGo 8 = .ok (.aload_n 0, 1) := by decide +kernel
theorem dX2_letGo_9 : decode cX2_letGo 9 = .ok (.getfield 18, 3) := by decide +kernel
theorem dX2_letGo_12 : decode cX2_letGo 12 = .ok (.iload_n 2, 1) := by decide +kernel
theorem dX2_letGo_13 : decode cX2_letGo 13 = .ok (.bipush (-3), 2) := by decide +kernel
theorem dX2_letGo_15 : decode cX2_letGo 15 = .ok (.iastore, 1) := by decide +kernel
theorem dX2_letGo_16 : decode cX2_letGo 16 = .ok (.iinc 2 1, 3) := by decide +kernel
theorem dX2_letGo_19 : decode cX2_letGo 19 = .ok (.goto (-17), 3) := by decide +kernel
theorem dX2_letGo_22 : decode cX2_letGo 22 = .ok (.aload_n 0, 1) := by decide +kernel
theorem dX2_letGo_23 : decode cX2_letGo 23 = .ok (.iconst 0, 1) := by decide +kernel
theorem dX2_letGo_24 : decode cX2_letGo 24 = .ok (.putfield 56, 3) := by decide +kernel
theorem dX2_letGo_27 : decode cX2_letGo 27 = .ok (.aload_n 0, 1) := by decide +kernel
theorem dX2_letGo_28 : decode cX2_letGo 28 = .ok (.iconst 0, 1) := by decide +kernel
theorem dX2_letGo_29 : decode cX2_letGo 29 = .ok (.putfield 59, 3) := by decide +kernel
theorem dX2_letGo_32 : decode cX2_letGo 32 = .ok (.aload_n 0, 1) := by decide +kernel
theorem dX2_letGo_33 : decode cX2_letGo 33 = .ok (.getfield 24, 3) := by decide +kernel
theorem dX2_letGo_36 : decode cX2_letGo 36 = .ok (.istore_n 2, 1) := by decide +kernel
theorem dX2_letGo_37 : decode cX2_letGo 37 = .ok (.iconst 0, 1) := by decide +kernel
theorem dX2_letGo_38 : decode cX2_letGo 38 = .ok (.istore_n 3, 1) := by decide +kernel
theorem dX2_letGo_39 : decode cX2_letGo 39 = .ok (.iload_n 3, 1) := by decide +kernel
theorem dX2_letGo_40 : decode cX2_letGo 40 = .ok (.aload_n 1, 1) := by decide +kernel
theorem dX2_letGo_41 : decode cX2_letGo 41 = .ok (.getfield 31, 3) := by decide +kernel
theorem dX2_letGo_44 : decode cX2_letGo 44 = .ok (.if_icmp .ge 89, 3) := by decide +kernel
theorem dX2_letGo_47 : decode cX2_letGo 47 = .ok (.aload_n 1, 1) := by decide +kernel
theorem dX2_letGo_48 : decode cX2_letGo 48 = .ok (.iload_n 3, 1) := by decide +kernel
theorem dX2_letGo_49 : decode cX2_letGo 49 = .ok (.invokevirtual 36, 3) := by decide +kernel
theorem dX2_letGo_52 : decode cX2_letGo 52 = .ok (.istore 4, 2) := by decide +kernel
theorem dX2_letGo_54 : decode cX2_letGo 54 = .ok (.aload_n 0, 1) := by decide +kernel
theorem dX2_letGo_55 : decode cX2_letGo 55 = .ok (.getfield 24, 3) := by decide +kernel
theorem dX2_letGo_58 : decode cX2_letGo 58 = .ok (.iload 4, 2) := by decide +kernel
theorem dX2_letGo_60 : decode cX2_letGo 60 = .ok (.invokestatic 49, 3) := by decide +kernel
theorem dX2_letGo_63 : decode cX2_letGo 63 = .ok (.ifCond .eq 64, 3) := by decide +kernel
theorem dX2_letGo_66 : decode cX2_letGo 66 = .ok (.aload_n 0, 1) := by decide +kernel
theorem dX2_letGo_67 : decode cX2_letGo 67 = .ok (.getfield 18, 3) := by decide +kernel
theorem dX2_letGo_70 : decode cX2_letGo 70 = .ok (.iload 4, 2) := by decide +kernel
theorem dX2_letGo_72 : decode cX2_letGo 72 = .ok (.aload_n 0, 1) := by decide +kernel
theorem dX2_letGo_73 : decode cX2_letGo 73 = .ok (.iload 4, 2) := by decide +kernel
theorem dX2_letGo_75 : decode cX2_letGo 75 = .ok (.iload_n 2, 1) := by decide +kernel
theorem dX2_letGo_76 : decode cX2_letGo 76 = .ok (.invokevirtual 62, 3) := by decide +kernel
theorem dX2_letGo_79 : decode cX2_letGo 79 = .ok (.iastore, 1) := by decide +kernel
theorem dX2_letGo_80 : decode cX2_letGo 80 = .ok (.aload_n 0, 1) := by decide +kernel
theorem dX2_letGo_81 : decode cX2_letGo 81 = .ok (.dup, 1) := by decide +kernel
theorem dX2_letGo_82 : decode cX2_letGo 82 = .ok (.getfield 59, 3) := by decide +kernel
theorem dX2_letGo_85 : decode cX2_letGo 85 = .ok (.aload_n 0, 1) := by decide +kernel
theorem dX2_letGo_86 : decode cX2_letGo 86 = .ok (.getfield 18, 3) := by decide +kernel
theorem dX2_letGo_89 : decode cX2_letGo 89 = .ok (.iload 4, 2) := by decide +kernel
theorem dX2_letGo_91 : decode cX2_letGo 91 = .ok (.iaload, 1) := by decide +kernel
theorem dX2_letGo_92 : decode cX2_letGo 92 = .ok (.iadd, 1) := by decide +kernel
theorem dX2_letGo_93 : decode cX2_letGo 93 = .ok (.putfield 59, 3) := by decide +kernel
theorem dX2_letGo_96 : decode cX2_letGo 96 = .ok (.aload_n 0, 1) := by decide +kernel
theorem dX2_letGo_97 : decode cX2_letGo 97 = .ok (.getfield 21, 3) := by decide +kernel
theorem dX2_letGo_100 : decode cX2_letGo 100 = .ok (.aload_n 0, 1) := by decide +kernel
theorem dX2_letGo_101 : decode cX2_letGo 101 = .ok (.getfield 56, 3) := by decide +kernel
theorem dX2_letGo_104 : decode cX2_letGo 104 = .ok (.iload 4, 2) := by decide +kernel
theorem dX2_letGo_106 : decode cX2_letGo 106 = .ok (.iastore, 1) := by decide +kernel
theorem dX2_letGo_107 : decode cX2_letGo 107 = .ok (.aload_n 0, 1) := by decide +kernel
theorem dX2_letGo_108 : decode cX2_letGo 108 = .ok (.dup, 1) := by decide +kernel
theorem dX2_letGo_109 : decode cX2_letGo 109 = .ok (.getfield 56, 3) := by decide +kernel
theorem dX2_letGo_112 : decode cX2_letGo 112 = .ok (.iconst 1, 1) := by decide +kernel
theorem dX2_letGo_113 : decode cX2_letGo 113 = .ok (.iadd, 1) := by decide +kernel
theorem dX2_letGo_114 : decode cX2_letGo 114 = .ok (.putfield 56, 3) := by decide +kernel
theorem dX2_letGo_117 : decode cX2_letGo 117 = .ok (.iload_n 2, 1) := by decide +kernel
theorem dX2_letGo_118 : decode cX2_letGo 118 = .ok (.iload 4, 2) := by decide +kernel
theorem dX2_letGo_120 : decode cX2_letGo 120 = .ok (.invokestatic 53, 3) := by decide +kernel
theorem dX2_letGo_123 : decode cX2_letGo 123 = .ok (.iconst (-1), 1) := by decide +kernel
theorem dX2_letGo_124 : decode cX2_letGo 124 = .ok (.ixor, 1) := by decide +kernel
theorem dX2_letGo_125 : decode cX2_letGo 125 = .ok (.iand, 1) := by decide +kernel
theorem dX2_letGo_126 : decode cX2_letGo 126 = .ok (.istore_n 2, 1) := by decide +kernel
theorem dX2_letGo_127 : decode cX2_letGo 127 = .ok (.iinc 3 1, 3) := by decide +kernel
theorem dX2_letGo_130 : decode cX2_letGo 130 = .ok (.goto (-91), 3) := by decide +kernel
theorem dX2_letGo_133 : decode cX2_letGo 133 = .ok (.return_, 1) := by decide +kernel
theorem dX2_liftedAmong_0 : decode cX2_liftedAmong 0 = .ok (.iload_n 2, 1) := by decide +kernel
theorem dX2_liftedAmong_1 : decode cX2_liftedAmong 1 = .ok (.iload_n 1, 1) := by decide +kernel
theorem dX2_liftedAmong_2 : decode cX2_liftedAmong 2 = .ok (.invokestatic 49, 3) := by decide +kernel
theorem dX2_liftedAmong_5 : decode cX2_liftedAmong 5 = .ok (.ifCond .eq 17, 3) := by decide +kernel
theorem dX2_liftedAmong_8 : decode cX2_liftedAmong 8 = .ok (.aload_n 0, 1) := by decide +kernel
theorem dX2_liftedAmong_9 : decode cX2_liftedAmong 9 = .ok (.getfield 15, 3) := by decide +kernel
theorem dX2_liftedAmong_12 : decode cX2_liftedAmong 12 = .ok (.iload_n 1, 1) := by decide +kernel
theorem dX2_liftedAmong_13 : decode cX2_liftedAmong 13 = .ok (.iaload, 1) := by decide +kernel
theorem dX2_liftedAmong_14 : decode cX2_liftedAmong 14 = .ok (.iload_n 2, 1) := by decide +kernel
theorem dX2_liftedAmong_15 : decode cX2_liftedAmong 15 = .ok (.iand, 1) := by decide +kernel
theorem dX2_liftedAmong_16 : decode cX2_liftedAmong 16 = .ok (.invokestatic 40, 3) := by decide +kernel
theorem dX2_liftedAmong_19 : decode cX2_liftedAmong 19 = .ok (.goto 4, 3) := by decide +kernel
theorem dX2_liftedAmong_22 : decode cX2_liftedAmong 22 = .ok (.iconst 0, 1) := by decide +kernel
theorem dX2_liftedAmong_23 : decode cX2_liftedAmong 23 = .ok (.ireturn, 1) := by decide +kernel
theorem dX2_liftedBackwards_0 : decode cX2_liftedBackwards 0 = .ok (.iconst 0, 1) := by decide +kernel
theorem dX2_liftedBackwards_1 : decode cX2_liftedBackwards 1 = .ok (.istore_n 1, 1) := by decide +kernel
theorem dX2_liftedBackwards_2 : decode cX2_liftedBackwards 2 = .ok (.aload_n 0, 1) := by decide +kernel
theorem dX2_liftedBackwards_3 : decode cX2_liftedBackwards 3 = .ok (.getfield 24, 3) := by decide +kernel
theorem dX2_liftedBackwards_6 : decode cX2_liftedBackwards 6 = .ok (.istore_n 2, 1) := by decide +kernel
theorem dX2_liftedBackwards_7 : decode cX2_liftedBackwards 7 = .ok (.aload_n 0, 1) := by decide +kernel
theorem dX2_liftedBackwards_8 : decode cX2_liftedBackwards 8 = .ok (.getfield 56, 3) := by decide +kernel
theorem dX2_liftedBackwards_11 : decode cX2_liftedBackwards 11 = .ok (.iconst 1, 1) := by decide +kernel
theorem dX2_liftedBackwards_12 : decode cX2_liftedBackwards 12 = .ok (.isub, 1) := by decide +kernel
theorem dX2_liftedBackwards_13 : decode cX2_liftedBackwards 13 = .ok (.istore_n 3, 1) := by decide +kernel
theorem dX2_liftedBackwards_14 : decode cX2_liftedBackwards 14 = .ok (.iload_n 3, 1) := by decide +kernel
theorem dX2_liftedBackwards_15 : decode cX2_liftedBackwards 15 = .ok (.ifCond .lt 37, 3) := by decide +kernel
theorem dX2_liftedBackwards_18 : decode cX2_liftedBackwards 18 = .ok (.iload_n 1, 1) := by decide +kernel
theorem dX2_liftedBackwards_19 : decode cX2_liftedBackwards 19 = .ok (.aload_n 0, 1) := by decide +kernel
theorem dX2_liftedBackwards_20 : decode cX2_liftedBackwards 20 = .ok (.aload_n 0, 1) := by decide +kernel
theorem dX2_liftedBackwards_21 : decode cX2_liftedBackwards 21 = .ok (.getfield 21, 3) := by decide +kernel
theorem dX2_liftedBackwards_24 : decode cX2_liftedBackwards 24 = .ok (.iload_n 3, 1) := by decide +kernel
theorem dX2_liftedBackwards_25 : decode cX2_liftedBackwards 25 = .ok (.iaload, 1) := by decide +kernel
theorem dX2_liftedBackwards_26 : decode cX2_liftedBackwards 26 = .ok (.iload_n 2, 1) := by decide +kernel
theorem dX2_liftedBackwards_27 : decode cX2_liftedBackwards 27 = .ok (.invokevirtual 62, 3) := by decide +kernel
theorem dX2_liftedBackwards_30 : decode cX2_liftedBackwards 30 = .ok (.iadd, 1) := by decide +kernel
theorem dX2_liftedBackwards_31 : decode cX2_liftedBackwards 31 = .ok (.istore_n 1, 1) := by decide +kernel
theorem dX2_liftedBackwards_32 : decode cX2_liftedBackwards 32 = .ok (.iload_n 2, 1) := by decide +kernel
theorem dX2_liftedBackwards_33 : decode cX2_liftedBackwards 33 = .ok (.aload_n 0, 1) := by decide +kernel
theorem dX2_liftedBackwards_34 : decode cX2_liftedBackwards 34 = .ok (.getfield 21, 3) := by decide +kernel
theorem dX2_liftedBackwards_37 : decode cX2_liftedBackwards 37 = .ok (.iload_n 3, 1) := by decide +kernel
theorem dX2_liftedBackwards_38 : decode cX2_liftedBackwards 38 = .ok (.iaload, 1) := by decide +kernel
theorem dX2_liftedBackwards_39 : decode cX2_liftedBackwards 39 = .ok (.invokestatic 53, 3) := by decide +kernel
theorem dX2_liftedBackwards_42 : decode cX2_liftedBackwards 42 = .ok (.iconst (-1), 1) := by decide +kernel
theorem dX2_liftedBackwards_43 : decode cX2_liftedBackwards 43 = .ok (.ixor, 1) := by decide +kernel
theorem dX2_liftedBackwards_44 : decode cX2_liftedBackwards 44 = .ok (.iand, 1) := by decide +kernel
theorem dX2_liftedBackwards_45 : decode cX2_liftedBackwards 45 = .ok (.istore_n 2, 1) := by decide +kernel
theorem dX2_liftedBackwards_46 : decode cX2_liftedBackwards 46 = .ok (.iinc 3 (-1), 3) := by decide +kernel
theorem dX2_liftedBackwards_49 : decode cX2_liftedBackwards 49 = .ok (.goto (-35), 3) := by decide +kernel
theorem dX2_liftedBackwards_52 : decode cX2_liftedBackwards 52 = .ok (.iload_n 1, 1) := by decide +kernel
theorem dX2_liftedBackwards_53 : decode cX2_liftedBackwards 53 = .ok (.ireturn, 1) := by decide +kernel
theorem dX2_usedRows_0 : decode cX2_usedRows 0 = .ok (.iconst 0, 1) := by decide +kernel
theorem dX2_usedRows_1 : decode cX2_usedRows 1 = .ok (.istore_n 1, 1) := by decide +kernel
theorem dX2_usedRows_2 : decode cX2_usedRows 2 = .ok (.iconst 0, 1) := by decide +kernel
theorem dX2_usedRows_3 : decode cX2_usedRows 3 = .ok (.istore_n 2, 1) := by decide +kernel
theorem dX2_usedRows_4 : decode cX2_usedRows 4 = .ok (.iload_n 2, 1) := by decide +kernel
theorem dX2_usedRows_5 : decode cX2_usedRows 5 = .ok (.bipush 10, 2) := by decide +kernel
theorem dX2_usedRows_7 : decode cX2_usedRows 7 = .ok (.if_icmp .ge 21, 3) := by decide +kernel
theorem dX2_usedRows_10 : decode cX2_usedRows 10 = .ok (.aload_n 0, 1) := by decide +kernel
theorem dX2_usedRows_11 : decode cX2_usedRows 11 = .ok (.getfield 9, 3) := by decide +kernel
theorem dX2_usedRows_14 : decode cX2_usedRows 14 = .ok (.iload_n 2, 1) := by decide +kernel
theorem dX2_usedRows_15 : decode cX2_usedRows 15 = .ok (.iaload, 1) := by decide +kernel
theorem dX2_usedRows_16 : decode cX2_usedRows 16 = .ok (.ifCond .eq 6, 3) := by decide +kernel
theorem dX2_usedRows_19 : decode cX2_usedRows 19 = .ok (.iinc 1 1, 3) := by decide +kernel
theorem dX2_usedRows_22 : decode cX2_usedRows 22 = .ok (.iinc 2 1, 3) := by decide +kernel
theorem dX2_usedRows_25 : decode cX2_usedRows 25 = .ok (.goto (-21), 3) := by decide +kernel
theorem dX2_usedRows_28 : decode cX2_usedRows 28 = .ok (.iload_n 1, 1) := by decide +kernel
theorem dX2_usedRows_29 : decode cX2_usedRows 29 = .ok (.ireturn, 1) := by decide +kernel
theorem dX3_init_0 : decode cX3_init 0 = .ok (.aload_n 0, 1) := by decide +kernel
theorem dX3_init_1 : decode cX3_init 1 = .ok (.invokespecial 3, 3) := by decide +kernel
theorem dX3_init_4 : decode cX3_init 4 = .ok (.aload_n 0, 1) := by decide +kernel
theorem dX3_init_5 : decode cX3_init 5 = .ok (.bipush 48, 2) := by decide +kernel
theorem dX3_init_7 : decode cX3_init 7 = .ok (.newarray .int, 2) := by decide +kernel
theorem dX3_init_9 : decode cX3_init 9 = .ok (.putfield 9, 3) := by decide +kernel
theorem dX3_init_12 : decode cX3_init 12 = .ok (.aload_n 0, 1) := by decide +kernel
theorem dX3_init_13 : decode cX3_init 13 = .ok (.iconst 1, 1) := by decide +kernel
theorem dX3_init_14 : decode cX3_init 14 = .ok (.putfield 15, 3) := by decide +kernel
theorem dX3_init_17 : decode cX3_init 17 = .ok (.return_, 1) := by decide +kernel
theorem dX3_renew_0 : decode cX3_renew 0 = .ok (.aload_n 0, 1) := by decide +kernel
theorem dX3_renew_1 : decode cX3_renew 1 = .ok (.iconst 0, 1) := by decide +kernel
theorem dX3_renew_2 : decode cX3_renew 2 = .ok (.putfield 15, 3) := by decide +kernel
theorem dX3_renew_5 : decode cX3_renew 5 = .ok (.aload_n 0, 1) := by decide +kernel
theorem dX3_renew_6 : decode cX3_renew 6 = .ok (.iload_n 1, 1) := by decide +kernel
theorem dX3_renew_7 : decode cX3_renew 7 = .ok (.putfield 19, 3) := by decide +kernel
theorem dX3_renew_10 : decode cX3_renew 10 = .ok (.aload_n 0, 1) := by decide +kernel
theorem dX3_renew_11 : decode cX3_renew 11 = .ok (.iload_n 2, 1) := by decide +kernel
theorem dX3_renew_12 : decode cX3_renew 12 = .ok (.putfield 23, 3) := by decide +kernel
theorem dX3_renew_15 : decode cX3_renew 15 = .ok (.iconst 0, 1) := by decide +kernel
theorem dX3_renew_16 : decode cX3_renew 16 = .ok (.istore_n 3, 1) := by decide +kernel
theorem dX3_renew_17 : decode cX3_renew 17 = .ok (.iload_n 3, 1) := by decide +kernel
theorem dX3_renew_18 : decode cX3_renew 18 = .ok (.bipush 48, 2) := by decide +kernel
theorem dX3_renew_20 : decode cX3_renew 20 = .ok (.if_icmp .ge 16, 3) := by decide +kernel
theorem dX3_renew_23 : decode cX3_renew 23 = .ok (.aload_n 0, 1) := by decide +kernel
theorem dX3_renew_24 : decode cX3_renew 24 = .ok (.getfield 9, 3) := by decide +kernel
theorem dX3_renew_27 : decode cX3_renew 27 = .ok (.iload_n 3, 1) := by decide +kernel
theorem dX3_renew_28 : decode cX3_renew 28 = .ok (.iconst 0, 1) := by decide +kernel
theorem dX3_renew_29 : decode cX3_renew 29 = .ok (.iastore, 1) := by decide +kernel
theorem dX3_renew_30 : decode cX3_renew 30 = .ok (.iinc 3 1, 3) := by decide +kernel
theorem dX3_renew_33 : decode cX3_renew 33 = .ok (.goto (-16), 3) := by decide +kernel
theorem dX3_renew_36 : decode cX3_renew 36 = .ok (.return_, 1) := by decide +kernel
theorem dX3_hasItems_0 : decode cX3_hasItems 0 = .ok (.iload_n 1, 1) := by decide +kernel
theorem dX3_hasItems_1 : decode cX3_hasItems 1 = .ok (.ifCond .lt 29, 3) := by decide +kernel
theorem dX3_hasItems_4 : decode cX3_hasItems 4 = .ok (.iload_n 2, 1) := by decide +kernel
theorem dX3_hasItems_5 : decode cX3_hasItems 5 = .ok (.ifCond .lt 25, 3) := by decide +kernel
theorem dX3_hasItems_8 : decode cX3_hasItems 8 = .ok (.iload_n 2, 1) := by decide +kernel
theorem dX3_hasItems_9 : decode cX3_hasItems 9 = .ok (.aload_n 0, 1) := by decide +kernel
theorem dX3_hasItems_10 : decode cX3_hasItems 10 = .ok (.getfield 23, 3) := by decide +kernel
theorem dX3_hasItems_13 : decode cX3_hasItems 13 = .ok (.if_icmp .gt 17, 3) := by decide +kernel
theorem dX3_hasItems_16 : decode cX3_hasItems 16 = .ok (.iload_n 1, 1) := by decide +kernel
theorem dX3_hasItems_17 : decode cX3_hasItems 17 = .ok (.aload_n 0, 1) := by decide +kernel
theorem dX3_hasItems_18 : decode cX3_hasItems 18 = .ok (.getfield 23, 3) := by decide +kernel
theorem dX3_hasItems_21 : decode cX3_hasItems 21 = .ok (.iload_n 2, 1) := by decide +kernel
theorem dX3_hasItems_22 : decode cX3_hasItems 22 = .ok (.isub, 1) := by decide +kernel
theorem dX3_hasItems_23 : decode cX3_hasItems 23 = .ok (.if_icmp .gt 7, 3) := by decide +kernel
theorem dX3_hasItems_26 : decode cX3_hasItems 26 = .ok (.iconst 1, 1) := by decide +kernel
theorem dX3_hasItems_27 : decode cX3_hasItems 27 = .ok (.goto 4, 3) := by decide +kernel
theorem dX3_hasItems_30 : decode cX3_hasItems 30 = .ok (.iconst 0, 1) := by decide +kernel
theorem dX3_hasItems_31 : decode cX3_hasItems 31 = .ok (.ireturn, 1) := by decide +kernel
theorem dX4_init_0 : decode cX4_init 0 = .ok (.aload_n 0, 1) := by decide +kernel
theorem dX4_init_1 : decode cX4_init 1 = .ok (.invokespecial 3, 3) := by decide +kernel
theorem dX4_init_4 : decode cX4_init 4 = .ok (.aload_n 0, 1) := by decide +kernel
theorem dX4_init_5 : decode cX4_init 5 = .ok (.bipush 10, 2) := by decide +kernel
theorem dX4_init_7 : decode cX4_init 7 = .ok (.newarray .int, 2) := by decide +kernel
theorem dX4_init_9 : decode cX4_init 9 = .ok (.putfield 9, 3) := by decide +kernel
theorem dX4_init_12 : decode cX4_init 12 = .ok (.aload_n 0, 1) := by decide +kernel
theorem dX4_init_13 : decode cX4_init 13 = .ok (.iconst (-1), 1) := by decide +kernel
theorem dX4_init_14 : decode cX4_init 14 = .ok (.putfield 15, 3) := by decide +kernel
theorem dX4_init_17 : decode cX4_init 17 = .ok (.return_, 1) := by decide +kernel
theorem dX4_judge_0 : decode cX4_judge 0 = .ok (.iconst 0, 1) := by decide +kernel
theorem dX4_judge_1 : decode cX4_judge 1 = .ok (.istore_n 2, 1) := by decide +kernel
theorem dX4_judge_2 : decode cX4_judge 2 = .ok (.iconst (-1), 1) := by decide +kernel
theorem dX4_judge_3 : decode cX4_judge 3 = .ok (.istore_n 3, 1) := by decide +kernel
theorem dX4_judge_4 : decode cX4_judge 4 = .ok (.iconst 0, 1) := by decide +kernel
theorem dX4_judge_5 : decode cX4_judge 5 = .ok (.istore 4, 2) := by decide +kernel
theorem dX4_judge_7 : decode cX4_judge 7 = .ok (.iload 4, 2) := by decide +kernel
theorem dX4_judge_9 : decode cX4_judge 9 = .ok (.aload_n 0, 1) := by decide +kernel
theorem dX4_judge_10 : decode cX4_judge 10 = .ok (.getfield 19, 3) := by decide +kernel
theorem dX4_judge_13 : decode cX4_judge 13 = .ok (.if_icmp .ge 48, 3) := by decide +kernel
theorem dX4_judge_16 : decode cX4_judge 16 = .ok (.iload_n 3, 1) := by decide +kernel
theorem dX4_judge_17 : decode cX4_judge 17 = .ok (.iconst (-1), 1) := by decide +kernel
theorem dX4_judge_18 : decode cX4_judge 18 = .ok (.if_icmp .ne 43, 3) := by decide +kernel
theorem dX4_judge_21 : decode cX4_judge 21 = .ok (.aload_n 0, 1) := by decide +kernel
theorem dX4_judge_22 : decode cX4_judge 22 = .ok (.getfield 9, 3) := by decide +kernel
theorem dX4_judge_25 : decode cX4_judge 25 = .ok (.iload 4, 2) := by decide +kernel
theorem dX4_judge_27 : decode cX4_judge 27 = .ok (.iaload, 1) := by decide +kernel
theorem dX4_judge_28 : decode cX4_judge 28 = .ok (.bipush 97, 2) := by decide +kernel
theorem dX4_judge_30 : decode cX4_judge 30 = .ok (.isub, 1) := by decide +kernel
theorem dX4_judge_31 : decode cX4_judge 31 = .ok (.invokestatic 22, 3) := by decide +kernel
theorem dX4_judge_34 : decode cX4_judge 34 = .ok (.iload_n 1, 1) := by decide +kernel
theorem dX4_judge_35 : decode cX4_judge 35 = .ok (.iand, 1) := by decide +kernel
theorem dX4_judge_36 : decode cX4_judge 36 = .ok (.iload_n 2, 1) := by decide +kernel
theorem dX4_judge_37 : decode cX4_judge 37 = .ok (.iconst (-1), 1) := by decide +kernel
theorem dX4_judge_38 : decode cX4_judge 38 = .ok (.ixor, 1) := by decide +kernel
theorem dX4_judge_39 : decode cX4_judge 39 = .ok (.iand, 1) := by decide +kernel
theorem dX4_judge_40 : decode cX4_judge 40 = .ok (.istore 5, 2) := by decide +kernel
theorem dX4_judge_42 : decode cX4_judge 42 = .ok (.iload 5, 2) := by decide +kernel
theorem dX4_judge_44 : decode cX4_judge 44 = .ok (.ifCond .ne 6, 3) := by decide +kernel
theorem dX4_judge_47 : decode cX4_judge 47 = .ok (.iload 4, 2) := by decide +kernel
theorem dX4_judge_49 : decode cX4_judge 49 = .ok (.istore_n 3, 1) := by decide +kernel
theorem dX4_judge_50 : decode cX4_judge 50 = .ok (.iload_n 2, 1) := by decide +kernel
theorem dX4_judge_51 : decode cX4_judge 51 = .ok (.iload 5, 2) := by decide +kernel
theorem dX4_judge_53 : decode cX4_judge 53 = .ok (.ior, 1) := by decide +kernel
theorem dX4_judge_54 : decode cX4_judge 54 = .ok (.istore_n 2, 1) := by decide +kernel
theorem dX4_judge_55 : decode cX4_judge 55 = .ok (.iinc 4 1, 3) := by decide +kernel
theorem dX4_judge_58 : decode cX4_judge 58 = .ok (.goto (-51), 3) := by decide +kernel
theorem dX4_judge_61 : decode cX4_judge 61 = .ok (.aload_n 0, 1) := by decide +kernel
theorem dX4_judge_62 : decode cX4_judge 62 = .ok (.iload_n 3, 1) := by decide +kernel
theorem dX4_judge_63 : decode cX4_judge 63 = .ok (.iload_n 2, 1) := by decide +kernel
theorem dX4_judge_64 : decode cX4_judge 64 = .ok (.invokevirtual 26, 3) := by decide +kernel
theorem dX4_judge_67 : decode cX4_judge 67 = .ok (.return_, 1) := by decide +kernel
theorem dX4_judgeEnd_0 : decode cX4_judgeEnd 0 = .ok (.aload_n 0, 1) := by decide +kernel
theorem dX4_judgeEnd_1 : decode cX4_judgeEnd 1 = .ok (.getfield 15, 3) := by decide +kernel
theorem dX4_judgeEnd_4 : decode cX4_judgeEnd 4 = .ok (.iconst (-1), 1) := by decide +kernel
theorem dX4_judgeEnd_5 : decode cX4_judgeEnd 5 = .ok (.if_icmp .ne 27, 3) := by decide +kernel
theorem dX4_judgeEnd_8 : decode cX4_judgeEnd 8 = .ok (.aload_n 0, 1) := by decide +kernel
theorem dX4_judgeEnd_9 : decode cX4_judgeEnd 9 = .ok (.getfield 30, 3) := by decide +kernel
theorem dX4_judgeEnd_12 : decode cX4_judgeEnd 12 = .ok (.iconst 1, 1) := by decide +kernel
theorem dX4_judgeEnd_13 : decode cX4_judgeEnd 13 = .ok (.aload_n 0, 1) := by decide +kernel
theorem dX4_judgeEnd_14 : decode cX4_judgeEnd 14 = .ok (.getfield 19, 3) := by decide +kernel
theorem dX4_judgeEnd_17 : decode cX4_judgeEnd 17 = .ok (.ishl, 1) := by decide +kernel
theorem dX4_judgeEnd_18 : decode cX4_judgeEnd 18 = .ok (.iconst 1, 1) := by decide +kernel
theorem dX4_judgeEnd_19 : decode cX4_judgeEnd 19 = .ok (.isub, 1) := by decide +kernel
theorem dX4_judgeEnd_20 : decode cX4_judgeEnd 20 = .ok (.if_icmp .eq 12, 3) := by decide +kernel
theorem dX4_judgeEnd_23 : decode cX4_judgeEnd 23 = .ok (.aload_n 0, 1) := by decide +kernel
theorem dX4_judgeEnd_24 : decode cX4_judgeEnd 24 = .ok (.aload_n 0, 1) := by decide +kernel
theorem dX4_judgeEnd_25 : decode cX4_judgeEnd 25 = .ok (.getfield 19, 3) := by decide +kernel
theorem dX4_judgeEnd_28 : decode cX4_judgeEnd 28 = .ok (.iconst 0, 1) := by decide +kernel
theorem dX4_judgeEnd_29 : decode cX4_judgeEnd 29 = .ok (.invokevirtual 26, 3) := by decide +kernel
theorem dX4_judgeEnd_32 : decode cX4_judgeEnd 32 = .ok (.return_, 1) := by decide +kernel
theorem dX4_keep_0 : decode cX4_keep 0 = .ok (.aload_n 0, 1) := by decide +kernel
theorem dX4_keep_1 : decode cX4_keep 1 = .ok (.iload_n 1, 1) := by decide +kernel
theorem dX4_keep_2 : decode cX4_keep 2 = .ok (.putfield 15, 3) := by decide +kernel
theorem dX4_keep_5 : decode cX4_keep 5 = .ok (.aload_n 0, 1) := by decide +kernel
theorem dX4_keep_6 : decode cX4_keep 6 = .ok (.iload_n 1, 1) := by decide +kernel
theorem dX4_keep_7 : decode cX4_keep 7 = .ok (.iconst (-1), 1) := by decide +kernel
theorem dX4_keep_8 : decode cX4_keep 8 = .ok (.if_icmp .ne 10, 3) := by decide +kernel
theorem dX4_keep_11 : decode cX4_keep 11 = .ok (.aload_n 0, 1) := by decide +kernel
theorem dX4_keep_12 : decode cX4_keep 12 = .ok (.getfield 19, 3) := by decide +kernel
theorem dX4_keep_15 : decode cX4_keep 15 = .ok (.goto 4, 3) := by decide +kernel
theorem dX4_keep_18 : decode cX4_keep 18 = .ok (.iconst 0, 1) := by decide +kernel
theorem dX4_keep_19 : decode cX4_keep 19 = .ok (.putfield 33, 3) := by decide +kernel
theorem dX4_keep_22 : decode cX4_keep 22 = .ok (.aload_n 0, 1) := by decide +kernel
theorem dX4_keep_23 : decode cX4_keep 23 = .ok (.iload_n 1, 1) := by decide +kernel
theorem dX4_keep_24 : decode cX4_keep 24 = .ok (.iconst (-1), 1) := by decide +kernel
theorem dX4_keep_25 : decode cX4_keep 25 = .ok (.if_icmp .ne 7, 3) := by decide +kernel
theorem dX4_keep_28 : decode cX4_keep 28 = .ok (.iload_n 2, 1) := by decide +kernel
theorem dX4_keep_29 : decode cX4_keep 29 = .ok (.goto 4, 3) := by decide +kernel
theorem dX4_keep_32 : decode cX4_keep 32 = .ok (.iconst 0, 1) := by decide +kernel
theorem dX4_keep_33 : decode cX4_keep 33 = .ok (.putfield 30, 3) := by decide +kernel
theorem dX4_keep_36 : decode cX4_keep 36 = .ok (.return_, 1) := by decide +kernel
theorem dX4_guestAt_0 : decode cX4_guestAt 0 = .ok (.iload_n 1, 1) := by decide +kernel
theorem dX4_guestAt_1 : decode cX4_guestAt 1 = .ok (.iconst 0, 1) := by decide +kernel
theorem dX4_guestAt_2 : decode cX4_guestAt 2 = .ok (.aload_n 0, 1) := by decide +kernel
theorem dX4_guestAt_3 : decode cX4_guestAt 3 = .ok (.getfield 33, 3) := by decide +kernel
theorem dX4_guestAt_6 : decode cX4_guestAt 6 = .ok (.iconst 1, 1) := by decide +kernel
theorem dX4_guestAt_7 : decode cX4_guestAt 7 = .ok (.isub, 1) := by decide +kernel
theorem dX4_guestAt_8 : decode cX4_guestAt 8 = .ok (.invokestatic 36, 3) := by decide +kernel
theorem dX4_guestAt_11 : decode cX4_guestAt 11 = .ok (.ifCond .eq 15, 3) := by decide +kernel
theorem dX4_guestAt_14 : decode cX4_guestAt 14 = .ok (.aload_n 0, 1) := by decide +kernel
theorem dX4_guestAt_15 : decode cX4_guestAt 15 = .ok (.getfield 9, 3) := by decide +kernel
theorem dX4_guestAt_18 : decode cX4_guestAt 18 = .ok (.iload_n 1, 1) := by decide +kernel
theorem dX4_guestAt_19 : decode cX4_guestAt 19 = .ok (.iaload, 1) := by decide +kernel
theorem dX4_guestAt_20 : decode cX4_guestAt 20 = .ok (.bipush 97, 2) := by decide +kernel
theorem dX4_guestAt_22 : decode cX4_guestAt 22 = .ok (.isub, 1) := by decide +kernel
theorem dX4_guestAt_23 : decode cX4_guestAt 23 = .ok (.goto 4, 3) := by decide +kernel
theorem dX4_guestAt_26 : decode cX4_guestAt 26 = .ok (.iconst (-1), 1) := by decide +kernel
theorem dX4_guestAt_27 : decode cX4_guestAt 27 = .ok (.ireturn, 1) := by decide +kernel
theorem dX4_placeOf_0 : decode cX4_placeOf 0 = .ok (.iconst 0, 1) := by decide +kernel
theorem dX4_placeOf_1 : decode cX4_placeOf 1 = .ok (.istore_n 2, 1) := by decide +kernel
theorem dX4_placeOf_2 : decode cX4_placeOf 2 = .ok (.iload_n 2, 1) := by decide +kernel
theorem dX4_placeOf_3 : decode cX4_placeOf 3 = .ok (.aload_n 0, 1) := by decide +kernel
theorem dX4_placeOf_4 : decode cX4_placeOf 4 = .ok (.getfield 33, 3) := by decide +kernel
theorem dX4_placeOf_7 : decode cX4_placeOf 7 = .ok (.if_icmp .ge 20, 3) := by decide +kernel
theorem dX4_placeOf_10 : decode cX4_placeOf 10 = .ok (.aload_n 0, 1) := by decide +kernel
theorem dX4_placeOf_11 : decode cX4_placeOf 11 = .ok (.iload_n 2, 1) := by decide +kernel
theorem dX4_placeOf_12 : decode cX4_placeOf 12 = .ok (.invokevirtual 40, 3) := by decide +kernel
theorem dX4_placeOf_15 : decode cX4_placeOf 15 = .ok (.iload_n 1, 1) := by decide +kernel
theorem dX4_placeOf_16 : decode cX4_placeOf 16 = .ok (.if_icmp .ne 5, 3) := by decide +kernel
theorem dX4_placeOf_19 : decode cX4_placeOf 19 = .ok (.iload_n 2, 1) := by decide +kernel
theorem dX4_placeOf_20 : decode cX4_placeOf 20 = .ok (.ireturn, 1) := by decide +kernel
theorem dX4_placeOf_21 : decode cX4_placeOf 21 = .ok (.iinc 2 1, 3) := by decide +kernel
theorem dX4_placeOf_24 : decode cX4_placeOf 24 = .ok (.goto (-22), 3) := by decide +kernel
theorem dX4_placeOf_27 : decode cX4_placeOf 27 = .ok (.iconst (-1), 1) := by decide +kernel
theorem dX4_placeOf_28 : decode cX4_placeOf 28 = .ok (.ireturn, 1) := by decide +kernel
theorem dX4_pickOf_0 : decode cX4_pickOf 0 = .ok (.iconst 0, 1) := by decide +kernel
theorem dX4_pickOf_1 : decode cX4_pickOf 1 = .ok (.istore_n 3, 1) := by decide +kernel
theorem dX4_pickOf_2 : decode cX4_pickOf 2 = .ok (.iconst 0, 1) := by decide +kernel
theorem dX4_pickOf_3 : decode cX4_pickOf 3 = .ok (.istore 4, 2) := by decide +kernel
theorem dX4_pickOf_5 : decode cX4_pickOf 5 = .ok (.iload 4, 2) := by decide +kernel
theorem dX4_pickOf_7 : decode cX4_pickOf 7 = .ok (.aload_n 0, 1) := by decide +kernel
theorem dX4_pickOf_8 : decode cX4_pickOf 8 = .ok (.getfield 33, 3) := by decide +kernel
theorem dX4_pickOf_11 : decode cX4_pickOf 11 = .ok (.if_icmp .ge 37, 3) := by decide +kernel
theorem dX4_pickOf_14 : decode cX4_pickOf 14 = .ok (.aload_n 0, 1) := by decide +kernel
theorem dX4_pickOf_15 : decode cX4_pickOf 15 = .ok (.iload 4, 2) := by decide +kernel
theorem dX4_pickOf_17 : decode cX4_pickOf 17 = .ok (.invokevirtual 40, 3) := by decide +kernel
theorem dX4_pickOf_20 : decode cX4_pickOf 20 = .ok (.istore 5, 2) := by decide +kernel
theorem dX4_pickOf_22 : decode cX4_pickOf 22 = .ok (.iload_n 1, 1) := by decide +kernel
theorem dX4_pickOf_23 : decode cX4_pickOf 23 = .ok (.iload 5, 2) := by decide +kernel
theorem dX4_pickOf_25 : decode cX4_pickOf 25 = .ok (.invokestatic 43, 3) := by decide +kernel
theorem dX4_pickOf_28 : decode cX4_pickOf 28 = .ok (.ifCond .eq 14, 3) := by decide +kernel
theorem dX4_pickOf_31 : decode cX4_pickOf 31 = .ok (.iload_n 3, 1) := by decide +kernel
theorem dX4_pickOf_32 : decode cX4_pickOf 32 = .ok (.iload_n 2, 1) := by decide +kernel
theorem dX4_pickOf_33 : decode cX4_pickOf 33 = .ok (.if_icmp .ne 6, 3) := by decide +kernel
theorem dX4_pickOf_36 : decode cX4_pickOf 36 = .ok (.iload 5, 2) := by decide +kernel
theorem dX4_pickOf_38 : decode cX4_pickOf 38 = .ok (.ireturn, 1) := by decide +kernel
theorem dX4_pickOf_39 : decode cX4_pickOf 39 = .ok (.iinc 3 1, 3) := by decide +kernel
theorem dX4_pickOf_42 : decode cX4_pickOf 42 = .ok (.iinc 4 1, 3) := by decide +kernel
theorem dX4_pickOf_45 : decode cX4_pickOf 45 = .ok (.goto (-40), 3) := by decide +kernel
theorem dX4_pickOf_48 : decode cX4_pickOf 48 = .ok (.iconst (-1), 1) := by decide +kernel
theorem dX4_pickOf_49 : decode cX4_pickOf 49 = .ok (.ireturn, 1) := by decide +kernel
theorem dX4_ringLength_0 : decode cX4_ringLength 0 = .ok (.iconst 1, 1) := by decide +kernel
theorem dX4_ringLength_1 : decode cX4_ringLength 1 = .ok (.istore_n 2, 1) := by decide +kernel
theorem dX4_ringLength_2 : decode cX4_ringLength 2 = .ok (.aload_n 0, 1) := by decide +kernel
theorem dX4_ringLength_3 : decode cX4_ringLength 3 = .ok (.iload_n 1, 1) := by decide +kernel
theorem dX4_ringLength_4 : decode cX4_ringLength 4 = .ok (.invokevirtual 40, 3) := by decide +kernel
theorem dX4_ringLength_7 : decode cX4_ringLength 7 = .ok (.istore_n 3, 1) := by decide +kernel
theorem dX4_ringLength_8 : decode cX4_ringLength 8 = .ok (.iload_n 2, 1) := by decide +kernel
theorem dX4_ringLength_9 : decode cX4_ringLength 9 = .ok (.aload_n 0, 1) := by decide +kernel
theorem dX4_ringLength_10 : decode cX4_ringLength 10 = .ok (.getfield 33, 3) := by decide +kernel
theorem dX4_ringLength_13 : decode cX4_ringLength 13 = .ok (.if_icmp .ge 20, 3) := by decide +kernel
theorem dX4_ringLength_16 : decode cX4_ringLength 16 = .ok (.iload_n 3, 1) := by decide +kernel
theorem dX4_ringLength_17 : decode cX4_ringLength 17 = .ok (.iload_n 1, 1) := by decide +kernel
theorem dX4_ringLength_18 : decode cX4_ringLength 18 = .ok (.if_icmp .eq 15, 3) := by decide +kernel
theorem dX4_ringLength_21 : decode cX4_ringLength 21 = .ok (.aload_n 0, 1) := by decide +kernel
theorem dX4_ringLength_22 : decode cX4_ringLength 22 = .ok (.iload_n 3, 1) := by decide +kernel
theorem dX4_ringLength_23 : decode cX4_ringLength 23 = .ok (.invokevirtual 40, 3) := by decide +kernel
theorem dX4_ringLength_26 : decode cX4_ringLength 26 = .ok (.istore_n 3, 1) := by decide +kernel
theorem dX4_ringLength_27 : decode cX4_ringLength 27 = .ok (.iinc 2 1, 3) := by decide +kernel
theorem dX4_ringLength_30 : decode cX4_ringLength 30 = .ok (.goto (-22), 3) := by decide +kernel
theorem dX4_ringLength_33 : decode cX4_ringLength 33 = .ok (.iload_n 2, 1) := by decide +kernel
theorem dX4_ringLength_34 : decode cX4_ringLength 34 = .ok (.ireturn, 1) := by decide +kernel
theorem dX4_countRings_0 : decode cX4_countRings 0 = .ok (.iconst 0, 1) := by decide +kernel
theorem dX4_countRings_1 : decode cX4_countRings 1 = .ok (.istore_n 1, 1) := by decide +kernel
theorem dX4_countRings_2 : decode cX4_countRings 2 = .ok (.iconst 0, 1) := by decide +kernel
theorem dX4_countRings_3 : decode cX4_countRings 3 = .ok (.istore_n 2, 1) := by decide +kernel
theorem dX4_countRings_4 : decode cX4_countRings 4 = .ok (.iconst 0, 1) := by decide +kernel
theorem dX4_countRings_5 : decode cX4_countRings 5 = .ok (.istore_n 3, 1) := by decide +kernel
theorem dX4_countRings_6 : decode cX4_countRings 6 = .ok (.iload_n 3, 1) := by decide +kernel
theorem dX4_countRings_7 : decode cX4_countRings 7 = .ok (.aload_n 0, 1) := by decide +kernel
theorem dX4_countRings_8 : decode cX4_countRings 8 = .ok (.getfield 33, 3) := by decide +kernel
theorem dX4_countRings_11 : decode cX4_countRings 11 = .ok (.if_icmp .ge 66, 3) := by decide +kernel
theorem dX4_countRings_14 : decode cX4_countRings 14 = .ok (.iload_n 2, 1) := by decide +kernel
theorem dX4_countRings_15 : decode cX4_countRings 15 = .ok (.iload_n 3, 1) := by decide +kernel
theorem dX4_countRings_16 : decode cX4_countRings 16 = .ok (.invokestatic 43, 3) := by decide +kernel
theorem dX4_countRings_19 : decode cX4_countRings 19 = .ok (.ifCond .ne 6, 3) := by decide +kernel
theorem dX4_countRings_22 : decode cX4_countRings 22 = .ok (.iinc 1 1, 3) := by decide +kernel
theorem dX4_countRings_25 : decode cX4_countRings 25 = .ok (.iload_n 3, 1) := by decide +kernel
theorem dX4_countRings_26 : decode cX4_countRings 26 = .ok (.istore 4, 2) := by decide +kernel
theorem dX4_countRings_28 : decode cX4_countRings 28 = .ok (.iconst 0, 1) := by decide +kernel
theorem dX4_countRings_29 : decode cX4_countRings 29 = .ok (.istore 5, 2) := by decide +kernel
theorem dX4_countRings_31 : decode cX4_countRings 31 = .ok (.iload 5, 2) := by decide +kernel
theorem dX4_countRings_33 : decode cX4_countRings 33 = .ok (.aload_n 0, 1) := by decide +kernel
theorem dX4_countRings_34 : decode cX4_countRings 34 = .ok (.getfield 33, 3) := by decide +kernel
theorem dX4_countRings_37 : decode cX4_countRings 37 = .ok (.if_icmp .ge 34, 3) := by decide +kernel
theorem dX4_countRings_40 : decode cX4_countRings 40 = .ok (.iload_n 2, 1) := by decide +kernel
theorem dX4_countRings_41 : decode cX4_countRings 41 = .ok (.iload 4, 2) := by decide +kernel
theorem dX4_countRings_43 : decode cX4_countRings 43 = .ok (.invokestatic 43, 3) := by decide +kernel
theorem dX4_countRings_46 : decode cX4_countRings 46 = .ok (.ifCond .ne 25, 3) := by decide +kernel
theorem dX4_countRings_49 : decode cX4_countRings 49 = .ok (.iload_n 2, 1) := by decide +kernel
theorem dX4_countRings_50 : decode cX4_countRings 50 = .ok (.iload 4, 2) := by decide +kernel
theorem dX4_countRings_52 : decode cX4_countRings 52 = .ok (.invokestatic 22, 3) := by decide +kernel
theorem dX4_countRings_55 : decode cX4_countRings 55 = .ok (.ior, 1) := by decide +kernel
theorem dX4_countRings_56 : decode cX4_countRings 56 = .ok (.istore_n 2, 1) := by decide +kernel
theorem dX4_countRings_57 : decode cX4_countRings 57 = .ok (.aload_n 0, 1) := by decide +kernel
theorem dX4_countRings_58 : decode cX4_countRings 58 = .ok (.iload 4, 2) := by decide +kernel
theorem dX4_countRings_60 : decode cX4_countRings 60 = .ok (.invokevirtual 40, 3) := by decide +kernel
theorem dX4_countRings_63 : decode cX4_countRings 63 = .ok (.istore 4, 2) := by decide +kernel
theorem dX4_countRings_65 : decode cX4_countRings 65 = .ok (.iinc 5 1, 3) := by decide +kernel
theorem dX4_countRings_68 : decode cX4_countRings 68 = .ok (.goto (-37), 3) := by decide +kernel
theorem dX4_countRings_71 : decode cX4_countRings 71 = .ok (.iinc 3 1, 3) := by decide +kernel
theorem dX4_countRings_74 : decode cX4_countRings 74 = .ok (.goto (-68), 3) := by decide +kernel
theorem dX4_countRings_77 : decode cX4_countRings 77 = .ok (.iload_n 1, 1) := by decide +kernel
theorem dX4_countRings_78 : decode cX4_countRings 78 = .ok (.ireturn, 1) := by decide +kernel
theorem dX5_init_0 : decode cX5_init 0 = .ok (.aload_n 0, 1) := by decide +kernel
theorem dX5_init_1 : decode cX5_init 1 = .ok (.invokespecial 3, 3) := by decide +kernel
theorem dX5_init_4 : decode cX5_init 4 = .ok (.aload_n 0, 1) := by decide +kernel
theorem dX5_init_5 : decode cX5_init 5 = .ok (.bipush 10, 2) := by decide +kernel
theorem dX5_init_7 : decode cX5_init 7 = .ok (.newarray .int, 2) := by decide +kernel
theorem dX5_init_9 : decode cX5_init 9 = .ok (.putfield 9, 3) := by decide +kernel
theorem dX5_init_12 : decode cX5_init 12 = .ok (.aload_n 0, 1) := by decide +kernel
theorem dX5_init_13 : decode cX5_init 13 = .ok (.sipush 1024, 3) := by decide +kernel
theorem dX5_init_16 : decode cX5_init 16 = .ok (.newarray .int, 2) := by decide +kernel
theorem dX5_init_18 : decode cX5_init 18 = .ok (.putfield 15, 3) := by decide +kernel
theorem dX5_init_21 : decode cX5_init 21 = .ok (.return_, 1) := by decide +kernel
theorem dX5_tell_0 : decode cX5_tell 0 = .ok (.aload_n 0, 1) := by decide +kernel
theorem dX5_tell_1 : decode cX5_tell 1 = .ok (.dup, 1) := by decide +kernel
theorem dX5_tell_2 : decode cX5_tell 2 = .ok (.getfield 18, 3) := by decide +kernel
theorem dX5_tell_5 : decode cX5_tell 5 = .ok (.iconst 1, 1) := by decide +kernel
theorem dX5_tell_6 : decode cX5_tell 6 = .ok (.iadd, 1) := by decide +kernel
theorem dX5_tell_7 : decode cX5_tell 7 = .ok (.putfield 18, 3) := by decide +kernel
theorem dX5_tell_10 : decode cX5_tell 10 = .ok (.aload_n 0, 1) := by decide +kernel
theorem dX5_tell_11 : decode cX5_tell 11 = .ok (.dup, 1) := by decide +kernel
theorem dX5_tell_12 : decode cX5_tell 12 = .ok (.getfield 22, 3) := by decide +kernel
theorem dX5_tell_15 : decode cX5_tell 15 = .ok (.iload_n 1, 1) := by decide +kernel
theorem dX5_tell_16 : decode cX5_tell 16 = .ok (.invokestatic 25, 3) := by decide +kernel
theorem dX5_tell_19 : decode cX5_tell 19 = .ok (.iload_n 2, 1) := by decide +kernel
theorem dX5_tell_20 : decode cX5_tell 20 = .ok (.invokestatic 25, 3) := by decide +kernel
theorem dX5_tell_23 : decode cX5_tell 23 = .ok (.ior, 1) := by decide +kernel
theorem dX5_tell_24 : decode cX5_tell 24 = .ok (.ior, 1) := by decide +kernel
theorem dX5_tell_25 : decode cX5_tell 25 = .ok (.putfield 22, 3) := by decide +kernel
theorem dX5_tell_28 : decode cX5_tell 28 = .ok (.aload_n 0, 1) := by decide +kernel
theorem dX5_tell_29 : decode cX5_tell 29 = .ok (.getfield 9, 3) := by decide +kernel
theorem dX5_tell_32 : decode cX5_tell 32 = .ok (.iload_n 1, 1) := by decide +kernel
theorem dX5_tell_33 : decode cX5_tell 33 = .ok (.iaload, 1) := by decide +kernel
theorem dX5_tell_34 : decode cX5_tell 34 = .ok (.iload_n 1, 1) := by decide +kernel
theorem dX5_tell_35 : decode cX5_tell 35 = .ok (.invokestatic 25, 3) := by decide +kernel
theorem dX5_tell_38 : decode cX5_tell 38 = .ok (.ior, 1) := by decide +kernel
theorem dX5_tell_39 : decode cX5_tell 39 = .ok (.istore_n 3, 1) := by decide +kernel
theorem dX5_tell_40 : decode cX5_tell 40 = .ok (.iconst 0, 1) := by decide +kernel
theorem dX5_tell_41 : decode cX5_tell 41 = .ok (.istore 4, 2) := by decide +kernel
theorem dX5_tell_43 : decode cX5_tell 43 = .ok (.iload 4, 2) := by decide +kernel
theorem dX5_tell_45 : decode cX5_tell 45 = .ok (.bipush 10, 2) := by decide +kernel
theorem dX5_tell_47 : decode cX5_tell 47 = .ok (.if_icmp .ge 40, 3) := by decide +kernel
theorem dX5_tell_50 : decode cX5_tell 50 = .ok (.iload 4, 2) := by decide +kernel
theorem dX5_tell_52 : decode cX5_tell 52 = .ok (.iload_n 2, 1) := by decide +kernel
theorem dX5_tell_53 : decode cX5_tell 53 = .ok (.if_icmp .eq 17, 3) := by decide +kernel
theorem dX5_tell_56 : decode cX5_tell 56 = .ok (.aload_n 0, 1) := by decide +kernel
theorem dX5_tell_57 : decode cX5_tell 57 = .ok (.getfield 9, 3) := by decide +kernel
theorem dX5_tell_60 : decode cX5_tell 60 = .ok (.iload 4, 2) := by decide +kernel
theorem dX5_tell_62 : decode cX5_tell 62 = .ok (.iaload, 1) := by decide +kernel
theorem dX5_tell_63 : decode cX5_tell 63 = .ok (.iload_n 2, 1) := by decide +kernel
theorem dX5_tell_64 : decode cX5_tell 64 = .ok (.invokestatic 29, 3) := by decide +kernel
theorem dX5_tell_67 : decode cX5_tell 67 = .ok (.ifCond .eq 14, 3) := by decide +kernel
theorem dX5_tell_70 : decode cX5_tell 70 = .ok (.aload_n 0, 1) := by decide +kernel
theorem dX5_tell_71 : decode cX5_tell 71 = .ok (.getfield 9, 3) := by decide +kernel
theorem dX5_tell_74 : decode cX5_tell 74 = .ok (.iload 4, 2) := by decide +kernel
theorem dX5_tell_76 : decode cX5_tell 76 = .ok (.dup2, 1) := by decide +kernel
theorem dX5_tell_77 : decode cX5_tell 77 = .ok (.iaload, 1) := by decide +kernel
theorem dX5_tell_78 : decode cX5_tell 78 = .ok (.iload_n 3, 1) := by decide +kernel
theorem dX5_tell_79 : decode cX5_tell 79 = .ok (.ior, 1) := by decide +kernel
theorem dX5_tell_80 : decode cX5_tell 80 = .ok (.iastore, 1) := by decide +kernel
theorem dX5_tell_81 : decode cX5_tell 81 = .ok (.iinc 4 1, 3) := by decide +kernel
theorem dX5_tell_84 : decode cX5_tell 84 = .ok (.goto (-41), 3) := by decide +kernel
theorem dX5_tell_87 : decode cX5_tell 87 = .ok (.return_, 1) := by decide +kernel
theorem dX5_clear_0 : decode cX5_clear 0 = .ok (.aload_n 0, 1) := by decide +kernel
theorem dX5_clear_1 : decode cX5_clear 1 = .ok (.iconst 0, 1) := by decide +kernel
theorem dX5_clear_2 : decode cX5_clear 2 = .ok (.putfield 18, 3) := by decide +kernel
theorem dX5_clear_5 : decode cX5_clear 5 = .ok (.aload_n 0, 1) := by decide +kernel
theorem dX5_clear_6 : decode cX5_clear 6 = .ok (.iconst 0, 1) := by decide +kernel
theorem dX5_clear_7 : decode cX5_clear 7 = .ok (.putfield 22, 3) := by decide +kernel
theorem dX5_clear_10 : decode cX5_clear 10 = .ok (.iconst 0, 1) := by decide +kernel
theorem dX5_clear_11 : decode cX5_clear 11 = .ok (.istore_n 1, 1) := by decide +kernel
theorem dX5_clear_12 : decode cX5_clear 12 = .ok (.iload_n 1, 1) := by decide +kernel
theorem dX5_clear_13 : decode cX5_clear 13 = .ok (.bipush 10, 2) := by decide +kernel
theorem dX5_clear_15 : decode cX5_clear 15 = .ok (.if_icmp .ge 16, 3) := by decide +kernel
theorem dX5_clear_18 : decode cX5_clear 18 = .ok (.aload_n 0, 1) := by decide +kernel
theorem dX5_clear_19 : decode cX5_clear 19 = .ok (.getfield 9, 3) := by decide +kernel
theorem dX5_clear_22 : decode cX5_clear 22 = .ok (.iload_n 1, 1) := by decide +kernel
theorem dX5_clear_23 : decode cX5_clear 23 = .ok (.iconst 0, 1) := by decide +kernel
theorem dX5_clear_24 : decode cX5_clear 24 = .ok (.iastore, 1) := by decide +kernel
theorem dX5_clear_25 : decode cX5_clear 25 = .ok (.iinc 1 1, 3) := by decide +kernel
theorem dX5_clear_28 : decode cX5_clear 28 = .ok (.goto (-16), 3) := by decide +kernel
theorem dX5_clear_31 : decode cX5_clear 31 = .ok (.return_, 1) := by decide +kernel
theorem dX5_holdsFor_0 : decode cX5_holdsFor 0 = .ok (.aload_n 0, 1) := by decide +kernel
theorem dX5_holdsFor_1 : decode cX5_holdsFor 1 = .ok (.getfield 22, 3) := by decide +kernel
theorem dX5_holdsFor_4 : decode cX5_holdsFor 4 = .ok (.iload_n 1, 1) := by decide +kernel
theorem dX5_holdsFor_5 : decode cX5_holdsFor 5 = .ok (.iconst (-1), 1) := by decide +kernel
theorem dX5_holdsFor_6 : decode cX5_holdsFor 6 = .ok (.ixor, 1) := by decide +kernel
theorem dX5_holdsFor_7 : decode cX5_holdsFor 7 = .ok (.iand, 1) := by decide +kernel
theorem dX5_holdsFor_8 : decode cX5_holdsFor 8 = .ok (.ifCond .ne 7, 3) := by decide +kernel
theorem dX5_holdsFor_11 : decode cX5_holdsFor 11 = .ok (.iconst 1, 1) := by decide +kernel
theorem dX5_holdsFor_12 : decode cX5_holdsFor 12 = .ok (.goto 4, 3) := by decide +kernel
theorem dX5_holdsFor_15 : decode cX5_holdsFor 15 = .ok (.iconst 0, 1) := by decide +kernel
theorem dX5_holdsFor_16 : decode cX5_holdsFor 16 = .ok (.istore_n 2, 1) := by decide +kernel
theorem dX5_holdsFor_17 : decode cX5_holdsFor 17 = .ok (.iconst 0, 1) := by decide +kernel
theorem dX5_holdsFor_18 : decode cX5_holdsFor 18 = .ok (.istore_n 3, 1) := by decide +kernel
theorem dX5_holdsFor_19 : decode cX5_holdsFor 19 = .ok (.iload_n 3, 1) := by decide +kernel
theorem dX5_holdsFor_20 : decode cX5_holdsFor 20 = .ok (.bipush 10, 2) := by decide +kernel
theorem dX5_holdsFor_22 : decode cX5_holdsFor 22 = .ok (.if_icmp .ge 32, 3) := by decide +kernel
theorem dX5_holdsFor_25 : decode cX5_holdsFor 25 = .ok (.iload_n 2, 1) := by decide +kernel
theorem dX5_holdsFor_26 : decode cX5_holdsFor 26 = .ok (.ifCond .eq 20, 3) := by decide +kernel
theorem dX5_holdsFor_29 : decode cX5_holdsFor 29 = .ok (.aload_n 0, 1) := by decide +kernel
theorem dX5_holdsFor_30 : decode cX5_holdsFor 30 = .ok (.getfield 9, 3) := by decide +kernel
theorem dX5_holdsFor_33 : decode cX5_holdsFor 33 = .ok (.iload_n 3, 1) := by decide +kernel
theorem dX5_holdsFor_34 : decode cX5_holdsFor 34 = .ok (.iaload, 1) := by decide +kernel
theorem dX5_holdsFor_35 : decode cX5_holdsFor 35 = .ok (.iload_n 3, 1) := by decide +kernel
theorem dX5_holdsFor_36 : decode cX5_holdsFor 36 = .ok (.invokestatic 29, 3) := by decide +kernel
theorem dX5_holdsFor_39 : decode cX5_holdsFor 39 = .ok (.ifCond .ne 7, 3) := by decide +kernel
theorem dX5_holdsFor_42 : decode cX5_holdsFor 42 = .ok (.iconst 1, 1) := by decide +kernel
theorem dX5_holdsFor_43 : decode cX5_holdsFor 43 = .ok (.goto 4, 3) := by decide +kernel
theorem dX5_holdsFor_46 : decode cX5_holdsFor 46 = .ok (.iconst 0, 1) := by decide +kernel
theorem dX5_holdsFor_47 : decode cX5_holdsFor 47 = .ok (.istore_n 2, 1) := by decide +kernel
theorem dX5_holdsFor_48 : decode cX5_holdsFor 48 = .ok (.iinc 3 1, 3) := by decide +kernel
theorem dX5_holdsFor_51 : decode cX5_holdsFor 51 = .ok (.goto (-32), 3) := by decide +kernel
theorem dX5_holdsFor_54 : decode cX5_holdsFor 54 = .ok (.iload_n 2, 1) := by decide +kernel
theorem dX5_holdsFor_55 : decode cX5_holdsFor 55 = .ok (.ireturn, 1) := by decide +kernel
theorem dX5_behindNobody_0 : decode cX5_behindNobody 0 = .ok (.iconst 0, 1) := by decide +kernel
theorem dX5_behindNobody_1 : decode cX5_behindNobody 1 = .ok (.istore_n 2, 1) := by decide +kernel
theorem dX5_behindNobody_2 : decode cX5_behindNobody 2 = .ok (.iconst 0, 1) := by decide +kernel
theorem dX5_behindNobody_3 : decode cX5_behindNobody 3 = .ok (.istore_n 3, 1) := by decide +kernel
theorem dX5_behindNobody_4 : decode cX5_behindNobody 4 = .ok (.iload_n 3, 1) := by decide +kernel
theorem dX5_behindNobody_5 : decode cX5_behindNobody 5 = .ok (.bipush 10, 2) := by decide +kernel
theorem dX5_behindNobody_7 : decode cX5_behindNobody 7 = .ok (.if_icmp .ge 33, 3) := by decide +kernel
theorem dX5_behindNobody_10 : decode cX5_behindNobody 10 = .ok (.iload_n 1, 1) := by decide +kernel
theorem dX5_behindNobody_11 : decode cX5_behindNobody 11 = .ok (.iload_n 3, 1) := by decide +kernel
theorem dX5_behindNobody_12 : decode cX5_behindNobody 12 = .ok (.invokestatic 29, 3) := by decide +kernel
theorem dX5_behindNobody_15 : decode cX5_behindNobody 15 = .ok (.ifCond .eq 19, 3) := by decide +kernel
theorem dX5_behindNobody_18 : decode cX5_behindNobody 18 = .ok (.aload_n 0, 1) := by decide +kernel
theorem dX5_behindNobody_19 : decode cX5_behindNobody 19 = .ok (.getfield 9, 3) := by decide +kernel
theorem dX5_behindNobody_22 : decode cX5_behindNobody 22 = .ok (.iload_n 3, 1) := by decide +kernel
theorem dX5_behindNobody_23 : decode cX5_behindNobody 23 = .ok (.iaload, 1) := by decide +kernel
theorem dX5_behindNobody_24 : decode cX5_behindNobody 24 = .ok (.ifCond .ne 10, 3) := by decide +kernel
theorem dX5_behindNobody_27 : decode cX5_behindNobody 27 = .ok (.iload_n 2, 1) := by decide +kernel
theorem dX5_behindNobody_28 : decode cX5_behindNobody 28 = .ok (.iload_n 3, 1) := by decide +kernel
theorem dX5_behindNobody_29 : decode cX5_behindNobody 29 = .ok (.invokestatic 25, 3) := by decide +kernel
theorem dX5_behindNobody_32 : decode cX5_behindNobody 32 = .ok (.ior, 1) := by decide +kernel
theorem dX5_behindNobody_33 : decode cX5_behindNobody 33 = .ok (.istore_n 2, 1) := by decide +kernel
theorem dX5_behindNobody_34 : decode cX5_behindNobody 34 = .ok (.iinc 3 1, 3) := by decide +kernel
theorem dX5_behindNobody_37 : decode cX5_behindNobody 37 = .ok (.goto (-33), 3) := by decide +kernel
theorem dX5_behindNobody_40 : decode cX5_behindNobody 40 = .ok (.iload_n 2, 1) := by decide +kernel
theorem dX5_behindNobody_41 : decode cX5_behindNobody 41 = .ok (.ireturn, 1) := by decide +kernel
theorem dX5_countOrders_0 : decode cX5_countOrders 0 = .ok (.aload_n 0, 1) := by decide +kernel
theorem dX5_countOrders_1 : decode cX5_countOrders 1 = .ok (.iload_n 1, 1) := by decide +kernel
theorem dX5_countOrders_2 : decode cX5_countOrders 2 = .ok (.invokevirtual 33, 3) := by decide +kernel
theorem dX5_countOrders_5 : decode cX5_countOrders 5 = .ok (.ifCond .ne 5, 3) := by decide +kernel
theorem dX5_countOrders_8 : decode cX5_countOrders 8 = .ok (.lconst 0, 1) := by decide +kernel
theorem dX5_countOrders_9 : decode cX5_countOrders 9 = .ok (.lreturn, 1) := by decide +kernel
theorem dX5_countOrders_10 : decode cX5_countOrders 10 = .ok (.aload_n 0, 1) := by decide +kernel
theorem dX5_countOrders_11 : decode cX5_countOrders 11 = .ok (.getfield 15, 3) := by decide +kernel
theorem dX5_countOrders_14 : decode cX5_countOrders 14 = .ok (.iconst 0, 1) := by decide +kernel
theorem dX5_countOrders_15 : decode cX5_countOrders 15 = .ok (.iconst 1, 1) := by decide +kernel
theorem dX5_countOrders_16 : decode cX5_countOrders 16 = .ok (.iastore, 1) := by decide +kernel
theorem dX5_countOrders_17 : decode cX5_countOrders 17 = .ok (.iconst 1, 1) := by decide +kernel
theorem dX5_countOrders_18 : decode cX5_countOrders 18 = .ok (.istore_n 2, 1) := by decide +kernel
theorem dX5_countOrders_19 : decode cX5_countOrders 19 = .ok (.iload_n 2, 1) := by decide +kernel
theorem dX5_countOrders_20 : decode cX5_countOrders 20 = .ok (.aload_n 0, 1) := by decide +kernel
theorem dX5_countOrders_21 : decode cX5_countOrders 21 = .ok (.getfield 22, 3) := by decide +kernel
theorem dX5_countOrders_24 : decode cX5_countOrders 24 = .ok (.if_icmp .gt 31, 3) := by decide +kernel
theorem dX5_countOrders_27 : decode cX5_countOrders 27 = .ok (.iload_n 2, 1) := by decide +kernel
theorem dX5_countOrders_28 : decode cX5_countOrders 28 = .ok (.aload_n 0, 1) := by decide +kernel
theorem dX5_countOrders_29 : decode cX5_countOrders 29 = .ok (.getfield 22, 3) := by decide +kernel
theorem dX5_countOrders_32 : decode cX5_countOrders 32 = .ok (.iconst (-1), 1) := by decide +kernel
theorem dX5_countOrders_33 : decode cX5_countOrders 33 = .ok (.ixor, 1) := by decide +kernel
theorem dX5_countOrders_34 : decode cX5_countOrders 34 = .ok (.iand, 1) := by decide +kernel
theorem dX5_countOrders_35 : decode cX5_countOrders 35 = .ok (.ifCond .ne 14, 3) := by decide +kernel
theorem dX5_countOrders_38 : decode cX5_countOrders 38 = .ok (.aload_n 0, 1) := by decide +kernel
theorem dX5_countOrders_39 : decode cX5_countOrders 39 = .ok (.getfield 15, 3) := by decide +kernel
theorem dX5_countOrders_42 : decode cX5_countOrders 42 = .ok (.iload_n 2, 1) := by decide +kernel
theorem dX5_countOrders_43 : decode cX5_countOrders 43 = .ok (.aload_n 0, 1) := by decide +kernel
theorem dX5_countOrders_44 : decode cX5_countOrders 44 = .ok (.iload_n 2, 1) := by decide +kernel
theorem dX5_countOrders_45 : decode cX5_countOrders 45 = .ok (.invokevirtual 37, 3) := by decide +kernel
theorem dX5_countOrders_48 : decode cX5_countOrders 48 = .ok (.iastore, 1) := by decide +kernel
theorem dX5_countOrders_49 : decode cX5_countOrders 49 = .ok (.iinc 2 1, 3) := by decide +kernel
theorem dX5_countOrders_52 : decode cX5_countOrders 52 = .ok (.goto (-33), 3) := by decide +kernel
theorem dX5_countOrders_55 : decode cX5_countOrders 55 = .ok (.aload_n 0, 1) := by decide +kernel
theorem dX5_countOrders_56 : decode cX5_countOrders 56 = .ok (.getfield 15, 3) := by decide +kernel
theorem dX5_countOrders_59 : decode cX5_countOrders 59 = .ok (.aload_n 0, 1) := by decide +kernel
theorem dX5_countOrders_60 : decode cX5_countOrders 60 = .ok (.getfield 22, 3) := by decide +kernel
theorem dX5_countOrders_63 : decode cX5_countOrders 63 = .ok (.iaload, 1) := by decide +kernel
theorem dX5_countOrders_64 : decode cX5_countOrders 64 = .ok (.i2l, 1) := by decide +kernel
theorem dX5_countOrders_65 : decode cX5_countOrders 65 = .ok (.lstore_n 2, 1) := by decide +kernel
theorem dX5_countOrders_66 : decode cX5_countOrders 66 = .ok (.aload_n 0, 1) := by decide +kernel
theorem dX5_countOrders_67 : decode cX5_countOrders 67 = .ok (.getfield 22, 3) := by decide +kernel
theorem dX5_countOrders_70 : decode cX5_countOrders 70 = .ok (.invokestatic 40, 3) := by decide +kernel
theorem dX5_countOrders_73 : decode cX5_countOrders 73 = .ok (.iconst 1, 1) := by decide +kernel
theorem dX5_countOrders_74 : decode cX5_countOrders 74 = .ok (.iadd, 1) := by decide +kernel
theorem dX5_countOrders_75 : decode cX5_countOrders 75 = .ok (.istore 4, 2) := by decide +kernel
theorem dX5_countOrders_77 : decode cX5_countOrders 77 = .ok (.iload 4, 2) := by decide +kernel
theorem dX5_countOrders_79 : decode cX5_countOrders 79 = .ok (.iload_n 1, 1) := by decide +kernel
theorem dX5_countOrders_80 : decode cX5_countOrders 80 = .ok (.invokestatic 40, 3) := by decide +kernel
theorem dX5_countOrders_83 : decode cX5_countOrders 83 = .ok (.if_icmp .gt 15, 3) := by decide +kernel
theorem dX5_countOrders_86 : decode cX5_countOrders 86 = .ok (.lload_n 2, 1) := by decide +kernel
theorem dX5_countOrders_87 : decode cX5_countOrders 87 = .ok (.iload 4, 2) := by decide +kernel
theorem dX5_countOrders_89 : decode cX5_countOrders 89 = .ok (.i2l, 1) := by decide +kernel
theorem dX5_countOrders_90 : decode cX5_countOrders 90 = .ok (.lmul, 1) := by decide +kernel
theorem dX5_countOrders_91 : decode cX5_countOrders 91 = .ok (.lstore_n 2, 1) := by decide +kernel
theorem dX5_countOrders_92 : decode cX5_countOrders 92 = .ok (.iinc 4 1, 3) := by decide +kernel
theorem dX5_countOrders_95 : decode cX5_countOrders 95 = .ok (.goto (-18), 3) := by decide +kernel
theorem dX5_countOrders_98 : decode cX5_countOrders 98 = .ok (.lload_n 2, 1) := by decide +kernel
theorem dX5_countOrders_99 : decode cX5_countOrders 99 = .ok (.lreturn, 1) := by decide +kernel
theorem dX5_waysToGoFirst_0 : decode cX5_waysToGoFirst 0 = .ok (.iconst 0, 1) := by decide +kernel
theorem dX5_waysToGoFirst_1 : decode cX5_waysToGoFirst 1 = .ok (.istore_n 2, 1) := by decide +kernel
theorem dX5_waysToGoFirst_2 : decode cX5_waysToGoFirst 2 = .ok (.iconst 0, 1) := by decide +kernel
theorem dX5_waysToGoFirst_3 : decode cX5_waysToGoFirst 3 = .ok (.istore_n 3, 1) := by decide +kernel
theorem dX5_waysToGoFirst_4 : decode cX5_waysToGoFirst 4 = .ok (.iload_n 3, 1) := by decide +kernel
theorem dX5_waysToGoFirst_5 : decode cX5_waysToGoFirst 5 = .ok (.bipush 10, 2) := by decide +kernel
theorem dX5_waysToGoFirst_7 : decode cX5_waysToGoFirst 7 = .ok (.if_icmp .ge 51, 3) := by decide +kernel
theorem dX5_waysToGoFirst_10 : decode cX5_waysToGoFirst 10 = .ok (.iload_n 1, 1) := by decide +kernel
theorem dX5_waysToGoFirst_11 : decode cX5_waysToGoFirst 11 = .ok (.iload_n 3, 1) := by decide +kernel
theorem dX5_waysToGoFirst_12 : decode cX5_waysToGoFirst 12 = .ok (.invokestatic 25, 3) := by decide +kernel
theorem dX5_waysToGoFirst_15 : decode cX5_waysToGoFirst 15 = .ok (.iconst (-1), 1) := by decide +kernel
theorem dX5_waysToGoFirst_16 : decode cX5_waysToGoFirst 16 = .ok (.ixor, 1) := by decide +kernel
theorem dX5_waysToGoFirst_17 : decode cX5_waysToGoFirst 17 = .ok (.iand, 1) := by decide +kernel
theorem dX5_waysToGoFirst_18 : decode cX5_waysToGoFirst 18 = .ok (.istore 4, 2) := by decide +kernel
theorem dX5_waysToGoFirst_20 : decode cX5_waysToGoFirst 20 = .ok (.iload_n 1, 1) := by decide +kernel
theorem dX5_waysToGoFirst_21 : decode cX5_waysToGoFirst 21 = .ok (.iload_n 3, 1) := by decide +kernel
theorem dX5_waysToGoFirst_22 : decode cX5_waysToGoFirst 22 = .ok (.invokestatic 29, 3) := by decide +kernel
theorem dX5_waysToGoFirst_25 : decode cX5_waysToGoFirst 25 = .ok (.ifCond .eq 27, 3) := by decide +kernel
theorem dX5_waysToGoFirst_28 : decode cX5_waysToGoFirst 28 = .ok (.aload_n 0, 1) := by decide +kernel
theorem dX5_waysToGoFirst_29 : decode cX5_waysToGoFirst 29 = .ok (.getfield 9, 3) := by decide +kernel
theorem dX5_waysToGoFirst_32 : decode cX5_waysToGoFirst 32 = .ok (.iload_n 3, 1) := by decide +kernel
theorem dX5_waysToGoFirst_33 : decode cX5_waysToGoFirst 33 = .ok (.iaload, 1) := by decide +kernel
theorem dX5_waysToGoFirst_34 : decode cX5_waysToGoFirst 34 = .ok (.iload 4, 2) := by decide +kernel
theorem dX5_waysToGoFirst_36 : decode cX5_waysToGoFirst 36 = .ok (.iconst (-1), 1) := by decide +kernel
theorem dX5_waysToGoFirst_37 : decode cX5_waysToGoFirst 37 = .ok (.ixor, 1) := by decide +kernel
theorem dX5_waysToGoFirst_38 : decode cX5_waysToGoFirst 38 = .ok (.iand, 1) := by decide +kernel
theorem dX5_waysToGoFirst_39 : decode cX5_waysToGoFirst 39 = .ok (.ifCond .ne 13, 3) := by decide +kernel
theorem dX5_waysToGoFirst_42 : decode cX5_waysToGoFirst 42 = .ok (.iload_n 2, 1) := by decide +kernel
theorem dX5_waysToGoFirst_43 : decode cX5_waysToGoFirst 43 = .ok (.aload_n 0, 1) := by decide +kernel
theorem dX5_waysToGoFirst_44 : decode cX5_waysToGoFirst 44 = .ok (.getfield 15, 3) := by decide +kernel
theorem dX5_waysToGoFirst_47 : decode cX5_waysToGoFirst 47 = .ok (.iload 4, 2) := by decide +kernel
theorem dX5_waysToGoFirst_49 : decode cX5_waysToGoFirst 49 = .ok (.iaload, 1) := by decide +kernel
theorem dX5_waysToGoFirst_50 : decode cX5_waysToGoFirst 50 = .ok (.iadd, 1) := by decide +kernel
theorem dX5_waysToGoFirst_51 : decode cX5_waysToGoFirst 51 = .ok (.istore_n 2, 1) := by decide +kernel
theorem dX5_waysToGoFirst_52 : decode cX5_waysToGoFirst 52 = .ok (.iinc 3 1, 3) := by decide +kernel
theorem dX5_waysToGoFirst_55 : decode cX5_waysToGoFirst 55 = .ok (.goto (-51), 3) := by decide +kernel
theorem dX5_waysToGoFirst_58 : decode cX5_waysToGoFirst 58 = .ok (.iload_n 2, 1) := by decide +kernel
theorem dX5_waysToGoFirst_59 : decode cX5_waysToGoFirst 59 = .ok (.ireturn, 1) := by decide +kernel
theorem dJ6_bitCount_0f7a4_0 : decode cJ6_bitCount_0f7a4 0 = .ok (.iload_n 0, 1) := by decide +kernel
theorem dJ6_bitCount_0f7a4_1 : decode cJ6_bitCount_0f7a4 1 = .ok (.iload_n 0, 1) := by decide +kernel
theorem dJ6_bitCount_0f7a4_2 : decode cJ6_bitCount_0f7a4 2 = .ok (.iconst 1, 1) := by decide +kernel
theorem dJ6_bitCount_0f7a4_3 : decode cJ6_bitCount_0f7a4 3 = .ok (.iushr, 1) := by decide +kernel
theorem dJ6_bitCount_0f7a4_4 : decode cJ6_bitCount_0f7a4 4 = .ok (.ldc_w 265, 3) := by decide +kernel
theorem dJ6_bitCount_0f7a4_7 : decode cJ6_bitCount_0f7a4 7 = .ok (.iand, 1) := by decide +kernel
theorem dJ6_bitCount_0f7a4_8 : decode cJ6_bitCount_0f7a4 8 = .ok (.isub, 1) := by decide +kernel
theorem dJ6_bitCount_0f7a4_9 : decode cJ6_bitCount_0f7a4 9 = .ok (.istore_n 0, 1) := by decide +kernel
theorem dJ6_bitCount_0f7a4_10 : decode cJ6_bitCount_0f7a4 10 = .ok (.iload_n 0, 1) := by decide +kernel
theorem dJ6_bitCount_0f7a4_11 : decode cJ6_bitCount_0f7a4 11 = .ok (.ldc_w 266, 3) := by decide +kernel
theorem dJ6_bitCount_0f7a4_14 : decode cJ6_bitCount_0f7a4 14 = .ok (.iand, 1) := by decide +kernel
theorem dJ6_bitCount_0f7a4_15 : decode cJ6_bitCount_0f7a4 15 = .ok (.iload_n 0, 1) := by decide +kernel
theorem dJ6_bitCount_0f7a4_16 : decode cJ6_bitCount_0f7a4 16 = .ok (.iconst 2, 1) := by decide +kernel
theorem dJ6_bitCount_0f7a4_17 : decode cJ6_bitCount_0f7a4 17 = .ok (.iushr, 1) := by decide +kernel
theorem dJ6_bitCount_0f7a4_18 : decode cJ6_bitCount_0f7a4 18 = .ok (.ldc_w 266, 3) := by decide +kernel
theorem dJ6_bitCount_0f7a4_21 : decode cJ6_bitCount_0f7a4 21 = .ok (.iand, 1) := by decide +kernel
theorem dJ6_bitCount_0f7a4_22 : decode cJ6_bitCount_0f7a4 22 = .ok (.iadd, 1) := by decide +kernel
theorem dJ6_bitCount_0f7a4_23 : decode cJ6_bitCount_0f7a4 23 = .ok (.istore_n 0, 1) := by decide +kernel
theorem dJ6_bitCount_0f7a4_24 : decode cJ6_bitCount_0f7a4 24 = .ok (.iload_n 0, 1) := by decide +kernel
theorem dJ6_bitCount_0f7a4_25 : decode cJ6_bitCount_0f7a4 25 = .ok (.iload_n 0, 1) := by decide +kernel
theorem dJ6_bitCount_0f7a4_26 : decode cJ6_bitCount_0f7a4 26 = .ok (.iconst 4, 1) := by decide +kernel
theorem dJ6_bitCount_0f7a4_27 : decode cJ6_bitCount_0f7a4 27 = .ok (.iushr, 1) := by decide +kernel
theorem dJ6_bitCount_0f7a4_28 : decode cJ6_bitCount_0f7a4 28 = .ok (.iadd, 1) := by decide +kernel
theorem dJ6_bitCount_0f7a4_29 : decode cJ6_bitCount_0f7a4 29 = .ok (.ldc_w 267, 3) := by decide +kernel
theorem dJ6_bitCount_0f7a4_32 : decode cJ6_bitCount_0f7a4 32 = .ok (.iand, 1) := by decide +kernel
theorem dJ6_bitCount_0f7a4_33 : decode cJ6_bitCount_0f7a4 33 = .ok (.istore_n 0, 1) := by decide +kernel
theorem dJ6_bitCount_0f7a4_34 : decode cJ6_bitCount_0f7a4 34 = .ok (.iload_n 0, 1) := by decide +kernel
theorem dJ6_bitCount_0f7a4_35 : decode cJ6_bitCount_0f7a4 35 = .ok (.iload_n 0, 1) := by decide +kernel
theorem dJ6_bitCount_0f7a4_36 : decode cJ6_bitCount_0f7a4 36 = .ok (.bipush 8, 2) := by decide +kernel
theorem dJ6_bitCount_0f7a4_38 : decode cJ6_bitCount_0f7a4 38 = .ok (.iushr, 1) := by decide +kernel
theorem dJ6_bitCount_0f7a4_39 : decode cJ6_bitCount_0f7a4 39 = .ok (.iadd, 1) := by decide +kernel
theorem dJ6_bitCount_0f7a4_40 : decode cJ6_bitCount_0f7a4 40 = .ok (.istore_n 0, 1) := by decide +kernel
theorem dJ6_bitCount_0f7a4_41 : decode cJ6_bitCount_0f7a4 41 = .ok (.iload_n 0, 1) := by decide +kernel
theorem dJ6_bitCount_0f7a4_42 : decode cJ6_bitCount_0f7a4 42 = .ok (.iload_n 0, 1) := by decide +kernel
theorem dJ6_bitCount_0f7a4_43 : decode cJ6_bitCount_0f7a4 43 = .ok (.bipush 16, 2) := by decide +kernel
theorem dJ6_bitCount_0f7a4_45 : decode cJ6_bitCount_0f7a4 45 = .ok (.iushr, 1) := by decide +kernel
theorem dJ6_bitCount_0f7a4_46 : decode cJ6_bitCount_0f7a4 46 = .ok (.iadd, 1) := by decide +kernel
theorem dJ6_bitCount_0f7a4_47 : decode cJ6_bitCount_0f7a4 47 = .ok (.istore_n 0, 1) := by decide +kernel
theorem dJ6_bitCount_0f7a4_48 : decode cJ6_bitCount_0f7a4 48 = .ok (.iload_n 0, 1) := by decide +kernel
theorem dJ6_bitCount_0f7a4_49 : decode cJ6_bitCount_0f7a4 49 = .ok (.bipush 63, 2) := by decide +kernel
theorem dJ6_bitCount_0f7a4_51 : decode cJ6_bitCount_0f7a4 51 = .ok (.iand, 1) := by decide +kernel
theorem dJ6_bitCount_0f7a4_52 : decode cJ6_bitCount_0f7a4 52 = .ok (.ireturn, 1) := by decide +kernel
theorem dJ9_max_7cf53_0 : decode cJ9_max_7cf53 0 = .ok (.iload_n 0, 1) := by decide +kernel
theorem dJ9_max_7cf53_1 : decode cJ9_max_7cf53 1 = .ok (.iload_n 1, 1) := by decide +kernel
theorem dJ9_max_7cf53_2 : decode cJ9_max_7cf53 2 = .ok (.if_icmp .lt 7, 3) := by decide +kernel
theorem dJ9_max_7cf53_5 : decode cJ9_max_7cf53 5 = .ok (.iload_n 0, 1) := by decide +kernel
theorem dJ9_max_7cf53_6 : decode cJ9_max_7cf53 6 = .ok (.goto 4, 3) := by decide +kernel
theorem dJ9_max_7cf53_9 : decode cJ9_max_7cf53 9 = .ok (.iload_n 1, 1) := by decide +kernel
theorem dJ9_max_7cf53_10 : decode cJ9_max_7cf53 10 = .ok (.ireturn, 1) := by decide +kernel
theorem dJ9_min_7cf53_0 : decode cJ9_min_7cf53 0 = .ok (.iload_n 0, 1) := by decide +kernel
theorem dJ9_min_7cf53_1 : decode cJ9_min_7cf53 1 = .ok (.iload_n 1, 1) := by decide +kernel
theorem dJ9_min_7cf53_2 : decode cJ9_min_7cf53 2 = .ok (.if_icmp .gt 7, 3) := by decide +kernel
theorem dJ9_min_7cf53_5 : decode cJ9_min_7cf53 5 = .ok (.iload_n 0, 1) := by decide +kernel
theorem dJ9_min_7cf53_6 : decode cJ9_min_7cf53 6 = .ok (.goto 4, 3) := by decide +kernel
theorem dJ9_min_7cf53_9 : decode cJ9_min_7cf53 9 = .ok (.iload_n 1, 1) := by decide +kernel
theorem dJ9_min_7cf53_10 : decode cJ9_min_7cf53 10 = .ok (.ireturn, 1) := by decide +kernel
