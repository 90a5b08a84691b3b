theorem dX6_init_0 : decode cX6_init 0 = .ok (.aload_n 0, 1) := by decide +kernel
theorem dX6_init_1 : decode cX6_init 1 = .ok (.invokespecial 1, 3) := by decide +kernel
theorem dX6_init_4 : decode cX6_init 4 = .ok (.aload_n 0, 1) := by decide +kernel
theorem dX6_init_5 : decode cX6_init 5 = .ok (.iconst 3, 1) := by decide +kernel
theorem dX6_init_6 : decode cX6_init 6 = .ok (.anewarray 9, 3) := by decide +kernel
theorem dX6_init_9 : decode cX6_init 9 = .ok (.putfield 11, 3) := by decide +kernel
theorem dX6_init_12 : decode cX6_init 12 = .ok (.aload_n 0, 1) := by decide +kernel
theorem dX6_init_13 : decode cX6_init 13 = .ok (.iconst 3, 1) := by decide +kernel
theorem dX6_init_14 : decode cX6_init 14 = .ok (.bipush 10, 2) := by decide +kernel
theorem dX6_init_16 : decode cX6_init 16 = .ok (.multianewarray 15 2, 4) := by decide +kernel
theorem dX6_init_20 : decode cX6_init 20 = .ok (.putfield 17, 3) := by decide +kernel
theorem dX6_init_23 : decode cX6_init 23 = .ok (.aload_n 0, 1) := by decide +kernel
theorem dX6_init_24 : decode cX6_init 24 = .ok (.iconst 4, 1) := by decide +kernel
theorem dX6_init_25 : decode cX6_init 25 = .ok (.newarray .int, 2) := by decide +kernel
theorem dX6_init_27 : decode cX6_init 27 = .ok (.dup, 1) := by decide +kernel
theorem dX6_init_28 : decode cX6_init 28 = .ok (.iconst 0, 1) := by decide +kernel
theorem dX6_init_29 : decode cX6_init 29 = .ok (.bipush 10, 2) := by decide +kernel
theorem dX6_init_31 : decode cX6_init 31 = .ok (.iastore, 1) := by decide +kernel
theorem dX6_init_32 : decode cX6_init 32 = .ok (.dup, 1) := by decide +kernel
theorem dX6_init_33 : decode cX6_init 33 = .ok (.iconst 1, 1) := by decide +kernel
theorem dX6_init_34 : decode cX6_init 34 = .ok (.iconst 1, 1) := by decide +kernel
theorem dX6_init_35 : decode cX6_init 35 = .ok (.iastore, 1) := by decide +kernel
theorem dX6_init_36 : decode cX6_init 36 = .ok (.dup, 1) := by decide +kernel
theorem dX6_init_37 : decode cX6_init 37 = .ok (.iconst 2, 1) := by decide +kernel
theorem dX6_init_38 : decode cX6_init 38 = .ok (.iconst 2, 1) := by decide +kernel
theorem dX6_init_39 : decode cX6_init 39 = .ok (.iastore, 1) := by decide +kernel
theorem dX6_init_40 : decode cX6_init 40 = .ok (.dup, 1) := by decide +kernel
theorem dX6_init_41 : decode cX6_init 41 = .ok (.iconst 3, 1) := by decide +kernel
theorem dX6_init_42 : decode cX6_init 42 = .ok (.iconst 1, 1) := by decide +kernel
theorem dX6_init_43 : decode cX6_init 43 = .ok (.iastore, 1) := by decide +kernel
theorem dX6_init_44 : decode cX6_init 44 = .ok (.putfield 20, 3) := by decide +kernel
theorem dX6_init_47 : decode cX6_init 47 = .ok (.aload_n 0, 1) := by decide +kernel
theorem dX6_init_48 : decode cX6_init 48 = .ok (.new 24, 3) := by decide +kernel
theorem dX6_init_51 : decode cX6_init 51 = .ok (.dup, 1) := by decide +kernel
theorem dX6_init_52 : decode cX6_init 52 = .ok (.invokespecial 26, 3) := by decide +kernel
theorem dX6_init_55 : decode cX6_init 55 = .ok (.putfield 27, 3) := by decide +kernel
theorem dX6_init_58 : decode cX6_init 58 = .ok (.aload_n 0, 1) := by decide +kernel
theorem dX6_init_59 : decode cX6_init 59 = .ok (.new 31, 3) := by decide +kernel
theorem dX6_init_62 : decode cX6_init 62 = .ok (.dup, 1) := by decide +kernel
theorem dX6_init_63 : decode cX6_init 63 = .ok (.invokespecial 33, 3) := by decide +kernel
theorem dX6_init_66 : decode cX6_init 66 = .ok (.putfield 34, 3) := by decide +kernel
theorem dX6_init_69 : decode cX6_init 69 = .ok (.aload_n 0, 1) := by decide +kernel
theorem dX6_init_70 : decode cX6_init 70 = .ok (.new 38, 3) := by decide +kernel
theorem dX6_init_73 : decode cX6_init 73 = .ok (.dup, 1) := by decide +kernel
theorem dX6_init_74 : decode cX6_init 74 = .ok (.invokespecial 40, 3) := by decide +kernel
theorem dX6_init_77 : decode cX6_init 77 = .ok (.putfield 41, 3) := by decide +kernel
theorem dX6_init_80 : decode cX6_init 80 = .ok (.aload_n 0, 1) := by decide +kernel
theorem dX6_init_81 : decode cX6_init 81 = .ok (.new 45, 3) := by decide +kernel
theorem dX6_init_84 : decode cX6_init 84 = .ok (.dup, 1) := by decide +kernel
theorem dX6_init_85 : decode cX6_init 85 = .ok (.invokespecial 47, 3) := by decide +kernel
theorem dX6_init_88 : decode cX6_init 88 = .ok (.putfield 48, 3) := by decide +kernel
theorem dX6_init_91 : decode cX6_init 91 = .ok (.aload_n 0, 1) := by decide +kernel
theorem dX6_init_92 : decode cX6_init 92 = .ok (.iconst 4, 1) := by decide +kernel
theorem dX6_init_93 : decode cX6_init 93 = .ok (.anewarray 52, 3) := by decide +kernel
theorem dX6_init_96 : decode cX6_init 96 = .ok (.putfield 54, 3) := by decide +kernel
theorem dX6_init_99 : decode cX6_init 99 = .ok (.iconst 0, 1) := by decide +kernel
theorem dX6_init_100 : decode cX6_init 100 = .ok (.istore_n 1, 1) := by decide +kernel
theorem dX6_init_101 : decode cX6_init 101 = .ok (.iload_n 1, 1) := by decide +kernel
theorem dX6_init_102 : decode cX6_init 102 = .ok (.iconst 3, 1) := by decide +kernel
theorem dX6_init_103 : decode cX6_init 103 = .ok (.if_icmp .ge 22, 3) := by decide +kernel
theorem dX6_init_106 : decode cX6_init 106 = .ok (.aload_n 0, 1) := by decide +kernel
theorem dX6_init_107 : decode cX6_init 107 = .ok (.getfield 11, 3) := by decide +kernel
theorem dX6_init_110 : decode cX6_init 110 = .ok (.iload_n 1, 1) := by decide +kernel
theorem dX6_init_111 : decode cX6_init 111 = .ok (.new 9, 3) := by decide +kernel
theorem dX6_init_114 : decode cX6_init 114 = .ok (.dup, 1) := by decide +kernel
theorem dX6_init_115 : decode cX6_init 115 = .ok (.invokespecial 58, 3) := by decide +kernel
theorem dX6_init_118 : decode cX6_init 118 = .ok (.aastore, 1) := by decide +kernel
theorem dX6_init_119 : decode cX6_init 119 = .ok (.iinc 1 1, 3) := by decide +kernel
theorem dX6_init_122 : decode cX6_init 122 = .ok (.goto (-21), 3) := by decide +kernel
theorem dX6_init_125 : decode cX6_init 125 = .ok (.iconst 0, 1) := by decide +kernel
theorem dX6_init_126 : decode cX6_init 126 = .ok (.istore_n 1, 1) := by decide +kernel
theorem dX6_init_127 : decode cX6_init 127 = .ok (.iload_n 1, 1) := by decide +kernel
theorem dX6_init_128 : decode cX6_init 128 = .ok (.iconst 4, 1) := by decide +kernel
theorem dX6_init_129 : decode cX6_init 129 = .ok (.if_icmp .ge 22, 3) := by decide +kernel
theorem dX6_init_132 : decode cX6_init 132 = .ok (.aload_n 0, 1) := by decide +kernel
theorem dX6_init_133 : decode cX6_init 133 = .ok (.getfield 54, 3) := by decide +kernel
theorem dX6_init_136 : decode cX6_init 136 = .ok (.iload_n 1, 1) := by decide +kernel
theorem dX6_init_137 : decode cX6_init 137 = .ok (.new 52, 3) := by decide +kernel
theorem dX6_init_140 : decode cX6_init 140 = .ok (.dup, 1) := by decide +kernel
theorem dX6_init_141 : decode cX6_init 141 = .ok (.invokespecial 59, 3) := by decide +kernel
theorem dX6_init_144 : decode cX6_init 144 = .ok (.aastore, 1) := by decide +kernel
theorem dX6_init_145 : decode cX6_init 145 = .ok (.iinc 1 1, 3) := by decide +kernel
theorem dX6_init_148 : decode cX6_init 148 = .ok (.goto (-21), 3) := by decide +kernel
theorem dX6_init_151 : decode cX6_init 151 = .ok (.aload_n 0, 1) := by decide +kernel
theorem dX6_init_152 : decode cX6_init 152 = .ok (.invokevirtual 60, 3) := by decide +kernel
theorem dX6_init_155 : decode cX6_init 155 = .ok (.return_, 1) := by decide +kernel
theorem dX6_type_0 : decode cX6_type 0 = .ok (.iload_n 1, 1) := by decide +kernel
theorem dX6_type_1 : decode cX6_type 1 = .ok (.iconst 0, 1) := by decide +kernel
theorem dX6_type_2 : decode cX6_type 2 = .ok (.iconst 2, 1) := by decide +kernel
theorem dX6_type_3 : decode cX6_type 3 = .ok (.invokestatic 63, 3) := by decide +kernel
theorem dX6_type_6 : decode cX6_type 6 = .ok (.ifCond .eq 14, 3) := by decide +kernel
theorem dX6_type_9 : decode cX6_type 9 = .ok (.iload_n 2, 1) := by decide +kernel
theorem dX6_type_10 : decode cX6_type 10 = .ok (.iconst 0, 1) := by decide +kernel
theorem dX6_type_11 : decode cX6_type 11 = .ok (.sipush 255, 3) := by decide +kernel
theorem dX6_type_14 : decode cX6_type 14 = .ok (.invokestatic 63, 3) := by decide +kernel
theorem dX6_type_17 : decode cX6_type 17 = .ok (.ifCond .ne 6, 3) := by decide +kernel
theorem dX6_type_20 : decode cX6_type 20 = .ok (.bipush (-2), 2) := by decide +kernel
theorem dX6_type_22 : decode cX6_type 22 = .ok (.ireturn, 1) := by decide +kernel
theorem dX6_type_23 : decode cX6_type 23 = .ok (.aload_n 0, 1) := by decide +kernel
theorem dX6_type_24 : decode cX6_type 24 = .ok (.getfield 11, 3) := by decide +kernel
theorem dX6_type_27 : decode cX6_type 27 = .ok (.iload_n 1, 1) := by decide +kernel
theorem dX6_type_28 : decode cX6_type 28 = .ok (.aaload, 1) := by decide +kernel
theorem dX6_type_29 : decode cX6_type 29 = .ok (.astore_n 3, 1) := by decide +kernel
theorem dX6_type_30 : decode cX6_type 30 = .ok (.aload_n 3, 1) := by decide +kernel
theorem dX6_type_31 : decode cX6_type 31 = .ok (.getfield 67, 3) := by decide +kernel
theorem dX6_type_34 : decode cX6_type 34 = .ok (.bipush 10, 2) := by decide +kernel
theorem dX6_type_36 : decode cX6_type 36 = .ok (.if_icmp .lt 6, 3) := by decide +kernel
theorem dX6_type_39 : decode cX6_type 39 = .ok (.bipush (-4), 2) := by decide +kernel
theorem dX6_type_41 : decode cX6_type 41 = .ok (.ireturn, 1) := by decide +kernel
theorem dX6_type_42 : decode cX6_type 42 = .ok (.aload_n 3, 1) := by decide +kernel
theorem dX6_type_43 : decode cX6_type 43 = .ok (.getfield 71, 3) := by decide +kernel
theorem dX6_type_46 : decode cX6_type 46 = .ok (.aload_n 3, 1) := by decide +kernel
theorem dX6_type_47 : decode cX6_type 47 = .ok (.getfield 67, 3) := by decide +kernel
theorem dX6_type_50 : decode cX6_type 50 = .ok (.iload_n 2, 1) := by decide +kernel
theorem dX6_type_51 : decode cX6_type 51 = .ok (.iastore, 1) := by decide +kernel
theorem dX6_type_52 : decode cX6_type 52 = .ok (.aload_n 3, 1) := by decide +kernel
theorem dX6_type_53 : decode cX6_type 53 = .ok (.dup, 1) := by decide +kernel
theorem dX6_type_54 : decode cX6_type 54 = .ok (.getfield 67, 3) := by decide +kernel
theorem dX6_type_57 : decode cX6_type 57 = .ok (.iconst 1, 1) := by decide +kernel
theorem dX6_type_58 : decode cX6_type 58 = .ok (.iadd, 1) := by decide +kernel
theorem dX6_type_59 : decode cX6_type 59 = .ok (.putfield 67, 3) := by decide +kernel
theorem dX6_type_62 : decode cX6_type 62 = .ok (.aload_n 0, 1) := by decide +kernel
theorem dX6_type_63 : decode cX6_type 63 = .ok (.invokevirtual 60, 3) := by decide +kernel
theorem dX6_type_66 : decode cX6_type 66 = .ok (.aload_n 3, 1) := by decide +kernel
theorem dX6_type_67 : decode cX6_type 67 = .ok (.getfield 67, 3) := by decide +kernel
theorem dX6_type_70 : decode cX6_type 70 = .ok (.ireturn, 1) := by decide +kernel
theorem dX6_wipe_0 : decode cX6_wipe 0 = .ok (.iload_n 1, 1) := by decide +kernel
theorem dX6_wipe_1 : decode cX6_wipe 1 = .ok (.iconst 0, 1) := by decide +kernel
theorem dX6_wipe_2 : decode cX6_wipe 2 = .ok (.iconst 2, 1) := by decide +kernel
theorem dX6_wipe_3 : decode cX6_wipe 3 = .ok (.invokestatic 63, 3) := by decide +kernel
theorem dX6_wipe_6 : decode cX6_wipe 6 = .ok (.ifCond .ne 6, 3) := by decide +kernel
theorem dX6_wipe_9 : decode cX6_wipe 9 = .ok (.bipush (-2), 2) := by decide +kernel
theorem dX6_wipe_11 : decode cX6_wipe 11 = .ok (.ireturn, 1) := by decide +kernel
theorem dX6_wipe_12 : decode cX6_wipe 12 = .ok (.aload_n 0, 1) := by decide +kernel
theorem dX6_wipe_13 : decode cX6_wipe 13 = .ok (.getfield 11, 3) := by decide +kernel
theorem dX6_wipe_16 : decode cX6_wipe 16 = .ok (.iload_n 1, 1) := by decide +kernel
theorem dX6_wipe_17 : decode cX6_wipe 17 = .ok (.aaload, 1) := by decide +kernel
theorem dX6_wipe_18 : decode cX6_wipe 18 = .ok (.getfield 67, 3) := by decide +kernel
theorem dX6_wipe_21 : decode cX6_wipe 21 = .ok (.istore_n 2, 1) := by decide +kernel
theorem dX6_wipe_22 : decode cX6_wipe 22 = .ok (.aload_n 0, 1) := by decide +kernel
theorem dX6_wipe_23 : decode cX6_wipe 23 = .ok (.getfield 11, 3) := by decide +kernel
theorem dX6_wipe_26 : decode cX6_wipe 26 = .ok (.iload_n 1, 1) := by decide +kernel
theorem dX6_wipe_27 : decode cX6_wipe 27 = .ok (.aaload, 1) := by decide +kernel
theorem dX6_wipe_28 : decode cX6_wipe 28 = .ok (.iconst 0, 1) := by decide +kernel
theorem dX6_wipe_29 : decode cX6_wipe 29 = .ok (.putfield 67, 3) := by decide +kernel
theorem dX6_wipe_32 : decode cX6_wipe 32 = .ok (.aload_n 0, 1) := by decide +kernel
theorem dX6_wipe_33 : decode cX6_wipe 33 = .ok (.invokevirtual 60, 3) := by decide +kernel
theorem dX6_wipe_36 : decode cX6_wipe 36 = .ok (.iload_n 2, 1) := by decide +kernel
theorem dX6_wipe_37 : decode cX6_wipe 37 = .ok (.ireturn, 1) := by decide +kernel
theorem dX6_undo_0 : decode cX6_undo 0 = .ok (.iload_n 1, 1) := by decide +kernel
theorem dX6_undo_1 : decode cX6_undo 1 = .ok (.iconst 0, 1) := by decide +kernel
theorem dX6_undo_2 : decode cX6_undo 2 = .ok (.iconst 2, 1) := by decide +kernel
theorem dX6_undo_3 : decode cX6_undo 3 = .ok (.invokestatic 63, 3) := by decide +kernel
theorem dX6_undo_6 : decode cX6_undo 6 = .ok (.ifCond .ne 6, 3) := by decide +kernel
theorem dX6_undo_9 : decode cX6_undo 9 = .ok (.bipush (-2), 2) := by decide +kernel
theorem dX6_undo_11 : decode cX6_undo 11 = .ok (.ireturn, 1) := by decide +kernel
theorem dX6_undo_12 : decode cX6_undo 12 = .ok (.aload_n 0, 1) := by decide +kernel
theorem dX6_undo_13 : decode cX6_undo 13 = .ok (.getfield 11, 3) := by decide +kernel
theorem dX6_undo_16 : decode cX6_undo 16 = .ok (.iload_n 1, 1) := by decide +kernel
theorem dX6_undo_17 : decode cX6_undo 17 = .ok (.aaload, 1) := by decide +kernel
theorem dX6_undo_18 : decode cX6_undo 18 = .ok (.astore_n 2, 1) := by decide +kernel
theorem dX6_undo_19 : decode cX6_undo 19 = .ok (.aload_n 2, 1) := by decide +kernel
theorem dX6_undo_20 : decode cX6_undo 20 = .ok (.getfield 67, 3) := by decide +kernel
theorem dX6_undo_23 : decode cX6_undo 23 = .ok (.iconst 1, 1) := by decide +kernel
theorem dX6_undo_24 : decode cX6_undo 24 = .ok (.if_icmp .ge 6, 3) := by decide +kernel
theorem dX6_undo_27 : decode cX6_undo 27 = .ok (.bipush (-3), 2) := by decide +kernel
theorem dX6_undo_29 : decode cX6_undo 29 = .ok (.ireturn, 1) := by decide +kernel
theorem dX6_undo_30 : decode cX6_undo 30 = .ok (.aload_n 2, 1) := by decide +kernel
theorem dX6_undo_31 : decode cX6_undo 31 = .ok (.dup, 1) := by decide +kernel
theorem dX6_undo_32 : decode cX6_undo 32 = .ok (.getfield 67, 3) := by decide +kernel
theorem dX6_undo_35 : decode cX6_undo 35 = .ok (.iconst 1, 1) := by decide +kernel
theorem dX6_undo_36 : decode cX6_undo 36 = .ok (.isub, 1) := by decide +kernel
theorem dX6_undo_37 : decode cX6_undo 37 = .ok (.putfield 67, 3) := by decide +kernel
theorem dX6_undo_40 : decode cX6_undo 40 = .ok (.aload_n 0, 1) := by decide +kernel
theorem dX6_undo_41 : decode cX6_undo 41 = .ok (.invokevirtual 60, 3) := by decide +kernel
theorem dX6_undo_44 : decode cX6_undo 44 = .ok (.aload_n 2, 1) := by decide +kernel
theorem dX6_undo_45 : decode cX6_undo 45 = .ok (.getfield 67, 3) := by decide +kernel
theorem dX6_undo_48 : decode cX6_undo 48 = .ok (.ireturn, 1) := by decide +kernel
theorem dX6_fault_0 : decode cX6_fault 0 = .ok (.iload_n 1, 1) := by decide +kernel
theorem dX6_fault_1 : decode cX6_fault 1 = .ok (.iconst 0, 1) := by decide +kernel
theorem dX6_fault_2 : decode cX6_fault 2 = .ok (.iconst 2, 1) := by decide +kernel
theorem dX6_fault_3 : decode cX6_fault 3 = .ok (.invokestatic 63, 3) := by decide +kernel
theorem dX6_fault_6 : decode cX6_fault 6 = .ok (.ifCond .eq 15, 3) := by decide +kernel
theorem dX6_fault_9 : decode cX6_fault 9 = .ok (.aload_n 0, 1) := by decide +kernel
theorem dX6_fault_10 : decode cX6_fault 10 = .ok (.getfield 11, 3) := by decide +kernel
theorem dX6_fault_13 : decode cX6_fault 13 = .ok (.iload_n 1, 1) := by decide +kernel
theorem dX6_fault_14 : decode cX6_fault 14 = .ok (.aaload, 1) := by decide +kernel
theorem dX6_fault_15 : decode cX6_fault 15 = .ok (.getfield 74, 3) := by decide +kernel
theorem dX6_fault_18 : decode cX6_fault 18 = .ok (.goto 5, 3) := by decide +kernel
theorem dX6_fault_21 : decode cX6_fault 21 = .ok (.bipush (-2), 2) := by decide +kernel
theorem dX6_fault_23 : decode cX6_fault 23 = .ok (.ireturn, 1) := by decide +kernel
theorem dX6_guest_0 : decode cX6_guest 0 = .ok (.iload_n 1, 1) := by decide +kernel
theorem dX6_guest_1 : decode cX6_guest 1 = .ok (.invokestatic 77, 3) := by decide +kernel
theorem dX6_guest_4 : decode cX6_guest 4 = .ok (.ifCond .eq 25, 3) := by decide +kernel
theorem dX6_guest_7 : decode cX6_guest 7 = .ok (.iload_n 2, 1) := by decide +kernel
theorem dX6_guest_8 : decode cX6_guest 8 = .ok (.iconst 0, 1) := by decide +kernel
theorem dX6_guest_9 : decode cX6_guest 9 = .ok (.iconst 2, 1) := by decide +kernel
theorem dX6_guest_10 : decode cX6_guest 10 = .ok (.invokestatic 63, 3) := by decide +kernel
theorem dX6_guest_13 : decode cX6_guest 13 = .ok (.ifCond .eq 16, 3) := by decide +kernel
theorem dX6_guest_16 : decode cX6_guest 16 = .ok (.iload_n 3, 1) := by decide +kernel
theorem dX6_guest_17 : decode cX6_guest 17 = .ok (.iconst 0, 1) := by decide +kernel
theorem dX6_guest_18 : decode cX6_guest 18 = .ok (.getstatic 81, 3) := by decide +kernel
theorem dX6_guest_21 : decode cX6_guest 21 = .ok (.iload_n 2, 1) := by decide +kernel
theorem dX6_guest_22 : decode cX6_guest 22 = .ok (.iaload, 1) := by decide +kernel
theorem dX6_guest_23 : decode cX6_guest 23 = .ok (.invokestatic 63, 3) := by decide +kernel
theorem dX6_guest_26 : decode cX6_guest 26 = .ok (.ifCond .ne 6, 3) := by decide +kernel
theorem dX6_guest_29 : decode cX6_guest 29 = .ok (.bipush (-2), 2) := by decide +kernel
theorem dX6_guest_31 : decode cX6_guest 31 = .ok (.ireturn, 1) := by decide +kernel
theorem dX6_guest_32 : decode cX6_guest 32 = .ok (.aload_n 0, 1) := by decide +kernel
theorem dX6_guest_33 : decode cX6_guest 33 = .ok (.getfield 17, 3) := by decide +kernel
theorem dX6_guest_36 : decode cX6_guest 36 = .ok (.iload_n 2, 1) := by decide +kernel
theorem dX6_guest_37 : decode cX6_guest 37 = .ok (.aaload, 1) := by decide +kernel
theorem dX6_guest_38 : decode cX6_guest 38 = .ok (.iload_n 1, 1) := by decide +kernel
theorem dX6_guest_39 : decode cX6_guest 39 = .ok (.iaload, 1) := by decide +kernel
theorem dX6_guest_40 : decode cX6_guest 40 = .ok (.istore 4, 2) := by decide +kernel
theorem dX6_guest_42 : decode cX6_guest 42 = .ok (.aload_n 0, 1) := by decide +kernel
theorem dX6_guest_43 : decode cX6_guest 43 = .ok (.getfield 17, 3) := by decide +kernel
theorem dX6_guest_46 : decode cX6_guest 46 = .ok (.iload_n 2, 1) := by decide +kernel
theorem dX6_guest_47 : decode cX6_guest 47 = .ok (.aaload, 1) := by decide +kernel
theorem dX6_guest_48 : decode cX6_guest 48 = .ok (.iload_n 1, 1) := by decide +kernel
theorem dX6_guest_49 : decode cX6_guest 49 = .ok (.iload_n 3, 1) := by decide +kernel
theorem dX6_guest_50 : decode cX6_guest 50 = .ok (.iastore, 1) := by decide +kernel
theorem dX6_guest_51 : decode cX6_guest 51 = .ok (.aload_n 0, 1) := by decide +kernel
theorem dX6_guest_52 : decode cX6_guest 52 = .ok (.invokevirtual 60, 3) := by decide +kernel
theorem dX6_guest_55 : decode cX6_guest 55 = .ok (.iload 4, 2) := by decide +kernel
theorem dX6_guest_57 : decode cX6_guest 57 = .ok (.ireturn, 1) := by decide +kernel
theorem dX6_set_0 : decode cX6_set 0 = .ok (.iload_n 1, 1) := by decide +kernel
theorem dX6_set_1 : decode cX6_set 1 = .ok (.iconst 0, 1) := by decide +kernel
theorem dX6_set_2 : decode cX6_set 2 = .ok (.iconst 3, 1) := by decide +kernel
theorem dX6_set_3 : decode cX6_set 3 = .ok (.invokestatic 63, 3) := by decide +kernel
theorem dX6_set_6 : decode cX6_set 6 = .ok (.ifCond .eq 20, 3) := by decide +kernel
theorem dX6_set_9 : decode cX6_set 9 = .ok (.iload_n 2, 1) := by decide +kernel
theorem dX6_set_10 : decode cX6_set 10 = .ok (.getstatic 84, 3) := by decide +kernel
theorem dX6_set_13 : decode cX6_set 13 = .ok (.iload_n 1, 1) := by decide +kernel
theorem dX6_set_14 : decode cX6_set 14 = .ok (.iaload, 1) := by decide +kernel
theorem dX6_set_15 : decode cX6_set 15 = .ok (.getstatic 87, 3) := by decide +kernel
theorem dX6_set_18 : decode cX6_set 18 = .ok (.iload_n 1, 1) := by decide +kernel
theorem dX6_set_19 : decode cX6_set 19 = .ok (.iaload, 1) := by decide +kernel
theorem dX6_set_20 : decode cX6_set 20 = .ok (.invokestatic 63, 3) := by decide +kernel
theorem dX6_set_23 : decode cX6_set 23 = .ok (.ifCond .ne 6, 3) := by decide +kernel
theorem dX6_set_26 : decode cX6_set 26 = .ok (.bipush (-2), 2) := by decide +kernel
theorem dX6_set_28 : decode cX6_set 28 = .ok (.ireturn, 1) := by decide +kernel
theorem dX6_set_29 : decode cX6_set 29 = .ok (.aload_n 0, 1) := by decide +kernel
theorem dX6_set_30 : decode cX6_set 30 = .ok (.getfield 20, 3) := by decide +kernel
theorem dX6_set_33 : decode cX6_set 33 = .ok (.iload_n 1, 1) := by decide +kernel
theorem dX6_set_34 : decode cX6_set 34 = .ok (.iaload, 1) := by decide +kernel
theorem dX6_set_35 : decode cX6_set 35 = .ok (.istore_n 3, 1) := by decide +kernel
theorem dX6_set_36 : decode cX6_set 36 = .ok (.aload_n 0, 1) := by decide +kernel
theorem dX6_set_37 : decode cX6_set 37 = .ok (.getfield 20, 3) := by decide +kernel
theorem dX6_set_40 : decode cX6_set 40 = .ok (.iload_n 1, 1) := by decide +kernel
theorem dX6_set_41 : decode cX6_set 41 = .ok (.iload_n 2, 1) := by decide +kernel
theorem dX6_set_42 : decode cX6_set 42 = .ok (.iastore, 1) := by decide +kernel
theorem dX6_set_43 : decode cX6_set 43 = .ok (.aload_n 0, 1) := by decide +kernel
theorem dX6_set_44 : decode cX6_set 44 = .ok (.invokevirtual 60, 3) := by decide +kernel
theorem dX6_set_47 : decode cX6_set 47 = .ok (.iload_n 3, 1) := by decide +kernel
theorem dX6_set_48 : decode cX6_set 48 = .ok (.ireturn, 1) := by decide +kernel
theorem dX6_read_0 : decode cX6_read 0 = .ok (.iload_n 1, 1) := by decide +kernel
theorem dX6_read_1 : decode cX6_read 1 = .ok (.invokestatic 90, 3) := by decide +kernel
theorem dX6_read_4 : decode cX6_read 4 = .ok (.ifCond .ne 6, 3) := by decide +kernel
theorem dX6_read_7 : decode cX6_read 7 = .ok (.bipush (-2), 2) := by decide +kernel
theorem dX6_read_9 : decode cX6_read 9 = .ok (.ireturn, 1) := by decide +kernel
theorem dX6_read_10 : decode cX6_read 10 = .ok (.aload_n 0, 1) := by decide +kernel
theorem dX6_read_11 : decode cX6_read 11 = .ok (.getfield 54, 3) := by decide +kernel
theorem dX6_read_14 : decode cX6_read 14 = .ok (.iload_n 1, 1) := by decide +kernel
theorem dX6_read_15 : decode cX6_read 15 = .ok (.aaload, 1) := by decide +kernel
theorem dX6_read_16 : decode cX6_read 16 = .ok (.astore_n 2, 1) := by decide +kernel
theorem dX6_read_17 : decode cX6_read 17 = .ok (.aload_n 2, 1) := by decide +kernel
theorem dX6_read_18 : decode cX6_read 18 = .ok (.getfield 93, 3) := by decide +kernel
theorem dX6_read_21 : decode cX6_read 21 = .ok (.ifCond .eq 9, 3) := by decide +kernel
theorem dX6_read_24 : decode cX6_read 24 = .ok (.aload_n 0, 1) := by decide +kernel
theorem dX6_read_25 : decode cX6_read 25 = .ok (.iconst 1, 1) := by decide +kernel
theorem dX6_read_26 : decode cX6_read 26 = .ok (.invokevirtual 97, 3) := by decide +kernel
theorem dX6_read_29 : decode cX6_read 29 = .ok (.ireturn, 1) := by decide +kernel
theorem dX6_read_30 : decode cX6_read 30 = .ok (.iconst 0, 1) := by decide +kernel
theorem dX6_read_31 : decode cX6_read 31 = .ok (.istore_n 3, 1) := by decide +kernel
theorem dX6_read_32 : decode cX6_read 32 = .ok (.iload_n 3, 1) := by decide +kernel
theorem dX6_read_33 : decode cX6_read 33 = .ok (.bipush 10, 2) := by decide +kernel
theorem dX6_read_35 : decode cX6_read 35 = .ok (.if_icmp .ge 49, 3) := by decide +kernel
theorem dX6_read_38 : decode cX6_read 38 = .ok (.iload_n 3, 1) := by decide +kernel
theorem dX6_read_39 : decode cX6_read 39 = .ok (.aload_n 2, 1) := by decide +kernel
theorem dX6_read_40 : decode cX6_read 40 = .ok (.getfield 101, 3) := by decide +kernel
theorem dX6_read_43 : decode cX6_read 43 = .ok (.if_icmp .ge 41, 3) := by decide +kernel
theorem dX6_read_46 : decode cX6_read 46 = .ok (.aload_n 2, 1) := by decide +kernel
theorem dX6_read_47 : decode cX6_read 47 = .ok (.getfield 102, 3) := by decide +kernel
theorem dX6_read_50 : decode cX6_read 50 = .ok (.iload_n 3, 1) := by decide +kernel
theorem dX6_read_51 : decode cX6_read 51 = .ok (.iaload, 1) := by decide +kernel
theorem dX6_read_52 : decode cX6_read 52 = .ok (.iconst 0, 1) := by decide +kernel
theorem dX6_read_53 : decode cX6_read 53 = .ok (.getstatic 81, 3) := by decide +kernel
theorem dX6_read_56 : decode cX6_read 56 = .ok (.iconst 0, 1) := by decide +kernel
theorem dX6_read_57 : decode cX6_read 57 = .ok (.iaload, 1) := by decide +kernel
theorem dX6_read_58 : decode cX6_read 58 = .ok (.invokestatic 63, 3) := by decide +kernel
theorem dX6_read_61 : decode cX6_read 61 = .ok (.ifCond .eq 23, 3) := by decide +kernel
theorem dX6_read_64 : decode cX6_read 64 = .ok (.aload_n 0, 1) := by decide +kernel
theorem dX6_read_65 : decode cX6_read 65 = .ok (.getfield 17, 3) := by decide +kernel
theorem dX6_read_68 : decode cX6_read 68 = .ok (.iconst 0, 1) := by decide +kernel
theorem dX6_read_69 : decode cX6_read 69 = .ok (.aaload, 1) := by decide +kernel
theorem dX6_read_70 : decode cX6_read 70 = .ok (.iload_n 3, 1) := by decide +kernel
theorem dX6_read_71 : decode cX6_read 71 = .ok (.aload_n 2, 1) := by decide +kernel
theorem dX6_read_72 : decode cX6_read 72 = .ok (.getfield 102, 3) := by decide +kernel
theorem dX6_read_75 : decode cX6_read 75 = .ok (.iload_n 3, 1) := by decide +kernel
theorem dX6_read_76 : decode cX6_read 76 = .ok (.iaload, 1) := by decide +kernel
theorem dX6_read_77 : decode cX6_read 77 = .ok (.iastore, 1) := by decide +kernel
theorem dX6_read_78 : decode cX6_read 78 = .ok (.iinc 3 1, 3) := by decide +kernel
theorem dX6_read_81 : decode cX6_read 81 = .ok (.goto (-49), 3) := by decide +kernel
theorem dX6_read_84 : decode cX6_read 84 = .ok (.aload_n 0, 1) := by decide +kernel
theorem dX6_read_85 : decode cX6_read 85 = .ok (.invokevirtual 60, 3) := by decide +kernel
theorem dX6_read_88 : decode cX6_read 88 = .ok (.iload_n 3, 1) := by decide +kernel
theorem dX6_read_89 : decode cX6_read 89 = .ok (.ireturn, 1) := by decide +kernel
theorem dX6_judged_0 : decode cX6_judged 0 = .ok (.aload_n 0, 1) := by decide +kernel
theorem dX6_judged_1 : decode cX6_judged 1 = .ok (.getfield 27, 3) := by decide +kernel
theorem dX6_judged_4 : decode cX6_judged 4 = .ok (.getfield 105, 3) := by decide +kernel
theorem dX6_judged_7 : decode cX6_judged 7 = .ok (.ireturn, 1) := by decide +kernel
theorem dX6_lies_0 : decode cX6_lies 0 = .ok (.iload_n 1, 1) := by decide +kernel
theorem dX6_lies_1 : decode cX6_lies 1 = .ok (.iconst 0, 1) := by decide +kernel
theorem dX6_lies_2 : decode cX6_lies 2 = .ok (.aload_n 0, 1) := by decide +kernel
theorem dX6_lies_3 : decode cX6_lies 3 = .ok (.getfield 11, 3) := by decide +kernel
theorem dX6_lies_6 : decode cX6_lies 6 = .ok (.iconst 1, 1) := by decide +kernel
theorem dX6_lies_7 : decode cX6_lies 7 = .ok (.aaload, 1) := by decide +kernel
theorem dX6_lies_8 : decode cX6_lies 8 = .ok (.getfield 108, 3) := by decide +kernel
theorem dX6_lies_11 : decode cX6_lies 11 = .ok (.invokestatic 63, 3) := by decide +kernel
theorem dX6_lies_14 : decode cX6_lies 14 = .ok (.ifCond .eq 23, 3) := by decide +kernel
theorem dX6_lies_17 : decode cX6_lies 17 = .ok (.iload_n 2, 1) := by decide +kernel
theorem dX6_lies_18 : decode cX6_lies 18 = .ok (.iconst 0, 1) := by decide +kernel
theorem dX6_lies_19 : decode cX6_lies 19 = .ok (.bipush 9, 2) := by decide +kernel
theorem dX6_lies_21 : decode cX6_lies 21 = .ok (.invokestatic 63, 3) := by decide +kernel
theorem dX6_lies_24 : decode cX6_lies 24 = .ok (.ifCond .eq 13, 3) := by decide +kernel
theorem dX6_lies_27 : decode cX6_lies 27 = .ok (.iload_n 3, 1) := by decide +kernel
theorem dX6_lies_28 : decode cX6_lies 28 = .ok (.iconst 0, 1) := by decide +kernel
theorem dX6_lies_29 : decode cX6_lies 29 = .ok (.bipush 9, 2) := by decide +kernel
theorem dX6_lies_31 : decode cX6_lies 31 = .ok (.invokestatic 63, 3) := by decide +kernel
theorem dX6_lies_34 : decode cX6_lies 34 = .ok (.ifCond .ne 6, 3) := by decide +kernel
theorem dX6_lies_37 : decode cX6_lies 37 = .ok (.bipush (-2), 2) := by decide +kernel
theorem dX6_lies_39 : decode cX6_lies 39 = .ok (.ireturn, 1) := by decide +kernel
theorem dX6_lies_40 : decode cX6_lies 40 = .ok (.aload_n 0, 1) := by decide +kernel
theorem dX6_lies_41 : decode cX6_lies 41 = .ok (.getfield 27, 3) := by decide +kernel
theorem dX6_lies_44 : decode cX6_lies 44 = .ok (.getfield 111, 3) := by decide +kernel
theorem dX6_lies_47 : decode cX6_lies 47 = .ok (.iload_n 2, 1) := by decide +kernel
theorem dX6_lies_48 : decode cX6_lies 48 = .ok (.iaload, 1) := by decide +kernel
theorem dX6_lies_49 : decode cX6_lies 49 = .ok (.istore 4, 2) := by decide +kernel
theorem dX6_lies_51 : decode cX6_lies 51 = .ok (.iconst 0, 1) := by decide +kernel
theorem dX6_lies_52 : decode cX6_lies 52 = .ok (.istore 5, 2) := by decide +kernel
theorem dX6_lies_54 : decode cX6_lies 54 = .ok (.iload 5, 2) := by decide +kernel
theorem dX6_lies_56 : decode cX6_lies 56 = .ok (.iload_n 1, 1) := by decide +kernel
theorem dX6_lies_57 : decode cX6_lies 57 = .ok (.if_icmp .ge 30, 3) := by decide +kernel
theorem dX6_lies_60 : decode cX6_lies 60 = .ok (.iload 4, 2) := by decide +kernel
theorem dX6_lies_62 : decode cX6_lies 62 = .ok (.aload_n 0, 1) := by decide +kernel
theorem dX6_lies_63 : decode cX6_lies 63 = .ok (.getfield 11, 3) := by decide +kernel
theorem dX6_lies_66 : decode cX6_lies 66 = .ok (.iconst 1, 1) := by decide +kernel
theorem dX6_lies_67 : decode cX6_lies 67 = .ok (.aaload, 1) := by decide +kernel
theorem dX6_lies_68 : decode cX6_lies 68 = .ok (.iload 5, 2) := by decide +kernel
theorem dX6_lies_70 : decode cX6_lies 70 = .ok (.invokevirtual 114, 3) := by decide +kernel
theorem dX6_lies_73 : decode cX6_lies 73 = .ok (.invokestatic 117, 3) := by decide +kernel
theorem dX6_lies_76 : decode cX6_lies 76 = .ok (.iconst (-1), 1) := by decide +kernel
theorem dX6_lies_77 : decode cX6_lies 77 = .ok (.ixor, 1) := by decide +kernel
theorem dX6_lies_78 : decode cX6_lies 78 = .ok (.iand, 1) := by decide +kernel
theorem dX6_lies_79 : decode cX6_lies 79 = .ok (.istore 4, 2) := by decide +kernel
theorem dX6_lies_81 : decode cX6_lies 81 = .ok (.iinc 5 1, 3) := by decide +kernel
theorem dX6_lies_84 : decode cX6_lies 84 = .ok (.goto (-30), 3) := by decide +kernel
theorem dX6_lies_87 : decode cX6_lies 87 = .ok (.aload_n 0, 1) := by decide +kernel
theorem dX6_lies_88 : decode cX6_lies 88 = .ok (.getfield 11, 3) := by decide +kernel
theorem dX6_lies_91 : decode cX6_lies 91 = .ok (.iconst 0, 1) := by decide +kernel
theorem dX6_lies_92 : decode cX6_lies 92 = .ok (.aaload, 1) := by decide +kernel
theorem dX6_lies_93 : decode cX6_lies 93 = .ok (.iload 4, 2) := by decide +kernel
theorem dX6_lies_95 : decode cX6_lies 95 = .ok (.iload_n 3, 1) := by decide +kernel
theorem dX6_lies_96 : decode cX6_lies 96 = .ok (.invokevirtual 120, 3) := by decide +kernel
theorem dX6_lies_99 : decode cX6_lies 99 = .ok (.ireturn, 1) := by decide +kernel
theorem dX6_lifted_0 : decode cX6_lifted 0 = .ok (.iload_n 1, 1) := by decide +kernel
theorem dX6_lifted_1 : decode cX6_lifted 1 = .ok (.iconst (-1), 1) := by decide +kernel
theorem dX6_lifted_2 : decode cX6_lifted 2 = .ok (.if_icmp .ne 11, 3) := by decide +kernel
theorem dX6_lifted_5 : decode cX6_lifted 5 = .ok (.aload_n 0, 1) := by decide +kernel
theorem dX6_lifted_6 : decode cX6_lifted 6 = .ok (.getfield 27, 3) := by decide +kernel
theorem dX6_lifted_9 : decode cX6_lifted 9 = .ok (.getfield 124, 3) := by decide +kernel
theorem dX6_lifted_12 : decode cX6_lifted 12 = .ok (.ireturn, 1) := by decide +kernel
theorem dX6_lifted_13 : decode cX6_lifted 13 = .ok (.iload_n 1, 1) := by decide +kernel
theorem dX6_lifted_14 : decode cX6_lifted 14 = .ok (.invokestatic 77, 3) := by decide +kernel
theorem dX6_lifted_17 : decode cX6_lifted 17 = .ok (.ifCond .eq 15, 3) := by decide +kernel
theorem dX6_lifted_20 : decode cX6_lifted 20 = .ok (.aload_n 0, 1) := by decide +kernel
theorem dX6_lifted_21 : decode cX6_lifted 21 = .ok (.getfield 27, 3) := by decide +kernel
theorem dX6_lifted_24 : decode cX6_lifted 24 = .ok (.getfield 127, 3) := by decide +kernel
theorem dX6_lifted_27 : decode cX6_lifted 27 = .ok (.iload_n 1, 1) := by decide +kernel
theorem dX6_lifted_28 : decode cX6_lifted 28 = .ok (.iaload, 1) := by decide +kernel
theorem dX6_lifted_29 : decode cX6_lifted 29 = .ok (.goto 5, 3) := by decide +kernel
theorem dX6_lifted_32 : decode cX6_lifted 32 = .ok (.bipush (-2), 2) := by decide +kernel
theorem dX6_lifted_34 : decode cX6_lifted 34 = .ok (.ireturn, 1) := by decide +kernel
theorem dX6_rows_0 : decode cX6_rows 0 = .ok (.iload_n 1, 1) := by decide +kernel
theorem dX6_rows_1 : decode cX6_rows 1 = .ok (.iconst (-1), 1) := by decide +kernel
theorem dX6_rows_2 : decode cX6_rows 2 = .ok (.if_icmp .eq 13, 3) := by decide +kernel
theorem dX6_rows_5 : decode cX6_rows 5 = .ok (.iload_n 1, 1) := by decide +kernel
theorem dX6_rows_6 : decode cX6_rows 6 = .ok (.invokestatic 77, 3) := by decide +kernel
theorem dX6_rows_9 : decode cX6_rows 9 = .ok (.ifCond .ne 6, 3) := by decide +kernel
theorem dX6_rows_12 : decode cX6_rows 12 = .ok (.bipush (-2), 2) := by decide +kernel
theorem dX6_rows_14 : decode cX6_rows 14 = .ok (.ireturn, 1) := by decide +kernel
theorem dX6_rows_15 : decode cX6_rows 15 = .ok (.aload_n 0, 1) := by decide +kernel
theorem dX6_rows_16 : decode cX6_rows 16 = .ok (.getfield 41, 3) := by decide +kernel
theorem dX6_rows_19 : decode cX6_rows 19 = .ok (.iconst 3, 1) := by decide +kernel
theorem dX6_rows_20 : decode cX6_rows 20 = .ok (.bipush 10, 2) := by decide +kernel
theorem dX6_rows_22 : decode cX6_rows 22 = .ok (.aload_n 0, 1) := by decide +kernel
theorem dX6_rows_23 : decode cX6_rows 23 = .ok (.getfield 41, 3) := by decide +kernel
theorem dX6_rows_26 : decode cX6_rows 26 = .ok (.getfield 130, 3) := by decide +kernel
theorem dX6_rows_29 : decode cX6_rows 29 = .ok (.invokevirtual 133, 3) := by decide +kernel
theorem dX6_rows_32 : decode cX6_rows 32 = .ok (.pop, 1) := by decide +kernel
theorem dX6_rows_33 : decode cX6_rows 33 = .ok (.iload_n 1, 1) := by decide +kernel
theorem dX6_rows_34 : decode cX6_rows 34 = .ok (.iconst (-1), 1) := by decide +kernel
theorem dX6_rows_35 : decode cX6_rows 35 = .ok (.if_icmp .ne 11, 3) := by decide +kernel
theorem dX6_rows_38 : decode cX6_rows 38 = .ok (.aload_n 0, 1) := by decide +kernel
theorem dX6_rows_39 : decode cX6_rows 39 = .ok (.getfield 41, 3) := by decide +kernel
theorem dX6_rows_42 : decode cX6_rows 42 = .ok (.invokevirtual 137, 3) := by decide +kernel
theorem dX6_rows_45 : decode cX6_rows 45 = .ok (.ireturn, 1) := by decide +kernel
theorem dX6_rows_46 : decode cX6_rows 46 = .ok (.aload_n 0, 1) := by decide +kernel
theorem dX6_rows_47 : decode cX6_rows 47 = .ok (.getfield 11, 3) := by decide +kernel
theorem dX6_rows_50 : decode cX6_rows 50 = .ok (.iconst 0, 1) := by decide +kernel
theorem dX6_rows_51 : decode cX6_rows 51 = .ok (.aaload, 1) := by decide +kernel
theorem dX6_rows_52 : decode cX6_rows 52 = .ok (.iload_n 1, 1) := by decide +kernel
theorem dX6_rows_53 : decode cX6_rows 53 = .ok (.invokevirtual 141, 3) := by decide +kernel
theorem dX6_rows_56 : decode cX6_rows 56 = .ok (.istore_n 2, 1) := by decide +kernel
theorem dX6_rows_57 : decode cX6_rows 57 = .ok (.iload_n 2, 1) := by decide +kernel
theorem dX6_rows_58 : decode cX6_rows 58 = .ok (.iconst (-1), 1) := by decide +kernel
theorem dX6_rows_59 : decode cX6_rows 59 = .ok (.if_icmp .ne 8, 3) := by decide +kernel
theorem dX6_rows_62 : decode cX6_rows 62 = .ok (.bipush (-3), 2) := by decide +kernel
theorem dX6_rows_64 : decode cX6_rows 64 = .ok (.goto 12, 3) := by decide +kernel
theorem dX6_rows_67 : decode cX6_rows 67 = .ok (.aload_n 0, 1) := by decide +kernel
theorem dX6_rows_68 : decode cX6_rows 68 = .ok (.getfield 41, 3) := by decide +kernel
theorem dX6_rows_71 : decode cX6_rows 71 = .ok (.getfield 144, 3) := by decide +kernel
theorem dX6_rows_74 : decode cX6_rows 74 = .ok (.iload_n 2, 1) := by decide +kernel
theorem dX6_rows_75 : decode cX6_rows 75 = .ok (.iaload, 1) := by decide +kernel
theorem dX6_rows_76 : decode cX6_rows 76 = .ok (.ireturn, 1) := by decide +kernel
theorem dX6_proof_0 : decode cX6_proof 0 = .ok (.iload_n 1, 1) := by decide +kernel
theorem dX6_proof_1 : decode cX6_proof 1 = .ok (.iconst (-1), 1) := by decide +kernel
theorem dX6_proof_2 : decode cX6_proof 2 = .ok (.bipush 9, 2) := by decide +kernel
theorem dX6_proof_4 : decode cX6_proof 4 = .ok (.invokestatic 63, 3) := by decide +kernel
theorem dX6_proof_7 : decode cX6_proof 7 = .ok (.ifCond .ne 6, 3) := by decide +kernel
theorem dX6_proof_10 : decode cX6_proof 10 = .ok (.bipush (-2), 2) := by decide +kernel
theorem dX6_proof_12 : decode cX6_proof 12 = .ok (.ireturn, 1) := by decide +kernel
theorem dX6_proof_13 : decode cX6_proof 13 = .ok (.aload_n 0, 1) := by decide +kernel
theorem dX6_proof_14 : decode cX6_proof 14 = .ok (.getfield 41, 3) := by decide +kernel
theorem dX6_proof_17 : decode cX6_proof 17 = .ok (.aload_n 0, 1) := by decide +kernel
theorem dX6_proof_18 : decode cX6_proof 18 = .ok (.getfield 11, 3) := by decide +kernel
theorem dX6_proof_21 : decode cX6_proof 21 = .ok (.iconst 0, 1) := by decide +kernel
theorem dX6_proof_22 : decode cX6_proof 22 = .ok (.aaload, 1) := by decide +kernel
theorem dX6_proof_23 : decode cX6_proof 23 = .ok (.invokevirtual 147, 3) := by decide +kernel
theorem dX6_proof_26 : decode cX6_proof 26 = .ok (.istore_n 2, 1) := by decide +kernel
theorem dX6_proof_27 : decode cX6_proof 27 = .ok (.iload_n 1, 1) := by decide +kernel
theorem dX6_proof_28 : decode cX6_proof 28 = .ok (.iconst (-1), 1) := by decide +kernel
theorem dX6_proof_29 : decode cX6_proof 29 = .ok (.if_icmp .ne 5, 3) := by decide +kernel
theorem dX6_proof_32 : decode cX6_proof 32 = .ok (.iload_n 2, 1) := by decide +kernel
theorem dX6_proof_33 : decode cX6_proof 33 = .ok (.ireturn, 1) := by decide +kernel
theorem dX6_proof_34 : decode cX6_proof 34 = .ok (.iload_n 1, 1) := by decide +kernel
theorem dX6_proof_35 : decode cX6_proof 35 = .ok (.iload_n 2, 1) := by decide +kernel
theorem dX6_proof_36 : decode cX6_proof 36 = .ok (.if_icmp .ge 15, 3) := by decide +kernel
theorem dX6_proof_39 : decode cX6_proof 39 = .ok (.aload_n 0, 1) := by decide +kernel
theorem dX6_proof_40 : decode cX6_proof 40 = .ok (.getfield 41, 3) := by decide +kernel
theorem dX6_proof_43 : decode cX6_proof 43 = .ok (.getfield 151, 3) := by decide +kernel
theorem dX6_proof_46 : decode cX6_proof 46 = .ok (.iload_n 1, 1) := by decide +kernel
theorem dX6_proof_47 : decode cX6_proof 47 = .ok (.iaload, 1) := by decide +kernel
theorem dX6_proof_48 : decode cX6_proof 48 = .ok (.goto 4, 3) := by decide +kernel
theorem dX6_proof_51 : decode cX6_proof 51 = .ok (.iconst (-1), 1) := by decide +kernel
theorem dX6_proof_52 : decode cX6_proof 52 = .ok (.ireturn, 1) := by decide +kernel
theorem dX6_least_0 : decode cX6_least 0 = .ok (.iload_n 1, 1) := by decide +kernel
theorem dX6_least_1 : decode cX6_least 1 = .ok (.iconst 1, 1) := by decide +kernel
theorem dX6_least_2 : decode cX6_least 2 = .ok (.iconst 3, 1) := by decide +kernel
theorem dX6_least_3 : decode cX6_least 3 = .ok (.invokestatic 63, 3) := by decide +kernel
theorem dX6_least_6 : decode cX6_least 6 = .ok (.ifCond .eq 13, 3) := by decide +kernel
theorem dX6_least_9 : decode cX6_least 9 = .ok (.iload_n 2, 1) := by decide +kernel
theorem dX6_least_10 : decode cX6_least 10 = .ok (.iconst (-1), 1) := by decide +kernel
theorem dX6_least_11 : decode cX6_least 11 = .ok (.bipush 6, 2) := by decide +kernel
theorem dX6_least_13 : decode cX6_least 13 = .ok (.invokestatic 63, 3) := by decide +kernel
theorem dX6_least_16 : decode cX6_least 16 = .ok (.ifCond .ne 6, 3) := by decide +kernel
theorem dX6_least_19 : decode cX6_least 19 = .ok (.bipush (-2), 2) := by decide +kernel
theorem dX6_least_21 : decode cX6_least 21 = .ok (.ireturn, 1) := by decide +kernel
theorem dX6_least_22 : decode cX6_least 22 = .ok (.aload_n 0, 1) := by decide +kernel
theorem dX6_least_23 : decode cX6_least 23 = .ok (.getfield 41, 3) := by decide +kernel
theorem dX6_least_26 : decode cX6_least 26 = .ok (.iload_n 1, 1) := by decide +kernel
theorem dX6_least_27 : decode cX6_least 27 = .ok (.invokevirtual 154, 3) := by decide +kernel
theorem dX6_least_30 : decode cX6_least 30 = .ok (.istore_n 3, 1) := by decide +kernel
theorem dX6_least_31 : decode cX6_least 31 = .ok (.iload_n 2, 1) := by decide +kernel
theorem dX6_least_32 : decode cX6_least 32 = .ok (.iconst (-1), 1) := by decide +kernel
theorem dX6_least_33 : decode cX6_least 33 = .ok (.if_icmp .ne 5, 3) := by decide +kernel
theorem dX6_least_36 : decode cX6_least 36 = .ok (.iload_n 3, 1) := by decide +kernel
theorem dX6_least_37 : decode cX6_least 37 = .ok (.ireturn, 1) := by decide +kernel
theorem dX6_least_38 : decode cX6_least 38 = .ok (.iload_n 2, 1) := by decide +kernel
theorem dX6_least_39 : decode cX6_least 39 = .ok (.aload_n 0, 1) := by decide +kernel
theorem dX6_least_40 : decode cX6_least 40 = .ok (.getfield 41, 3) := by decide +kernel
theorem dX6_least_43 : decode cX6_least 43 = .ok (.invokevirtual 157, 3) := by decide +kernel
theorem dX6_least_46 : decode cX6_least 46 = .ok (.if_icmp .ge 15, 3) := by decide +kernel
theorem dX6_least_49 : decode cX6_least 49 = .ok (.aload_n 0, 1) := by decide +kernel
theorem dX6_least_50 : decode cX6_least 50 = .ok (.getfield 41, 3) := by decide +kernel
theorem dX6_least_53 : decode cX6_least 53 = .ok (.getfield 160, 3) := by decide +kernel
theorem dX6_least_56 : decode cX6_least 56 = .ok (.iload_n 2, 1) := by decide +kernel
theorem dX6_least_57 : decode cX6_least 57 = .ok (.iaload, 1) := by decide +kernel
theorem dX6_least_58 : decode cX6_least 58 = .ok (.goto 4, 3) := by decide +kernel
theorem dX6_least_61 : decode cX6_least 61 = .ok (.iconst (-1), 1) := by decide +kernel
theorem dX6_least_62 : decode cX6_least 62 = .ok (.ireturn, 1) := by decide +kernel
theorem dX6_rule_0 : decode cX6_rule 0 = .ok (.iload_n 1, 1) := by decide +kernel
theorem dX6_rule_1 : decode cX6_rule 1 = .ok (.iconst 0, 1) := by decide +kernel
theorem dX6_rule_2 : decode cX6_rule 2 = .ok (.iconst 3, 1) := by decide +kernel
theorem dX6_rule_3 : decode cX6_rule 3 = .ok (.invokestatic 63, 3) := by decide +kernel
theorem dX6_rule_6 : decode cX6_rule 6 = .ok (.ifCond .eq 13, 3) := by decide +kernel
theorem dX6_rule_9 : decode cX6_rule 9 = .ok (.iload_n 2, 1) := by decide +kernel
theorem dX6_rule_10 : decode cX6_rule 10 = .ok (.iconst 1, 1) := by decide +kernel
theorem dX6_rule_11 : decode cX6_rule 11 = .ok (.bipush 9, 2) := by decide +kernel
theorem dX6_rule_13 : decode cX6_rule 13 = .ok (.invokestatic 63, 3) := by decide +kernel
theorem dX6_rule_16 : decode cX6_rule 16 = .ok (.ifCond .ne 6, 3) := by decide +kernel
theorem dX6_rule_19 : decode cX6_rule 19 = .ok (.bipush (-2), 2) := by decide +kernel
theorem dX6_rule_21 : decode cX6_rule 21 = .ok (.ireturn, 1) := by decide +kernel
theorem dX6_rule_22 : decode cX6_rule 22 = .ok (.aload_n 0, 1) := by decide +kernel
theorem dX6_rule_23 : decode cX6_rule 23 = .ok (.getfield 41, 3) := by decide +kernel
theorem dX6_rule_26 : decode cX6_rule 26 = .ok (.iload_n 1, 1) := by decide +kernel
theorem dX6_rule_27 : decode cX6_rule 27 = .ok (.iload_n 2, 1) := by decide +kernel
theorem dX6_rule_28 : decode cX6_rule 28 = .ok (.aload_n 0, 1) := by decide +kernel
theorem dX6_rule_29 : decode cX6_rule 29 = .ok (.getfield 41, 3) := by decide +kernel
theorem dX6_rule_32 : decode cX6_rule 32 = .ok (.getfield 130, 3) := by decide +kernel
theorem dX6_rule_35 : decode cX6_rule 35 = .ok (.invokevirtual 133, 3) := by decide +kernel
theorem dX6_rule_38 : decode cX6_rule 38 = .ok (.ireturn, 1) := by decide +kernel
theorem dX6_best_0 : decode cX6_best 0 = .ok (.iload_n 1, 1) := by decide +kernel
theorem dX6_best_1 : decode cX6_best 1 = .ok (.iconst 1, 1) := by decide +kernel
theorem dX6_best_2 : decode cX6_best 2 = .ok (.bipush 9, 2) := by decide +kernel
theorem dX6_best_4 : decode cX6_best 4 = .ok (.invokestatic 63, 3) := by decide +kernel
theorem dX6_best_7 : decode cX6_best 7 = .ok (.ifCond .eq 21, 3) := by decide +kernel
theorem dX6_best_10 : decode cX6_best 10 = .ok (.aload_n 0, 1) := by decide +kernel
theorem dX6_best_11 : decode cX6_best 11 = .ok (.getfield 41, 3) := by decide +kernel
theorem dX6_best_14 : decode cX6_best 14 = .ok (.iload_n 1, 1) := by decide +kernel
theorem dX6_best_15 : decode cX6_best 15 = .ok (.aload_n 0, 1) := by decide +kernel
theorem dX6_best_16 : decode cX6_best 16 = .ok (.getfield 41, 3) := by decide +kernel
theorem dX6_best_19 : decode cX6_best 19 = .ok (.getfield 130, 3) := by decide +kernel
theorem dX6_best_22 : decode cX6_best 22 = .ok (.invokevirtual 163, 3) := by decide +kernel
theorem dX6_best_25 : decode cX6_best 25 = .ok (.goto 5, 3) := by decide +kernel
theorem dX6_best_28 : decode cX6_best 28 = .ok (.bipush (-2), 2) := by decide +kernel
theorem dX6_best_30 : decode cX6_best 30 = .ok (.ireturn, 1) := by decide +kernel
theorem dX6_gap_0 : decode cX6_gap 0 = .ok (.iload_n 1, 1) := by decide +kernel
theorem dX6_gap_1 : decode cX6_gap 1 = .ok (.iconst 1, 1) := by decide +kernel
theorem dX6_gap_2 : decode cX6_gap 2 = .ok (.iconst 3, 1) := by decide +kernel
theorem dX6_gap_3 : decode cX6_gap 3 = .ok (.invokestatic 63, 3) := by decide +kernel
theorem dX6_gap_6 : decode cX6_gap 6 = .ok (.ifCond .ne 6, 3) := by decide +kernel
theorem dX6_gap_9 : decode cX6_gap 9 = .ok (.bipush (-2), 2) := by decide +kernel
theorem dX6_gap_11 : decode cX6_gap 11 = .ok (.ireturn, 1) := by decide +kernel
theorem dX6_gap_12 : decode cX6_gap 12 = .ok (.aload_n 0, 1) := by decide +kernel
theorem dX6_gap_13 : decode cX6_gap 13 = .ok (.getfield 41, 3) := by decide +kernel
theorem dX6_gap_16 : decode cX6_gap 16 = .ok (.invokevirtual 157, 3) := by decide +kernel
theorem dX6_gap_19 : decode cX6_gap 19 = .ok (.istore_n 2, 1) := by decide +kernel
theorem dX6_gap_20 : decode cX6_gap 20 = .ok (.aload_n 0, 1) := by decide +kernel
theorem dX6_gap_21 : decode cX6_gap 21 = .ok (.getfield 41, 3) := by decide +kernel
theorem dX6_gap_24 : decode cX6_gap 24 = .ok (.aload_n 0, 1) := by decide +kernel
theorem dX6_gap_25 : decode cX6_gap 25 = .ok (.getfield 41, 3) := by decide +kernel
theorem dX6_gap_28 : decode cX6_gap 28 = .ok (.iload_n 1, 1) := by decide +kernel
theorem dX6_gap_29 : decode cX6_gap 29 = .ok (.iload_n 2, 1) := by decide +kernel
theorem dX6_gap_30 : decode cX6_gap 30 = .ok (.invokevirtual 163, 3) := by decide +kernel
theorem dX6_gap_33 : decode cX6_gap 33 = .ok (.iload_n 1, 1) := by decide +kernel
theorem dX6_gap_34 : decode cX6_gap 34 = .ok (.iload_n 2, 1) := by decide +kernel
theorem dX6_gap_35 : decode cX6_gap 35 = .ok (.invokevirtual 133, 3) := by decide +kernel
theorem dX6_gap_38 : decode cX6_gap 38 = .ok (.istore_n 3, 1) := by decide +kernel
theorem dX6_gap_39 : decode cX6_gap 39 = .ok (.iload_n 3, 1) := by decide +kernel
theorem dX6_gap_40 : decode cX6_gap 40 = .ok (.aload_n 0, 1) := by decide +kernel
theorem dX6_gap_41 : decode cX6_gap 41 = .ok (.getfield 41, 3) := by decide +kernel
theorem dX6_gap_44 : decode cX6_gap 44 = .ok (.iload_n 1, 1) := by decide +kernel
theorem dX6_gap_45 : decode cX6_gap 45 = .ok (.invokevirtual 154, 3) := by decide +kernel
theorem dX6_gap_48 : decode cX6_gap 48 = .ok (.isub, 1) := by decide +kernel
theorem dX6_gap_49 : decode cX6_gap 49 = .ok (.ireturn, 1) := by decide +kernel
theorem dX6_mean_0 : decode cX6_mean 0 = .ok (.iload_n 1, 1) := by decide +kernel
theorem dX6_mean_1 : decode cX6_mean 1 = .ok (.iconst 0, 1) := by decide +kernel
theorem dX6_mean_2 : decode cX6_mean 2 = .ok (.bipush 16, 2) := by decide +kernel
theorem dX6_mean_4 : decode cX6_mean 4 = .ok (.invokestatic 63, 3) := by decide +kernel
theorem dX6_mean_7 : decode cX6_mean 7 = .ok (.ifCond .eq 12, 3) := by decide +kernel
theorem dX6_mean_10 : decode cX6_mean 10 = .ok (.iload_n 2, 1) := by decide +kernel
theorem dX6_mean_11 : decode cX6_mean 11 = .ok (.iconst 0, 1) := by decide +kernel
theorem dX6_mean_12 : decode cX6_mean 12 = .ok (.iconst 1, 1) := by decide +kernel
theorem dX6_mean_13 : decode cX6_mean 13 = .ok (.invokestatic 63, 3) := by decide +kernel
theorem dX6_mean_16 : decode cX6_mean 16 = .ok (.ifCond .ne 9, 3) := by decide +kernel
theorem dX6_mean_19 : decode cX6_mean 19 = .ok (.bipush (-2), 2) := by decide +kernel
theorem dX6_mean_21 : decode cX6_mean 21 = .ok (.invokestatic 166, 3) := by decide +kernel
theorem dX6_mean_24 : decode cX6_mean 24 = .ok (.lreturn, 1) := by decide +kernel
theorem dX6_mean_25 : decode cX6_mean 25 = .ok (.iload_n 1, 1) := by decide +kernel
theorem dX6_mean_26 : decode cX6_mean 26 = .ok (.aload_n 0, 1) := by decide +kernel
theorem dX6_mean_27 : decode cX6_mean 27 = .ok (.getfield 27, 3) := by decide +kernel
theorem dX6_mean_30 : decode cX6_mean 30 = .ok (.getfield 124, 3) := by decide +kernel
theorem dX6_mean_33 : decode cX6_mean 33 = .ok (.imul, 1) := by decide +kernel
theorem dX6_mean_34 : decode cX6_mean 34 = .ok (.bipush 16, 2) := by decide +kernel
theorem dX6_mean_36 : decode cX6_mean 36 = .ok (.iload_n 1, 1) := by decide +kernel
theorem dX6_mean_37 : decode cX6_mean 37 = .ok (.isub, 1) := by decide +kernel
theorem dX6_mean_38 : decode cX6_mean 38 = .ok (.aload_n 0, 1) := by decide +kernel
theorem dX6_mean_39 : decode cX6_mean 39 = .ok (.getfield 27, 3) := by decide +kernel
theorem dX6_mean_42 : decode cX6_mean 42 = .ok (.invokevirtual 170, 3) := by decide +kernel
theorem dX6_mean_45 : decode cX6_mean 45 = .ok (.imul, 1) := by decide +kernel
theorem dX6_mean_46 : decode cX6_mean 46 = .ok (.iadd, 1) := by decide +kernel
theorem dX6_mean_47 : decode cX6_mean 47 = .ok (.istore_n 3, 1) := by decide +kernel
theorem dX6_mean_48 : decode cX6_mean 48 = .ok (.iload_n 3, 1) := by decide +kernel
theorem dX6_mean_49 : decode cX6_mean 49 = .ok (.bipush 16, 2) := by decide +kernel
theorem dX6_mean_51 : decode cX6_mean 51 = .ok (.iload_n 2, 1) := by decide +kernel
theorem dX6_mean_52 : decode cX6_mean 52 = .ok (.invokestatic 173, 3) := by decide +kernel
theorem dX6_mean_55 : decode cX6_mean 55 = .ok (.lreturn, 1) := by decide +kernel
theorem dX6_heap_0 : decode cX6_heap 0 = .ok (.iload_n 1, 1) := by decide +kernel
theorem dX6_heap_1 : decode cX6_heap 1 = .ok (.iconst (-1), 1) := by decide +kernel
theorem dX6_heap_2 : decode cX6_heap 2 = .ok (.aload_n 0, 1) := by decide +kernel
theorem dX6_heap_3 : decode cX6_heap 3 = .ok (.getfield 27, 3) := by decide +kernel
theorem dX6_heap_6 : decode cX6_heap 6 = .ok (.getfield 177, 3) := by decide +kernel
theorem dX6_heap_9 : decode cX6_heap 9 = .ok (.iconst 1, 1) := by decide +kernel
theorem dX6_heap_10 : decode cX6_heap 10 = .ok (.isub, 1) := by decide +kernel
theorem dX6_heap_11 : decode cX6_heap 11 = .ok (.invokestatic 63, 3) := by decide +kernel
theorem dX6_heap_14 : decode cX6_heap 14 = .ok (.ifCond .eq 12, 3) := by decide +kernel
theorem dX6_heap_17 : decode cX6_heap 17 = .ok (.iload_n 2, 1) := by decide +kernel
theorem dX6_heap_18 : decode cX6_heap 18 = .ok (.iconst 0, 1) := by decide +kernel
theorem dX6_heap_19 : decode cX6_heap 19 = .ok (.iconst 1, 1) := by decide +kernel
theorem dX6_heap_20 : decode cX6_heap 20 = .ok (.invokestatic 63, 3) := by decide +kernel
theorem dX6_heap_23 : decode cX6_heap 23 = .ok (.ifCond .ne 9, 3) := by decide +kernel
theorem dX6_heap_26 : decode cX6_heap 26 = .ok (.bipush (-2), 2) := by decide +kernel
theorem dX6_heap_28 : decode cX6_heap 28 = .ok (.invokestatic 166, 3) := by decide +kernel
theorem dX6_heap_31 : decode cX6_heap 31 = .ok (.lreturn, 1) := by decide +kernel
theorem dX6_heap_32 : decode cX6_heap 32 = .ok (.iload_n 1, 1) := by decide +kernel
theorem dX6_heap_33 : decode cX6_heap 33 = .ok (.iconst (-1), 1) := by decide +kernel
theorem dX6_heap_34 : decode cX6_heap 34 = .ok (.if_icmp .ne 7, 3) := by decide +kernel
theorem dX6_heap_37 : decode cX6_heap 37 = .ok (.iconst 0, 1) := by decide +kernel
theorem dX6_heap_38 : decode cX6_heap 38 = .ok (.goto 4, 3) := by decide +kernel
theorem dX6_heap_41 : decode cX6_heap 41 = .ok (.iload_n 1, 1) := by decide +kernel
theorem dX6_heap_42 : decode cX6_heap 42 = .ok (.istore_n 3, 1) := by decide +kernel
theorem dX6_heap_43 : decode cX6_heap 43 = .ok (.iload_n 1, 1) := by decide +kernel
theorem dX6_heap_44 : decode cX6_heap 44 = .ok (.iconst (-1), 1) := by decide +kernel
theorem dX6_heap_45 : decode cX6_heap 45 = .ok (.if_icmp .ne 13, 3) := by decide +kernel
theorem dX6_heap_48 : decode cX6_heap 48 = .ok (.aload_n 0, 1) := by decide +kernel
theorem dX6_heap_49 : decode cX6_heap 49 = .ok (.getfield 27, 3) := by decide +kernel
theorem dX6_heap_52 : decode cX6_heap 52 = .ok (.getfield 177, 3) := by decide +kernel
theorem dX6_heap_55 : decode cX6_heap 55 = .ok (.goto 6, 3) := by decide +kernel
theorem dX6_heap_58 : decode cX6_heap 58 = .ok (.iload_n 1, 1) := by decide +kernel
theorem dX6_heap_59 : decode cX6_heap 59 = .ok (.iconst 1, 1) := by decide +kernel
theorem dX6_heap_60 : decode cX6_heap 60 = .ok (.iadd, 1) := by decide +kernel
theorem dX6_heap_61 : decode cX6_heap 61 = .ok (.istore 4, 2) := by decide +kernel
theorem dX6_heap_63 : decode cX6_heap 63 = .ok (.iconst 0, 1) := by decide +kernel
theorem dX6_heap_64 : decode cX6_heap 64 = .ok (.istore 5, 2) := by decide +kernel
theorem dX6_heap_66 : decode cX6_heap 66 = .ok (.iload_n 3, 1) := by decide +kernel
theorem dX6_heap_67 : decode cX6_heap 67 = .ok (.istore 6, 2) := by decide +kernel
theorem dX6_heap_69 : decode cX6_heap 69 = .ok (.iload 6, 2) := by decide +kernel
theorem dX6_heap_71 : decode cX6_heap 71 = .ok (.iload 4, 2) := by decide +kernel
theorem dX6_heap_73 : decode cX6_heap 73 = .ok (.if_icmp .ge 37, 3) := by decide +kernel
theorem dX6_heap_76 : decode cX6_heap 76 = .ok (.iconst 2, 1) := by decide +kernel
theorem dX6_heap_77 : decode cX6_heap 77 = .ok (.aload_n 0, 1) := by decide +kernel
theorem dX6_heap_78 : decode cX6_heap 78 = .ok (.getfield 27, 3) := by decide +kernel
theorem dX6_heap_81 : decode cX6_heap 81 = .ok (.getfield 180, 3) := by decide +kernel
theorem dX6_heap_84 : decode cX6_heap 84 = .ok (.invokestatic 183, 3) := by decide +kernel
theorem dX6_heap_87 : decode cX6_heap 87 = .ok (.iload 6, 2) := by decide +kernel
theorem dX6_heap_89 : decode cX6_heap 89 = .ok (.isub, 1) := by decide +kernel
theorem dX6_heap_90 : decode cX6_heap 90 = .ok (.imul, 1) := by decide +kernel
theorem dX6_heap_91 : decode cX6_heap 91 = .ok (.istore 7, 2) := by decide +kernel
theorem dX6_heap_93 : decode cX6_heap 93 = .ok (.iload 5, 2) := by decide +kernel
theorem dX6_heap_95 : decode cX6_heap 95 = .ok (.iconst 2, 1) := by decide +kernel
theorem dX6_heap_96 : decode cX6_heap 96 = .ok (.iload 7, 2) := by decide +kernel
theorem dX6_heap_98 : decode cX6_heap 98 = .ok (.iconst 1, 1) := by decide +kernel
theorem dX6_heap_99 : decode cX6_heap 99 = .ok (.iadd, 1) := by decide +kernel
theorem dX6_heap_100 : decode cX6_heap 100 = .ok (.imul, 1) := by decide +kernel
theorem dX6_heap_101 : decode cX6_heap 101 = .ok (.iadd, 1) := by decide +kernel
theorem dX6_heap_102 : decode cX6_heap 102 = .ok (.istore 5, 2) := by decide +kernel
theorem dX6_heap_104 : decode cX6_heap 104 = .ok (.iinc 6 1, 3) := by decide +kernel
theorem dX6_heap_107 : decode cX6_heap 107 = .ok (.goto (-38), 3) := by decide +kernel
theorem dX6_heap_110 : decode cX6_heap 110 = .ok (.iload 5, 2) := by decide +kernel
theorem dX6_heap_112 : decode cX6_heap 112 = .ok (.iconst 3, 1) := by decide +kernel
theorem dX6_heap_113 : decode cX6_heap 113 = .ok (.iload_n 2, 1) := by decide +kernel
theorem dX6_heap_114 : decode cX6_heap 114 = .ok (.invokestatic 173, 3) := by decide +kernel
theorem dX6_heap_117 : decode cX6_heap 117 = .ok (.lreturn, 1) := by decide +kernel
theorem dX6_out_0 : decode cX6_out 0 = .ok (.iload_n 1, 1) := by decide +kernel
theorem dX6_out_1 : decode cX6_out 1 = .ok (.iconst (-1), 1) := by decide +kernel
theorem dX6_out_2 : decode cX6_out 2 = .ok (.if_icmp .eq 13, 3) := by decide +kernel
theorem dX6_out_5 : decode cX6_out 5 = .ok (.iload_n 1, 1) := by decide +kernel
theorem dX6_out_6 : decode cX6_out 6 = .ok (.invokestatic 77, 3) := by decide +kernel
theorem dX6_out_9 : decode cX6_out 9 = .ok (.ifCond .ne 6, 3) := by decide +kernel
theorem dX6_out_12 : decode cX6_out 12 = .ok (.bipush (-2), 2) := by decide +kernel
theorem dX6_out_14 : decode cX6_out 14 = .ok (.ireturn, 1) := by decide +kernel
theorem dX6_out_15 : decode cX6_out 15 = .ok (.iload_n 1, 1) := by decide +kernel
theorem dX6_out_16 : decode cX6_out 16 = .ok (.iconst (-1), 1) := by decide +kernel
theorem dX6_out_17 : decode cX6_out 17 = .ok (.if_icmp .eq 20, 3) := by decide +kernel
theorem dX6_out_20 : decode cX6_out 20 = .ok (.aload_n 0, 1) := by decide +kernel
theorem dX6_out_21 : decode cX6_out 21 = .ok (.getfield 27, 3) := by decide +kernel
theorem dX6_out_24 : decode cX6_out 24 = .ok (.getfield 127, 3) := by decide +kernel
theorem dX6_out_27 : decode cX6_out 27 = .ok (.iload_n 1, 1) := by decide +kernel
theorem dX6_out_28 : decode cX6_out 28 = .ok (.iaload, 1) := by decide +kernel
theorem dX6_out_29 : decode cX6_out 29 = .ok (.bipush (-3), 2) := by decide +kernel
theorem dX6_out_31 : decode cX6_out 31 = .ok (.if_icmp .ne 6, 3) := by decide +kernel
theorem dX6_out_34 : decode cX6_out 34 = .ok (.bipush (-3), 2) := by decide +kernel
theorem dX6_out_36 : decode cX6_out 36 = .ok (.ireturn, 1) := by decide +kernel
theorem dX6_out_37 : decode cX6_out 37 = .ok (.aload_n 0, 1) := by decide +kernel
theorem dX6_out_38 : decode cX6_out 38 = .ok (.getfield 34, 3) := by decide +kernel
theorem dX6_out_41 : decode cX6_out 41 = .ok (.aload_n 0, 1) := by decide +kernel
theorem dX6_out_42 : decode cX6_out 42 = .ok (.getfield 20, 3) := by decide +kernel
theorem dX6_out_45 : decode cX6_out 45 = .ok (.iconst 1, 1) := by decide +kernel
theorem dX6_out_46 : decode cX6_out 46 = .ok (.iaload, 1) := by decide +kernel
theorem dX6_out_47 : decode cX6_out 47 = .ok (.invokevirtual 188, 3) := by decide +kernel
theorem dX6_out_50 : decode cX6_out 50 = .ok (.iconst 0, 1) := by decide +kernel
theorem dX6_out_51 : decode cX6_out 51 = .ok (.istore_n 2, 1) := by decide +kernel
theorem dX6_out_52 : decode cX6_out 52 = .ok (.iload_n 2, 1) := by decide +kernel
theorem dX6_out_53 : decode cX6_out 53 = .ok (.aload_n 0, 1) := by decide +kernel
theorem dX6_out_54 : decode cX6_out 54 = .ok (.getfield 27, 3) := by decide +kernel
theorem dX6_out_57 : decode cX6_out 57 = .ok (.getfield 177, 3) := by decide +kernel
theorem dX6_out_60 : decode cX6_out 60 = .ok (.if_icmp .ge 71, 3) := by decide +kernel
theorem dX6_out_63 : decode cX6_out 63 = .ok (.aload_n 0, 1) := by decide +kernel
theorem dX6_out_64 : decode cX6_out 64 = .ok (.getfield 27, 3) := by decide +kernel
theorem dX6_out_67 : decode cX6_out 67 = .ok (.getfield 192, 3) := by decide +kernel
theorem dX6_out_70 : decode cX6_out 70 = .ok (.iload_n 2, 1) := by decide +kernel
theorem dX6_out_71 : decode cX6_out 71 = .ok (.iaload, 1) := by decide +kernel
theorem dX6_out_72 : decode cX6_out 72 = .ok (.istore_n 3, 1) := by decide +kernel
theorem dX6_out_73 : decode cX6_out 73 = .ok (.aload_n 0, 1) := by decide +kernel
theorem dX6_out_74 : decode cX6_out 74 = .ok (.getfield 20, 3) := by decide +kernel
theorem dX6_out_77 : decode cX6_out 77 = .ok (.iconst 2, 1) := by decide +kernel
theorem dX6_out_78 : decode cX6_out 78 = .ok (.iaload, 1) := by decide +kernel
theorem dX6_out_79 : decode cX6_out 79 = .ok (.aload_n 0, 1) := by decide +kernel
theorem dX6_out_80 : decode cX6_out 80 = .ok (.getfield 20, 3) := by decide +kernel
theorem dX6_out_83 : decode cX6_out 83 = .ok (.iconst 3, 1) := by decide +kernel
theorem dX6_out_84 : decode cX6_out 84 = .ok (.iaload, 1) := by decide +kernel
theorem dX6_out_85 : decode cX6_out 85 = .ok (.aload_n 0, 1) := by decide +kernel
theorem dX6_out_86 : decode cX6_out 86 = .ok (.getfield 27, 3) := by decide +kernel
theorem dX6_out_89 : decode cX6_out 89 = .ok (.getfield 127, 3) := by decide +kernel
theorem dX6_out_92 : decode cX6_out 92 = .ok (.iload_n 3, 1) := by decide +kernel
theorem dX6_out_93 : decode cX6_out 93 = .ok (.iaload, 1) := by decide +kernel
theorem dX6_out_94 : decode cX6_out 94 = .ok (.imul, 1) := by decide +kernel
theorem dX6_out_95 : decode cX6_out 95 = .ok (.iadd, 1) := by decide +kernel
theorem dX6_out_96 : decode cX6_out 96 = .ok (.istore 4, 2) := by decide +kernel
theorem dX6_out_98 : decode cX6_out 98 = .ok (.aload_n 0, 1) := by decide +kernel
theorem dX6_out_99 : decode cX6_out 99 = .ok (.getfield 34, 3) := by decide +kernel
theorem dX6_out_102 : decode cX6_out 102 = .ok (.aload_n 0, 1) := by decide +kernel
theorem dX6_out_103 : decode cX6_out 103 = .ok (.getfield 17, 3) := by decide +kernel
theorem dX6_out_106 : decode cX6_out 106 = .ok (.iconst 2, 1) := by decide +kernel
theorem dX6_out_107 : decode cX6_out 107 = .ok (.aaload, 1) := by decide +kernel
theorem dX6_out_108 : decode cX6_out 108 = .ok (.iload_n 3, 1) := by decide +kernel
theorem dX6_out_109 : decode cX6_out 109 = .ok (.iaload, 1) := by decide +kernel
theorem dX6_out_110 : decode cX6_out 110 = .ok (.iload 4, 2) := by decide +kernel
theorem dX6_out_112 : decode cX6_out 112 = .ok (.invokevirtual 195, 3) := by decide +kernel
theorem dX6_out_115 : decode cX6_out 115 = .ok (.istore 5, 2) := by decide +kernel
theorem dX6_out_117 : decode cX6_out 117 = .ok (.iload_n 3, 1) := by decide +kernel
theorem dX6_out_118 : decode cX6_out 118 = .ok (.iload_n 1, 1) := by decide +kernel
theorem dX6_out_119 : decode cX6_out 119 = .ok (.if_icmp .ne 6, 3) := by decide +kernel
theorem dX6_out_122 : decode cX6_out 122 = .ok (.iload 5, 2) := by decide +kernel
theorem dX6_out_124 : decode cX6_out 124 = .ok (.ireturn, 1) := by decide +kernel
theorem dX6_out_125 : decode cX6_out 125 = .ok (.iinc 2 1, 3) := by decide +kernel
theorem dX6_out_128 : decode cX6_out 128 = .ok (.goto (-76), 3) := by decide +kernel
theorem dX6_out_131 : decode cX6_out 131 = .ok (.aload_n 0, 1) := by decide +kernel
theorem dX6_out_132 : decode cX6_out 132 = .ok (.getfield 34, 3) := by decide +kernel
theorem dX6_out_135 : decode cX6_out 135 = .ok (.invokevirtual 198, 3) := by decide +kernel
theorem dX6_out_138 : decode cX6_out 138 = .ok (.ireturn, 1) := by decide +kernel
theorem dX6_wrong_0 : decode cX6_wrong 0 = .ok (.aload_n 0, 1) := by decide +kernel
theorem dX6_wrong_1 : decode cX6_wrong 1 = .ok (.getfield 11, 3) := by decide +kernel
theorem dX6_wrong_4 : decode cX6_wrong 4 = .ok (.iconst 2, 1) := by decide +kernel
theorem dX6_wrong_5 : decode cX6_wrong 5 = .ok (.aaload, 1) := by decide +kernel
theorem dX6_wrong_6 : decode cX6_wrong 6 = .ok (.astore_n 2, 1) := by decide +kernel
theorem dX6_wrong_7 : decode cX6_wrong 7 = .ok (.iload_n 1, 1) := by decide +kernel
theorem dX6_wrong_8 : decode cX6_wrong 8 = .ok (.iconst (-1), 1) := by decide +kernel
theorem dX6_wrong_9 : decode cX6_wrong 9 = .ok (.aload_n 2, 1) := by decide +kernel
theorem dX6_wrong_10 : decode cX6_wrong 10 = .ok (.getfield 108, 3) := by decide +kernel
theorem dX6_wrong_13 : decode cX6_wrong 13 = .ok (.iconst 1, 1) := by decide +kernel
theorem dX6_wrong_14 : decode cX6_wrong 14 = .ok (.isub, 1) := by decide +kernel
theorem dX6_wrong_15 : decode cX6_wrong 15 = .ok (.invokestatic 63, 3) := by decide +kernel
theorem dX6_wrong_18 : decode cX6_wrong 18 = .ok (.ifCond .ne 6, 3) := by decide +kernel
theorem dX6_wrong_21 : decode cX6_wrong 21 = .ok (.bipush (-2), 2) := by decide +kernel
theorem dX6_wrong_23 : decode cX6_wrong 23 = .ok (.ireturn, 1) := by decide +kernel
theorem dX6_wrong_24 : decode cX6_wrong 24 = .ok (.iload_n 1, 1) := by decide +kernel
theorem dX6_wrong_25 : decode cX6_wrong 25 = .ok (.iconst (-1), 1) := by decide +kernel
theorem dX6_wrong_26 : decode cX6_wrong 26 = .ok (.if_icmp .eq 9, 3) := by decide +kernel
theorem dX6_wrong_29 : decode cX6_wrong 29 = .ok (.aload_n 2, 1) := by decide +kernel
theorem dX6_wrong_30 : decode cX6_wrong 30 = .ok (.iload_n 1, 1) := by decide +kernel
theorem dX6_wrong_31 : decode cX6_wrong 31 = .ok (.invokevirtual 201, 3) := by decide +kernel
theorem dX6_wrong_34 : decode cX6_wrong 34 = .ok (.ireturn, 1) := by decide +kernel
theorem dX6_wrong_35 : decode cX6_wrong 35 = .ok (.iconst 0, 1) := by decide +kernel
theorem dX6_wrong_36 : decode cX6_wrong 36 = .ok (.istore_n 3, 1) := by decide +kernel
theorem dX6_wrong_37 : decode cX6_wrong 37 = .ok (.iconst 0, 1) := by decide +kernel
theorem dX6_wrong_38 : decode cX6_wrong 38 = .ok (.istore 4, 2) := by decide +kernel
theorem dX6_wrong_40 : decode cX6_wrong 40 = .ok (.iload 4, 2) := by decide +kernel
theorem dX6_wrong_42 : decode cX6_wrong 42 = .ok (.aload_n 2, 1) := by decide +kernel
theorem dX6_wrong_43 : decode cX6_wrong 43 = .ok (.getfield 108, 3) := by decide +kernel
theorem dX6_wrong_46 : decode cX6_wrong 46 = .ok (.if_icmp .ge 23, 3) := by decide +kernel
theorem dX6_wrong_49 : decode cX6_wrong 49 = .ok (.aload_n 2, 1) := by decide +kernel
theorem dX6_wrong_50 : decode cX6_wrong 50 = .ok (.iload 4, 2) := by decide +kernel
theorem dX6_wrong_52 : decode cX6_wrong 52 = .ok (.invokevirtual 114, 3) := by decide +kernel
theorem dX6_wrong_55 : decode cX6_wrong 55 = .ok (.iload 4, 2) := by decide +kernel
theorem dX6_wrong_57 : decode cX6_wrong 57 = .ok (.if_icmp .eq 6, 3) := by decide +kernel
theorem dX6_wrong_60 : decode cX6_wrong 60 = .ok (.iinc 3 1, 3) := by decide +kernel
theorem dX6_wrong_63 : decode cX6_wrong 63 = .ok (.iinc 4 1, 3) := by decide +kernel
theorem dX6_wrong_66 : decode cX6_wrong 66 = .ok (.goto (-26), 3) := by decide +kernel
theorem dX6_wrong_69 : decode cX6_wrong 69 = .ok (.iload_n 3, 1) := by decide +kernel
theorem dX6_wrong_70 : decode cX6_wrong 70 = .ok (.ireturn, 1) := by decide +kernel
theorem dX6_swaps_0 : decode cX6_swaps 0 = .ok (.aload_n 0, 1) := by decide +kernel
theorem dX6_swaps_1 : decode cX6_swaps 1 = .ok (.getfield 11, 3) := by decide +kernel
theorem dX6_swaps_4 : decode cX6_swaps 4 = .ok (.iconst 2, 1) := by decide +kernel
theorem dX6_swaps_5 : decode cX6_swaps 5 = .ok (.aaload, 1) := by decide +kernel
theorem dX6_swaps_6 : decode cX6_swaps 6 = .ok (.getfield 108, 3) := by decide +kernel
theorem dX6_swaps_9 : decode cX6_swaps 9 = .ok (.aload_n 0, 1) := by decide +kernel
theorem dX6_swaps_10 : decode cX6_swaps 10 = .ok (.getfield 11, 3) := by decide +kernel
theorem dX6_swaps_13 : decode cX6_swaps 13 = .ok (.iconst 2, 1) := by decide +kernel
theorem dX6_swaps_14 : decode cX6_swaps 14 = .ok (.aaload, 1) := by decide +kernel
theorem dX6_swaps_15 : decode cX6_swaps 15 = .ok (.invokevirtual 204, 3) := by decide +kernel
theorem dX6_swaps_18 : decode cX6_swaps 18 = .ok (.isub, 1) := by decide +kernel
theorem dX6_swaps_19 : decode cX6_swaps 19 = .ok (.ireturn, 1) := by decide +kernel
theorem dX6_alike_0 : decode cX6_alike 0 = .ok (.iload_n 1, 1) := by decide +kernel
theorem dX6_alike_1 : decode cX6_alike 1 = .ok (.iconst 0, 1) := by decide +kernel
theorem dX6_alike_2 : decode cX6_alike 2 = .ok (.iconst 1, 1) := by decide +kernel
theorem dX6_alike_3 : decode cX6_alike 3 = .ok (.invokestatic 63, 3) := by decide +kernel
theorem dX6_alike_6 : decode cX6_alike 6 = .ok (.ifCond .ne 9, 3) := by decide +kernel
theorem dX6_alike_9 : decode cX6_alike 9 = .ok (.bipush (-2), 2) := by decide +kernel
theorem dX6_alike_11 : decode cX6_alike 11 = .ok (.invokestatic 166, 3) := by decide +kernel
theorem dX6_alike_14 : decode cX6_alike 14 = .ok (.lreturn, 1) := by decide +kernel
theorem dX6_alike_15 : decode cX6_alike 15 = .ok (.lconst 1, 1) := by decide +kernel
theorem dX6_alike_16 : decode cX6_alike 16 = .ok (.lstore_n 2, 1) := by decide +kernel
theorem dX6_alike_17 : decode cX6_alike 17 = .ok (.iconst 0, 1) := by decide +kernel
theorem dX6_alike_18 : decode cX6_alike 18 = .ok (.istore 4, 2) := by decide +kernel
theorem dX6_alike_20 : decode cX6_alike 20 = .ok (.iload 4, 2) := by decide +kernel
theorem dX6_alike_22 : decode cX6_alike 22 = .ok (.iconst 4, 1) := by decide +kernel
theorem dX6_alike_23 : decode cX6_alike 23 = .ok (.if_icmp .ge 37, 3) := by decide +kernel
theorem dX6_alike_26 : decode cX6_alike 26 = .ok (.aload_n 0, 1) := by decide +kernel
theorem dX6_alike_27 : decode cX6_alike 27 = .ok (.iload 4, 2) := by decide +kernel
theorem dX6_alike_29 : decode cX6_alike 29 = .ok (.invokevirtual 207, 3) := by decide +kernel
theorem dX6_alike_32 : decode cX6_alike 32 = .ok (.istore 5, 2) := by decide +kernel
theorem dX6_alike_34 : decode cX6_alike 34 = .ok (.lload_n 2, 1) := by decide +kernel
theorem dX6_alike_35 : decode cX6_alike 35 = .ok (.iload_n 1, 1) := by decide +kernel
theorem dX6_alike_36 : decode cX6_alike 36 = .ok (.ifCond .ne 11, 3) := by decide +kernel
theorem dX6_alike_39 : decode cX6_alike 39 = .ok (.iload 5, 2) := by decide +kernel
theorem dX6_alike_41 : decode cX6_alike 41 = .ok (.invokestatic 210, 3) := by decide +kernel
theorem dX6_alike_44 : decode cX6_alike 44 = .ok (.goto 8, 3) := by decide +kernel
theorem dX6_alike_47 : decode cX6_alike 47 = .ok (.iload 5, 2) := by decide +kernel
theorem dX6_alike_49 : decode cX6_alike 49 = .ok (.invokestatic 213, 3) := by decide +kernel
theorem dX6_alike_52 : decode cX6_alike 52 = .ok (.lmul, 1) := by decide +kernel
theorem dX6_alike_53 : decode cX6_alike 53 = .ok (.lstore_n 2, 1) := by decide +kernel
theorem dX6_alike_54 : decode cX6_alike 54 = .ok (.iinc 4 1, 3) := by decide +kernel
theorem dX6_alike_57 : decode cX6_alike 57 = .ok (.goto (-37), 3) := by decide +kernel
theorem dX6_alike_60 : decode cX6_alike 60 = .ok (.lload_n 2, 1) := by decide +kernel
theorem dX6_alike_61 : decode cX6_alike 61 = .ok (.lreturn, 1) := by decide +kernel
theorem dX6_ahead_0 : decode cX6_ahead 0 = .ok (.iload_n 1, 1) := by decide +kernel
theorem dX6_ahead_1 : decode cX6_ahead 1 = .ok (.invokestatic 77, 3) := by decide +kernel
theorem dX6_ahead_4 : decode cX6_ahead 4 = .ok (.ifCond .eq 15, 3) := by decide +kernel
theorem dX6_ahead_7 : decode cX6_ahead 7 = .ok (.iload_n 2, 1) := by decide +kernel
theorem dX6_ahead_8 : decode cX6_ahead 8 = .ok (.invokestatic 77, 3) := by decide +kernel
theorem dX6_ahead_11 : decode cX6_ahead 11 = .ok (.ifCond .eq 8, 3) := by decide +kernel
theorem dX6_ahead_14 : decode cX6_ahead 14 = .ok (.iload_n 1, 1) := by decide +kernel
theorem dX6_ahead_15 : decode cX6_ahead 15 = .ok (.iload_n 2, 1) := by decide +kernel
theorem dX6_ahead_16 : decode cX6_ahead 16 = .ok (.if_icmp .ne 6, 3) := by decide +kernel
theorem dX6_ahead_19 : decode cX6_ahead 19 = .ok (.bipush (-2), 2) := by decide +kernel
theorem dX6_ahead_21 : decode cX6_ahead 21 = .ok (.ireturn, 1) := by decide +kernel
theorem dX6_ahead_22 : decode cX6_ahead 22 = .ok (.aload_n 0, 1) := by decide +kernel
theorem dX6_ahead_23 : decode cX6_ahead 23 = .ok (.getfield 48, 3) := by decide +kernel
theorem dX6_ahead_26 : decode cX6_ahead 26 = .ok (.getfield 216, 3) := by decide +kernel
theorem dX6_ahead_29 : decode cX6_ahead 29 = .ok (.bipush 8, 2) := by decide +kernel
theorem dX6_ahead_31 : decode cX6_ahead 31 = .ok (.if_icmp .lt 6, 3) := by decide +kernel
theorem dX6_ahead_34 : decode cX6_ahead 34 = .ok (.bipush (-4), 2) := by decide +kernel
theorem dX6_ahead_36 : decode cX6_ahead 36 = .ok (.ireturn, 1) := by decide +kernel
theorem dX6_ahead_37 : decode cX6_ahead 37 = .ok (.aload_n 0, 1) := by decide +kernel
theorem dX6_ahead_38 : decode cX6_ahead 38 = .ok (.getfield 48, 3) := by decide +kernel
theorem dX6_ahead_41 : decode cX6_ahead 41 = .ok (.iload_n 1, 1) := by decide +kernel
theorem dX6_ahead_42 : decode cX6_ahead 42 = .ok (.iload_n 2, 1) := by decide +kernel
theorem dX6_ahead_43 : decode cX6_ahead 43 = .ok (.invokevirtual 217, 3) := by decide +kernel
theorem dX6_ahead_46 : decode cX6_ahead 46 = .ok (.aload_n 0, 1) := by decide +kernel
theorem dX6_ahead_47 : decode cX6_ahead 47 = .ok (.getfield 48, 3) := by decide +kernel
theorem dX6_ahead_50 : decode cX6_ahead 50 = .ok (.getfield 216, 3) := by decide +kernel
theorem dX6_ahead_53 : decode cX6_ahead 53 = .ok (.ireturn, 1) := by decide +kernel
theorem dX6_forget_0 : decode cX6_forget 0 = .ok (.aload_n 0, 1) := by decide +kernel
theorem dX6_forget_1 : decode cX6_forget 1 = .ok (.getfield 48, 3) := by decide +kernel
theorem dX6_forget_4 : decode cX6_forget 4 = .ok (.getfield 216, 3) := by decide +kernel
theorem dX6_forget_7 : decode cX6_forget 7 = .ok (.istore_n 1, 1) := by decide +kernel
theorem dX6_forget_8 : decode cX6_forget 8 = .ok (.aload_n 0, 1) := by decide +kernel
theorem dX6_forget_9 : decode cX6_forget 9 = .ok (.getfield 48, 3) := by decide +kernel
theorem dX6_forget_12 : decode cX6_forget 12 = .ok (.invokevirtual 221, 3) := by decide +kernel
theorem dX6_forget_15 : decode cX6_forget 15 = .ok (.iload_n 1, 1) := by decide +kernel
theorem dX6_forget_16 : decode cX6_forget 16 = .ok (.ireturn, 1) := by decide +kernel
theorem dX6_fits_0 : decode cX6_fits 0 = .ok (.iload_n 1, 1) := by decide +kernel
theorem dX6_fits_1 : decode cX6_fits 1 = .ok (.iconst 0, 1) := by decide +kernel
theorem dX6_fits_2 : decode cX6_fits 2 = .ok (.sipush 1023, 3) := by decide +kernel
theorem dX6_fits_5 : decode cX6_fits 5 = .ok (.invokestatic 63, 3) := by decide +kernel
theorem dX6_fits_8 : decode cX6_fits 8 = .ok (.ifCond .eq 18, 3) := by decide +kernel
theorem dX6_fits_11 : decode cX6_fits 11 = .ok (.aload_n 0, 1) := by decide +kernel
theorem dX6_fits_12 : decode cX6_fits 12 = .ok (.getfield 48, 3) := by decide +kernel
theorem dX6_fits_15 : decode cX6_fits 15 = .ok (.aload_n 0, 1) := by decide +kernel
theorem dX6_fits_16 : decode cX6_fits 16 = .ok (.iload_n 1, 1) := by decide +kernel
theorem dX6_fits_17 : decode cX6_fits 17 = .ok (.invokevirtual 224, 3) := by decide +kernel
theorem dX6_fits_20 : decode cX6_fits 20 = .ok (.invokevirtual 227, 3) := by decide +kernel
theorem dX6_fits_23 : decode cX6_fits 23 = .ok (.goto 8, 3) := by decide +kernel
theorem dX6_fits_26 : decode cX6_fits 26 = .ok (.bipush (-2), 2) := by decide +kernel
theorem dX6_fits_28 : decode cX6_fits 28 = .ok (.invokestatic 166, 3) := by decide +kernel
theorem dX6_fits_31 : decode cX6_fits 31 = .ok (.lreturn, 1) := by decide +kernel
theorem dX6_sure_0 : decode cX6_sure 0 = .ok (.iload_n 1, 1) := by decide +kernel
theorem dX6_sure_1 : decode cX6_sure 1 = .ok (.iconst 0, 1) := by decide +kernel
theorem dX6_sure_2 : decode cX6_sure 2 = .ok (.sipush 1023, 3) := by decide +kernel
theorem dX6_sure_5 : decode cX6_sure 5 = .ok (.invokestatic 63, 3) := by decide +kernel
theorem dX6_sure_8 : decode cX6_sure 8 = .ok (.ifCond .eq 22, 3) := by decide +kernel
theorem dX6_sure_11 : decode cX6_sure 11 = .ok (.iload_n 2, 1) := by decide +kernel
theorem dX6_sure_12 : decode cX6_sure 12 = .ok (.invokestatic 77, 3) := by decide +kernel
theorem dX6_sure_15 : decode cX6_sure 15 = .ok (.ifCond .eq 15, 3) := by decide +kernel
theorem dX6_sure_18 : decode cX6_sure 18 = .ok (.iload_n 3, 1) := by decide +kernel
theorem dX6_sure_19 : decode cX6_sure 19 = .ok (.invokestatic 77, 3) := by decide +kernel
theorem dX6_sure_22 : decode cX6_sure 22 = .ok (.ifCond .eq 8, 3) := by decide +kernel
theorem dX6_sure_25 : decode cX6_sure 25 = .ok (.iload_n 2, 1) := by decide +kernel
theorem dX6_sure_26 : decode cX6_sure 26 = .ok (.iload_n 3, 1) := by decide +kernel
theorem dX6_sure_27 : decode cX6_sure 27 = .ok (.if_icmp .ne 6, 3) := by decide +kernel
theorem dX6_sure_30 : decode cX6_sure 30 = .ok (.bipush (-2), 2) := by decide +kernel
theorem dX6_sure_32 : decode cX6_sure 32 = .ok (.ireturn, 1) := by decide +kernel
theorem dX6_sure_33 : decode cX6_sure 33 = .ok (.aload_n 0, 1) := by decide +kernel
theorem dX6_sure_34 : decode cX6_sure 34 = .ok (.iload_n 1, 1) := by decide +kernel
theorem dX6_sure_35 : decode cX6_sure 35 = .ok (.invokevirtual 224, 3) := by decide +kernel
theorem dX6_sure_38 : decode cX6_sure 38 = .ok (.istore 4, 2) := by decide +kernel
theorem dX6_sure_40 : decode cX6_sure 40 = .ok (.iload 4, 2) := by decide +kernel
theorem dX6_sure_42 : decode cX6_sure 42 = .ok (.iload_n 2, 1) := by decide +kernel
theorem dX6_sure_43 : decode cX6_sure 43 = .ok (.invokestatic 230, 3) := by decide +kernel
theorem dX6_sure_46 : decode cX6_sure 46 = .ok (.ifCond .eq 12, 3) := by decide +kernel
theorem dX6_sure_49 : decode cX6_sure 49 = .ok (.iload 4, 2) := by decide +kernel
theorem dX6_sure_51 : decode cX6_sure 51 = .ok (.iload_n 3, 1) := by decide +kernel
theorem dX6_sure_52 : decode cX6_sure 52 = .ok (.invokestatic 230, 3) := by decide +kernel
theorem dX6_sure_55 : decode cX6_sure 55 = .ok (.ifCond .ne 6, 3) := by decide +kernel
theorem dX6_sure_58 : decode cX6_sure 58 = .ok (.bipush (-2), 2) := by decide +kernel
theorem dX6_sure_60 : decode cX6_sure 60 = .ok (.ireturn, 1) := by decide +kernel
theorem dX6_sure_61 : decode cX6_sure 61 = .ok (.aload_n 0, 1) := by decide +kernel
theorem dX6_sure_62 : decode cX6_sure 62 = .ok (.getfield 48, 3) := by decide +kernel
theorem dX6_sure_65 : decode cX6_sure 65 = .ok (.iload 4, 2) := by decide +kernel
theorem dX6_sure_67 : decode cX6_sure 67 = .ok (.invokevirtual 234, 3) := by decide +kernel
theorem dX6_sure_70 : decode cX6_sure 70 = .ok (.ifCond .eq 23, 3) := by decide +kernel
theorem dX6_sure_73 : decode cX6_sure 73 = .ok (.aload_n 0, 1) := by decide +kernel
theorem dX6_sure_74 : decode cX6_sure 74 = .ok (.getfield 48, 3) := by decide +kernel
theorem dX6_sure_77 : decode cX6_sure 77 = .ok (.getfield 237, 3) := by decide +kernel
theorem dX6_sure_80 : decode cX6_sure 80 = .ok (.iload_n 3, 1) := by decide +kernel
theorem dX6_sure_81 : decode cX6_sure 81 = .ok (.iaload, 1) := by decide +kernel
theorem dX6_sure_82 : decode cX6_sure 82 = .ok (.iload_n 2, 1) := by decide +kernel
theorem dX6_sure_83 : decode cX6_sure 83 = .ok (.invokestatic 230, 3) := by decide +kernel
theorem dX6_sure_86 : decode cX6_sure 86 = .ok (.ifCond .eq 7, 3) := by decide +kernel
theorem dX6_sure_89 : decode cX6_sure 89 = .ok (.iconst 1, 1) := by decide +kernel
theorem dX6_sure_90 : decode cX6_sure 90 = .ok (.goto 4, 3) := by decide +kernel
theorem dX6_sure_93 : decode cX6_sure 93 = .ok (.iconst 0, 1) := by decide +kernel
theorem dX6_sure_94 : decode cX6_sure 94 = .ok (.ireturn, 1) := by decide +kernel
theorem dX6_firsts_0 : decode cX6_firsts 0 = .ok (.iload_n 1, 1) := by decide +kernel
theorem dX6_firsts_1 : decode cX6_firsts 1 = .ok (.iconst 0, 1) := by decide +kernel
theorem dX6_firsts_2 : decode cX6_firsts 2 = .ok (.sipush 1023, 3) := by decide +kernel
theorem dX6_firsts_5 : decode cX6_firsts 5 = .ok (.invokestatic 63, 3) := by decide +kernel
theorem dX6_firsts_8 : decode cX6_firsts 8 = .ok (.ifCond .ne 6, 3) := by decide +kernel
theorem dX6_firsts_11 : decode cX6_firsts 11 = .ok (.bipush (-2), 2) := by decide +kernel
theorem dX6_firsts_13 : decode cX6_firsts 13 = .ok (.ireturn, 1) := by decide +kernel
theorem dX6_firsts_14 : decode cX6_firsts 14 = .ok (.aload_n 0, 1) := by decide +kernel
theorem dX6_firsts_15 : decode cX6_firsts 15 = .ok (.iload_n 1, 1) := by decide +kernel
theorem dX6_firsts_16 : decode cX6_firsts 16 = .ok (.invokevirtual 224, 3) := by decide +kernel
theorem dX6_firsts_19 : decode cX6_firsts 19 = .ok (.istore_n 2, 1) := by decide +kernel
theorem dX6_firsts_20 : decode cX6_firsts 20 = .ok (.aload_n 0, 1) := by decide +kernel
theorem dX6_firsts_21 : decode cX6_firsts 21 = .ok (.getfield 48, 3) := by decide +kernel
theorem dX6_firsts_24 : decode cX6_firsts 24 = .ok (.iload_n 2, 1) := by decide +kernel
theorem dX6_firsts_25 : decode cX6_firsts 25 = .ok (.invokevirtual 234, 3) := by decide +kernel
theorem dX6_firsts_28 : decode cX6_firsts 28 = .ok (.ifCond .eq 14, 3) := by decide +kernel
theorem dX6_firsts_31 : decode cX6_firsts 31 = .ok (.aload_n 0, 1) := by decide +kernel
theorem dX6_firsts_32 : decode cX6_firsts 32 = .ok (.getfield 48, 3) := by decide +kernel
theorem dX6_firsts_35 : decode cX6_firsts 35 = .ok (.iload_n 2, 1) := by decide +kernel
theorem dX6_firsts_36 : decode cX6_firsts 36 = .ok (.invokevirtual 240, 3) := by decide +kernel
theorem dX6_firsts_39 : decode cX6_firsts 39 = .ok (.goto 4, 3) := by decide +kernel
theorem dX6_firsts_42 : decode cX6_firsts 42 = .ok (.iconst 0, 1) := by decide +kernel
theorem dX6_firsts_43 : decode cX6_firsts 43 = .ok (.ireturn, 1) := by decide +kernel
theorem dX6_night_0 : decode cX6_night 0 = .ok (.iload_n 2, 1) := by decide +kernel
theorem dX6_night_1 : decode cX6_night 1 = .ok (.iconst 1, 1) := by decide +kernel
theorem dX6_night_2 : decode cX6_night 2 = .ok (.bipush 60, 2) := by decide +kernel
theorem dX6_night_4 : decode cX6_night 4 = .ok (.invokestatic 63, 3) := by decide +kernel
theorem dX6_night_7 : decode cX6_night 7 = .ok (.ifCond .ne 9, 3) := by decide +kernel
theorem dX6_night_10 : decode cX6_night 10 = .ok (.bipush (-2), 2) := by decide +kernel
theorem dX6_night_12 : decode cX6_night 12 = .ok (.invokestatic 166, 3) := by decide +kernel
theorem dX6_night_15 : decode cX6_night 15 = .ok (.lreturn, 1) := by decide +kernel
theorem dX6_night_16 : decode cX6_night 16 = .ok (.aload_n 0, 1) := by decide +kernel
theorem dX6_night_17 : decode cX6_night 17 = .ok (.getfield 11, 3) := by decide +kernel
theorem dX6_night_20 : decode cX6_night 20 = .ok (.iconst 0, 1) := by decide +kernel
theorem dX6_night_21 : decode cX6_night 21 = .ok (.aaload, 1) := by decide +kernel
theorem dX6_night_22 : decode cX6_night 22 = .ok (.getfield 243, 3) := by decide +kernel
theorem dX6_night_25 : decode cX6_night 25 = .ok (.istore_n 3, 1) := by decide +kernel
theorem dX6_night_26 : decode cX6_night 26 = .ok (.iload_n 1, 1) := by decide +kernel
theorem dX6_night_27 : decode cX6_night 27 = .ok (.istore 4, 2) := by decide +kernel
theorem dX6_night_29 : decode cX6_night 29 = .ok (.lconst 0, 1) := by decide +kernel
theorem dX6_night_30 : decode cX6_night 30 = .ok (.lstore 5, 2) := by decide +kernel
theorem dX6_night_32 : decode cX6_night 32 = .ok (.iconst 0, 1) := by decide +kernel
theorem dX6_night_33 : decode cX6_night 33 = .ok (.istore 7, 2) := by decide +kernel
theorem dX6_night_35 : decode cX6_night 35 = .ok (.iload 7, 2) := by decide +kernel
theorem dX6_night_37 : decode cX6_night 37 = .ok (.iload_n 2, 1) := by decide +kernel
theorem dX6_night_38 : decode cX6_night 38 = .ok (.if_icmp .ge 110, 3) := by decide +kernel
theorem dX6_night_41 : decode cX6_night 41 = .ok (.iload_n 3, 1) := by decide +kernel
theorem dX6_night_42 : decode cX6_night 42 = .ok (.istore 8, 2) := by decide +kernel
theorem dX6_night_44 : decode cX6_night 44 = .ok (.aload_n 0, 1) := by decide +kernel
theorem dX6_night_45 : decode cX6_night 45 = .ok (.getfield 27, 3) := by decide +kernel
theorem dX6_night_48 : decode cX6_night 48 = .ok (.getfield 180, 3) := by decide +kernel
theorem dX6_night_51 : decode cX6_night 51 = .ok (.istore 9, 2) := by decide +kernel
theorem dX6_night_53 : decode cX6_night 53 = .ok (.aload_n 0, 1) := by decide +kernel
theorem dX6_night_54 : decode cX6_night 54 = .ok (.getfield 11, 3) := by decide +kernel
theorem dX6_night_57 : decode cX6_night 57 = .ok (.iconst 0, 1) := by decide +kernel
theorem dX6_night_58 : decode cX6_night 58 = .ok (.aaload, 1) := by decide +kernel
theorem dX6_night_59 : decode cX6_night 59 = .ok (.getfield 108, 3) := by decide +kernel
theorem dX6_night_62 : decode cX6_night 62 = .ok (.istore 10, 2) := by decide +kernel
theorem dX6_night_64 : decode cX6_night 64 = .ok (.iload 10, 2) := by decide +kernel
theorem dX6_night_66 : decode cX6_night 66 = .ok (.ifCond .le 76, 3) := by decide +kernel
theorem dX6_night_69 : decode cX6_night 69 = .ok (.iload 4, 2) := by decide +kernel
theorem dX6_night_71 : decode cX6_night 71 = .ok (.ldc 246, 2) := by decide +kernel
theorem dX6_night_73 : decode cX6_night 73 = .ok (.imul, 1) := by decide +kernel
theorem dX6_night_74 : decode cX6_night 74 = .ok (.sipush 12345, 3) := by decide +kernel
theorem dX6_night_77 : decode cX6_night 77 = .ok (.iadd, 1) := by decide +kernel
theorem dX6_night_78 : decode cX6_night 78 = .ok (.istore 4, 2) := by decide +kernel
theorem dX6_night_80 : decode cX6_night 80 = .ok (.iload 8, 2) := by decide +kernel
theorem dX6_night_82 : decode cX6_night 82 = .ok (.iload 4, 2) := by decide +kernel
theorem dX6_night_84 : decode cX6_night 84 = .ok (.bipush 16, 2) := by decide +kernel
theorem dX6_night_86 : decode cX6_night 86 = .ok (.iushr, 1) := by decide +kernel
theorem dX6_night_87 : decode cX6_night 87 = .ok (.iload 10, 2) := by decide +kernel
theorem dX6_night_89 : decode cX6_night 89 = .ok (.irem, 1) := by decide +kernel
theorem dX6_night_90 : decode cX6_night 90 = .ok (.invokestatic 247, 3) := by decide +kernel
theorem dX6_night_93 : decode cX6_night 93 = .ok (.istore 11, 2) := by decide +kernel
theorem dX6_night_95 : decode cX6_night 95 = .ok (.lload 5, 2) := by decide +kernel
theorem dX6_night_97 : decode cX6_night 97 = .ok (.aload_n 0, 1) := by decide +kernel
theorem dX6_night_98 : decode cX6_night 98 = .ok (.getfield 27, 3) := by decide +kernel
theorem dX6_night_101 : decode cX6_night 101 = .ok (.iload 11, 2) := by decide +kernel
theorem dX6_night_103 : decode cX6_night 103 = .ok (.iload 9, 2) := by decide +kernel
theorem dX6_night_105 : decode cX6_night 105 = .ok (.invokevirtual 250, 3) := by decide +kernel
theorem dX6_night_108 : decode cX6_night 108 = .ok (.i2l, 1) := by decide +kernel
theorem dX6_night_109 : decode cX6_night 109 = .ok (.ladd, 1) := by decide +kernel
theorem dX6_night_110 : decode cX6_night 110 = .ok (.lstore 5, 2) := by decide +kernel
theorem dX6_night_112 : decode cX6_night 112 = .ok (.iload 8, 2) := by decide +kernel
theorem dX6_night_114 : decode cX6_night 114 = .ok (.iload 11, 2) := by decide +kernel
theorem dX6_night_116 : decode cX6_night 116 = .ok (.invokestatic 117, 3) := by decide +kernel
theorem dX6_night_119 : decode cX6_night 119 = .ok (.iconst (-1), 1) := by decide +kernel
theorem dX6_night_120 : decode cX6_night 120 = .ok (.ixor, 1) := by decide +kernel
theorem dX6_night_121 : decode cX6_night 121 = .ok (.iand, 1) := by decide +kernel
theorem dX6_night_122 : decode cX6_night 122 = .ok (.istore 8, 2) := by decide +kernel
theorem dX6_night_124 : decode cX6_night 124 = .ok (.iload 9, 2) := by decide +kernel
theorem dX6_night_126 : decode cX6_night 126 = .ok (.iload 11, 2) := by decide +kernel
theorem dX6_night_128 : decode cX6_night 128 = .ok (.invokestatic 117, 3) := by decide +kernel
theorem dX6_night_131 : decode cX6_night 131 = .ok (.iconst (-1), 1) := by decide +kernel
theorem dX6_night_132 : decode cX6_night 132 = .ok (.ixor, 1) := by decide +kernel
theorem dX6_night_133 : decode cX6_night 133 = .ok (.iand, 1) := by decide +kernel
theorem dX6_night_134 : decode cX6_night 134 = .ok (.istore 9, 2) := by decide +kernel
theorem dX6_night_136 : decode cX6_night 136 = .ok (.iinc 10 (-1), 3) := by decide +kernel
theorem dX6_night_139 : decode cX6_night 139 = .ok (.goto (-75), 3) := by decide +kernel
theorem dX6_night_142 : decode cX6_night 142 = .ok (.iinc 7 1, 3) := by decide +kernel
theorem dX6_night_145 : decode cX6_night 145 = .ok (.goto (-110), 3) := by decide +kernel
theorem dX6_night_148 : decode cX6_night 148 = .ok (.lload 5, 2) := by decide +kernel
theorem dX6_night_150 : decode cX6_night 150 = .ok (.lreturn, 1) := by decide +kernel
theorem dX6_sheet_0 : decode cX6_sheet 0 = .ok (.iload_n 1, 1) := by decide +kernel
theorem dX6_sheet_1 : decode cX6_sheet 1 = .ok (.invokestatic 90, 3) := by decide +kernel
theorem dX6_sheet_4 : decode cX6_sheet 4 = .ok (.ifCond .eq 16, 3) := by decide +kernel
theorem dX6_sheet_7 : decode cX6_sheet 7 = .ok (.iload_n 2, 1) := by decide +kernel
theorem dX6_sheet_8 : decode cX6_sheet 8 = .ok (.invokestatic 253, 3) := by decide +kernel
theorem dX6_sheet_11 : decode cX6_sheet 11 = .ok (.ifCond .eq 9, 3) := by decide +kernel
theorem dX6_sheet_14 : decode cX6_sheet 14 = .ok (.iload_n 3, 1) := by decide +kernel
theorem dX6_sheet_15 : decode cX6_sheet 15 = .ok (.bipush 48, 2) := by decide +kernel
theorem dX6_sheet_17 : decode cX6_sheet 17 = .ok (.if_icmp .le 6, 3) := by decide +kernel
theorem dX6_sheet_20 : decode cX6_sheet 20 = .ok (.bipush (-2), 2) := by decide +kernel
theorem dX6_sheet_22 : decode cX6_sheet 22 = .ok (.ireturn, 1) := by decide +kernel
theorem dX6_sheet_23 : decode cX6_sheet 23 = .ok (.iload_n 3, 1) := by decide +kernel
theorem dX6_sheet_24 : decode cX6_sheet 24 = .ok (.ifCond .ge 9, 3) := by decide +kernel
theorem dX6_sheet_27 : decode cX6_sheet 27 = .ok (.aload_n 0, 1) := by decide +kernel
theorem dX6_sheet_28 : decode cX6_sheet 28 = .ok (.iconst 5, 1) := by decide +kernel
theorem dX6_sheet_29 : decode cX6_sheet 29 = .ok (.invokevirtual 97, 3) := by decide +kernel
theorem dX6_sheet_32 : decode cX6_sheet 32 = .ok (.ireturn, 1) := by decide +kernel
theorem dX6_sheet_33 : decode cX6_sheet 33 = .ok (.aload_n 0, 1) := by decide +kernel
theorem dX6_sheet_34 : decode cX6_sheet 34 = .ok (.getfield 54, 3) := by decide +kernel
theorem dX6_sheet_37 : decode cX6_sheet 37 = .ok (.iload_n 1, 1) := by decide +kernel
theorem dX6_sheet_38 : decode cX6_sheet 38 = .ok (.aaload, 1) := by decide +kernel
theorem dX6_sheet_39 : decode cX6_sheet 39 = .ok (.iload_n 2, 1) := by decide +kernel
theorem dX6_sheet_40 : decode cX6_sheet 40 = .ok (.iload_n 3, 1) := by decide +kernel
theorem dX6_sheet_41 : decode cX6_sheet 41 = .ok (.invokevirtual 256, 3) := by decide +kernel
theorem dX6_sheet_44 : decode cX6_sheet 44 = .ok (.iload_n 3, 1) := by decide +kernel
theorem dX6_sheet_45 : decode cX6_sheet 45 = .ok (.ireturn, 1) := by decide +kernel
theorem dX6_lose_0 : decode cX6_lose 0 = .ok (.iload_n 1, 1) := by decide +kernel
theorem dX6_lose_1 : decode cX6_lose 1 = .ok (.invokestatic 90, 3) := by decide +kernel
theorem dX6_lose_4 : decode cX6_lose 4 = .ok (.ifCond .ne 6, 3) := by decide +kernel
theorem dX6_lose_7 : decode cX6_lose 7 = .ok (.bipush (-2), 2) := by decide +kernel
theorem dX6_lose_9 : decode cX6_lose 9 = .ok (.ireturn, 1) := by decide +kernel
theorem dX6_lose_10 : decode cX6_lose 10 = .ok (.aload_n 0, 1) := by decide +kernel
theorem dX6_lose_11 : decode cX6_lose 11 = .ok (.getfield 54, 3) := by decide +kernel
theorem dX6_lose_14 : decode cX6_lose 14 = .ok (.iload_n 1, 1) := by decide +kernel
theorem dX6_lose_15 : decode cX6_lose 15 = .ok (.aaload, 1) := by decide +kernel
theorem dX6_lose_16 : decode cX6_lose 16 = .ok (.getfield 93, 3) := by decide +kernel
theorem dX6_lose_19 : decode cX6_lose 19 = .ok (.ifCond .eq 9, 3) := by decide +kernel
theorem dX6_lose_22 : decode cX6_lose 22 = .ok (.aload_n 0, 1) := by decide +kernel
theorem dX6_lose_23 : decode cX6_lose 23 = .ok (.iconst 1, 1) := by decide +kernel
theorem dX6_lose_24 : decode cX6_lose 24 = .ok (.invokevirtual 97, 3) := by decide +kernel
theorem dX6_lose_27 : decode cX6_lose 27 = .ok (.ireturn, 1) := by decide +kernel
theorem dX6_lose_28 : decode cX6_lose 28 = .ok (.aload_n 0, 1) := by decide +kernel
theorem dX6_lose_29 : decode cX6_lose 29 = .ok (.getfield 54, 3) := by decide +kernel
theorem dX6_lose_32 : decode cX6_lose 32 = .ok (.iload_n 1, 1) := by decide +kernel
theorem dX6_lose_33 : decode cX6_lose 33 = .ok (.aaload, 1) := by decide +kernel
theorem dX6_lose_34 : decode cX6_lose 34 = .ok (.iconst 1, 1) := by decide +kernel
theorem dX6_lose_35 : decode cX6_lose 35 = .ok (.putfield 93, 3) := by decide +kernel
theorem dX6_lose_38 : decode cX6_lose 38 = .ok (.aload_n 0, 1) := by decide +kernel
theorem dX6_lose_39 : decode cX6_lose 39 = .ok (.getfield 54, 3) := by decide +kernel
theorem dX6_lose_42 : decode cX6_lose 42 = .ok (.iload_n 1, 1) := by decide +kernel
theorem dX6_lose_43 : decode cX6_lose 43 = .ok (.aaload, 1) := by decide +kernel
theorem dX6_lose_44 : decode cX6_lose 44 = .ok (.getfield 101, 3) := by decide +kernel
theorem dX6_lose_47 : decode cX6_lose 47 = .ok (.ireturn, 1) := by decide +kernel
theorem dX6_put_0 : decode cX6_put 0 = .ok (.iload_n 1, 1) := by decide +kernel
theorem dX6_put_1 : decode cX6_put 1 = .ok (.invokestatic 90, 3) := by decide +kernel
theorem dX6_put_4 : decode cX6_put 4 = .ok (.ifCond .eq 10, 3) := by decide +kernel
theorem dX6_put_7 : decode cX6_put 7 = .ok (.iload_n 2, 1) := by decide +kernel
theorem dX6_put_8 : decode cX6_put 8 = .ok (.invokestatic 253, 3) := by decide +kernel
theorem dX6_put_11 : decode cX6_put 11 = .ok (.ifCond .ne 6, 3) := by decide +kernel
theorem dX6_put_14 : decode cX6_put 14 = .ok (.bipush (-2), 2) := by decide +kernel
theorem dX6_put_16 : decode cX6_put 16 = .ok (.ireturn, 1) := by decide +kernel
theorem dX6_put_17 : decode cX6_put 17 = .ok (.aload_n 0, 1) := by decide +kernel
theorem dX6_put_18 : decode cX6_put 18 = .ok (.iload_n 1, 1) := by decide +kernel
theorem dX6_put_19 : decode cX6_put 19 = .ok (.iload_n 2, 1) := by decide +kernel
theorem dX6_put_20 : decode cX6_put 20 = .ok (.iload_n 3, 1) := by decide +kernel
theorem dX6_put_21 : decode cX6_put 21 = .ok (.invokevirtual 259, 3) := by decide +kernel
theorem dX6_put_24 : decode cX6_put 24 = .ok (.istore 5, 2) := by decide +kernel
theorem dX6_put_26 : decode cX6_put 26 = .ok (.iload 5, 2) := by decide +kernel
theorem dX6_put_28 : decode cX6_put 28 = .ok (.ifCond .eq 10, 3) := by decide +kernel
theorem dX6_put_31 : decode cX6_put 31 = .ok (.aload_n 0, 1) := by decide +kernel
theorem dX6_put_32 : decode cX6_put 32 = .ok (.iload 5, 2) := by decide +kernel
theorem dX6_put_34 : decode cX6_put 34 = .ok (.invokevirtual 97, 3) := by decide +kernel
theorem dX6_put_37 : decode cX6_put 37 = .ok (.ireturn, 1) := by decide +kernel
theorem dX6_put_38 : decode cX6_put 38 = .ok (.aload_n 0, 1) := by decide +kernel
theorem dX6_put_39 : decode cX6_put 39 = .ok (.getfield 54, 3) := by decide +kernel
theorem dX6_put_42 : decode cX6_put 42 = .ok (.iload_n 1, 1) := by decide +kernel
theorem dX6_put_43 : decode cX6_put 43 = .ok (.aaload, 1) := by decide +kernel
theorem dX6_put_44 : decode cX6_put 44 = .ok (.getfield 102, 3) := by decide +kernel
theorem dX6_put_47 : decode cX6_put 47 = .ok (.iload_n 3, 1) := by decide +kernel
theorem dX6_put_48 : decode cX6_put 48 = .ok (.iload_n 2, 1) := by decide +kernel
theorem dX6_put_49 : decode cX6_put 49 = .ok (.iload 4, 2) := by decide +kernel
theorem dX6_put_51 : decode cX6_put 51 = .ok (.invokestatic 262, 3) := by decide +kernel
theorem dX6_put_54 : decode cX6_put 54 = .ok (.iastore, 1) := by decide +kernel
theorem dX6_put_55 : decode cX6_put 55 = .ok (.iconst 1, 1) := by decide +kernel
theorem dX6_put_56 : decode cX6_put 56 = .ok (.ireturn, 1) := by decide +kernel
theorem dX6_get_0 : decode cX6_get 0 = .ok (.iload_n 1, 1) := by decide +kernel
theorem dX6_get_1 : decode cX6_get 1 = .ok (.invokestatic 90, 3) := by decide +kernel
theorem dX6_get_4 : decode cX6_get 4 = .ok (.ifCond .eq 10, 3) := by decide +kernel
theorem dX6_get_7 : decode cX6_get 7 = .ok (.iload_n 2, 1) := by decide +kernel
theorem dX6_get_8 : decode cX6_get 8 = .ok (.invokestatic 253, 3) := by decide +kernel
theorem dX6_get_11 : decode cX6_get 11 = .ok (.ifCond .ne 7, 3) := by decide +kernel
theorem dX6_get_14 : decode cX6_get 14 = .ok (.ldc_w 265, 3) := by decide +kernel
theorem dX6_get_17 : decode cX6_get 17 = .ok (.ireturn, 1) := by decide +kernel
theorem dX6_get_18 : decode cX6_get 18 = .ok (.aload_n 0, 1) := by decide +kernel
theorem dX6_get_19 : decode cX6_get 19 = .ok (.iload_n 1, 1) := by decide +kernel
theorem dX6_get_20 : decode cX6_get 20 = .ok (.iload_n 2, 1) := by decide +kernel
theorem dX6_get_21 : decode cX6_get 21 = .ok (.iload_n 3, 1) := by decide +kernel
theorem dX6_get_22 : decode cX6_get 22 = .ok (.invokevirtual 259, 3) := by decide +kernel
theorem dX6_get_25 : decode cX6_get 25 = .ok (.istore 4, 2) := by decide +kernel
theorem dX6_get_27 : decode cX6_get 27 = .ok (.iload 4, 2) := by decide +kernel
theorem dX6_get_29 : decode cX6_get 29 = .ok (.ifCond .eq 13, 3) := by decide +kernel
theorem dX6_get_32 : decode cX6_get 32 = .ok (.aload_n 0, 1) := by decide +kernel
theorem dX6_get_33 : decode cX6_get 33 = .ok (.iload 4, 2) := by decide +kernel
theorem dX6_get_35 : decode cX6_get 35 = .ok (.putfield 266, 3) := by decide +kernel
theorem dX6_get_38 : decode cX6_get 38 = .ok (.ldc_w 265, 3) := by decide +kernel
theorem dX6_get_41 : decode cX6_get 41 = .ok (.ireturn, 1) := by decide +kernel
theorem dX6_get_42 : decode cX6_get 42 = .ok (.aload_n 0, 1) := by decide +kernel
theorem dX6_get_43 : decode cX6_get 43 = .ok (.getfield 54, 3) := by decide +kernel
theorem dX6_get_46 : decode cX6_get 46 = .ok (.iload_n 1, 1) := by decide +kernel
theorem dX6_get_47 : decode cX6_get 47 = .ok (.aaload, 1) := by decide +kernel
theorem dX6_get_48 : decode cX6_get 48 = .ok (.getfield 102, 3) := by decide +kernel
theorem dX6_get_51 : decode cX6_get 51 = .ok (.iload_n 3, 1) := by decide +kernel
theorem dX6_get_52 : decode cX6_get 52 = .ok (.iaload, 1) := by decide +kernel
theorem dX6_get_53 : decode cX6_get 53 = .ok (.ireturn, 1) := by decide +kernel
theorem dX6_copy_0 : decode cX6_copy 0 = .ok (.iload_n 1, 1) := by decide +kernel
theorem dX6_copy_1 : decode cX6_copy 1 = .ok (.invokestatic 90, 3) := by decide +kernel
theorem dX6_copy_4 : decode cX6_copy 4 = .ok (.ifCond .eq 10, 3) := by decide +kernel
theorem dX6_copy_7 : decode cX6_copy 7 = .ok (.iload_n 3, 1) := by decide +kernel
theorem dX6_copy_8 : decode cX6_copy 8 = .ok (.invokestatic 90, 3) := by decide +kernel
theorem dX6_copy_11 : decode cX6_copy 11 = .ok (.ifCond .ne 6, 3) := by decide +kernel
theorem dX6_copy_14 : decode cX6_copy 14 = .ok (.bipush (-2), 2) := by decide +kernel
theorem dX6_copy_16 : decode cX6_copy 16 = .ok (.ireturn, 1) := by decide +kernel
theorem dX6_copy_17 : decode cX6_copy 17 = .ok (.aload_n 0, 1) := by decide +kernel
theorem dX6_copy_18 : decode cX6_copy 18 = .ok (.getfield 54, 3) := by decide +kernel
theorem dX6_copy_21 : decode cX6_copy 21 = .ok (.iload_n 1, 1) := by decide +kernel
theorem dX6_copy_22 : decode cX6_copy 22 = .ok (.aaload, 1) := by decide +kernel
theorem dX6_copy_23 : decode cX6_copy 23 = .ok (.astore 6, 2) := by decide +kernel
theorem dX6_copy_25 : decode cX6_copy 25 = .ok (.aload_n 0, 1) := by decide +kernel
theorem dX6_copy_26 : decode cX6_copy 26 = .ok (.getfield 54, 3) := by decide +kernel
theorem dX6_copy_29 : decode cX6_copy 29 = .ok (.iload_n 3, 1) := by decide +kernel
theorem dX6_copy_30 : decode cX6_copy 30 = .ok (.aaload, 1) := by decide +kernel
theorem dX6_copy_31 : decode cX6_copy 31 = .ok (.astore 7, 2) := by decide +kernel
theorem dX6_copy_33 : decode cX6_copy 33 = .ok (.aload 6, 2) := by decide +kernel
theorem dX6_copy_35 : decode cX6_copy 35 = .ok (.getfield 93, 3) := by decide +kernel
theorem dX6_copy_38 : decode cX6_copy 38 = .ok (.ifCond .ne 11, 3) := by decide +kernel
theorem dX6_copy_41 : decode cX6_copy 41 = .ok (.aload 7, 2) := by decide +kernel
theorem dX6_copy_43 : decode cX6_copy 43 = .ok (.getfield 93, 3) := by decide +kernel
theorem dX6_copy_46 : decode cX6_copy 46 = .ok (.ifCond .eq 9, 3) := by decide +kernel
theorem dX6_copy_49 : decode cX6_copy 49 = .ok (.aload_n 0, 1) := by decide +kernel
theorem dX6_copy_50 : decode cX6_copy 50 = .ok (.iconst 1, 1) := by decide +kernel
theorem dX6_copy_51 : decode cX6_copy 51 = .ok (.invokevirtual 97, 3) := by decide +kernel
theorem dX6_copy_54 : decode cX6_copy 54 = .ok (.ireturn, 1) := by decide +kernel
theorem dX6_copy_55 : decode cX6_copy 55 = .ok (.aload 6, 2) := by decide +kernel
theorem dX6_copy_57 : decode cX6_copy 57 = .ok (.getfield 269, 3) := by decide +kernel
theorem dX6_copy_60 : decode cX6_copy 60 = .ok (.aload 7, 2) := by decide +kernel
theorem dX6_copy_62 : decode cX6_copy 62 = .ok (.getfield 269, 3) := by decide +kernel
theorem dX6_copy_65 : decode cX6_copy 65 = .ok (.if_icmp .eq 9, 3) := by decide +kernel
theorem dX6_copy_68 : decode cX6_copy 68 = .ok (.aload_n 0, 1) := by decide +kernel
theorem dX6_copy_69 : decode cX6_copy 69 = .ok (.iconst 4, 1) := by decide +kernel
theorem dX6_copy_70 : decode cX6_copy 70 = .ok (.invokevirtual 97, 3) := by decide +kernel
theorem dX6_copy_73 : decode cX6_copy 73 = .ok (.ireturn, 1) := by decide +kernel
theorem dX6_copy_74 : decode cX6_copy 74 = .ok (.aload 6, 2) := by decide +kernel
theorem dX6_copy_76 : decode cX6_copy 76 = .ok (.iload_n 2, 1) := by decide +kernel
theorem dX6_copy_77 : decode cX6_copy 77 = .ok (.iload 5, 2) := by decide +kernel
theorem dX6_copy_79 : decode cX6_copy 79 = .ok (.invokevirtual 272, 3) := by decide +kernel
theorem dX6_copy_82 : decode cX6_copy 82 = .ok (.ifCond .eq 15, 3) := by decide +kernel
theorem dX6_copy_85 : decode cX6_copy 85 = .ok (.aload 7, 2) := by decide +kernel
theorem dX6_copy_87 : decode cX6_copy 87 = .ok (.iload 4, 2) := by decide +kernel
theorem dX6_copy_89 : decode cX6_copy 89 = .ok (.iload 5, 2) := by decide +kernel
theorem dX6_copy_91 : decode cX6_copy 91 = .ok (.invokevirtual 272, 3) := by decide +kernel
theorem dX6_copy_94 : decode cX6_copy 94 = .ok (.ifCond .ne 9, 3) := by decide +kernel
theorem dX6_copy_97 : decode cX6_copy 97 = .ok (.aload_n 0, 1) := by decide +kernel
theorem dX6_copy_98 : decode cX6_copy 98 = .ok (.iconst 2, 1) := by decide +kernel
theorem dX6_copy_99 : decode cX6_copy 99 = .ok (.invokevirtual 97, 3) := by decide +kernel
theorem dX6_copy_102 : decode cX6_copy 102 = .ok (.ireturn, 1) := by decide +kernel
theorem dX6_copy_103 : decode cX6_copy 103 = .ok (.aload 6, 2) := by decide +kernel
theorem dX6_copy_105 : decode cX6_copy 105 = .ok (.getfield 102, 3) := by decide +kernel
theorem dX6_copy_108 : decode cX6_copy 108 = .ok (.iload_n 2, 1) := by decide +kernel
theorem dX6_copy_109 : decode cX6_copy 109 = .ok (.aload 7, 2) := by decide +kernel
theorem dX6_copy_111 : decode cX6_copy 111 = .ok (.getfield 102, 3) := by decide +kernel
theorem dX6_copy_114 : decode cX6_copy 114 = .ok (.iload 4, 2) := by decide +kernel
theorem dX6_copy_116 : decode cX6_copy 116 = .ok (.iload 5, 2) := by decide +kernel
theorem dX6_copy_118 : decode cX6_copy 118 = .ok (.invokestatic 275, 3) := by decide +kernel
theorem dX6_copy_121 : decode cX6_copy 121 = .ok (.iconst 1, 1) := by decide +kernel
theorem dX6_copy_122 : decode cX6_copy 122 = .ok (.ireturn, 1) := by decide +kernel
theorem dX6_write_0 : decode cX6_write 0 = .ok (.iload_n 1, 1) := by decide +kernel
theorem dX6_write_1 : decode cX6_write 1 = .ok (.invokestatic 90, 3) := by decide +kernel
theorem dX6_write_4 : decode cX6_write 4 = .ok (.ifCond .ne 6, 3) := by decide +kernel
theorem dX6_write_7 : decode cX6_write 7 = .ok (.bipush (-2), 2) := by decide +kernel
theorem dX6_write_9 : decode cX6_write 9 = .ok (.ireturn, 1) := by decide +kernel
theorem dX6_write_10 : decode cX6_write 10 = .ok (.aload_n 0, 1) := by decide +kernel
theorem dX6_write_11 : decode cX6_write 11 = .ok (.getfield 54, 3) := by decide +kernel
theorem dX6_write_14 : decode cX6_write 14 = .ok (.iload_n 1, 1) := by decide +kernel
theorem dX6_write_15 : decode cX6_write 15 = .ok (.aaload, 1) := by decide +kernel
theorem dX6_write_16 : decode cX6_write 16 = .ok (.astore_n 2, 1) := by decide +kernel
theorem dX6_write_17 : decode cX6_write 17 = .ok (.aload_n 2, 1) := by decide +kernel
theorem dX6_write_18 : decode cX6_write 18 = .ok (.getfield 93, 3) := by decide +kernel
theorem dX6_write_21 : decode cX6_write 21 = .ok (.ifCond .eq 9, 3) := by decide +kernel
theorem dX6_write_24 : decode cX6_write 24 = .ok (.aload_n 0, 1) := by decide +kernel
theorem dX6_write_25 : decode cX6_write 25 = .ok (.iconst 1, 1) := by decide +kernel
theorem dX6_write_26 : decode cX6_write 26 = .ok (.invokevirtual 97, 3) := by decide +kernel
theorem dX6_write_29 : decode cX6_write 29 = .ok (.ireturn, 1) := by decide +kernel
theorem dX6_write_30 : decode cX6_write 30 = .ok (.aload_n 2, 1) := by decide +kernel
theorem dX6_write_31 : decode cX6_write 31 = .ok (.getfield 101, 3) := by decide +kernel
theorem dX6_write_34 : decode cX6_write 34 = .ok (.aload_n 0, 1) := by decide +kernel
theorem dX6_write_35 : decode cX6_write 35 = .ok (.getfield 27, 3) := by decide +kernel
theorem dX6_write_38 : decode cX6_write 38 = .ok (.getfield 177, 3) := by decide +kernel
theorem dX6_write_41 : decode cX6_write 41 = .ok (.invokestatic 281, 3) := by decide +kernel
theorem dX6_write_44 : decode cX6_write 44 = .ok (.istore_n 3, 1) := by decide +kernel
theorem dX6_write_45 : decode cX6_write 45 = .ok (.iconst 0, 1) := by decide +kernel
theorem dX6_write_46 : decode cX6_write 46 = .ok (.istore 4, 2) := by decide +kernel
theorem dX6_write_48 : decode cX6_write 48 = .ok (.iload 4, 2) := by decide +kernel
theorem dX6_write_50 : decode cX6_write 50 = .ok (.iload_n 3, 1) := by decide +kernel
theorem dX6_write_51 : decode cX6_write 51 = .ok (.if_icmp .ge 34, 3) := by decide +kernel
theorem dX6_write_54 : decode cX6_write 54 = .ok (.aload_n 2, 1) := by decide +kernel
theorem dX6_write_55 : decode cX6_write 55 = .ok (.getfield 102, 3) := by decide +kernel
theorem dX6_write_58 : decode cX6_write 58 = .ok (.iload 4, 2) := by decide +kernel
theorem dX6_write_60 : decode cX6_write 60 = .ok (.aload_n 0, 1) := by decide +kernel
theorem dX6_write_61 : decode cX6_write 61 = .ok (.getfield 27, 3) := by decide +kernel
theorem dX6_write_64 : decode cX6_write 64 = .ok (.getfield 127, 3) := by decide +kernel
theorem dX6_write_67 : decode cX6_write 67 = .ok (.aload_n 0, 1) := by decide +kernel
theorem dX6_write_68 : decode cX6_write 68 = .ok (.getfield 27, 3) := by decide +kernel
theorem dX6_write_71 : decode cX6_write 71 = .ok (.getfield 192, 3) := by decide +kernel
theorem dX6_write_74 : decode cX6_write 74 = .ok (.iload 4, 2) := by decide +kernel
theorem dX6_write_76 : decode cX6_write 76 = .ok (.iaload, 1) := by decide +kernel
theorem dX6_write_77 : decode cX6_write 77 = .ok (.iaload, 1) := by decide +kernel
theorem dX6_write_78 : decode cX6_write 78 = .ok (.iastore, 1) := by decide +kernel
theorem dX6_write_79 : decode cX6_write 79 = .ok (.iinc 4 1, 3) := by decide +kernel
theorem dX6_write_82 : decode cX6_write 82 = .ok (.goto (-34), 3) := by decide +kernel
theorem dX6_write_85 : decode cX6_write 85 = .ok (.iload_n 3, 1) := by decide +kernel
theorem dX6_write_86 : decode cX6_write 86 = .ok (.ireturn, 1) := by decide +kernel
theorem dX6_count_0 : decode cX6_count 0 = .ok (.iload_n 1, 1) := by decide +kernel
theorem dX6_count_1 : decode cX6_count 1 = .ok (.tableswitch 127 0 8 #[51, 61, 71, 81, 92, 100, 108, 115, 122], 51) := by decide +kernel
theorem dX6_count_52 : decode cX6_count 52 = .ok (.aload_n 0, 1) := by decide +kernel
theorem dX6_count_53 : decode cX6_count 53 = .ok (.getfield 11, 3) := by decide +kernel
theorem dX6_count_56 : decode cX6_count 56 = .ok (.iconst 0, 1) := by decide +kernel
theorem dX6_count_57 : decode cX6_count 57 = .ok (.aaload, 1) := by decide +kernel
theorem dX6_count_58 : decode cX6_count 58 = .ok (.getfield 108, 3) := by decide +kernel
theorem dX6_count_61 : decode cX6_count 61 = .ok (.ireturn, 1) := by decide +kernel
theorem dX6_count_62 : decode cX6_count 62 = .ok (.aload_n 0, 1) := by decide +kernel
theorem dX6_count_63 : decode cX6_count 63 = .ok (.getfield 11, 3) := by decide +kernel
theorem dX6_count_66 : decode cX6_count 66 = .ok (.iconst 1, 1) := by decide +kernel
theorem dX6_count_67 : decode cX6_count 67 = .ok (.aaload, 1) := by decide +kernel
theorem dX6_count_68 : decode cX6_count 68 = .ok (.getfield 108, 3) := by decide +kernel
theorem dX6_count_71 : decode cX6_count 71 = .ok (.ireturn, 1) := by decide +kernel
theorem dX6_count_72 : decode cX6_count 72 = .ok (.aload_n 0, 1) := by decide +kernel
theorem dX6_count_73 : decode cX6_count 73 = .ok (.getfield 11, 3) := by decide +kernel
theorem dX6_count_76 : decode cX6_count 76 = .ok (.iconst 2, 1) := by decide +kernel
theorem dX6_count_77 : decode cX6_count 77 = .ok (.aaload, 1) := by decide +kernel
theorem dX6_count_78 : decode cX6_count 78 = .ok (.getfield 108, 3) := by decide +kernel
theorem dX6_count_81 : decode cX6_count 81 = .ok (.ireturn, 1) := by decide +kernel
theorem dX6_count_82 : decode cX6_count 82 = .ok (.aload_n 0, 1) := by decide +kernel
theorem dX6_count_83 : decode cX6_count 83 = .ok (.getfield 27, 3) := by decide +kernel
theorem dX6_count_86 : decode cX6_count 86 = .ok (.getfield 180, 3) := by decide +kernel
theorem dX6_count_89 : decode cX6_count 89 = .ok (.invokestatic 183, 3) := by decide +kernel
theorem dX6_count_92 : decode cX6_count 92 = .ok (.ireturn, 1) := by decide +kernel
theorem dX6_count_93 : decode cX6_count 93 = .ok (.aload_n 0, 1) := by decide +kernel
theorem dX6_count_94 : decode cX6_count 94 = .ok (.getfield 27, 3) := by decide +kernel
theorem dX6_count_97 : decode cX6_count 97 = .ok (.invokevirtual 286, 3) := by decide +kernel
theorem dX6_count_100 : decode cX6_count 100 = .ok (.ireturn, 1) := by decide +kernel
theorem dX6_count_101 : decode cX6_count 101 = .ok (.aload_n 0, 1) := by decide +kernel
theorem dX6_count_102 : decode cX6_count 102 = .ok (.getfield 48, 3) := by decide +kernel
theorem dX6_count_105 : decode cX6_count 105 = .ok (.getfield 216, 3) := by decide +kernel
theorem dX6_count_108 : decode cX6_count 108 = .ok (.ireturn, 1) := by decide +kernel
theorem dX6_count_109 : decode cX6_count 109 = .ok (.aload_n 0, 1) := by decide +kernel
theorem dX6_count_110 : decode cX6_count 110 = .ok (.getfield 20, 3) := by decide +kernel
theorem dX6_count_113 : decode cX6_count 113 = .ok (.iconst 1, 1) := by decide +kernel
theorem dX6_count_114 : decode cX6_count 114 = .ok (.iaload, 1) := by decide +kernel
theorem dX6_count_115 : decode cX6_count 115 = .ok (.ireturn, 1) := by decide +kernel
theorem dX6_count_116 : decode cX6_count 116 = .ok (.aload_n 0, 1) := by decide +kernel
theorem dX6_count_117 : decode cX6_count 117 = .ok (.getfield 20, 3) := by decide +kernel
theorem dX6_count_120 : decode cX6_count 120 = .ok (.iconst 0, 1) := by decide +kernel
theorem dX6_count_121 : decode cX6_count 121 = .ok (.iaload, 1) := by decide +kernel
theorem dX6_count_122 : decode cX6_count 122 = .ok (.ireturn, 1) := by decide +kernel
theorem dX6_count_123 : decode cX6_count 123 = .ok (.aload_n 0, 1) := by decide +kernel
theorem dX6_count_124 : decode cX6_count 124 = .ok (.getfield 266, 3) := by decide +kernel
theorem dX6_count_127 : decode cX6_count 127 = .ok (.ireturn, 1) := by decide +kernel
theorem dX6_count_128 : decode cX6_count 128 = .ok (.bipush (-2), 2) := by decide +kernel
theorem dX6_count_130 : decode cX6_count 130 = .ok (.ireturn, 1) := by decide +kernel
theorem dX6_digest_0 : decode cX6_digest 0 = .ok (.aload_n 0, 1) := by decide +kernel
theorem dX6_digest_1 : decode cX6_digest 1 = .ok (.ldc2_w 287, 3) := by decide +kernel
theorem dX6_digest_4 : decode cX6_digest 4 = .ok (.invokevirtual 289, 3) := by decide +kernel
theorem dX6_digest_7 : decode cX6_digest 7 = .ok (.lstore_n 1, 1) := by decide +kernel
theorem dX6_digest_8 : decode cX6_digest 8 = .ok (.aload_n 0, 1) := by decide +kernel
theorem dX6_digest_9 : decode cX6_digest 9 = .ok (.lload_n 1, 1) := by decide +kernel
theorem dX6_digest_10 : decode cX6_digest 10 = .ok (.invokevirtual 293, 3) := by decide +kernel
theorem dX6_digest_13 : decode cX6_digest 13 = .ok (.lstore_n 1, 1) := by decide +kernel
theorem dX6_digest_14 : decode cX6_digest 14 = .ok (.aload_n 0, 1) := by decide +kernel
theorem dX6_digest_15 : decode cX6_digest 15 = .ok (.lload_n 1, 1) := by decide +kernel
theorem dX6_digest_16 : decode cX6_digest 16 = .ok (.invokevirtual 296, 3) := by decide +kernel
theorem dX6_digest_19 : decode cX6_digest 19 = .ok (.lstore_n 1, 1) := by decide +kernel
theorem dX6_digest_20 : decode cX6_digest 20 = .ok (.aload_n 0, 1) := by decide +kernel
theorem dX6_digest_21 : decode cX6_digest 21 = .ok (.lload_n 1, 1) := by decide +kernel
theorem dX6_digest_22 : decode cX6_digest 22 = .ok (.invokevirtual 299, 3) := by decide +kernel
theorem dX6_digest_25 : decode cX6_digest 25 = .ok (.lreturn, 1) := by decide +kernel
theorem dX6_digestOfHall_0 : decode cX6_digestOfHall 0 = .ok (.lload_n 1, 1) := by decide +kernel
theorem dX6_digestOfHall_1 : decode cX6_digestOfHall 1 = .ok (.lstore_n 3, 1) := by decide +kernel
theorem dX6_digestOfHall_2 : decode cX6_digestOfHall 2 = .ok (.iconst 0, 1) := by decide +kernel
theorem dX6_digestOfHall_3 : decode cX6_digestOfHall 3 = .ok (.istore 5, 2) := by decide +kernel
theorem dX6_digestOfHall_5 : decode cX6_digestOfHall 5 = .ok (.iload 5, 2) := by decide +kernel
theorem dX6_digestOfHall_7 : decode cX6_digestOfHall 7 = .ok (.bipush 7, 2) := by decide +kernel
theorem dX6_digestOfHall_9 : decode cX6_digestOfHall 9 = .ok (.if_icmp .gt 23, 3) := by decide +kernel
theorem dX6_digestOfHall_12 : decode cX6_digestOfHall 12 = .ok (.ldc2_w 302, 3) := by decide +kernel
theorem dX6_digestOfHall_15 : decode cX6_digestOfHall 15 = .ok (.lload_n 3, 1) := by decide +kernel
theorem dX6_digestOfHall_16 : decode cX6_digestOfHall 16 = .ok (.lmul, 1) := by decide +kernel
theorem dX6_digestOfHall_17 : decode cX6_digestOfHall 17 = .ok (.aload_n 0, 1) := by decide +kernel
theorem dX6_digestOfHall_18 : decode cX6_digestOfHall 18 = .ok (.iload 5, 2) := by decide +kernel
theorem dX6_digestOfHall_20 : decode cX6_digestOfHall 20 = .ok (.invokevirtual 304, 3) := by decide +kernel
theorem dX6_digestOfHall_23 : decode cX6_digestOfHall 23 = .ok (.i2l, 1) := by decide +kernel
theorem dX6_digestOfHall_24 : decode cX6_digestOfHall 24 = .ok (.ladd, 1) := by decide +kernel
theorem dX6_digestOfHall_25 : decode cX6_digestOfHall 25 = .ok (.lstore_n 3, 1) := by decide +kernel
theorem dX6_digestOfHall_26 : decode cX6_digestOfHall 26 = .ok (.iinc 5 1, 3) := by decide +kernel
theorem dX6_digestOfHall_29 : decode cX6_digestOfHall 29 = .ok (.goto (-24), 3) := by decide +kernel
theorem dX6_digestOfHall_32 : decode cX6_digestOfHall 32 = .ok (.iconst 0, 1) := by decide +kernel
theorem dX6_digestOfHall_33 : decode cX6_digestOfHall 33 = .ok (.istore 5, 2) := by decide +kernel
theorem dX6_digestOfHall_35 : decode cX6_digestOfHall 35 = .ok (.iload 5, 2) := by decide +kernel
theorem dX6_digestOfHall_37 : decode cX6_digestOfHall 37 = .ok (.iconst 3, 1) := by decide +kernel
theorem dX6_digestOfHall_38 : decode cX6_digestOfHall 38 = .ok (.if_icmp .ge 23, 3) := by decide +kernel
theorem dX6_digestOfHall_41 : decode cX6_digestOfHall 41 = .ok (.ldc2_w 302, 3) := by decide +kernel
theorem dX6_digestOfHall_44 : decode cX6_digestOfHall 44 = .ok (.lload_n 3, 1) := by decide +kernel
theorem dX6_digestOfHall_45 : decode cX6_digestOfHall 45 = .ok (.lmul, 1) := by decide +kernel
theorem dX6_digestOfHall_46 : decode cX6_digestOfHall 46 = .ok (.aload_n 0, 1) := by decide +kernel
theorem dX6_digestOfHall_47 : decode cX6_digestOfHall 47 = .ok (.iload 5, 2) := by decide +kernel
theorem dX6_digestOfHall_49 : decode cX6_digestOfHall 49 = .ok (.invokevirtual 307, 3) := by decide +kernel
theorem dX6_digestOfHall_52 : decode cX6_digestOfHall 52 = .ok (.i2l, 1) := by decide +kernel
theorem dX6_digestOfHall_53 : decode cX6_digestOfHall 53 = .ok (.ladd, 1) := by decide +kernel
theorem dX6_digestOfHall_54 : decode cX6_digestOfHall 54 = .ok (.lstore_n 3, 1) := by decide +kernel
theorem dX6_digestOfHall_55 : decode cX6_digestOfHall 55 = .ok (.iinc 5 1, 3) := by decide +kernel
theorem dX6_digestOfHall_58 : decode cX6_digestOfHall 58 = .ok (.goto (-23), 3) := by decide +kernel
theorem dX6_digestOfHall_61 : decode cX6_digestOfHall 61 = .ok (.ldc2_w 302, 3) := by decide +kernel
theorem dX6_digestOfHall_64 : decode cX6_digestOfHall 64 = .ok (.lload_n 3, 1) := by decide +kernel
theorem dX6_digestOfHall_65 : decode cX6_digestOfHall 65 = .ok (.lmul, 1) := by decide +kernel
theorem dX6_digestOfHall_66 : decode cX6_digestOfHall 66 = .ok (.aload_n 0, 1) := by decide +kernel
theorem dX6_digestOfHall_67 : decode cX6_digestOfHall 67 = .ok (.invokevirtual 310, 3) := by decide +kernel
theorem dX6_digestOfHall_70 : decode cX6_digestOfHall 70 = .ok (.i2l, 1) := by decide +kernel
theorem dX6_digestOfHall_71 : decode cX6_digestOfHall 71 = .ok (.ladd, 1) := by decide +kernel
theorem dX6_digestOfHall_72 : decode cX6_digestOfHall 72 = .ok (.lreturn, 1) := by decide +kernel
theorem dX6_digestOfGuests_0 : decode cX6_digestOfGuests 0 = .ok (.lload_n 1, 1) := by decide +kernel
theorem dX6_digestOfGuests_1 : decode cX6_digestOfGuests 1 = .ok (.lstore_n 3, 1) := by decide +kernel
theorem dX6_digestOfGuests_2 : decode cX6_digestOfGuests 2 = .ok (.iconst 0, 1) := by decide +kernel
theorem dX6_digestOfGuests_3 : decode cX6_digestOfGuests 3 = .ok (.istore 5, 2) := by decide +kernel
theorem dX6_digestOfGuests_5 : decode cX6_digestOfGuests 5 = .ok (.iload 5, 2) := by decide +kernel
theorem dX6_digestOfGuests_7 : decode cX6_digestOfGuests 7 = .ok (.bipush 10, 2) := by decide +kernel
theorem dX6_digestOfGuests_9 : decode cX6_digestOfGuests 9 = .ok (.if_icmp .ge 65, 3) := by decide +kernel
theorem dX6_digestOfGuests_12 : decode cX6_digestOfGuests 12 = .ok (.ldc2_w 302, 3) := by decide +kernel
theorem dX6_digestOfGuests_15 : decode cX6_digestOfGuests 15 = .ok (.lload_n 3, 1) := by decide +kernel
theorem dX6_digestOfGuests_16 : decode cX6_digestOfGuests 16 = .ok (.lmul, 1) := by decide +kernel
theorem dX6_digestOfGuests_17 : decode cX6_digestOfGuests 17 = .ok (.aload_n 0, 1) := by decide +kernel
theorem dX6_digestOfGuests_18 : decode cX6_digestOfGuests 18 = .ok (.iload 5, 2) := by decide +kernel
theorem dX6_digestOfGuests_20 : decode cX6_digestOfGuests 20 = .ok (.invokevirtual 313, 3) := by decide +kernel
theorem dX6_digestOfGuests_23 : decode cX6_digestOfGuests 23 = .ok (.i2l, 1) := by decide +kernel
theorem dX6_digestOfGuests_24 : decode cX6_digestOfGuests 24 = .ok (.ladd, 1) := by decide +kernel
theorem dX6_digestOfGuests_25 : decode cX6_digestOfGuests 25 = .ok (.lstore_n 3, 1) := by decide +kernel
theorem dX6_digestOfGuests_26 : decode cX6_digestOfGuests 26 = .ok (.ldc2_w 302, 3) := by decide +kernel
theorem dX6_digestOfGuests_29 : decode cX6_digestOfGuests 29 = .ok (.lload_n 3, 1) := by decide +kernel
theorem dX6_digestOfGuests_30 : decode cX6_digestOfGuests 30 = .ok (.lmul, 1) := by decide +kernel
theorem dX6_digestOfGuests_31 : decode cX6_digestOfGuests 31 = .ok (.aload_n 0, 1) := by decide +kernel
theorem dX6_digestOfGuests_32 : decode cX6_digestOfGuests 32 = .ok (.iload 5, 2) := by decide +kernel
theorem dX6_digestOfGuests_34 : decode cX6_digestOfGuests 34 = .ok (.invokevirtual 316, 3) := by decide +kernel
theorem dX6_digestOfGuests_37 : decode cX6_digestOfGuests 37 = .ok (.i2l, 1) := by decide +kernel
theorem dX6_digestOfGuests_38 : decode cX6_digestOfGuests 38 = .ok (.ladd, 1) := by decide +kernel
theorem dX6_digestOfGuests_39 : decode cX6_digestOfGuests 39 = .ok (.lstore_n 3, 1) := by decide +kernel
theorem dX6_digestOfGuests_40 : decode cX6_digestOfGuests 40 = .ok (.ldc2_w 302, 3) := by decide +kernel
theorem dX6_digestOfGuests_43 : decode cX6_digestOfGuests 43 = .ok (.lload_n 3, 1) := by decide +kernel
theorem dX6_digestOfGuests_44 : decode cX6_digestOfGuests 44 = .ok (.lmul, 1) := by decide +kernel
theorem dX6_digestOfGuests_45 : decode cX6_digestOfGuests 45 = .ok (.aload_n 0, 1) := by decide +kernel
theorem dX6_digestOfGuests_46 : decode cX6_digestOfGuests 46 = .ok (.iload 5, 2) := by decide +kernel
theorem dX6_digestOfGuests_48 : decode cX6_digestOfGuests 48 = .ok (.invokevirtual 319, 3) := by decide +kernel
theorem dX6_digestOfGuests_51 : decode cX6_digestOfGuests 51 = .ok (.i2l, 1) := by decide +kernel
theorem dX6_digestOfGuests_52 : decode cX6_digestOfGuests 52 = .ok (.ladd, 1) := by decide +kernel
theorem dX6_digestOfGuests_53 : decode cX6_digestOfGuests 53 = .ok (.lstore_n 3, 1) := by decide +kernel
theorem dX6_digestOfGuests_54 : decode cX6_digestOfGuests 54 = .ok (.ldc2_w 302, 3) := by decide +kernel
theorem dX6_digestOfGuests_57 : decode cX6_digestOfGuests 57 = .ok (.lload_n 3, 1) := by decide +kernel
theorem dX6_digestOfGuests_58 : decode cX6_digestOfGuests 58 = .ok (.lmul, 1) := by decide +kernel
theorem dX6_digestOfGuests_59 : decode cX6_digestOfGuests 59 = .ok (.aload_n 0, 1) := by decide +kernel
theorem dX6_digestOfGuests_60 : decode cX6_digestOfGuests 60 = .ok (.iload 5, 2) := by decide +kernel
theorem dX6_digestOfGuests_62 : decode cX6_digestOfGuests 62 = .ok (.invokevirtual 322, 3) := by decide +kernel
theorem dX6_digestOfGuests_65 : decode cX6_digestOfGuests 65 = .ok (.i2l, 1) := by decide +kernel
theorem dX6_digestOfGuests_66 : decode cX6_digestOfGuests 66 = .ok (.ladd, 1) := by decide +kernel
theorem dX6_digestOfGuests_67 : decode cX6_digestOfGuests 67 = .ok (.lstore_n 3, 1) := by decide +kernel
theorem dX6_digestOfGuests_68 : decode cX6_digestOfGuests 68 = .ok (.iinc 5 1, 3) := by decide +kernel
theorem dX6_digestOfGuests_71 : decode cX6_digestOfGuests 71 = .ok (.goto (-66), 3) := by decide +kernel
theorem dX6_digestOfGuests_74 : decode cX6_digestOfGuests 74 = .ok (.lload_n 3, 1) := by decide +kernel
theorem dX6_digestOfGuests_75 : decode cX6_digestOfGuests 75 = .ok (.lreturn, 1) := by decide +kernel
theorem dX6_digestOfLayings_0 : decode cX6_digestOfLayings 0 = .ok (.ldc2_w 302, 3) := by decide +kernel
theorem dX6_digestOfLayings_3 : decode cX6_digestOfLayings 3 = .ok (.lload_n 1, 1) := by decide +kernel
theorem dX6_digestOfLayings_4 : decode cX6_digestOfLayings 4 = .ok (.lmul, 1) := by decide +kernel
theorem dX6_digestOfLayings_5 : decode cX6_digestOfLayings 5 = .ok (.aload_n 0, 1) := by decide +kernel
theorem dX6_digestOfLayings_6 : decode cX6_digestOfLayings 6 = .ok (.iconst (-1), 1) := by decide +kernel
theorem dX6_digestOfLayings_7 : decode cX6_digestOfLayings 7 = .ok (.invokevirtual 313, 3) := by decide +kernel
theorem dX6_digestOfLayings_10 : decode cX6_digestOfLayings 10 = .ok (.i2l, 1) := by decide +kernel
theorem dX6_digestOfLayings_11 : decode cX6_digestOfLayings 11 = .ok (.ladd, 1) := by decide +kernel
theorem dX6_digestOfLayings_12 : decode cX6_digestOfLayings 12 = .ok (.lstore_n 3, 1) := by decide +kernel
theorem dX6_digestOfLayings_13 : decode cX6_digestOfLayings 13 = .ok (.ldc2_w 302, 3) := by decide +kernel
theorem dX6_digestOfLayings_16 : decode cX6_digestOfLayings 16 = .ok (.lload_n 3, 1) := by decide +kernel
theorem dX6_digestOfLayings_17 : decode cX6_digestOfLayings 17 = .ok (.lmul, 1) := by decide +kernel
theorem dX6_digestOfLayings_18 : decode cX6_digestOfLayings 18 = .ok (.aload_n 0, 1) := by decide +kernel
theorem dX6_digestOfLayings_19 : decode cX6_digestOfLayings 19 = .ok (.iconst (-1), 1) := by decide +kernel
theorem dX6_digestOfLayings_20 : decode cX6_digestOfLayings 20 = .ok (.invokevirtual 316, 3) := by decide +kernel
theorem dX6_digestOfLayings_23 : decode cX6_digestOfLayings 23 = .ok (.i2l, 1) := by decide +kernel
theorem dX6_digestOfLayings_24 : decode cX6_digestOfLayings 24 = .ok (.ladd, 1) := by decide +kernel
theorem dX6_digestOfLayings_25 : decode cX6_digestOfLayings 25 = .ok (.lstore_n 3, 1) := by decide +kernel
theorem dX6_digestOfLayings_26 : decode cX6_digestOfLayings 26 = .ok (.iconst (-1), 1) := by decide +kernel
theorem dX6_digestOfLayings_27 : decode cX6_digestOfLayings 27 = .ok (.istore 5, 2) := by decide +kernel
theorem dX6_digestOfLayings_29 : decode cX6_digestOfLayings 29 = .ok (.iload 5, 2) := by decide +kernel
theorem dX6_digestOfLayings_31 : decode cX6_digestOfLayings 31 = .ok (.iconst 2, 1) := by decide +kernel
theorem dX6_digestOfLayings_32 : decode cX6_digestOfLayings 32 = .ok (.if_icmp .gt 23, 3) := by decide +kernel
theorem dX6_digestOfLayings_35 : decode cX6_digestOfLayings 35 = .ok (.ldc2_w 302, 3) := by decide +kernel
theorem dX6_digestOfLayings_38 : decode cX6_digestOfLayings 38 = .ok (.lload_n 3, 1) := by decide +kernel
theorem dX6_digestOfLayings_39 : decode cX6_digestOfLayings 39 = .ok (.lmul, 1) := by decide +kernel
theorem dX6_digestOfLayings_40 : decode cX6_digestOfLayings 40 = .ok (.aload_n 0, 1) := by decide +kernel
theorem dX6_digestOfLayings_41 : decode cX6_digestOfLayings 41 = .ok (.iload 5, 2) := by decide +kernel
theorem dX6_digestOfLayings_43 : decode cX6_digestOfLayings 43 = .ok (.invokevirtual 325, 3) := by decide +kernel
theorem dX6_digestOfLayings_46 : decode cX6_digestOfLayings 46 = .ok (.i2l, 1) := by decide +kernel
theorem dX6_digestOfLayings_47 : decode cX6_digestOfLayings 47 = .ok (.ladd, 1) := by decide +kernel
theorem dX6_digestOfLayings_48 : decode cX6_digestOfLayings 48 = .ok (.lstore_n 3, 1) := by decide +kernel
theorem dX6_digestOfLayings_49 : decode cX6_digestOfLayings 49 = .ok (.iinc 5 1, 3) := by decide +kernel
theorem dX6_digestOfLayings_52 : decode cX6_digestOfLayings 52 = .ok (.goto (-23), 3) := by decide +kernel
theorem dX6_digestOfLayings_55 : decode cX6_digestOfLayings 55 = .ok (.ldc2_w 302, 3) := by decide +kernel
theorem dX6_digestOfLayings_58 : decode cX6_digestOfLayings 58 = .ok (.lload_n 3, 1) := by decide +kernel
theorem dX6_digestOfLayings_59 : decode cX6_digestOfLayings 59 = .ok (.lmul, 1) := by decide +kernel
theorem dX6_digestOfLayings_60 : decode cX6_digestOfLayings 60 = .ok (.aload_n 0, 1) := by decide +kernel
theorem dX6_digestOfLayings_61 : decode cX6_digestOfLayings 61 = .ok (.iconst (-1), 1) := by decide +kernel
theorem dX6_digestOfLayings_62 : decode cX6_digestOfLayings 62 = .ok (.invokevirtual 319, 3) := by decide +kernel
theorem dX6_digestOfLayings_65 : decode cX6_digestOfLayings 65 = .ok (.i2l, 1) := by decide +kernel
theorem dX6_digestOfLayings_66 : decode cX6_digestOfLayings 66 = .ok (.ladd, 1) := by decide +kernel
theorem dX6_digestOfLayings_67 : decode cX6_digestOfLayings 67 = .ok (.lstore_n 3, 1) := by decide +kernel
theorem dX6_digestOfLayings_68 : decode cX6_digestOfLayings 68 = .ok (.ldc2_w 302, 3) := by decide +kernel
theorem dX6_digestOfLayings_71 : decode cX6_digestOfLayings 71 = .ok (.lload_n 3, 1) := by decide +kernel
theorem dX6_digestOfLayings_72 : decode cX6_digestOfLayings 72 = .ok (.lmul, 1) := by decide +kernel
theorem dX6_digestOfLayings_73 : decode cX6_digestOfLayings 73 = .ok (.aload_n 0, 1) := by decide +kernel
theorem dX6_digestOfLayings_74 : decode cX6_digestOfLayings 74 = .ok (.iconst (-1), 1) := by decide +kernel
theorem dX6_digestOfLayings_75 : decode cX6_digestOfLayings 75 = .ok (.invokevirtual 322, 3) := by decide +kernel
theorem dX6_digestOfLayings_78 : decode cX6_digestOfLayings 78 = .ok (.i2l, 1) := by decide +kernel
theorem dX6_digestOfLayings_79 : decode cX6_digestOfLayings 79 = .ok (.ladd, 1) := by decide +kernel
theorem dX6_digestOfLayings_80 : decode cX6_digestOfLayings 80 = .ok (.lstore_n 3, 1) := by decide +kernel
theorem dX6_digestOfLayings_81 : decode cX6_digestOfLayings 81 = .ok (.ldc2_w 302, 3) := by decide +kernel
theorem dX6_digestOfLayings_84 : decode cX6_digestOfLayings 84 = .ok (.lload_n 3, 1) := by decide +kernel
theorem dX6_digestOfLayings_85 : decode cX6_digestOfLayings 85 = .ok (.lmul, 1) := by decide +kernel
theorem dX6_digestOfLayings_86 : decode cX6_digestOfLayings 86 = .ok (.aload_n 0, 1) := by decide +kernel
theorem dX6_digestOfLayings_87 : decode cX6_digestOfLayings 87 = .ok (.invokevirtual 327, 3) := by decide +kernel
theorem dX6_digestOfLayings_90 : decode cX6_digestOfLayings 90 = .ok (.i2l, 1) := by decide +kernel
theorem dX6_digestOfLayings_91 : decode cX6_digestOfLayings 91 = .ok (.ladd, 1) := by decide +kernel
theorem dX6_digestOfLayings_92 : decode cX6_digestOfLayings 92 = .ok (.lstore_n 3, 1) := by decide +kernel
theorem dX6_digestOfLayings_93 : decode cX6_digestOfLayings 93 = .ok (.iconst (-1), 1) := by decide +kernel
theorem dX6_digestOfLayings_94 : decode cX6_digestOfLayings 94 = .ok (.istore 5, 2) := by decide +kernel
theorem dX6_digestOfLayings_96 : decode cX6_digestOfLayings 96 = .ok (.iload 5, 2) := by decide +kernel
theorem dX6_digestOfLayings_98 : decode cX6_digestOfLayings 98 = .ok (.iconst 1, 1) := by decide +kernel
theorem dX6_digestOfLayings_99 : decode cX6_digestOfLayings 99 = .ok (.if_icmp .gt 24, 3) := by decide +kernel
theorem dX6_digestOfLayings_102 : decode cX6_digestOfLayings 102 = .ok (.ldc2_w 302, 3) := by decide +kernel
theorem dX6_digestOfLayings_105 : decode cX6_digestOfLayings 105 = .ok (.lload_n 3, 1) := by decide +kernel
theorem dX6_digestOfLayings_106 : decode cX6_digestOfLayings 106 = .ok (.lmul, 1) := by decide +kernel
theorem dX6_digestOfLayings_107 : decode cX6_digestOfLayings 107 = .ok (.aload_n 0, 1) := by decide +kernel
theorem dX6_digestOfLayings_108 : decode cX6_digestOfLayings 108 = .ok (.iconst 2, 1) := by decide +kernel
theorem dX6_digestOfLayings_109 : decode cX6_digestOfLayings 109 = .ok (.iload 5, 2) := by decide +kernel
theorem dX6_digestOfLayings_111 : decode cX6_digestOfLayings 111 = .ok (.invokevirtual 330, 3) := by decide +kernel
theorem dX6_digestOfLayings_114 : decode cX6_digestOfLayings 114 = .ok (.i2l, 1) := by decide +kernel
theorem dX6_digestOfLayings_115 : decode cX6_digestOfLayings 115 = .ok (.ladd, 1) := by decide +kernel
theorem dX6_digestOfLayings_116 : decode cX6_digestOfLayings 116 = .ok (.lstore_n 3, 1) := by decide +kernel
theorem dX6_digestOfLayings_117 : decode cX6_digestOfLayings 117 = .ok (.iinc 5 1, 3) := by decide +kernel
theorem dX6_digestOfLayings_120 : decode cX6_digestOfLayings 120 = .ok (.goto (-24), 3) := by decide +kernel
theorem dX6_digestOfLayings_123 : decode cX6_digestOfLayings 123 = .ok (.iconst 0, 1) := by decide +kernel
theorem dX6_digestOfLayings_124 : decode cX6_digestOfLayings 124 = .ok (.istore 5, 2) := by decide +kernel
theorem dX6_digestOfLayings_126 : decode cX6_digestOfLayings 126 = .ok (.iload 5, 2) := by decide +kernel
theorem dX6_digestOfLayings_128 : decode cX6_digestOfLayings 128 = .ok (.iconst 4, 1) := by decide +kernel
theorem dX6_digestOfLayings_129 : decode cX6_digestOfLayings 129 = .ok (.if_icmp .ge 24, 3) := by decide +kernel
theorem dX6_digestOfLayings_132 : decode cX6_digestOfLayings 132 = .ok (.ldc2_w 302, 3) := by decide +kernel
theorem dX6_digestOfLayings_135 : decode cX6_digestOfLayings 135 = .ok (.lload_n 3, 1) := by decide +kernel
theorem dX6_digestOfLayings_136 : decode cX6_digestOfLayings 136 = .ok (.lmul, 1) := by decide +kernel
theorem dX6_digestOfLayings_137 : decode cX6_digestOfLayings 137 = .ok (.aload_n 0, 1) := by decide +kernel
theorem dX6_digestOfLayings_138 : decode cX6_digestOfLayings 138 = .ok (.iload 5, 2) := by decide +kernel
theorem dX6_digestOfLayings_140 : decode cX6_digestOfLayings 140 = .ok (.iconst 2, 1) := by decide +kernel
theorem dX6_digestOfLayings_141 : decode cX6_digestOfLayings 141 = .ok (.invokevirtual 333, 3) := by decide +kernel
theorem dX6_digestOfLayings_144 : decode cX6_digestOfLayings 144 = .ok (.i2l, 1) := by decide +kernel
theorem dX6_digestOfLayings_145 : decode cX6_digestOfLayings 145 = .ok (.ladd, 1) := by decide +kernel
theorem dX6_digestOfLayings_146 : decode cX6_digestOfLayings 146 = .ok (.lstore_n 3, 1) := by decide +kernel
theorem dX6_digestOfLayings_147 : decode cX6_digestOfLayings 147 = .ok (.iinc 5 1, 3) := by decide +kernel
theorem dX6_digestOfLayings_150 : decode cX6_digestOfLayings 150 = .ok (.goto (-24), 3) := by decide +kernel
theorem dX6_digestOfLayings_153 : decode cX6_digestOfLayings 153 = .ok (.ldc2_w 302, 3) := by decide +kernel
theorem dX6_digestOfLayings_156 : decode cX6_digestOfLayings 156 = .ok (.lload_n 3, 1) := by decide +kernel
theorem dX6_digestOfLayings_157 : decode cX6_digestOfLayings 157 = .ok (.lmul, 1) := by decide +kernel
theorem dX6_digestOfLayings_158 : decode cX6_digestOfLayings 158 = .ok (.aload_n 0, 1) := by decide +kernel
theorem dX6_digestOfLayings_159 : decode cX6_digestOfLayings 159 = .ok (.iconst 2, 1) := by decide +kernel
theorem dX6_digestOfLayings_160 : decode cX6_digestOfLayings 160 = .ok (.invokevirtual 336, 3) := by decide +kernel
theorem dX6_digestOfLayings_163 : decode cX6_digestOfLayings 163 = .ok (.i2l, 1) := by decide +kernel
theorem dX6_digestOfLayings_164 : decode cX6_digestOfLayings 164 = .ok (.ladd, 1) := by decide +kernel
theorem dX6_digestOfLayings_165 : decode cX6_digestOfLayings 165 = .ok (.lstore_n 3, 1) := by decide +kernel
theorem dX6_digestOfLayings_166 : decode cX6_digestOfLayings 166 = .ok (.ldc2_w 302, 3) := by decide +kernel
theorem dX6_digestOfLayings_169 : decode cX6_digestOfLayings 169 = .ok (.lload_n 3, 1) := by decide +kernel
theorem dX6_digestOfLayings_170 : decode cX6_digestOfLayings 170 = .ok (.lmul, 1) := by decide +kernel
theorem dX6_digestOfLayings_171 : decode cX6_digestOfLayings 171 = .ok (.aload_n 0, 1) := by decide +kernel
theorem dX6_digestOfLayings_172 : decode cX6_digestOfLayings 172 = .ok (.iconst 2, 1) := by decide +kernel
theorem dX6_digestOfLayings_173 : decode cX6_digestOfLayings 173 = .ok (.invokevirtual 339, 3) := by decide +kernel
theorem dX6_digestOfLayings_176 : decode cX6_digestOfLayings 176 = .ok (.i2l, 1) := by decide +kernel
theorem dX6_digestOfLayings_177 : decode cX6_digestOfLayings 177 = .ok (.ladd, 1) := by decide +kernel
theorem dX6_digestOfLayings_178 : decode cX6_digestOfLayings 178 = .ok (.lreturn, 1) := by decide +kernel
theorem dX6_digestOfOdds_0 : decode cX6_digestOfOdds 0 = .ok (.ldc2_w 302, 3) := by decide +kernel
theorem dX6_digestOfOdds_3 : decode cX6_digestOfOdds 3 = .ok (.lload_n 1, 1) := by decide +kernel
theorem dX6_digestOfOdds_4 : decode cX6_digestOfOdds 4 = .ok (.lmul, 1) := by decide +kernel
theorem dX6_digestOfOdds_5 : decode cX6_digestOfOdds 5 = .ok (.aload_n 0, 1) := by decide +kernel
theorem dX6_digestOfOdds_6 : decode cX6_digestOfOdds 6 = .ok (.iconst 5, 1) := by decide +kernel
theorem dX6_digestOfOdds_7 : decode cX6_digestOfOdds 7 = .ok (.iconst 0, 1) := by decide +kernel
theorem dX6_digestOfOdds_8 : decode cX6_digestOfOdds 8 = .ok (.invokevirtual 342, 3) := by decide +kernel
theorem dX6_digestOfOdds_11 : decode cX6_digestOfOdds 11 = .ok (.ladd, 1) := by decide +kernel
theorem dX6_digestOfOdds_12 : decode cX6_digestOfOdds 12 = .ok (.lstore_n 3, 1) := by decide +kernel
theorem dX6_digestOfOdds_13 : decode cX6_digestOfOdds 13 = .ok (.ldc2_w 302, 3) := by decide +kernel
theorem dX6_digestOfOdds_16 : decode cX6_digestOfOdds 16 = .ok (.lload_n 3, 1) := by decide +kernel
theorem dX6_digestOfOdds_17 : decode cX6_digestOfOdds 17 = .ok (.lmul, 1) := by decide +kernel
theorem dX6_digestOfOdds_18 : decode cX6_digestOfOdds 18 = .ok (.aload_n 0, 1) := by decide +kernel
theorem dX6_digestOfOdds_19 : decode cX6_digestOfOdds 19 = .ok (.iconst 5, 1) := by decide +kernel
theorem dX6_digestOfOdds_20 : decode cX6_digestOfOdds 20 = .ok (.iconst 1, 1) := by decide +kernel
theorem dX6_digestOfOdds_21 : decode cX6_digestOfOdds 21 = .ok (.invokevirtual 342, 3) := by decide +kernel
theorem dX6_digestOfOdds_24 : decode cX6_digestOfOdds 24 = .ok (.ladd, 1) := by decide +kernel
theorem dX6_digestOfOdds_25 : decode cX6_digestOfOdds 25 = .ok (.lstore_n 3, 1) := by decide +kernel
theorem dX6_digestOfOdds_26 : decode cX6_digestOfOdds 26 = .ok (.ldc2_w 302, 3) := by decide +kernel
theorem dX6_digestOfOdds_29 : decode cX6_digestOfOdds 29 = .ok (.lload_n 3, 1) := by decide +kernel
theorem dX6_digestOfOdds_30 : decode cX6_digestOfOdds 30 = .ok (.lmul, 1) := by decide +kernel
theorem dX6_digestOfOdds_31 : decode cX6_digestOfOdds 31 = .ok (.aload_n 0, 1) := by decide +kernel
theorem dX6_digestOfOdds_32 : decode cX6_digestOfOdds 32 = .ok (.iconst (-1), 1) := by decide +kernel
theorem dX6_digestOfOdds_33 : decode cX6_digestOfOdds 33 = .ok (.iconst 0, 1) := by decide +kernel
theorem dX6_digestOfOdds_34 : decode cX6_digestOfOdds 34 = .ok (.invokevirtual 346, 3) := by decide +kernel
theorem dX6_digestOfOdds_37 : decode cX6_digestOfOdds 37 = .ok (.ladd, 1) := by decide +kernel
theorem dX6_digestOfOdds_38 : decode cX6_digestOfOdds 38 = .ok (.lstore_n 3, 1) := by decide +kernel
theorem dX6_digestOfOdds_39 : decode cX6_digestOfOdds 39 = .ok (.ldc2_w 302, 3) := by decide +kernel
theorem dX6_digestOfOdds_42 : decode cX6_digestOfOdds 42 = .ok (.lload_n 3, 1) := by decide +kernel
theorem dX6_digestOfOdds_43 : decode cX6_digestOfOdds 43 = .ok (.lmul, 1) := by decide +kernel
theorem dX6_digestOfOdds_44 : decode cX6_digestOfOdds 44 = .ok (.aload_n 0, 1) := by decide +kernel
theorem dX6_digestOfOdds_45 : decode cX6_digestOfOdds 45 = .ok (.iconst (-1), 1) := by decide +kernel
theorem dX6_digestOfOdds_46 : decode cX6_digestOfOdds 46 = .ok (.iconst 1, 1) := by decide +kernel
theorem dX6_digestOfOdds_47 : decode cX6_digestOfOdds 47 = .ok (.invokevirtual 346, 3) := by decide +kernel
theorem dX6_digestOfOdds_50 : decode cX6_digestOfOdds 50 = .ok (.ladd, 1) := by decide +kernel
theorem dX6_digestOfOdds_51 : decode cX6_digestOfOdds 51 = .ok (.lstore_n 3, 1) := by decide +kernel
theorem dX6_digestOfOdds_52 : decode cX6_digestOfOdds 52 = .ok (.ldc2_w 302, 3) := by decide +kernel
theorem dX6_digestOfOdds_55 : decode cX6_digestOfOdds 55 = .ok (.lload_n 3, 1) := by decide +kernel
theorem dX6_digestOfOdds_56 : decode cX6_digestOfOdds 56 = .ok (.lmul, 1) := by decide +kernel
theorem dX6_digestOfOdds_57 : decode cX6_digestOfOdds 57 = .ok (.aload_n 0, 1) := by decide +kernel
theorem dX6_digestOfOdds_58 : decode cX6_digestOfOdds 58 = .ok (.iconst 0, 1) := by decide +kernel
theorem dX6_digestOfOdds_59 : decode cX6_digestOfOdds 59 = .ok (.iconst 0, 1) := by decide +kernel
theorem dX6_digestOfOdds_60 : decode cX6_digestOfOdds 60 = .ok (.invokevirtual 346, 3) := by decide +kernel
theorem dX6_digestOfOdds_63 : decode cX6_digestOfOdds 63 = .ok (.ladd, 1) := by decide +kernel
theorem dX6_digestOfOdds_64 : decode cX6_digestOfOdds 64 = .ok (.lstore_n 3, 1) := by decide +kernel
theorem dX6_digestOfOdds_65 : decode cX6_digestOfOdds 65 = .ok (.ldc2_w 302, 3) := by decide +kernel
theorem dX6_digestOfOdds_68 : decode cX6_digestOfOdds 68 = .ok (.lload_n 3, 1) := by decide +kernel
theorem dX6_digestOfOdds_69 : decode cX6_digestOfOdds 69 = .ok (.lmul, 1) := by decide +kernel
theorem dX6_digestOfOdds_70 : decode cX6_digestOfOdds 70 = .ok (.aload_n 0, 1) := by decide +kernel
theorem dX6_digestOfOdds_71 : decode cX6_digestOfOdds 71 = .ok (.iconst 0, 1) := by decide +kernel
theorem dX6_digestOfOdds_72 : decode cX6_digestOfOdds 72 = .ok (.iconst 1, 1) := by decide +kernel
theorem dX6_digestOfOdds_73 : decode cX6_digestOfOdds 73 = .ok (.invokevirtual 346, 3) := by decide +kernel
theorem dX6_digestOfOdds_76 : decode cX6_digestOfOdds 76 = .ok (.ladd, 1) := by decide +kernel
theorem dX6_digestOfOdds_77 : decode cX6_digestOfOdds 77 = .ok (.lstore_n 3, 1) := by decide +kernel
theorem dX6_digestOfOdds_78 : decode cX6_digestOfOdds 78 = .ok (.ldc2_w 302, 3) := by decide +kernel
theorem dX6_digestOfOdds_81 : decode cX6_digestOfOdds 81 = .ok (.lload_n 3, 1) := by decide +kernel
theorem dX6_digestOfOdds_82 : decode cX6_digestOfOdds 82 = .ok (.lmul, 1) := by decide +kernel
theorem dX6_digestOfOdds_83 : decode cX6_digestOfOdds 83 = .ok (.aload_n 0, 1) := by decide +kernel
theorem dX6_digestOfOdds_84 : decode cX6_digestOfOdds 84 = .ok (.iconst 0, 1) := by decide +kernel
theorem dX6_digestOfOdds_85 : decode cX6_digestOfOdds 85 = .ok (.invokevirtual 349, 3) := by decide +kernel
theorem dX6_digestOfOdds_88 : decode cX6_digestOfOdds 88 = .ok (.ladd, 1) := by decide +kernel
theorem dX6_digestOfOdds_89 : decode cX6_digestOfOdds 89 = .ok (.lstore_n 3, 1) := by decide +kernel
theorem dX6_digestOfOdds_90 : decode cX6_digestOfOdds 90 = .ok (.ldc2_w 302, 3) := by decide +kernel
theorem dX6_digestOfOdds_93 : decode cX6_digestOfOdds 93 = .ok (.lload_n 3, 1) := by decide +kernel
theorem dX6_digestOfOdds_94 : decode cX6_digestOfOdds 94 = .ok (.lmul, 1) := by decide +kernel
theorem dX6_digestOfOdds_95 : decode cX6_digestOfOdds 95 = .ok (.aload_n 0, 1) := by decide +kernel
theorem dX6_digestOfOdds_96 : decode cX6_digestOfOdds 96 = .ok (.iconst 1, 1) := by decide +kernel
theorem dX6_digestOfOdds_97 : decode cX6_digestOfOdds 97 = .ok (.invokevirtual 349, 3) := by decide +kernel
theorem dX6_digestOfOdds_100 : decode cX6_digestOfOdds 100 = .ok (.ladd, 1) := by decide +kernel
theorem dX6_digestOfOdds_101 : decode cX6_digestOfOdds 101 = .ok (.lstore_n 3, 1) := by decide +kernel
theorem dX6_digestOfOdds_102 : decode cX6_digestOfOdds 102 = .ok (.ldc2_w 302, 3) := by decide +kernel
theorem dX6_digestOfOdds_105 : decode cX6_digestOfOdds 105 = .ok (.lload_n 3, 1) := by decide +kernel
theorem dX6_digestOfOdds_106 : decode cX6_digestOfOdds 106 = .ok (.lmul, 1) := by decide +kernel
theorem dX6_digestOfOdds_107 : decode cX6_digestOfOdds 107 = .ok (.aload_n 0, 1) := by decide +kernel
theorem dX6_digestOfOdds_108 : decode cX6_digestOfOdds 108 = .ok (.iconst 1, 1) := by decide +kernel
theorem dX6_digestOfOdds_109 : decode cX6_digestOfOdds 109 = .ok (.invokevirtual 352, 3) := by decide +kernel
theorem dX6_digestOfOdds_112 : decode cX6_digestOfOdds 112 = .ok (.ladd, 1) := by decide +kernel
theorem dX6_digestOfOdds_113 : decode cX6_digestOfOdds 113 = .ok (.lstore_n 3, 1) := by decide +kernel
theorem dX6_digestOfOdds_114 : decode cX6_digestOfOdds 114 = .ok (.ldc2_w 302, 3) := by decide +kernel
theorem dX6_digestOfOdds_117 : decode cX6_digestOfOdds 117 = .ok (.lload_n 3, 1) := by decide +kernel
theorem dX6_digestOfOdds_118 : decode cX6_digestOfOdds 118 = .ok (.lmul, 1) := by decide +kernel
theorem dX6_digestOfOdds_119 : decode cX6_digestOfOdds 119 = .ok (.aload_n 0, 1) := by decide +kernel
theorem dX6_digestOfOdds_120 : decode cX6_digestOfOdds 120 = .ok (.iconst 1, 1) := by decide +kernel
theorem dX6_digestOfOdds_121 : decode cX6_digestOfOdds 121 = .ok (.invokevirtual 355, 3) := by decide +kernel
theorem dX6_digestOfOdds_124 : decode cX6_digestOfOdds 124 = .ok (.i2l, 1) := by decide +kernel
theorem dX6_digestOfOdds_125 : decode cX6_digestOfOdds 125 = .ok (.ladd, 1) := by decide +kernel
theorem dX6_digestOfOdds_126 : decode cX6_digestOfOdds 126 = .ok (.lstore_n 3, 1) := by decide +kernel
theorem dX6_digestOfOdds_127 : decode cX6_digestOfOdds 127 = .ok (.ldc2_w 302, 3) := by decide +kernel
theorem dX6_digestOfOdds_130 : decode cX6_digestOfOdds 130 = .ok (.lload_n 3, 1) := by decide +kernel
theorem dX6_digestOfOdds_131 : decode cX6_digestOfOdds 131 = .ok (.lmul, 1) := by decide +kernel
theorem dX6_digestOfOdds_132 : decode cX6_digestOfOdds 132 = .ok (.aload_n 0, 1) := by decide +kernel
theorem dX6_digestOfOdds_133 : decode cX6_digestOfOdds 133 = .ok (.bipush 7, 2) := by decide +kernel
theorem dX6_digestOfOdds_135 : decode cX6_digestOfOdds 135 = .ok (.iconst 3, 1) := by decide +kernel
theorem dX6_digestOfOdds_136 : decode cX6_digestOfOdds 136 = .ok (.invokevirtual 358, 3) := by decide +kernel
theorem dX6_digestOfOdds_139 : decode cX6_digestOfOdds 139 = .ok (.ladd, 1) := by decide +kernel
theorem dX6_digestOfOdds_140 : decode cX6_digestOfOdds 140 = .ok (.lreturn, 1) := by decide +kernel
theorem dX6_settle_0 : decode cX6_settle 0 = .ok (.aload_n 0, 1) := by decide +kernel
theorem dX6_settle_1 : decode cX6_settle 1 = .ok (.getfield 11, 3) := by decide +kernel
theorem dX6_settle_4 : decode cX6_settle 4 = .ok (.iconst 0, 1) := by decide +kernel
theorem dX6_settle_5 : decode cX6_settle 5 = .ok (.aaload, 1) := by decide +kernel
theorem dX6_settle_6 : decode cX6_settle 6 = .ok (.sipush 1023, 3) := by decide +kernel
theorem dX6_settle_9 : decode cX6_settle 9 = .ok (.invokevirtual 361, 3) := by decide +kernel
theorem dX6_settle_12 : decode cX6_settle 12 = .ok (.aload_n 0, 1) := by decide +kernel
theorem dX6_settle_13 : decode cX6_settle 13 = .ok (.getfield 11, 3) := by decide +kernel
theorem dX6_settle_16 : decode cX6_settle 16 = .ok (.iconst 1, 1) := by decide +kernel
theorem dX6_settle_17 : decode cX6_settle 17 = .ok (.aaload, 1) := by decide +kernel
theorem dX6_settle_18 : decode cX6_settle 18 = .ok (.aload_n 0, 1) := by decide +kernel
theorem dX6_settle_19 : decode cX6_settle 19 = .ok (.getfield 11, 3) := by decide +kernel
theorem dX6_settle_22 : decode cX6_settle 22 = .ok (.iconst 0, 1) := by decide +kernel
theorem dX6_settle_23 : decode cX6_settle 23 = .ok (.aaload, 1) := by decide +kernel
theorem dX6_settle_24 : decode cX6_settle 24 = .ok (.getfield 243, 3) := by decide +kernel
theorem dX6_settle_27 : decode cX6_settle 27 = .ok (.invokevirtual 361, 3) := by decide +kernel
theorem dX6_settle_30 : decode cX6_settle 30 = .ok (.aload_n 0, 1) := by decide +kernel
theorem dX6_settle_31 : decode cX6_settle 31 = .ok (.getfield 11, 3) := by decide +kernel
theorem dX6_settle_34 : decode cX6_settle 34 = .ok (.iconst 2, 1) := by decide +kernel
theorem dX6_settle_35 : decode cX6_settle 35 = .ok (.aaload, 1) := by decide +kernel
theorem dX6_settle_36 : decode cX6_settle 36 = .ok (.sipush 1023, 3) := by decide +kernel
theorem dX6_settle_39 : decode cX6_settle 39 = .ok (.invokevirtual 361, 3) := by decide +kernel
theorem dX6_settle_42 : decode cX6_settle 42 = .ok (.aload_n 0, 1) := by decide +kernel
theorem dX6_settle_43 : decode cX6_settle 43 = .ok (.getfield 11, 3) := by decide +kernel
theorem dX6_settle_46 : decode cX6_settle 46 = .ok (.iconst 2, 1) := by decide +kernel
theorem dX6_settle_47 : decode cX6_settle 47 = .ok (.aaload, 1) := by decide +kernel
theorem dX6_settle_48 : decode cX6_settle 48 = .ok (.invokevirtual 364, 3) := by decide +kernel
theorem dX6_settle_51 : decode cX6_settle 51 = .ok (.aload_n 0, 1) := by decide +kernel
theorem dX6_settle_52 : decode cX6_settle 52 = .ok (.getfield 27, 3) := by decide +kernel
theorem dX6_settle_55 : decode cX6_settle 55 = .ok (.aload_n 0, 1) := by decide +kernel
theorem dX6_settle_56 : decode cX6_settle 56 = .ok (.getfield 11, 3) := by decide +kernel
theorem dX6_settle_59 : decode cX6_settle 59 = .ok (.iconst 0, 1) := by decide +kernel
theorem dX6_settle_60 : decode cX6_settle 60 = .ok (.aaload, 1) := by decide +kernel
theorem dX6_settle_61 : decode cX6_settle 61 = .ok (.aload_n 0, 1) := by decide +kernel
theorem dX6_settle_62 : decode cX6_settle 62 = .ok (.getfield 17, 3) := by decide +kernel
theorem dX6_settle_65 : decode cX6_settle 65 = .ok (.iconst 0, 1) := by decide +kernel
theorem dX6_settle_66 : decode cX6_settle 66 = .ok (.aaload, 1) := by decide +kernel
theorem dX6_settle_67 : decode cX6_settle 67 = .ok (.aload_n 0, 1) := by decide +kernel
theorem dX6_settle_68 : decode cX6_settle 68 = .ok (.getfield 20, 3) := by decide +kernel
theorem dX6_settle_71 : decode cX6_settle 71 = .ok (.iconst 0, 1) := by decide +kernel
theorem dX6_settle_72 : decode cX6_settle 72 = .ok (.iaload, 1) := by decide +kernel
theorem dX6_settle_73 : decode cX6_settle 73 = .ok (.invokevirtual 367, 3) := by decide +kernel
theorem dX6_settle_76 : decode cX6_settle 76 = .ok (.aload_n 0, 1) := by decide +kernel
theorem dX6_settle_77 : decode cX6_settle 77 = .ok (.getfield 27, 3) := by decide +kernel
theorem dX6_settle_80 : decode cX6_settle 80 = .ok (.aload_n 0, 1) := by decide +kernel
theorem dX6_settle_81 : decode cX6_settle 81 = .ok (.getfield 11, 3) := by decide +kernel
theorem dX6_settle_84 : decode cX6_settle 84 = .ok (.iconst 1, 1) := by decide +kernel
theorem dX6_settle_85 : decode cX6_settle 85 = .ok (.aaload, 1) := by decide +kernel
theorem dX6_settle_86 : decode cX6_settle 86 = .ok (.invokevirtual 371, 3) := by decide +kernel
theorem dX6_settle_89 : decode cX6_settle 89 = .ok (.aload_n 0, 1) := by decide +kernel
theorem dX6_settle_90 : decode cX6_settle 90 = .ok (.getfield 41, 3) := by decide +kernel
theorem dX6_settle_93 : decode cX6_settle 93 = .ok (.aload_n 0, 1) := by decide +kernel
theorem dX6_settle_94 : decode cX6_settle 94 = .ok (.getfield 11, 3) := by decide +kernel
theorem dX6_settle_97 : decode cX6_settle 97 = .ok (.iconst 0, 1) := by decide +kernel
theorem dX6_settle_98 : decode cX6_settle 98 = .ok (.aaload, 1) := by decide +kernel
theorem dX6_settle_99 : decode cX6_settle 99 = .ok (.aload_n 0, 1) := by decide +kernel
theorem dX6_settle_100 : decode cX6_settle 100 = .ok (.getfield 11, 3) := by decide +kernel
theorem dX6_settle_103 : decode cX6_settle 103 = .ok (.iconst 1, 1) := by decide +kernel
theorem dX6_settle_104 : decode cX6_settle 104 = .ok (.aaload, 1) := by decide +kernel
theorem dX6_settle_105 : decode cX6_settle 105 = .ok (.invokevirtual 375, 3) := by decide +kernel
theorem dX6_settle_108 : decode cX6_settle 108 = .ok (.return_, 1) := by decide +kernel
theorem dX6_goneBut_0 : decode cX6_goneBut 0 = .ok (.aload_n 0, 1) := by decide +kernel
theorem dX6_goneBut_1 : decode cX6_goneBut 1 = .ok (.getfield 11, 3) := by decide +kernel
theorem dX6_goneBut_4 : decode cX6_goneBut 4 = .ok (.iconst 0, 1) := by decide +kernel
theorem dX6_goneBut_5 : decode cX6_goneBut 5 = .ok (.aaload, 1) := by decide +kernel
theorem dX6_goneBut_6 : decode cX6_goneBut 6 = .ok (.getfield 243, 3) := by decide +kernel
theorem dX6_goneBut_9 : decode cX6_goneBut 9 = .ok (.iload_n 1, 1) := by decide +kernel
theorem dX6_goneBut_10 : decode cX6_goneBut 10 = .ok (.iconst (-1), 1) := by decide +kernel
theorem dX6_goneBut_11 : decode cX6_goneBut 11 = .ok (.ixor, 1) := by decide +kernel
theorem dX6_goneBut_12 : decode cX6_goneBut 12 = .ok (.iand, 1) := by decide +kernel
theorem dX6_goneBut_13 : decode cX6_goneBut 13 = .ok (.ireturn, 1) := by decide +kernel
theorem dX6_comersThatLook_0 : decode cX6_comersThatLook 0 = .ok (.iconst 0, 1) := by decide +kernel
theorem dX6_comersThatLook_1 : decode cX6_comersThatLook 1 = .ok (.istore_n 2, 1) := by decide +kernel
theorem dX6_comersThatLook_2 : decode cX6_comersThatLook 2 = .ok (.iconst 0, 1) := by decide +kernel
theorem dX6_comersThatLook_3 : decode cX6_comersThatLook 3 = .ok (.istore_n 3, 1) := by decide +kernel
theorem dX6_comersThatLook_4 : decode cX6_comersThatLook 4 = .ok (.iload_n 3, 1) := by decide +kernel
theorem dX6_comersThatLook_5 : decode cX6_comersThatLook 5 = .ok (.bipush 10, 2) := by decide +kernel
theorem dX6_comersThatLook_7 : decode cX6_comersThatLook 7 = .ok (.if_icmp .ge 40, 3) := by decide +kernel
theorem dX6_comersThatLook_10 : decode cX6_comersThatLook 10 = .ok (.aload_n 0, 1) := by decide +kernel
theorem dX6_comersThatLook_11 : decode cX6_comersThatLook 11 = .ok (.getfield 11, 3) := by decide +kernel
theorem dX6_comersThatLook_14 : decode cX6_comersThatLook 14 = .ok (.iconst 0, 1) := by decide +kernel
theorem dX6_comersThatLook_15 : decode cX6_comersThatLook 15 = .ok (.aaload, 1) := by decide +kernel
theorem dX6_comersThatLook_16 : decode cX6_comersThatLook 16 = .ok (.getfield 243, 3) := by decide +kernel
theorem dX6_comersThatLook_19 : decode cX6_comersThatLook 19 = .ok (.iload_n 3, 1) := by decide +kernel
theorem dX6_comersThatLook_20 : decode cX6_comersThatLook 20 = .ok (.invokestatic 230, 3) := by decide +kernel
theorem dX6_comersThatLook_23 : decode cX6_comersThatLook 23 = .ok (.ifCond .eq 18, 3) := by decide +kernel
theorem dX6_comersThatLook_26 : decode cX6_comersThatLook 26 = .ok (.aload_n 0, 1) := by decide +kernel
theorem dX6_comersThatLook_27 : decode cX6_comersThatLook 27 = .ok (.getfield 17, 3) := by decide +kernel
theorem dX6_comersThatLook_30 : decode cX6_comersThatLook 30 = .ok (.iconst 1, 1) := by decide +kernel
theorem dX6_comersThatLook_31 : decode cX6_comersThatLook 31 = .ok (.aaload, 1) := by decide +kernel
theorem dX6_comersThatLook_32 : decode cX6_comersThatLook 32 = .ok (.iload_n 3, 1) := by decide +kernel
theorem dX6_comersThatLook_33 : decode cX6_comersThatLook 33 = .ok (.iaload, 1) := by decide +kernel
theorem dX6_comersThatLook_34 : decode cX6_comersThatLook 34 = .ok (.iload_n 1, 1) := by decide +kernel
theorem dX6_comersThatLook_35 : decode cX6_comersThatLook 35 = .ok (.if_icmp .ne 6, 3) := by decide +kernel
theorem dX6_comersThatLook_38 : decode cX6_comersThatLook 38 = .ok (.iinc 2 1, 3) := by decide +kernel
theorem dX6_comersThatLook_41 : decode cX6_comersThatLook 41 = .ok (.iinc 3 1, 3) := by decide +kernel
theorem dX6_comersThatLook_44 : decode cX6_comersThatLook 44 = .ok (.goto (-40), 3) := by decide +kernel
theorem dX6_comersThatLook_47 : decode cX6_comersThatLook 47 = .ok (.iload_n 2, 1) := by decide +kernel
theorem dX6_comersThatLook_48 : decode cX6_comersThatLook 48 = .ok (.ireturn, 1) := by decide +kernel
theorem dX6_findingAtItem_0 : decode cX6_findingAtItem 0 = .ok (.aload_n 0, 1) := by decide +kernel
theorem dX6_findingAtItem_1 : decode cX6_findingAtItem 1 = .ok (.getfield 54, 3) := by decide +kernel
theorem dX6_findingAtItem_4 : decode cX6_findingAtItem 4 = .ok (.iload_n 1, 1) := by decide +kernel
theorem dX6_findingAtItem_5 : decode cX6_findingAtItem 5 = .ok (.aaload, 1) := by decide +kernel
theorem dX6_findingAtItem_6 : decode cX6_findingAtItem 6 = .ok (.astore 4, 2) := by decide +kernel
theorem dX6_findingAtItem_8 : decode cX6_findingAtItem 8 = .ok (.aload 4, 2) := by decide +kernel
theorem dX6_findingAtItem_10 : decode cX6_findingAtItem 10 = .ok (.getfield 93, 3) := by decide +kernel
theorem dX6_findingAtItem_13 : decode cX6_findingAtItem 13 = .ok (.ifCond .eq 5, 3) := by decide +kernel
theorem dX6_findingAtItem_16 : decode cX6_findingAtItem 16 = .ok (.iconst 1, 1) := by decide +kernel
theorem dX6_findingAtItem_17 : decode cX6_findingAtItem 17 = .ok (.ireturn, 1) := by decide +kernel
theorem dX6_findingAtItem_18 : decode cX6_findingAtItem 18 = .ok (.aload 4, 2) := by decide +kernel
theorem dX6_findingAtItem_20 : decode cX6_findingAtItem 20 = .ok (.getfield 269, 3) := by decide +kernel
theorem dX6_findingAtItem_23 : decode cX6_findingAtItem 23 = .ok (.iload_n 2, 1) := by decide +kernel
theorem dX6_findingAtItem_24 : decode cX6_findingAtItem 24 = .ok (.if_icmp .eq 5, 3) := by decide +kernel
theorem dX6_findingAtItem_27 : decode cX6_findingAtItem 27 = .ok (.iconst 3, 1) := by decide +kernel
theorem dX6_findingAtItem_28 : decode cX6_findingAtItem 28 = .ok (.ireturn, 1) := by decide +kernel
theorem dX6_findingAtItem_29 : decode cX6_findingAtItem 29 = .ok (.iload_n 3, 1) := by decide +kernel
theorem dX6_findingAtItem_30 : decode cX6_findingAtItem 30 = .ok (.iconst 0, 1) := by decide +kernel
theorem dX6_findingAtItem_31 : decode cX6_findingAtItem 31 = .ok (.aload 4, 2) := by decide +kernel
theorem dX6_findingAtItem_33 : decode cX6_findingAtItem 33 = .ok (.getfield 101, 3) := by decide +kernel
theorem dX6_findingAtItem_36 : decode cX6_findingAtItem 36 = .ok (.iconst 1, 1) := by decide +kernel
theorem dX6_findingAtItem_37 : decode cX6_findingAtItem 37 = .ok (.isub, 1) := by decide +kernel
theorem dX6_findingAtItem_38 : decode cX6_findingAtItem 38 = .ok (.invokestatic 63, 3) := by decide +kernel
theorem dX6_findingAtItem_41 : decode cX6_findingAtItem 41 = .ok (.ifCond .eq 7, 3) := by decide +kernel
theorem dX6_findingAtItem_44 : decode cX6_findingAtItem 44 = .ok (.iconst 0, 1) := by decide +kernel
theorem dX6_findingAtItem_45 : decode cX6_findingAtItem 45 = .ok (.goto 4, 3) := by decide +kernel
theorem dX6_findingAtItem_48 : decode cX6_findingAtItem 48 = .ok (.iconst 2, 1) := by decide +kernel
theorem dX6_findingAtItem_49 : decode cX6_findingAtItem 49 = .ok (.ireturn, 1) := by decide +kernel
theorem dX6_finding_0 : decode cX6_finding 0 = .ok (.aload_n 0, 1) := by decide +kernel
theorem dX6_finding_1 : decode cX6_finding 1 = .ok (.iload_n 1, 1) := by decide +kernel
theorem dX6_finding_2 : decode cX6_finding 2 = .ok (.putfield 266, 3) := by decide +kernel
theorem dX6_finding_5 : decode cX6_finding 5 = .ok (.bipush (-10), 2) := by decide +kernel
theorem dX6_finding_7 : decode cX6_finding 7 = .ok (.iload_n 1, 1) := by decide +kernel
theorem dX6_finding_8 : decode cX6_finding 8 = .ok (.isub, 1) := by decide +kernel
theorem dX6_finding_9 : decode cX6_finding 9 = .ok (.ireturn, 1) := by decide +kernel
theorem dX6_refusal_0 : decode cX6_refusal 0 = .ok (.ldc2_w 379, 3) := by decide +kernel
theorem dX6_refusal_3 : decode cX6_refusal 3 = .ok (.iload_n 0, 1) := by decide +kernel
theorem dX6_refusal_4 : decode cX6_refusal 4 = .ok (.i2l, 1) := by decide +kernel
theorem dX6_refusal_5 : decode cX6_refusal 5 = .ok (.lsub, 1) := by decide +kernel
theorem dX6_refusal_6 : decode cX6_refusal 6 = .ok (.lreturn, 1) := by decide +kernel
theorem dX6_within_0 : decode cX6_within 0 = .ok (.iload_n 0, 1) := by decide +kernel
theorem dX6_within_1 : decode cX6_within 1 = .ok (.iload_n 1, 1) := by decide +kernel
theorem dX6_within_2 : decode cX6_within 2 = .ok (.if_icmp .lt 12, 3) := by decide +kernel
theorem dX6_within_5 : decode cX6_within 5 = .ok (.iload_n 0, 1) := by decide +kernel
theorem dX6_within_6 : decode cX6_within 6 = .ok (.iload_n 2, 1) := by decide +kernel
theorem dX6_within_7 : decode cX6_within 7 = .ok (.if_icmp .gt 7, 3) := by decide +kernel
theorem dX6_within_10 : decode cX6_within 10 = .ok (.iconst 1, 1) := by decide +kernel
theorem dX6_within_11 : decode cX6_within 11 = .ok (.goto 4, 3) := by decide +kernel
theorem dX6_within_14 : decode cX6_within 14 = .ok (.iconst 0, 1) := by decide +kernel
theorem dX6_within_15 : decode cX6_within 15 = .ok (.ireturn, 1) := by decide +kernel
theorem dX6_isGuest_0 : decode cX6_isGuest 0 = .ok (.iload_n 0, 1) := by decide +kernel
theorem dX6_isGuest_1 : decode cX6_isGuest 1 = .ok (.iconst 0, 1) := by decide +kernel
theorem dX6_isGuest_2 : decode cX6_isGuest 2 = .ok (.bipush 9, 2) := by decide +kernel
theorem dX6_isGuest_4 : decode cX6_isGuest 4 = .ok (.invokestatic 63, 3) := by decide +kernel
theorem dX6_isGuest_7 : decode cX6_isGuest 7 = .ok (.ireturn, 1) := by decide +kernel
theorem dX6_isSheet_0 : decode cX6_isSheet 0 = .ok (.iload_n 0, 1) := by decide +kernel
theorem dX6_isSheet_1 : decode cX6_isSheet 1 = .ok (.iconst 0, 1) := by decide +kernel
theorem dX6_isSheet_2 : decode cX6_isSheet 2 = .ok (.iconst 3, 1) := by decide +kernel
theorem dX6_isSheet_3 : decode cX6_isSheet 3 = .ok (.invokestatic 63, 3) := by decide +kernel
theorem dX6_isSheet_6 : decode cX6_isSheet 6 = .ok (.ireturn, 1) := by decide +kernel
theorem dX6_isForm_0 : decode cX6_isForm 0 = .ok (.iload_n 0, 1) := by decide +kernel
theorem dX6_isForm_1 : decode cX6_isForm 1 = .ok (.iconst 0, 1) := by decide +kernel
theorem dX6_isForm_2 : decode cX6_isForm 2 = .ok (.iconst 2, 1) := by decide +kernel
theorem dX6_isForm_3 : decode cX6_isForm 3 = .ok (.invokestatic 63, 3) := by decide +kernel
theorem dX6_isForm_6 : decode cX6_isForm 6 = .ok (.ireturn, 1) := by decide +kernel
theorem dX6_bit_0 : decode cX6_bit 0 = .ok (.iload_n 0, 1) := by decide +kernel
theorem dX6_bit_1 : decode cX6_bit 1 = .ok (.ifCond .lt 15, 3) := by decide +kernel
theorem dX6_bit_4 : decode cX6_bit 4 = .ok (.iload_n 0, 1) := by decide +kernel
theorem dX6_bit_5 : decode cX6_bit 5 = .ok (.bipush 10, 2) := by decide +kernel
theorem dX6_bit_7 : decode cX6_bit 7 = .ok (.if_icmp .ge 9, 3) := by decide +kernel
theorem dX6_bit_10 : decode cX6_bit 10 = .ok (.iconst 1, 1) := by decide +kernel
theorem dX6_bit_11 : decode cX6_bit 11 = .ok (.iload_n 0, 1) := by decide +kernel
theorem dX6_bit_12 : decode cX6_bit 12 = .ok (.ishl, 1) := by decide +kernel
theorem dX6_bit_13 : decode cX6_bit 13 = .ok (.goto 4, 3) := by decide +kernel
theorem dX6_bit_16 : decode cX6_bit 16 = .ok (.iconst 0, 1) := by decide +kernel
theorem dX6_bit_17 : decode cX6_bit 17 = .ok (.ireturn, 1) := by decide +kernel
theorem dX6_has_0 : decode cX6_has 0 = .ok (.iload_n 1, 1) := by decide +kernel
theorem dX6_has_1 : decode cX6_has 1 = .ok (.ifCond .lt 21, 3) := by decide +kernel
theorem dX6_has_4 : decode cX6_has 4 = .ok (.iload_n 1, 1) := by decide +kernel
theorem dX6_has_5 : decode cX6_has 5 = .ok (.bipush 10, 2) := by decide +kernel
theorem dX6_has_7 : decode cX6_has 7 = .ok (.if_icmp .ge 15, 3) := by decide +kernel
theorem dX6_has_10 : decode cX6_has 10 = .ok (.iload_n 0, 1) := by decide +kernel
theorem dX6_has_11 : decode cX6_has 11 = .ok (.iconst 1, 1) := by decide +kernel
theorem dX6_has_12 : decode cX6_has 12 = .ok (.iload_n 1, 1) := by decide +kernel
theorem dX6_has_13 : decode cX6_has 13 = .ok (.ishl, 1) := by decide +kernel
theorem dX6_has_14 : decode cX6_has 14 = .ok (.iand, 1) := by decide +kernel
theorem dX6_has_15 : decode cX6_has 15 = .ok (.ifCond .eq 7, 3) := by decide +kernel
theorem dX6_has_18 : decode cX6_has 18 = .ok (.iconst 1, 1) := by decide +kernel
theorem dX6_has_19 : decode cX6_has 19 = .ok (.goto 4, 3) := by decide +kernel
theorem dX6_has_22 : decode cX6_has 22 = .ok (.iconst 0, 1) := by decide +kernel
theorem dX6_has_23 : decode cX6_has 23 = .ok (.ireturn, 1) := by decide +kernel
theorem dX6_guestOf_0 : decode cX6_guestOf 0 = .ok (.iconst 0, 1) := by decide +kernel
theorem dX6_guestOf_1 : decode cX6_guestOf 1 = .ok (.istore_n 2, 1) := by decide +kernel
theorem dX6_guestOf_2 : decode cX6_guestOf 2 = .ok (.iconst 0, 1) := by decide +kernel
theorem dX6_guestOf_3 : decode cX6_guestOf 3 = .ok (.istore_n 3, 1) := by decide +kernel
theorem dX6_guestOf_4 : decode cX6_guestOf 4 = .ok (.iload_n 3, 1) := by decide +kernel
theorem dX6_guestOf_5 : decode cX6_guestOf 5 = .ok (.bipush 10, 2) := by decide +kernel
theorem dX6_guestOf_7 : decode cX6_guestOf 7 = .ok (.if_icmp .ge 27, 3) := by decide +kernel
theorem dX6_guestOf_10 : decode cX6_guestOf 10 = .ok (.iload_n 0, 1) := by decide +kernel
theorem dX6_guestOf_11 : decode cX6_guestOf 11 = .ok (.iload_n 3, 1) := by decide +kernel
theorem dX6_guestOf_12 : decode cX6_guestOf 12 = .ok (.invokestatic 230, 3) := by decide +kernel
theorem dX6_guestOf_15 : decode cX6_guestOf 15 = .ok (.ifCond .eq 13, 3) := by decide +kernel
theorem dX6_guestOf_18 : decode cX6_guestOf 18 = .ok (.iload_n 2, 1) := by decide +kernel
theorem dX6_guestOf_19 : decode cX6_guestOf 19 = .ok (.iload_n 1, 1) := by decide +kernel
theorem dX6_guestOf_20 : decode cX6_guestOf 20 = .ok (.if_icmp .ne 5, 3) := by decide +kernel
theorem dX6_guestOf_23 : decode cX6_guestOf 23 = .ok (.iload_n 3, 1) := by decide +kernel
theorem dX6_guestOf_24 : decode cX6_guestOf 24 = .ok (.ireturn, 1) := by decide +kernel
theorem dX6_guestOf_25 : decode cX6_guestOf 25 = .ok (.iinc 2 1, 3) := by decide +kernel
theorem dX6_guestOf_28 : decode cX6_guestOf 28 = .ok (.iinc 3 1, 3) := by decide +kernel
theorem dX6_guestOf_31 : decode cX6_guestOf 31 = .ok (.goto (-27), 3) := by decide +kernel
theorem dX6_guestOf_34 : decode cX6_guestOf 34 = .ok (.iconst (-1), 1) := by decide +kernel
theorem dX6_guestOf_35 : decode cX6_guestOf 35 = .ok (.ireturn, 1) := by decide +kernel
theorem dX6_lowestBits_0 : decode cX6_lowestBits 0 = .ok (.iload_n 0, 1) := by decide +kernel
theorem dX6_lowestBits_1 : decode cX6_lowestBits 1 = .ok (.ifCond .ne 6, 3) := by decide +kernel
theorem dX6_lowestBits_4 : decode cX6_lowestBits 4 = .ok (.iload_n 1, 1) := by decide +kernel
theorem dX6_lowestBits_5 : decode cX6_lowestBits 5 = .ok (.i2b, 1) := by decide +kernel
theorem dX6_lowestBits_6 : decode cX6_lowestBits 6 = .ok (.ireturn, 1) := by decide +kernel
theorem dX6_lowestBits_7 : decode cX6_lowestBits 7 = .ok (.iload_n 0, 1) := by decide +kernel
theorem dX6_lowestBits_8 : decode cX6_lowestBits 8 = .ok (.iconst 1, 1) := by decide +kernel
theorem dX6_lowestBits_9 : decode cX6_lowestBits 9 = .ok (.if_icmp .ne 8, 3) := by decide +kernel
theorem dX6_lowestBits_12 : decode cX6_lowestBits 12 = .ok (.iload_n 1, 1) := by decide +kernel
theorem dX6_lowestBits_13 : decode cX6_lowestBits 13 = .ok (.i2s, 1) := by decide +kernel
theorem dX6_lowestBits_14 : decode cX6_lowestBits 14 = .ok (.goto 4, 3) := by decide +kernel
theorem dX6_lowestBits_17 : decode cX6_lowestBits 17 = .ok (.iload_n 1, 1) := by decide +kernel
theorem dX6_lowestBits_18 : decode cX6_lowestBits 18 = .ok (.ireturn, 1) := by decide +kernel
theorem dX6_inLowestTerms_0 : decode cX6_inLowestTerms 0 = .ok (.iload_n 0, 1) := by decide +kernel
theorem dX6_inLowestTerms_1 : decode cX6_inLowestTerms 1 = .ok (.iload_n 1, 1) := by decide +kernel
theorem dX6_inLowestTerms_2 : decode cX6_inLowestTerms 2 = .ok (.invokestatic 381, 3) := by decide +kernel
theorem dX6_inLowestTerms_5 : decode cX6_inLowestTerms 5 = .ok (.istore_n 3, 1) := by decide +kernel
theorem dX6_inLowestTerms_6 : decode cX6_inLowestTerms 6 = .ok (.iload_n 3, 1) := by decide +kernel
theorem dX6_inLowestTerms_7 : decode cX6_inLowestTerms 7 = .ok (.iconst 1, 1) := by decide +kernel
theorem dX6_inLowestTerms_8 : decode cX6_inLowestTerms 8 = .ok (.if_icmp .ge 5, 3) := by decide +kernel
theorem dX6_inLowestTerms_11 : decode cX6_inLowestTerms 11 = .ok (.lconst 0, 1) := by decide +kernel
theorem dX6_inLowestTerms_12 : decode cX6_inLowestTerms 12 = .ok (.lreturn, 1) := by decide +kernel
theorem dX6_inLowestTerms_13 : decode cX6_inLowestTerms 13 = .ok (.iload_n 2, 1) := by decide +kernel
theorem dX6_inLowestTerms_14 : decode cX6_inLowestTerms 14 = .ok (.ifCond .ne 7, 3) := by decide +kernel
theorem dX6_inLowestTerms_17 : decode cX6_inLowestTerms 17 = .ok (.iload_n 0, 1) := by decide +kernel
theorem dX6_inLowestTerms_18 : decode cX6_inLowestTerms 18 = .ok (.goto 4, 3) := by decide +kernel
theorem dX6_inLowestTerms_21 : decode cX6_inLowestTerms 21 = .ok (.iload_n 1, 1) := by decide +kernel
theorem dX6_inLowestTerms_22 : decode cX6_inLowestTerms 22 = .ok (.iload_n 3, 1) := by decide +kernel
theorem dX6_inLowestTerms_23 : decode cX6_inLowestTerms 23 = .ok (.idiv, 1) := by decide +kernel
theorem dX6_inLowestTerms_24 : decode cX6_inLowestTerms 24 = .ok (.i2l, 1) := by decide +kernel
theorem dX6_inLowestTerms_25 : decode cX6_inLowestTerms 25 = .ok (.lreturn, 1) := by decide +kernel
theorem dX6_commonDivisor_0 : decode cX6_commonDivisor 0 = .ok (.iload_n 0, 1) := by decide +kernel
theorem dX6_commonDivisor_1 : decode cX6_commonDivisor 1 = .ok (.istore_n 2, 1) := by decide +kernel
theorem dX6_commonDivisor_2 : decode cX6_commonDivisor 2 = .ok (.iload_n 1, 1) := by decide +kernel
theorem dX6_commonDivisor_3 : decode cX6_commonDivisor 3 = .ok (.istore_n 3, 1) := by decide +kernel
theorem dX6_commonDivisor_4 : decode cX6_commonDivisor 4 = .ok (.iconst 0, 1) := by decide +kernel
theorem dX6_commonDivisor_5 : decode cX6_commonDivisor 5 = .ok (.istore 4, 2) := by decide +kernel
theorem dX6_commonDivisor_7 : decode cX6_commonDivisor 7 = .ok (.iload 4, 2) := by decide +kernel
theorem dX6_commonDivisor_9 : decode cX6_commonDivisor 9 = .ok (.bipush 64, 2) := by decide +kernel
theorem dX6_commonDivisor_11 : decode cX6_commonDivisor 11 = .ok (.if_icmp .ge 23, 3) := by decide +kernel
theorem dX6_commonDivisor_14 : decode cX6_commonDivisor 14 = .ok (.iload_n 3, 1) := by decide +kernel
theorem dX6_commonDivisor_15 : decode cX6_commonDivisor 15 = .ok (.ifCond .eq 19, 3) := by decide +kernel
theorem dX6_commonDivisor_18 : decode cX6_commonDivisor 18 = .ok (.iload_n 2, 1) := by decide +kernel
theorem dX6_commonDivisor_19 : decode cX6_commonDivisor 19 = .ok (.iload_n 3, 1) := by decide +kernel
theorem dX6_commonDivisor_20 : decode cX6_commonDivisor 20 = .ok (.irem, 1) := by decide +kernel
theorem dX6_commonDivisor_21 : decode cX6_commonDivisor 21 = .ok (.istore 5, 2) := by decide +kernel
theorem dX6_commonDivisor_23 : decode cX6_commonDivisor 23 = .ok (.iload_n 3, 1) := by decide +kernel
theorem dX6_commonDivisor_24 : decode cX6_commonDivisor 24 = .ok (.istore_n 2, 1) := by decide +kernel
theorem dX6_commonDivisor_25 : decode cX6_commonDivisor 25 = .ok (.iload 5, 2) := by decide +kernel
theorem dX6_commonDivisor_27 : decode cX6_commonDivisor 27 = .ok (.istore_n 3, 1) := by decide +kernel
theorem dX6_commonDivisor_28 : decode cX6_commonDivisor 28 = .ok (.iinc 4 1, 3) := by decide +kernel
theorem dX6_commonDivisor_31 : decode cX6_commonDivisor 31 = .ok (.goto (-24), 3) := by decide +kernel
theorem dX6_commonDivisor_34 : decode cX6_commonDivisor 34 = .ok (.iload_n 2, 1) := by decide +kernel
theorem dX6_commonDivisor_35 : decode cX6_commonDivisor 35 = .ok (.ireturn, 1) := by decide +kernel
theorem dX6_orders_0 : decode cX6_orders 0 = .ok (.lconst 1, 1) := by decide +kernel
theorem dX6_orders_1 : decode cX6_orders 1 = .ok (.lstore_n 1, 1) := by decide +kernel
theorem dX6_orders_2 : decode cX6_orders 2 = .ok (.iconst 2, 1) := by decide +kernel
theorem dX6_orders_3 : decode cX6_orders 3 = .ok (.istore_n 3, 1) := by decide +kernel
theorem dX6_orders_4 : decode cX6_orders 4 = .ok (.iload_n 3, 1) := by decide +kernel
theorem dX6_orders_5 : decode cX6_orders 5 = .ok (.iload_n 0, 1) := by decide +kernel
theorem dX6_orders_6 : decode cX6_orders 6 = .ok (.if_icmp .gt 14, 3) := by decide +kernel
theorem dX6_orders_9 : decode cX6_orders 9 = .ok (.lload_n 1, 1) := by decide +kernel
theorem dX6_orders_10 : decode cX6_orders 10 = .ok (.iload_n 3, 1) := by decide +kernel
theorem dX6_orders_11 : decode cX6_orders 11 = .ok (.i2l, 1) := by decide +kernel
theorem dX6_orders_12 : decode cX6_orders 12 = .ok (.lmul, 1) := by decide +kernel
theorem dX6_orders_13 : decode cX6_orders 13 = .ok (.lstore_n 1, 1) := by decide +kernel
theorem dX6_orders_14 : decode cX6_orders 14 = .ok (.iinc 3 1, 3) := by decide +kernel
theorem dX6_orders_17 : decode cX6_orders 17 = .ok (.goto (-13), 3) := by decide +kernel
theorem dX6_orders_20 : decode cX6_orders 20 = .ok (.lload_n 1, 1) := by decide +kernel
theorem dX6_orders_21 : decode cX6_orders 21 = .ok (.lreturn, 1) := by decide +kernel
theorem dX6_ordersWithNoneInPlace_0 : decode cX6_ordersWithNoneInPlace 0 = .ok (.lconst 1, 1) := by decide +kernel
theorem dX6_ordersWithNoneInPlace_1 : decode cX6_ordersWithNoneInPlace 1 = .ok (.lstore_n 1, 1) := by decide +kernel
theorem dX6_ordersWithNoneInPlace_2 : decode cX6_ordersWithNoneInPlace 2 = .ok (.iconst 1, 1) := by decide +kernel
theorem dX6_ordersWithNoneInPlace_3 : decode cX6_ordersWithNoneInPlace 3 = .ok (.istore_n 3, 1) := by decide +kernel
theorem dX6_ordersWithNoneInPlace_4 : decode cX6_ordersWithNoneInPlace 4 = .ok (.iload_n 3, 1) := by decide +kernel
theorem dX6_ordersWithNoneInPlace_5 : decode cX6_ordersWithNoneInPlace 5 = .ok (.iload_n 0, 1) := by decide +kernel
theorem dX6_ordersWithNoneInPlace_6 : decode cX6_ordersWithNoneInPlace 6 = .ok (.if_icmp .gt 27, 3) := by decide +kernel
theorem dX6_ordersWithNoneInPlace_9 : decode cX6_ordersWithNoneInPlace 9 = .ok (.iload_n 3, 1) := by decide +kernel
theorem dX6_ordersWithNoneInPlace_10 : decode cX6_ordersWithNoneInPlace 10 = .ok (.i2l, 1) := by decide +kernel
theorem dX6_ordersWithNoneInPlace_11 : decode cX6_ordersWithNoneInPlace 11 = .ok (.lload_n 1, 1) := by decide +kernel
theorem dX6_ordersWithNoneInPlace_12 : decode cX6_ordersWithNoneInPlace 12 = .ok (.lmul, 1) := by decide +kernel
theorem dX6_ordersWithNoneInPlace_13 : decode cX6_ordersWithNoneInPlace 13 = .ok (.iload_n 3, 1) := by decide +kernel
theorem dX6_ordersWithNoneInPlace_14 : decode cX6_ordersWithNoneInPlace 14 = .ok (.iconst 2, 1) := by decide +kernel
theorem dX6_ordersWithNoneInPlace_15 : decode cX6_ordersWithNoneInPlace 15 = .ok (.irem, 1) := by decide +kernel
theorem dX6_ordersWithNoneInPlace_16 : decode cX6_ordersWithNoneInPlace 16 = .ok (.ifCond .ne 7, 3) := by decide +kernel
theorem dX6_ordersWithNoneInPlace_19 : decode cX6_ordersWithNoneInPlace 19 = .ok (.iconst 1, 1) := by decide +kernel
theorem dX6_ordersWithNoneInPlace_20 : decode cX6_ordersWithNoneInPlace 20 = .ok (.goto 4, 3) := by decide +kernel
theorem dX6_ordersWithNoneInPlace_23 : decode cX6_ordersWithNoneInPlace 23 = .ok (.iconst (-1), 1) := by decide +kernel
theorem dX6_ordersWithNoneInPlace_24 : decode cX6_ordersWithNoneInPlace 24 = .ok (.i2l, 1) := by decide +kernel
theorem dX6_ordersWithNoneInPlace_25 : decode cX6_ordersWithNoneInPlace 25 = .ok (.ladd, 1) := by decide +kernel
theorem dX6_ordersWithNoneInPlace_26 : decode cX6_ordersWithNoneInPlace 26 = .ok (.lstore_n 1, 1) := by decide +kernel
theorem dX6_ordersWithNoneInPlace_27 : decode cX6_ordersWithNoneInPlace 27 = .ok (.iinc 3 1, 3) := by decide +kernel
theorem dX6_ordersWithNoneInPlace_30 : decode cX6_ordersWithNoneInPlace 30 = .ok (.goto (-26), 3) := by decide +kernel
theorem dX6_ordersWithNoneInPlace_33 : decode cX6_ordersWithNoneInPlace 33 = .ok (.lload_n 1, 1) := by decide +kernel
theorem dX6_ordersWithNoneInPlace_34 : decode cX6_ordersWithNoneInPlace 34 = .ok (.lreturn, 1) := by decide +kernel
