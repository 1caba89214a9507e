theorem dX8_init_0 : decode cX8_init 0 = .ok (.aload_n 0, 1) := by decide +kernel
theorem dX8_init_1 : decode cX8_init 1 = .ok (.invokespecial 1, 3) := by decide +kernel
theorem dX8_init_4 : decode cX8_init 4 = .ok (.aload_n 0, 1) := by decide +kernel
theorem dX8_init_5 : decode cX8_init 5 = .ok (.new 7, 3) := by decide +kernel
theorem dX8_init_8 : decode cX8_init 8 = .ok (.dup, 1) := by decide +kernel
theorem dX8_init_9 : decode cX8_init 9 = .ok (.bipush 47, 2) := by decide +kernel
theorem dX8_init_11 : decode cX8_init 11 = .ok (.invokespecial 11, 3) := by decide +kernel
theorem dX8_init_14 : decode cX8_init 14 = .ok (.putfield 14, 3) := by decide +kernel
theorem dX8_init_17 : decode cX8_init 17 = .ok (.aload_n 0, 1) := by decide +kernel
theorem dX8_init_18 : decode cX8_init 18 = .ok (.new 7, 3) := by decide +kernel
theorem dX8_init_21 : decode cX8_init 21 = .ok (.dup, 1) := by decide +kernel
theorem dX8_init_22 : decode cX8_init 22 = .ok (.bipush 8, 2) := by decide +kernel
theorem dX8_init_24 : decode cX8_init 24 = .ok (.invokespecial 11, 3) := by decide +kernel
theorem dX8_init_27 : decode cX8_init 27 = .ok (.putfield 18, 3) := by decide +kernel
theorem dX8_init_30 : decode cX8_init 30 = .ok (.aload_n 0, 1) := by decide +kernel
theorem dX8_init_31 : decode cX8_init 31 = .ok (.new 21, 3) := by decide +kernel
theorem dX8_init_34 : decode cX8_init 34 = .ok (.dup, 1) := by decide +kernel
theorem dX8_init_35 : decode cX8_init 35 = .ok (.invokespecial 23, 3) := by decide +kernel
theorem dX8_init_38 : decode cX8_init 38 = .ok (.putfield 24, 3) := by decide +kernel
theorem dX8_init_41 : decode cX8_init 41 = .ok (.aload_n 0, 1) := by decide +kernel
theorem dX8_init_42 : decode cX8_init 42 = .ok (.new 28, 3) := by decide +kernel
theorem dX8_init_45 : decode cX8_init 45 = .ok (.dup, 1) := by decide +kernel
theorem dX8_init_46 : decode cX8_init 46 = .ok (.invokespecial 30, 3) := by decide +kernel
theorem dX8_init_49 : decode cX8_init 49 = .ok (.putfield 31, 3) := by decide +kernel
theorem dX8_init_52 : decode cX8_init 52 = .ok (.aload_n 0, 1) := by decide +kernel
theorem dX8_init_53 : decode cX8_init 53 = .ok (.new 35, 3) := by decide +kernel
theorem dX8_init_56 : decode cX8_init 56 = .ok (.dup, 1) := by decide +kernel
theorem dX8_init_57 : decode cX8_init 57 = .ok (.invokespecial 37, 3) := by decide +kernel
theorem dX8_init_60 : decode cX8_init 60 = .ok (.putfield 38, 3) := by decide +kernel
theorem dX8_init_63 : decode cX8_init 63 = .ok (.aload_n 0, 1) := by decide +kernel
theorem dX8_init_64 : decode cX8_init 64 = .ok (.new 42, 3) := by decide +kernel
theorem dX8_init_67 : decode cX8_init 67 = .ok (.dup, 1) := by decide +kernel
theorem dX8_init_68 : decode cX8_init 68 = .ok (.invokespecial 44, 3) := by decide +kernel
theorem dX8_init_71 : decode cX8_init 71 = .ok (.putfield 45, 3) := by decide +kernel
theorem dX8_init_74 : decode cX8_init 74 = .ok (.aload_n 0, 1) := by decide +kernel
theorem dX8_init_75 : decode cX8_init 75 = .ok (.new 49, 3) := by decide +kernel
theorem dX8_init_78 : decode cX8_init 78 = .ok (.dup, 1) := by decide +kernel
theorem dX8_init_79 : decode cX8_init 79 = .ok (.invokespecial 51, 3) := by decide +kernel
theorem dX8_init_82 : decode cX8_init 82 = .ok (.putfield 52, 3) := by decide +kernel
theorem dX8_init_85 : decode cX8_init 85 = .ok (.aload_n 0, 1) := by decide +kernel
theorem dX8_init_86 : decode cX8_init 86 = .ok (.new 49, 3) := by decide +kernel
theorem dX8_init_89 : decode cX8_init 89 = .ok (.dup, 1) := by decide +kernel
theorem dX8_init_90 : decode cX8_init 90 = .ok (.invokespecial 51, 3) := by decide +kernel
theorem dX8_init_93 : decode cX8_init 93 = .ok (.putfield 56, 3) := by decide +kernel
theorem dX8_init_96 : decode cX8_init 96 = .ok (.aload_n 0, 1) := by decide +kernel
theorem dX8_init_97 : decode cX8_init 97 = .ok (.bipush 11, 2) := by decide +kernel
theorem dX8_init_99 : decode cX8_init 99 = .ok (.anewarray 49, 3) := by decide +kernel
theorem dX8_init_102 : decode cX8_init 102 = .ok (.putfield 59, 3) := by decide +kernel
theorem dX8_init_105 : decode cX8_init 105 = .ok (.aload_n 0, 1) := by decide +kernel
theorem dX8_init_106 : decode cX8_init 106 = .ok (.sipush 128, 3) := by decide +kernel
theorem dX8_init_109 : decode cX8_init 109 = .ok (.newarray .int, 2) := by decide +kernel
theorem dX8_init_111 : decode cX8_init 111 = .ok (.putfield 63, 3) := by decide +kernel
theorem dX8_init_114 : decode cX8_init 114 = .ok (.aload_n 0, 1) := by decide +kernel
theorem dX8_init_115 : decode cX8_init 115 = .ok (.iconst 1, 1) := by decide +kernel
theorem dX8_init_116 : decode cX8_init 116 = .ok (.putfield 67, 3) := by decide +kernel
theorem dX8_init_119 : decode cX8_init 119 = .ok (.aload_n 0, 1) := by decide +kernel
theorem dX8_init_120 : decode cX8_init 120 = .ok (.iconst (-1), 1) := by decide +kernel
theorem dX8_init_121 : decode cX8_init 121 = .ok (.putfield 71, 3) := by decide +kernel
theorem dX8_init_124 : decode cX8_init 124 = .ok (.aload_n 0, 1) := by decide +kernel
theorem dX8_init_125 : decode cX8_init 125 = .ok (.iconst (-1), 1) := by decide +kernel
theorem dX8_init_126 : decode cX8_init 126 = .ok (.putfield 75, 3) := by decide +kernel
theorem dX8_init_129 : decode cX8_init 129 = .ok (.aload_n 0, 1) := by decide +kernel
theorem dX8_init_130 : decode cX8_init 130 = .ok (.iconst 0, 1) := by decide +kernel
theorem dX8_init_131 : decode cX8_init 131 = .ok (.putfield 78, 3) := by decide +kernel
theorem dX8_init_134 : decode cX8_init 134 = .ok (.iconst 0, 1) := by decide +kernel
theorem dX8_init_135 : decode cX8_init 135 = .ok (.istore_n 1, 1) := by decide +kernel
theorem dX8_init_136 : decode cX8_init 136 = .ok (.iload_n 1, 1) := by decide +kernel
theorem dX8_init_137 : decode cX8_init 137 = .ok (.aload_n 0, 1) := by decide +kernel
theorem dX8_init_138 : decode cX8_init 138 = .ok (.getfield 59, 3) := by decide +kernel
theorem dX8_init_141 : decode cX8_init 141 = .ok (.arraylength, 1) := by decide +kernel
theorem dX8_init_142 : decode cX8_init 142 = .ok (.if_icmp .ge 22, 3) := by decide +kernel
theorem dX8_init_145 : decode cX8_init 145 = .ok (.aload_n 0, 1) := by decide +kernel
theorem dX8_init_146 : decode cX8_init 146 = .ok (.getfield 59, 3) := by decide +kernel
theorem dX8_init_149 : decode cX8_init 149 = .ok (.iload_n 1, 1) := by decide +kernel
theorem dX8_init_150 : decode cX8_init 150 = .ok (.new 49, 3) := by decide +kernel
theorem dX8_init_153 : decode cX8_init 153 = .ok (.dup, 1) := by decide +kernel
theorem dX8_init_154 : decode cX8_init 154 = .ok (.invokespecial 51, 3) := by decide +kernel
theorem dX8_init_157 : decode cX8_init 157 = .ok (.aastore, 1) := by decide +kernel
theorem dX8_init_158 : decode cX8_init 158 = .ok (.iinc 1 1, 3) := by decide +kernel
theorem dX8_init_161 : decode cX8_init 161 = .ok (.goto (-25), 3) := by decide +kernel
theorem dX8_init_164 : decode cX8_init 164 = .ok (.return_, 1) := by decide +kernel
theorem dX8_type_0 : decode cX8_type 0 = .ok (.iload_n 1, 1) := by decide +kernel
theorem dX8_type_1 : decode cX8_type 1 = .ok (.iconst 2, 1) := by decide +kernel
theorem dX8_type_2 : decode cX8_type 2 = .ok (.invokestatic 81, 3) := by decide +kernel
theorem dX8_type_5 : decode cX8_type 5 = .ok (.ifCond .eq 13, 3) := by decide +kernel
theorem dX8_type_8 : decode cX8_type 8 = .ok (.iload_n 2, 1) := by decide +kernel
theorem dX8_type_9 : decode cX8_type 9 = .ok (.sipush 256, 3) := by decide +kernel
theorem dX8_type_12 : decode cX8_type 12 = .ok (.invokestatic 81, 3) := by decide +kernel
theorem dX8_type_15 : decode cX8_type 15 = .ok (.ifCond .ne 6, 3) := by decide +kernel
theorem dX8_type_18 : decode cX8_type 18 = .ok (.bipush (-2), 2) := by decide +kernel
theorem dX8_type_20 : decode cX8_type 20 = .ok (.ireturn, 1) := by decide +kernel
theorem dX8_type_21 : decode cX8_type 21 = .ok (.aload_n 0, 1) := by decide +kernel
theorem dX8_type_22 : decode cX8_type 22 = .ok (.iload_n 1, 1) := by decide +kernel
theorem dX8_type_23 : decode cX8_type 23 = .ok (.invokevirtual 85, 3) := by decide +kernel
theorem dX8_type_26 : decode cX8_type 26 = .ok (.astore_n 3, 1) := by decide +kernel
theorem dX8_type_27 : decode cX8_type 27 = .ok (.aload_n 3, 1) := by decide +kernel
theorem dX8_type_28 : decode cX8_type 28 = .ok (.getfield 89, 3) := by decide +kernel
theorem dX8_type_31 : decode cX8_type 31 = .ok (.aload_n 3, 1) := by decide +kernel
theorem dX8_type_32 : decode cX8_type 32 = .ok (.getfield 92, 3) := by decide +kernel
theorem dX8_type_35 : decode cX8_type 35 = .ok (.if_icmp .lt 6, 3) := by decide +kernel
theorem dX8_type_38 : decode cX8_type 38 = .ok (.bipush (-4), 2) := by decide +kernel
theorem dX8_type_40 : decode cX8_type 40 = .ok (.ireturn, 1) := by decide +kernel
theorem dX8_type_41 : decode cX8_type 41 = .ok (.aload_n 3, 1) := by decide +kernel
theorem dX8_type_42 : decode cX8_type 42 = .ok (.getfield 95, 3) := by decide +kernel
theorem dX8_type_45 : decode cX8_type 45 = .ok (.aload_n 3, 1) := by decide +kernel
theorem dX8_type_46 : decode cX8_type 46 = .ok (.getfield 89, 3) := by decide +kernel
theorem dX8_type_49 : decode cX8_type 49 = .ok (.iload_n 2, 1) := by decide +kernel
theorem dX8_type_50 : decode cX8_type 50 = .ok (.iastore, 1) := by decide +kernel
theorem dX8_type_51 : decode cX8_type 51 = .ok (.aload_n 3, 1) := by decide +kernel
theorem dX8_type_52 : decode cX8_type 52 = .ok (.dup, 1) := by decide +kernel
theorem dX8_type_53 : decode cX8_type 53 = .ok (.getfield 89, 3) := by decide +kernel
theorem dX8_type_56 : decode cX8_type 56 = .ok (.iconst 1, 1) := by decide +kernel
theorem dX8_type_57 : decode cX8_type 57 = .ok (.iadd, 1) := by decide +kernel
theorem dX8_type_58 : decode cX8_type 58 = .ok (.putfield 89, 3) := by decide +kernel
theorem dX8_type_61 : decode cX8_type 61 = .ok (.aload_n 0, 1) := by decide +kernel
theorem dX8_type_62 : decode cX8_type 62 = .ok (.invokevirtual 98, 3) := by decide +kernel
theorem dX8_type_65 : decode cX8_type 65 = .ok (.aload_n 3, 1) := by decide +kernel
theorem dX8_type_66 : decode cX8_type 66 = .ok (.getfield 89, 3) := by decide +kernel
theorem dX8_type_69 : decode cX8_type 69 = .ok (.ireturn, 1) := by decide +kernel
theorem dX8_wipe_0 : decode cX8_wipe 0 = .ok (.iload_n 1, 1) := by decide +kernel
theorem dX8_wipe_1 : decode cX8_wipe 1 = .ok (.iconst 2, 1) := by decide +kernel
theorem dX8_wipe_2 : decode cX8_wipe 2 = .ok (.invokestatic 81, 3) := by decide +kernel
theorem dX8_wipe_5 : decode cX8_wipe 5 = .ok (.ifCond .ne 6, 3) := by decide +kernel
theorem dX8_wipe_8 : decode cX8_wipe 8 = .ok (.bipush (-2), 2) := by decide +kernel
theorem dX8_wipe_10 : decode cX8_wipe 10 = .ok (.ireturn, 1) := by decide +kernel
theorem dX8_wipe_11 : decode cX8_wipe 11 = .ok (.aload_n 0, 1) := by decide +kernel
theorem dX8_wipe_12 : decode cX8_wipe 12 = .ok (.iload_n 1, 1) := by decide +kernel
theorem dX8_wipe_13 : decode cX8_wipe 13 = .ok (.invokevirtual 85, 3) := by decide +kernel
theorem dX8_wipe_16 : decode cX8_wipe 16 = .ok (.astore_n 2, 1) := by decide +kernel
theorem dX8_wipe_17 : decode cX8_wipe 17 = .ok (.aload_n 2, 1) := by decide +kernel
theorem dX8_wipe_18 : decode cX8_wipe 18 = .ok (.getfield 89, 3) := by decide +kernel
theorem dX8_wipe_21 : decode cX8_wipe 21 = .ok (.istore_n 3, 1) := by decide +kernel
theorem dX8_wipe_22 : decode cX8_wipe 22 = .ok (.aload_n 2, 1) := by decide +kernel
theorem dX8_wipe_23 : decode cX8_wipe 23 = .ok (.iconst 0, 1) := by decide +kernel
theorem dX8_wipe_24 : decode cX8_wipe 24 = .ok (.putfield 89, 3) := by decide +kernel
theorem dX8_wipe_27 : decode cX8_wipe 27 = .ok (.aload_n 0, 1) := by decide +kernel
theorem dX8_wipe_28 : decode cX8_wipe 28 = .ok (.invokevirtual 98, 3) := by decide +kernel
theorem dX8_wipe_31 : decode cX8_wipe 31 = .ok (.iload_n 3, 1) := by decide +kernel
theorem dX8_wipe_32 : decode cX8_wipe 32 = .ok (.ireturn, 1) := by decide +kernel
theorem dX8_undo_0 : decode cX8_undo 0 = .ok (.iload_n 1, 1) := by decide +kernel
theorem dX8_undo_1 : decode cX8_undo 1 = .ok (.iconst 2, 1) := by decide +kernel
theorem dX8_undo_2 : decode cX8_undo 2 = .ok (.invokestatic 81, 3) := by decide +kernel
theorem dX8_undo_5 : decode cX8_undo 5 = .ok (.ifCond .ne 6, 3) := by decide +kernel
theorem dX8_undo_8 : decode cX8_undo 8 = .ok (.bipush (-2), 2) := by decide +kernel
theorem dX8_undo_10 : decode cX8_undo 10 = .ok (.ireturn, 1) := by decide +kernel
theorem dX8_undo_11 : decode cX8_undo 11 = .ok (.aload_n 0, 1) := by decide +kernel
theorem dX8_undo_12 : decode cX8_undo 12 = .ok (.iload_n 1, 1) := by decide +kernel
theorem dX8_undo_13 : decode cX8_undo 13 = .ok (.invokevirtual 85, 3) := by decide +kernel
theorem dX8_undo_16 : decode cX8_undo 16 = .ok (.astore_n 2, 1) := by decide +kernel
theorem dX8_undo_17 : decode cX8_undo 17 = .ok (.aload_n 2, 1) := by decide +kernel
theorem dX8_undo_18 : decode cX8_undo 18 = .ok (.getfield 89, 3) := by decide +kernel
theorem dX8_undo_21 : decode cX8_undo 21 = .ok (.ifCond .ne 6, 3) := by decide +kernel
theorem dX8_undo_24 : decode cX8_undo 24 = .ok (.bipush (-3), 2) := by decide +kernel
theorem dX8_undo_26 : decode cX8_undo 26 = .ok (.ireturn, 1) := by decide +kernel
theorem dX8_undo_27 : decode cX8_undo 27 = .ok (.aload_n 2, 1) := by decide +kernel
theorem dX8_undo_28 : decode cX8_undo 28 = .ok (.dup, 1) := by decide +kernel
theorem dX8_undo_29 : decode cX8_undo 29 = .ok (.getfield 89, 3) := by decide +kernel
theorem dX8_undo_32 : decode cX8_undo 32 = .ok (.iconst 1, 1) := by decide +kernel
theorem dX8_undo_33 : decode cX8_undo 33 = .ok (.isub, 1) := by decide +kernel
theorem dX8_undo_34 : decode cX8_undo 34 = .ok (.putfield 89, 3) := by decide +kernel
theorem dX8_undo_37 : decode cX8_undo 37 = .ok (.aload_n 0, 1) := by decide +kernel
theorem dX8_undo_38 : decode cX8_undo 38 = .ok (.invokevirtual 98, 3) := by decide +kernel
theorem dX8_undo_41 : decode cX8_undo 41 = .ok (.aload_n 2, 1) := by decide +kernel
theorem dX8_undo_42 : decode cX8_undo 42 = .ok (.getfield 89, 3) := by decide +kernel
theorem dX8_undo_45 : decode cX8_undo 45 = .ok (.ireturn, 1) := by decide +kernel
theorem dX8_fault_0 : decode cX8_fault 0 = .ok (.iload_n 1, 1) := by decide +kernel
theorem dX8_fault_1 : decode cX8_fault 1 = .ok (.iconst 2, 1) := by decide +kernel
theorem dX8_fault_2 : decode cX8_fault 2 = .ok (.invokestatic 81, 3) := by decide +kernel
theorem dX8_fault_5 : decode cX8_fault 5 = .ok (.ifCond .ne 6, 3) := by decide +kernel
theorem dX8_fault_8 : decode cX8_fault 8 = .ok (.bipush (-2), 2) := by decide +kernel
theorem dX8_fault_10 : decode cX8_fault 10 = .ok (.ireturn, 1) := by decide +kernel
theorem dX8_fault_11 : decode cX8_fault 11 = .ok (.iload_n 1, 1) := by decide +kernel
theorem dX8_fault_12 : decode cX8_fault 12 = .ok (.ifCond .ne 13, 3) := by decide +kernel
theorem dX8_fault_15 : decode cX8_fault 15 = .ok (.aload_n 0, 1) := by decide +kernel
theorem dX8_fault_16 : decode cX8_fault 16 = .ok (.getfield 14, 3) := by decide +kernel
theorem dX8_fault_19 : decode cX8_fault 19 = .ok (.invokevirtual 101, 3) := by decide +kernel
theorem dX8_fault_22 : decode cX8_fault 22 = .ok (.goto 10, 3) := by decide +kernel
theorem dX8_fault_25 : decode cX8_fault 25 = .ok (.aload_n 0, 1) := by decide +kernel
theorem dX8_fault_26 : decode cX8_fault 26 = .ok (.getfield 18, 3) := by decide +kernel
theorem dX8_fault_29 : decode cX8_fault 29 = .ok (.invokevirtual 105, 3) := by decide +kernel
theorem dX8_fault_32 : decode cX8_fault 32 = .ok (.ireturn, 1) := by decide +kernel
theorem dX8_bottle_0 : decode cX8_bottle 0 = .ok (.aload_n 0, 1) := by decide +kernel
theorem dX8_bottle_1 : decode cX8_bottle 1 = .ok (.iload_n 1, 1) := by decide +kernel
theorem dX8_bottle_2 : decode cX8_bottle 2 = .ok (.invokevirtual 108, 3) := by decide +kernel
theorem dX8_bottle_5 : decode cX8_bottle 5 = .ok (.ifCond .ne 6, 3) := by decide +kernel
theorem dX8_bottle_8 : decode cX8_bottle 8 = .ok (.bipush (-2), 2) := by decide +kernel
theorem dX8_bottle_10 : decode cX8_bottle 10 = .ok (.ireturn, 1) := by decide +kernel
theorem dX8_bottle_11 : decode cX8_bottle 11 = .ok (.iload_n 2, 1) := by decide +kernel
theorem dX8_bottle_12 : decode cX8_bottle 12 = .ok (.tableswitch 86 0 3 #[32, 45, 58, 71], 32) := by decide +kernel
theorem dX8_bottle_44 : decode cX8_bottle 44 = .ok (.aload_n 0, 1) := by decide +kernel
theorem dX8_bottle_45 : decode cX8_bottle 45 = .ok (.getfield 24, 3) := by decide +kernel
theorem dX8_bottle_48 : decode cX8_bottle 48 = .ok (.getfield 112, 3) := by decide +kernel
theorem dX8_bottle_51 : decode cX8_bottle 51 = .ok (.getfield 116, 3) := by decide +kernel
theorem dX8_bottle_54 : decode cX8_bottle 54 = .ok (.iload_n 1, 1) := by decide +kernel
theorem dX8_bottle_55 : decode cX8_bottle 55 = .ok (.iaload, 1) := by decide +kernel
theorem dX8_bottle_56 : decode cX8_bottle 56 = .ok (.ireturn, 1) := by decide +kernel
theorem dX8_bottle_57 : decode cX8_bottle 57 = .ok (.aload_n 0, 1) := by decide +kernel
theorem dX8_bottle_58 : decode cX8_bottle 58 = .ok (.getfield 24, 3) := by decide +kernel
theorem dX8_bottle_61 : decode cX8_bottle 61 = .ok (.getfield 112, 3) := by decide +kernel
theorem dX8_bottle_64 : decode cX8_bottle 64 = .ok (.getfield 121, 3) := by decide +kernel
theorem dX8_bottle_67 : decode cX8_bottle 67 = .ok (.iload_n 1, 1) := by decide +kernel
theorem dX8_bottle_68 : decode cX8_bottle 68 = .ok (.iaload, 1) := by decide +kernel
theorem dX8_bottle_69 : decode cX8_bottle 69 = .ok (.ireturn, 1) := by decide +kernel
theorem dX8_bottle_70 : decode cX8_bottle 70 = .ok (.aload_n 0, 1) := by decide +kernel
theorem dX8_bottle_71 : decode cX8_bottle 71 = .ok (.getfield 24, 3) := by decide +kernel
theorem dX8_bottle_74 : decode cX8_bottle 74 = .ok (.getfield 112, 3) := by decide +kernel
theorem dX8_bottle_77 : decode cX8_bottle 77 = .ok (.getfield 124, 3) := by decide +kernel
theorem dX8_bottle_80 : decode cX8_bottle 80 = .ok (.iload_n 1, 1) := by decide +kernel
theorem dX8_bottle_81 : decode cX8_bottle 81 = .ok (.iaload, 1) := by decide +kernel
theorem dX8_bottle_82 : decode cX8_bottle 82 = .ok (.ireturn, 1) := by decide +kernel
theorem dX8_bottle_83 : decode cX8_bottle 83 = .ok (.aload_n 0, 1) := by decide +kernel
theorem dX8_bottle_84 : decode cX8_bottle 84 = .ok (.getfield 24, 3) := by decide +kernel
theorem dX8_bottle_87 : decode cX8_bottle 87 = .ok (.getfield 112, 3) := by decide +kernel
theorem dX8_bottle_90 : decode cX8_bottle 90 = .ok (.getfield 127, 3) := by decide +kernel
theorem dX8_bottle_93 : decode cX8_bottle 93 = .ok (.iload_n 1, 1) := by decide +kernel
theorem dX8_bottle_94 : decode cX8_bottle 94 = .ok (.ishr, 1) := by decide +kernel
theorem dX8_bottle_95 : decode cX8_bottle 95 = .ok (.iconst 1, 1) := by decide +kernel
theorem dX8_bottle_96 : decode cX8_bottle 96 = .ok (.iand, 1) := by decide +kernel
theorem dX8_bottle_97 : decode cX8_bottle 97 = .ok (.ireturn, 1) := by decide +kernel
theorem dX8_bottle_98 : decode cX8_bottle 98 = .ok (.bipush (-2), 2) := by decide +kernel
theorem dX8_bottle_100 : decode cX8_bottle 100 = .ok (.ireturn, 1) := by decide +kernel
theorem dX8_note_0 : decode cX8_note 0 = .ok (.iload_n 1, 1) := by decide +kernel
theorem dX8_note_1 : decode cX8_note 1 = .ok (.bipush 8, 2) := by decide +kernel
theorem dX8_note_3 : decode cX8_note 3 = .ok (.invokestatic 81, 3) := by decide +kernel
theorem dX8_note_6 : decode cX8_note 6 = .ok (.ifCond .ne 6, 3) := by decide +kernel
theorem dX8_note_9 : decode cX8_note 9 = .ok (.bipush (-2), 2) := by decide +kernel
theorem dX8_note_11 : decode cX8_note 11 = .ok (.ireturn, 1) := by decide +kernel
theorem dX8_note_12 : decode cX8_note 12 = .ok (.iload_n 1, 1) := by decide +kernel
theorem dX8_note_13 : decode cX8_note 13 = .ok (.aload_n 0, 1) := by decide +kernel
theorem dX8_note_14 : decode cX8_note 14 = .ok (.getfield 31, 3) := by decide +kernel
theorem dX8_note_17 : decode cX8_note 17 = .ok (.getfield 130, 3) := by decide +kernel
theorem dX8_note_20 : decode cX8_note 20 = .ok (.if_icmp .ge 15, 3) := by decide +kernel
theorem dX8_note_23 : decode cX8_note 23 = .ok (.aload_n 0, 1) := by decide +kernel
theorem dX8_note_24 : decode cX8_note 24 = .ok (.getfield 31, 3) := by decide +kernel
theorem dX8_note_27 : decode cX8_note 27 = .ok (.getfield 131, 3) := by decide +kernel
theorem dX8_note_30 : decode cX8_note 30 = .ok (.iload_n 1, 1) := by decide +kernel
theorem dX8_note_31 : decode cX8_note 31 = .ok (.iaload, 1) := by decide +kernel
theorem dX8_note_32 : decode cX8_note 32 = .ok (.goto 4, 3) := by decide +kernel
theorem dX8_note_35 : decode cX8_note 35 = .ok (.iconst (-1), 1) := by decide +kernel
theorem dX8_note_36 : decode cX8_note 36 = .ok (.ireturn, 1) := by decide +kernel
theorem dX8_burst_0 : decode cX8_burst 0 = .ok (.iload_n 1, 1) := by decide +kernel
theorem dX8_burst_1 : decode cX8_burst 1 = .ok (.iconst 1, 1) := by decide +kernel
theorem dX8_burst_2 : decode cX8_burst 2 = .ok (.if_icmp .lt 10, 3) := by decide +kernel
theorem dX8_burst_5 : decode cX8_burst 5 = .ok (.iload_n 1, 1) := by decide +kernel
theorem dX8_burst_6 : decode cX8_burst 6 = .ok (.sipush 200, 3) := by decide +kernel
theorem dX8_burst_9 : decode cX8_burst 9 = .ok (.if_icmp .le 6, 3) := by decide +kernel
theorem dX8_burst_12 : decode cX8_burst 12 = .ok (.bipush (-2), 2) := by decide +kernel
theorem dX8_burst_14 : decode cX8_burst 14 = .ok (.ireturn, 1) := by decide +kernel
theorem dX8_burst_15 : decode cX8_burst 15 = .ok (.aload_n 0, 1) := by decide +kernel
theorem dX8_burst_16 : decode cX8_burst 16 = .ok (.getfield 24, 3) := by decide +kernel
theorem dX8_burst_19 : decode cX8_burst 19 = .ok (.getfield 134, 3) := by decide +kernel
theorem dX8_burst_22 : decode cX8_burst 22 = .ok (.istore_n 2, 1) := by decide +kernel
theorem dX8_burst_23 : decode cX8_burst 23 = .ok (.aload_n 0, 1) := by decide +kernel
theorem dX8_burst_24 : decode cX8_burst 24 = .ok (.getfield 24, 3) := by decide +kernel
theorem dX8_burst_27 : decode cX8_burst 27 = .ok (.iload_n 1, 1) := by decide +kernel
theorem dX8_burst_28 : decode cX8_burst 28 = .ok (.putfield 134, 3) := by decide +kernel
theorem dX8_burst_31 : decode cX8_burst 31 = .ok (.aload_n 0, 1) := by decide +kernel
theorem dX8_burst_32 : decode cX8_burst 32 = .ok (.invokevirtual 137, 3) := by decide +kernel
theorem dX8_burst_35 : decode cX8_burst 35 = .ok (.iload_n 2, 1) := by decide +kernel
theorem dX8_burst_36 : decode cX8_burst 36 = .ok (.ireturn, 1) := by decide +kernel
theorem dX8_hot_0 : decode cX8_hot 0 = .ok (.iload_n 1, 1) := by decide +kernel
theorem dX8_hot_1 : decode cX8_hot 1 = .ok (.bipush 40, 2) := by decide +kernel
theorem dX8_hot_3 : decode cX8_hot 3 = .ok (.invokestatic 81, 3) := by decide +kernel
theorem dX8_hot_6 : decode cX8_hot 6 = .ok (.ifCond .ne 6, 3) := by decide +kernel
theorem dX8_hot_9 : decode cX8_hot 9 = .ok (.bipush (-2), 2) := by decide +kernel
theorem dX8_hot_11 : decode cX8_hot 11 = .ok (.ireturn, 1) := by decide +kernel
theorem dX8_hot_12 : decode cX8_hot 12 = .ok (.aload_n 0, 1) := by decide +kernel
theorem dX8_hot_13 : decode cX8_hot 13 = .ok (.getfield 24, 3) := by decide +kernel
theorem dX8_hot_16 : decode cX8_hot 16 = .ok (.getfield 140, 3) := by decide +kernel
theorem dX8_hot_19 : decode cX8_hot 19 = .ok (.bipush 8, 2) := by decide +kernel
theorem dX8_hot_21 : decode cX8_hot 21 = .ok (.if_icmp .lt 6, 3) := by decide +kernel
theorem dX8_hot_24 : decode cX8_hot 24 = .ok (.bipush (-4), 2) := by decide +kernel
theorem dX8_hot_26 : decode cX8_hot 26 = .ok (.ireturn, 1) := by decide +kernel
theorem dX8_hot_27 : decode cX8_hot 27 = .ok (.aload_n 0, 1) := by decide +kernel
theorem dX8_hot_28 : decode cX8_hot 28 = .ok (.getfield 24, 3) := by decide +kernel
theorem dX8_hot_31 : decode cX8_hot 31 = .ok (.getfield 143, 3) := by decide +kernel
theorem dX8_hot_34 : decode cX8_hot 34 = .ok (.aload_n 0, 1) := by decide +kernel
theorem dX8_hot_35 : decode cX8_hot 35 = .ok (.getfield 24, 3) := by decide +kernel
theorem dX8_hot_38 : decode cX8_hot 38 = .ok (.getfield 140, 3) := by decide +kernel
theorem dX8_hot_41 : decode cX8_hot 41 = .ok (.iload_n 1, 1) := by decide +kernel
theorem dX8_hot_42 : decode cX8_hot 42 = .ok (.iastore, 1) := by decide +kernel
theorem dX8_hot_43 : decode cX8_hot 43 = .ok (.aload_n 0, 1) := by decide +kernel
theorem dX8_hot_44 : decode cX8_hot 44 = .ok (.getfield 24, 3) := by decide +kernel
theorem dX8_hot_47 : decode cX8_hot 47 = .ok (.dup, 1) := by decide +kernel
theorem dX8_hot_48 : decode cX8_hot 48 = .ok (.getfield 140, 3) := by decide +kernel
theorem dX8_hot_51 : decode cX8_hot 51 = .ok (.iconst 1, 1) := by decide +kernel
theorem dX8_hot_52 : decode cX8_hot 52 = .ok (.iadd, 1) := by decide +kernel
theorem dX8_hot_53 : decode cX8_hot 53 = .ok (.putfield 140, 3) := by decide +kernel
theorem dX8_hot_56 : decode cX8_hot 56 = .ok (.aload_n 0, 1) := by decide +kernel
theorem dX8_hot_57 : decode cX8_hot 57 = .ok (.invokevirtual 137, 3) := by decide +kernel
theorem dX8_hot_60 : decode cX8_hot 60 = .ok (.aload_n 0, 1) := by decide +kernel
theorem dX8_hot_61 : decode cX8_hot 61 = .ok (.getfield 24, 3) := by decide +kernel
theorem dX8_hot_64 : decode cX8_hot 64 = .ok (.getfield 140, 3) := by decide +kernel
theorem dX8_hot_67 : decode cX8_hot 67 = .ok (.ireturn, 1) := by decide +kernel
theorem dX8_act_0 : decode cX8_act 0 = .ok (.iload_n 1, 1) := by decide +kernel
theorem dX8_act_1 : decode cX8_act 1 = .ok (.iload_n 2, 1) := by decide +kernel
theorem dX8_act_2 : decode cX8_act 2 = .ok (.iload_n 3, 1) := by decide +kernel
theorem dX8_act_3 : decode cX8_act 3 = .ok (.iload 4, 2) := by decide +kernel
theorem dX8_act_5 : decode cX8_act 5 = .ok (.invokestatic 146, 3) := by decide +kernel
theorem dX8_act_8 : decode cX8_act 8 = .ok (.ifCond .ne 6, 3) := by decide +kernel
theorem dX8_act_11 : decode cX8_act 11 = .ok (.bipush (-2), 2) := by decide +kernel
theorem dX8_act_13 : decode cX8_act 13 = .ok (.ireturn, 1) := by decide +kernel
theorem dX8_act_14 : decode cX8_act 14 = .ok (.aload_n 0, 1) := by decide +kernel
theorem dX8_act_15 : decode cX8_act 15 = .ok (.getfield 24, 3) := by decide +kernel
theorem dX8_act_18 : decode cX8_act 18 = .ok (.getfield 150, 3) := by decide +kernel
theorem dX8_act_21 : decode cX8_act 21 = .ok (.astore 5, 2) := by decide +kernel
theorem dX8_act_23 : decode cX8_act 23 = .ok (.aload 5, 2) := by decide +kernel
theorem dX8_act_25 : decode cX8_act 25 = .ok (.getfield 154, 3) := by decide +kernel
theorem dX8_act_28 : decode cX8_act 28 = .ok (.istore 6, 2) := by decide +kernel
theorem dX8_act_30 : decode cX8_act 30 = .ok (.iload 6, 2) := by decide +kernel
theorem dX8_act_32 : decode cX8_act 32 = .ok (.bipush 16, 2) := by decide +kernel
theorem dX8_act_34 : decode cX8_act 34 = .ok (.if_icmp .lt 6, 3) := by decide +kernel
theorem dX8_act_37 : decode cX8_act 37 = .ok (.bipush (-4), 2) := by decide +kernel
theorem dX8_act_39 : decode cX8_act 39 = .ok (.ireturn, 1) := by decide +kernel
theorem dX8_act_40 : decode cX8_act 40 = .ok (.aload 5, 2) := by decide +kernel
theorem dX8_act_42 : decode cX8_act 42 = .ok (.getfield 157, 3) := by decide +kernel
theorem dX8_act_45 : decode cX8_act 45 = .ok (.iload 6, 2) := by decide +kernel
theorem dX8_act_47 : decode cX8_act 47 = .ok (.iload_n 1, 1) := by decide +kernel
theorem dX8_act_48 : decode cX8_act 48 = .ok (.iastore, 1) := by decide +kernel
theorem dX8_act_49 : decode cX8_act 49 = .ok (.aload 5, 2) := by decide +kernel
theorem dX8_act_51 : decode cX8_act 51 = .ok (.getfield 160, 3) := by decide +kernel
theorem dX8_act_54 : decode cX8_act 54 = .ok (.iload 6, 2) := by decide +kernel
theorem dX8_act_56 : decode cX8_act 56 = .ok (.iload_n 2, 1) := by decide +kernel
theorem dX8_act_57 : decode cX8_act 57 = .ok (.iastore, 1) := by decide +kernel
theorem dX8_act_58 : decode cX8_act 58 = .ok (.aload 5, 2) := by decide +kernel
theorem dX8_act_60 : decode cX8_act 60 = .ok (.getfield 163, 3) := by decide +kernel
theorem dX8_act_63 : decode cX8_act 63 = .ok (.iload 6, 2) := by decide +kernel
theorem dX8_act_65 : decode cX8_act 65 = .ok (.iload_n 3, 1) := by decide +kernel
theorem dX8_act_66 : decode cX8_act 66 = .ok (.iastore, 1) := by decide +kernel
theorem dX8_act_67 : decode cX8_act 67 = .ok (.aload 5, 2) := by decide +kernel
theorem dX8_act_69 : decode cX8_act 69 = .ok (.getfield 166, 3) := by decide +kernel
theorem dX8_act_72 : decode cX8_act 72 = .ok (.iload 6, 2) := by decide +kernel
theorem dX8_act_74 : decode cX8_act 74 = .ok (.iload 4, 2) := by decide +kernel
theorem dX8_act_76 : decode cX8_act 76 = .ok (.iastore, 1) := by decide +kernel
theorem dX8_act_77 : decode cX8_act 77 = .ok (.aload 5, 2) := by decide +kernel
theorem dX8_act_79 : decode cX8_act 79 = .ok (.dup, 1) := by decide +kernel
theorem dX8_act_80 : decode cX8_act 80 = .ok (.getfield 154, 3) := by decide +kernel
theorem dX8_act_83 : decode cX8_act 83 = .ok (.iconst 1, 1) := by decide +kernel
theorem dX8_act_84 : decode cX8_act 84 = .ok (.iadd, 1) := by decide +kernel
theorem dX8_act_85 : decode cX8_act 85 = .ok (.putfield 154, 3) := by decide +kernel
theorem dX8_act_88 : decode cX8_act 88 = .ok (.aload_n 0, 1) := by decide +kernel
theorem dX8_act_89 : decode cX8_act 89 = .ok (.invokevirtual 137, 3) := by decide +kernel
theorem dX8_act_92 : decode cX8_act 92 = .ok (.aload 5, 2) := by decide +kernel
theorem dX8_act_94 : decode cX8_act 94 = .ok (.getfield 154, 3) := by decide +kernel
theorem dX8_act_97 : decode cX8_act 97 = .ok (.ireturn, 1) := by decide +kernel
theorem dX8_back_0 : decode cX8_back 0 = .ok (.iload_n 1, 1) := by decide +kernel
theorem dX8_back_1 : decode cX8_back 1 = .ok (.iconst 2, 1) := by decide +kernel
theorem dX8_back_2 : decode cX8_back 2 = .ok (.invokestatic 81, 3) := by decide +kernel
theorem dX8_back_5 : decode cX8_back 5 = .ok (.ifCond .ne 6, 3) := by decide +kernel
theorem dX8_back_8 : decode cX8_back 8 = .ok (.bipush (-2), 2) := by decide +kernel
theorem dX8_back_10 : decode cX8_back 10 = .ok (.ireturn, 1) := by decide +kernel
theorem dX8_back_11 : decode cX8_back 11 = .ok (.iload_n 1, 1) := by decide +kernel
theorem dX8_back_12 : decode cX8_back 12 = .ok (.ifCond .ne 16, 3) := by decide +kernel
theorem dX8_back_15 : decode cX8_back 15 = .ok (.aload_n 0, 1) := by decide +kernel
theorem dX8_back_16 : decode cX8_back 16 = .ok (.getfield 24, 3) := by decide +kernel
theorem dX8_back_19 : decode cX8_back 19 = .ok (.getfield 150, 3) := by decide +kernel
theorem dX8_back_22 : decode cX8_back 22 = .ok (.getfield 154, 3) := by decide +kernel
theorem dX8_back_25 : decode cX8_back 25 = .ok (.goto 10, 3) := by decide +kernel
theorem dX8_back_28 : decode cX8_back 28 = .ok (.aload_n 0, 1) := by decide +kernel
theorem dX8_back_29 : decode cX8_back 29 = .ok (.getfield 24, 3) := by decide +kernel
theorem dX8_back_32 : decode cX8_back 32 = .ok (.getfield 140, 3) := by decide +kernel
theorem dX8_back_35 : decode cX8_back 35 = .ok (.istore_n 2, 1) := by decide +kernel
theorem dX8_back_36 : decode cX8_back 36 = .ok (.iload_n 2, 1) := by decide +kernel
theorem dX8_back_37 : decode cX8_back 37 = .ok (.ifCond .ne 6, 3) := by decide +kernel
theorem dX8_back_40 : decode cX8_back 40 = .ok (.bipush (-3), 2) := by decide +kernel
theorem dX8_back_42 : decode cX8_back 42 = .ok (.ireturn, 1) := by decide +kernel
theorem dX8_back_43 : decode cX8_back 43 = .ok (.iload_n 1, 1) := by decide +kernel
theorem dX8_back_44 : decode cX8_back 44 = .ok (.ifCond .ne 22, 3) := by decide +kernel
theorem dX8_back_47 : decode cX8_back 47 = .ok (.aload_n 0, 1) := by decide +kernel
theorem dX8_back_48 : decode cX8_back 48 = .ok (.getfield 24, 3) := by decide +kernel
theorem dX8_back_51 : decode cX8_back 51 = .ok (.getfield 150, 3) := by decide +kernel
theorem dX8_back_54 : decode cX8_back 54 = .ok (.dup, 1) := by decide +kernel
theorem dX8_back_55 : decode cX8_back 55 = .ok (.getfield 154, 3) := by decide +kernel
theorem dX8_back_58 : decode cX8_back 58 = .ok (.iconst 1, 1) := by decide +kernel
theorem dX8_back_59 : decode cX8_back 59 = .ok (.isub, 1) := by decide +kernel
theorem dX8_back_60 : decode cX8_back 60 = .ok (.putfield 154, 3) := by decide +kernel
theorem dX8_back_63 : decode cX8_back 63 = .ok (.goto 16, 3) := by decide +kernel
theorem dX8_back_66 : decode cX8_back 66 = .ok (.aload_n 0, 1) := by decide +kernel
theorem dX8_back_67 : decode cX8_back 67 = .ok (.getfield 24, 3) := by decide +kernel
theorem dX8_back_70 : decode cX8_back 70 = .ok (.dup, 1) := by decide +kernel
theorem dX8_back_71 : decode cX8_back 71 = .ok (.getfield 140, 3) := by decide +kernel
theorem dX8_back_74 : decode cX8_back 74 = .ok (.iconst 1, 1) := by decide +kernel
theorem dX8_back_75 : decode cX8_back 75 = .ok (.isub, 1) := by decide +kernel
theorem dX8_back_76 : decode cX8_back 76 = .ok (.putfield 140, 3) := by decide +kernel
theorem dX8_back_79 : decode cX8_back 79 = .ok (.aload_n 0, 1) := by decide +kernel
theorem dX8_back_80 : decode cX8_back 80 = .ok (.invokevirtual 137, 3) := by decide +kernel
theorem dX8_back_83 : decode cX8_back 83 = .ok (.iload_n 2, 1) := by decide +kernel
theorem dX8_back_84 : decode cX8_back 84 = .ok (.iconst 1, 1) := by decide +kernel
theorem dX8_back_85 : decode cX8_back 85 = .ok (.isub, 1) := by decide +kernel
theorem dX8_back_86 : decode cX8_back 86 = .ok (.ireturn, 1) := by decide +kernel
theorem dX8_read_0 : decode cX8_read 0 = .ok (.iload_n 1, 1) := by decide +kernel
theorem dX8_read_1 : decode cX8_read 1 = .ok (.iconst 4, 1) := by decide +kernel
theorem dX8_read_2 : decode cX8_read 2 = .ok (.invokestatic 81, 3) := by decide +kernel
theorem dX8_read_5 : decode cX8_read 5 = .ok (.ifCond .ne 6, 3) := by decide +kernel
theorem dX8_read_8 : decode cX8_read 8 = .ok (.bipush (-2), 2) := by decide +kernel
theorem dX8_read_10 : decode cX8_read 10 = .ok (.ireturn, 1) := by decide +kernel
theorem dX8_read_11 : decode cX8_read 11 = .ok (.aload_n 0, 1) := by decide +kernel
theorem dX8_read_12 : decode cX8_read 12 = .ok (.getfield 45, 3) := by decide +kernel
theorem dX8_read_15 : decode cX8_read 15 = .ok (.getfield 169, 3) := by decide +kernel
theorem dX8_read_18 : decode cX8_read 18 = .ok (.iload_n 1, 1) := by decide +kernel
theorem dX8_read_19 : decode cX8_read 19 = .ok (.iaload, 1) := by decide +kernel
theorem dX8_read_20 : decode cX8_read 20 = .ok (.iconst (-1), 1) := by decide +kernel
theorem dX8_read_21 : decode cX8_read 21 = .ok (.if_icmp .ne 9, 3) := by decide +kernel
theorem dX8_read_24 : decode cX8_read 24 = .ok (.aload_n 0, 1) := by decide +kernel
theorem dX8_read_25 : decode cX8_read 25 = .ok (.iconst 1, 1) := by decide +kernel
theorem dX8_read_26 : decode cX8_read 26 = .ok (.invokevirtual 172, 3) := by decide +kernel
theorem dX8_read_29 : decode cX8_read 29 = .ok (.ireturn, 1) := by decide +kernel
theorem dX8_read_30 : decode cX8_read 30 = .ok (.aload_n 0, 1) := by decide +kernel
theorem dX8_read_31 : decode cX8_read 31 = .ok (.getfield 45, 3) := by decide +kernel
theorem dX8_read_34 : decode cX8_read 34 = .ok (.getfield 176, 3) := by decide +kernel
theorem dX8_read_37 : decode cX8_read 37 = .ok (.iload_n 1, 1) := by decide +kernel
theorem dX8_read_38 : decode cX8_read 38 = .ok (.aaload, 1) := by decide +kernel
theorem dX8_read_39 : decode cX8_read 39 = .ok (.astore_n 2, 1) := by decide +kernel
theorem dX8_read_40 : decode cX8_read 40 = .ok (.aload_n 0, 1) := by decide +kernel
theorem dX8_read_41 : decode cX8_read 41 = .ok (.getfield 45, 3) := by decide +kernel
theorem dX8_read_44 : decode cX8_read 44 = .ok (.getfield 180, 3) := by decide +kernel
theorem dX8_read_47 : decode cX8_read 47 = .ok (.iload_n 1, 1) := by decide +kernel
theorem dX8_read_48 : decode cX8_read 48 = .ok (.iaload, 1) := by decide +kernel
theorem dX8_read_49 : decode cX8_read 49 = .ok (.iconst 4, 1) := by decide +kernel
theorem dX8_read_50 : decode cX8_read 50 = .ok (.idiv, 1) := by decide +kernel
theorem dX8_read_51 : decode cX8_read 51 = .ok (.istore_n 3, 1) := by decide +kernel
theorem dX8_read_52 : decode cX8_read 52 = .ok (.iconst 0, 1) := by decide +kernel
theorem dX8_read_53 : decode cX8_read 53 = .ok (.istore 4, 2) := by decide +kernel
theorem dX8_read_55 : decode cX8_read 55 = .ok (.iload 4, 2) := by decide +kernel
theorem dX8_read_57 : decode cX8_read 57 = .ok (.iload_n 3, 1) := by decide +kernel
theorem dX8_read_58 : decode cX8_read 58 = .ok (.if_icmp .ge 47, 3) := by decide +kernel
theorem dX8_read_61 : decode cX8_read 61 = .ok (.iconst 4, 1) := by decide +kernel
theorem dX8_read_62 : decode cX8_read 62 = .ok (.iload 4, 2) := by decide +kernel
theorem dX8_read_64 : decode cX8_read 64 = .ok (.imul, 1) := by decide +kernel
theorem dX8_read_65 : decode cX8_read 65 = .ok (.istore 5, 2) := by decide +kernel
theorem dX8_read_67 : decode cX8_read 67 = .ok (.aload_n 0, 1) := by decide +kernel
theorem dX8_read_68 : decode cX8_read 68 = .ok (.aload_n 2, 1) := by decide +kernel
theorem dX8_read_69 : decode cX8_read 69 = .ok (.iload 5, 2) := by decide +kernel
theorem dX8_read_71 : decode cX8_read 71 = .ok (.iaload, 1) := by decide +kernel
theorem dX8_read_72 : decode cX8_read 72 = .ok (.aload_n 2, 1) := by decide +kernel
theorem dX8_read_73 : decode cX8_read 73 = .ok (.iload 5, 2) := by decide +kernel
theorem dX8_read_75 : decode cX8_read 75 = .ok (.iconst 1, 1) := by decide +kernel
theorem dX8_read_76 : decode cX8_read 76 = .ok (.iadd, 1) := by decide +kernel
theorem dX8_read_77 : decode cX8_read 77 = .ok (.iaload, 1) := by decide +kernel
theorem dX8_read_78 : decode cX8_read 78 = .ok (.aload_n 2, 1) := by decide +kernel
theorem dX8_read_79 : decode cX8_read 79 = .ok (.iload 5, 2) := by decide +kernel
theorem dX8_read_81 : decode cX8_read 81 = .ok (.iconst 2, 1) := by decide +kernel
theorem dX8_read_82 : decode cX8_read 82 = .ok (.iadd, 1) := by decide +kernel
theorem dX8_read_83 : decode cX8_read 83 = .ok (.iaload, 1) := by decide +kernel
theorem dX8_read_84 : decode cX8_read 84 = .ok (.aload_n 2, 1) := by decide +kernel
theorem dX8_read_85 : decode cX8_read 85 = .ok (.iload 5, 2) := by decide +kernel
theorem dX8_read_87 : decode cX8_read 87 = .ok (.iconst 3, 1) := by decide +kernel
theorem dX8_read_88 : decode cX8_read 88 = .ok (.iadd, 1) := by decide +kernel
theorem dX8_read_89 : decode cX8_read 89 = .ok (.iaload, 1) := by decide +kernel
theorem dX8_read_90 : decode cX8_read 90 = .ok (.invokevirtual 182, 3) := by decide +kernel
theorem dX8_read_93 : decode cX8_read 93 = .ok (.ifCond .ge 6, 3) := by decide +kernel
theorem dX8_read_96 : decode cX8_read 96 = .ok (.iload 4, 2) := by decide +kernel
theorem dX8_read_98 : decode cX8_read 98 = .ok (.ireturn, 1) := by decide +kernel
theorem dX8_read_99 : decode cX8_read 99 = .ok (.iinc 4 1, 3) := by decide +kernel
theorem dX8_read_102 : decode cX8_read 102 = .ok (.goto (-47), 3) := by decide +kernel
theorem dX8_read_105 : decode cX8_read 105 = .ok (.iload_n 3, 1) := by decide +kernel
theorem dX8_read_106 : decode cX8_read 106 = .ok (.ireturn, 1) := by decide +kernel
theorem dX8_holds_0 : decode cX8_holds 0 = .ok (.iload_n 1, 1) := by decide +kernel
theorem dX8_holds_1 : decode cX8_holds 1 = .ok (.bipush 40, 2) := by decide +kernel
theorem dX8_holds_3 : decode cX8_holds 3 = .ok (.invokestatic 81, 3) := by decide +kernel
theorem dX8_holds_6 : decode cX8_holds 6 = .ok (.ifCond .eq 25, 3) := by decide +kernel
theorem dX8_holds_9 : decode cX8_holds 9 = .ok (.aload_n 0, 1) := by decide +kernel
theorem dX8_holds_10 : decode cX8_holds 10 = .ok (.iload_n 2, 1) := by decide +kernel
theorem dX8_holds_11 : decode cX8_holds 11 = .ok (.invokevirtual 108, 3) := by decide +kernel
theorem dX8_holds_14 : decode cX8_holds 14 = .ok (.ifCond .eq 17, 3) := by decide +kernel
theorem dX8_holds_17 : decode cX8_holds 17 = .ok (.iload_n 3, 1) := by decide +kernel
theorem dX8_holds_18 : decode cX8_holds 18 = .ok (.iconst (-1), 1) := by decide +kernel
theorem dX8_holds_19 : decode cX8_holds 19 = .ok (.if_icmp .eq 15, 3) := by decide +kernel
theorem dX8_holds_22 : decode cX8_holds 22 = .ok (.iload_n 3, 1) := by decide +kernel
theorem dX8_holds_23 : decode cX8_holds 23 = .ok (.bipush 8, 2) := by decide +kernel
theorem dX8_holds_25 : decode cX8_holds 25 = .ok (.invokestatic 81, 3) := by decide +kernel
theorem dX8_holds_28 : decode cX8_holds 28 = .ok (.ifCond .ne 6, 3) := by decide +kernel
theorem dX8_holds_31 : decode cX8_holds 31 = .ok (.bipush (-2), 2) := by decide +kernel
theorem dX8_holds_33 : decode cX8_holds 33 = .ok (.ireturn, 1) := by decide +kernel
theorem dX8_holds_34 : decode cX8_holds 34 = .ok (.aload_n 0, 1) := by decide +kernel
theorem dX8_holds_35 : decode cX8_holds 35 = .ok (.iload_n 1, 1) := by decide +kernel
theorem dX8_holds_36 : decode cX8_holds 36 = .ok (.invokevirtual 186, 3) := by decide +kernel
theorem dX8_holds_39 : decode cX8_holds 39 = .ok (.astore 4, 2) := by decide +kernel
theorem dX8_holds_41 : decode cX8_holds 41 = .ok (.iload_n 3, 1) := by decide +kernel
theorem dX8_holds_42 : decode cX8_holds 42 = .ok (.iconst (-1), 1) := by decide +kernel
theorem dX8_holds_43 : decode cX8_holds 43 = .ok (.if_icmp .ne 12, 3) := by decide +kernel
theorem dX8_holds_46 : decode cX8_holds 46 = .ok (.aload 4, 2) := by decide +kernel
theorem dX8_holds_48 : decode cX8_holds 48 = .ok (.iload_n 2, 1) := by decide +kernel
theorem dX8_holds_49 : decode cX8_holds 49 = .ok (.invokevirtual 190, 3) := by decide +kernel
theorem dX8_holds_52 : decode cX8_holds 52 = .ok (.goto 10, 3) := by decide +kernel
theorem dX8_holds_55 : decode cX8_holds 55 = .ok (.aload 4, 2) := by decide +kernel
theorem dX8_holds_57 : decode cX8_holds 57 = .ok (.iload_n 2, 1) := by decide +kernel
theorem dX8_holds_58 : decode cX8_holds 58 = .ok (.iload_n 3, 1) := by decide +kernel
theorem dX8_holds_59 : decode cX8_holds 59 = .ok (.invokevirtual 193, 3) := by decide +kernel
theorem dX8_holds_62 : decode cX8_holds 62 = .ok (.ireturn, 1) := by decide +kernel
theorem dX8_who_0 : decode cX8_who 0 = .ok (.iload_n 1, 1) := by decide +kernel
theorem dX8_who_1 : decode cX8_who 1 = .ok (.bipush 40, 2) := by decide +kernel
theorem dX8_who_3 : decode cX8_who 3 = .ok (.invokestatic 81, 3) := by decide +kernel
theorem dX8_who_6 : decode cX8_who 6 = .ok (.ifCond .eq 11, 3) := by decide +kernel
theorem dX8_who_9 : decode cX8_who 9 = .ok (.aload_n 0, 1) := by decide +kernel
theorem dX8_who_10 : decode cX8_who 10 = .ok (.iload_n 2, 1) := by decide +kernel
theorem dX8_who_11 : decode cX8_who 11 = .ok (.invokevirtual 108, 3) := by decide +kernel
theorem dX8_who_14 : decode cX8_who 14 = .ok (.ifCond .ne 6, 3) := by decide +kernel
theorem dX8_who_17 : decode cX8_who 17 = .ok (.bipush (-2), 2) := by decide +kernel
theorem dX8_who_19 : decode cX8_who 19 = .ok (.ireturn, 1) := by decide +kernel
theorem dX8_who_20 : decode cX8_who 20 = .ok (.aload_n 0, 1) := by decide +kernel
theorem dX8_who_21 : decode cX8_who 21 = .ok (.iload_n 1, 1) := by decide +kernel
theorem dX8_who_22 : decode cX8_who 22 = .ok (.invokevirtual 186, 3) := by decide +kernel
theorem dX8_who_25 : decode cX8_who 25 = .ok (.getfield 197, 3) := by decide +kernel
theorem dX8_who_28 : decode cX8_who 28 = .ok (.iload_n 2, 1) := by decide +kernel
theorem dX8_who_29 : decode cX8_who 29 = .ok (.iaload, 1) := by decide +kernel
theorem dX8_who_30 : decode cX8_who 30 = .ok (.ireturn, 1) := by decide +kernel
theorem dX8_whole_0 : decode cX8_whole 0 = .ok (.iload_n 1, 1) := by decide +kernel
theorem dX8_whole_1 : decode cX8_whole 1 = .ok (.bipush 40, 2) := by decide +kernel
theorem dX8_whole_3 : decode cX8_whole 3 = .ok (.invokestatic 81, 3) := by decide +kernel
theorem dX8_whole_6 : decode cX8_whole 6 = .ok (.ifCond .eq 11, 3) := by decide +kernel
theorem dX8_whole_9 : decode cX8_whole 9 = .ok (.aload_n 0, 1) := by decide +kernel
theorem dX8_whole_10 : decode cX8_whole 10 = .ok (.iload_n 2, 1) := by decide +kernel
theorem dX8_whole_11 : decode cX8_whole 11 = .ok (.invokevirtual 108, 3) := by decide +kernel
theorem dX8_whole_14 : decode cX8_whole 14 = .ok (.ifCond .ne 6, 3) := by decide +kernel
theorem dX8_whole_17 : decode cX8_whole 17 = .ok (.bipush (-2), 2) := by decide +kernel
theorem dX8_whole_19 : decode cX8_whole 19 = .ok (.ireturn, 1) := by decide +kernel
theorem dX8_whole_20 : decode cX8_whole 20 = .ok (.aload_n 0, 1) := by decide +kernel
theorem dX8_whole_21 : decode cX8_whole 21 = .ok (.iload_n 1, 1) := by decide +kernel
theorem dX8_whole_22 : decode cX8_whole 22 = .ok (.invokevirtual 186, 3) := by decide +kernel
theorem dX8_whole_25 : decode cX8_whole 25 = .ok (.iload_n 2, 1) := by decide +kernel
theorem dX8_whole_26 : decode cX8_whole 26 = .ok (.invokevirtual 200, 3) := by decide +kernel
theorem dX8_whole_29 : decode cX8_whole 29 = .ok (.ifCond .eq 7, 3) := by decide +kernel
theorem dX8_whole_32 : decode cX8_whole 32 = .ok (.iconst 1, 1) := by decide +kernel
theorem dX8_whole_33 : decode cX8_whole 33 = .ok (.goto 4, 3) := by decide +kernel
theorem dX8_whole_36 : decode cX8_whole 36 = .ok (.iconst 0, 1) := by decide +kernel
theorem dX8_whole_37 : decode cX8_whole 37 = .ok (.ireturn, 1) := by decide +kernel
theorem dX8_has_0 : decode cX8_has 0 = .ok (.iload_n 1, 1) := by decide +kernel
theorem dX8_has_1 : decode cX8_has 1 = .ok (.bipush 40, 2) := by decide +kernel
theorem dX8_has_3 : decode cX8_has 3 = .ok (.invokestatic 81, 3) := by decide +kernel
theorem dX8_has_6 : decode cX8_has 6 = .ok (.ifCond .eq 12, 3) := by decide +kernel
theorem dX8_has_9 : decode cX8_has 9 = .ok (.iload_n 2, 1) := by decide +kernel
theorem dX8_has_10 : decode cX8_has 10 = .ok (.bipush 6, 2) := by decide +kernel
theorem dX8_has_12 : decode cX8_has 12 = .ok (.invokestatic 81, 3) := by decide +kernel
theorem dX8_has_15 : decode cX8_has 15 = .ok (.ifCond .ne 6, 3) := by decide +kernel
theorem dX8_has_18 : decode cX8_has 18 = .ok (.bipush (-2), 2) := by decide +kernel
theorem dX8_has_20 : decode cX8_has 20 = .ok (.ireturn, 1) := by decide +kernel
theorem dX8_has_21 : decode cX8_has 21 = .ok (.aload_n 0, 1) := by decide +kernel
theorem dX8_has_22 : decode cX8_has 22 = .ok (.iload_n 1, 1) := by decide +kernel
theorem dX8_has_23 : decode cX8_has 23 = .ok (.invokevirtual 186, 3) := by decide +kernel
theorem dX8_has_26 : decode cX8_has 26 = .ok (.iload_n 2, 1) := by decide +kernel
theorem dX8_has_27 : decode cX8_has 27 = .ok (.invokevirtual 203, 3) := by decide +kernel
theorem dX8_has_30 : decode cX8_has 30 = .ok (.ireturn, 1) := by decide +kernel
theorem dX8_heard_0 : decode cX8_heard 0 = .ok (.iload_n 1, 1) := by decide +kernel
theorem dX8_heard_1 : decode cX8_heard 1 = .ok (.bipush 40, 2) := by decide +kernel
theorem dX8_heard_3 : decode cX8_heard 3 = .ok (.invokestatic 81, 3) := by decide +kernel
theorem dX8_heard_6 : decode cX8_heard 6 = .ok (.ifCond .eq 12, 3) := by decide +kernel
theorem dX8_heard_9 : decode cX8_heard 9 = .ok (.iload_n 2, 1) := by decide +kernel
theorem dX8_heard_10 : decode cX8_heard 10 = .ok (.bipush 8, 2) := by decide +kernel
theorem dX8_heard_12 : decode cX8_heard 12 = .ok (.invokestatic 81, 3) := by decide +kernel
theorem dX8_heard_15 : decode cX8_heard 15 = .ok (.ifCond .ne 6, 3) := by decide +kernel
theorem dX8_heard_18 : decode cX8_heard 18 = .ok (.bipush (-2), 2) := by decide +kernel
theorem dX8_heard_20 : decode cX8_heard 20 = .ok (.ireturn, 1) := by decide +kernel
theorem dX8_heard_21 : decode cX8_heard 21 = .ok (.aload_n 0, 1) := by decide +kernel
theorem dX8_heard_22 : decode cX8_heard 22 = .ok (.iload_n 1, 1) := by decide +kernel
theorem dX8_heard_23 : decode cX8_heard 23 = .ok (.invokevirtual 186, 3) := by decide +kernel
theorem dX8_heard_26 : decode cX8_heard 26 = .ok (.getfield 206, 3) := by decide +kernel
theorem dX8_heard_29 : decode cX8_heard 29 = .ok (.iload_n 2, 1) := by decide +kernel
theorem dX8_heard_30 : decode cX8_heard 30 = .ok (.iaload, 1) := by decide +kernel
theorem dX8_heard_31 : decode cX8_heard 31 = .ok (.ireturn, 1) := by decide +kernel
theorem dX8_spilled_0 : decode cX8_spilled 0 = .ok (.iload_n 1, 1) := by decide +kernel
theorem dX8_spilled_1 : decode cX8_spilled 1 = .ok (.bipush 40, 2) := by decide +kernel
theorem dX8_spilled_3 : decode cX8_spilled 3 = .ok (.invokestatic 81, 3) := by decide +kernel
theorem dX8_spilled_6 : decode cX8_spilled 6 = .ok (.ifCond .eq 12, 3) := by decide +kernel
theorem dX8_spilled_9 : decode cX8_spilled 9 = .ok (.iload_n 2, 1) := by decide +kernel
theorem dX8_spilled_10 : decode cX8_spilled 10 = .ok (.bipush 8, 2) := by decide +kernel
theorem dX8_spilled_12 : decode cX8_spilled 12 = .ok (.invokestatic 81, 3) := by decide +kernel
theorem dX8_spilled_15 : decode cX8_spilled 15 = .ok (.ifCond .ne 6, 3) := by decide +kernel
theorem dX8_spilled_18 : decode cX8_spilled 18 = .ok (.bipush (-2), 2) := by decide +kernel
theorem dX8_spilled_20 : decode cX8_spilled 20 = .ok (.ireturn, 1) := by decide +kernel
theorem dX8_spilled_21 : decode cX8_spilled 21 = .ok (.aload_n 0, 1) := by decide +kernel
theorem dX8_spilled_22 : decode cX8_spilled 22 = .ok (.iload_n 1, 1) := by decide +kernel
theorem dX8_spilled_23 : decode cX8_spilled 23 = .ok (.invokevirtual 186, 3) := by decide +kernel
theorem dX8_spilled_26 : decode cX8_spilled 26 = .ok (.getfield 209, 3) := by decide +kernel
theorem dX8_spilled_29 : decode cX8_spilled 29 = .ok (.iload_n 2, 1) := by decide +kernel
theorem dX8_spilled_30 : decode cX8_spilled 30 = .ok (.iaload, 1) := by decide +kernel
theorem dX8_spilled_31 : decode cX8_spilled 31 = .ok (.ireturn, 1) := by decide +kernel
theorem dX8_leaked_0 : decode cX8_leaked 0 = .ok (.iload_n 1, 1) := by decide +kernel
theorem dX8_leaked_1 : decode cX8_leaked 1 = .ok (.bipush 40, 2) := by decide +kernel
theorem dX8_leaked_3 : decode cX8_leaked 3 = .ok (.invokestatic 81, 3) := by decide +kernel
theorem dX8_leaked_6 : decode cX8_leaked 6 = .ok (.ifCond .ne 6, 3) := by decide +kernel
theorem dX8_leaked_9 : decode cX8_leaked 9 = .ok (.bipush (-2), 2) := by decide +kernel
theorem dX8_leaked_11 : decode cX8_leaked 11 = .ok (.ireturn, 1) := by decide +kernel
theorem dX8_leaked_12 : decode cX8_leaked 12 = .ok (.aload_n 0, 1) := by decide +kernel
theorem dX8_leaked_13 : decode cX8_leaked 13 = .ok (.iload_n 1, 1) := by decide +kernel
theorem dX8_leaked_14 : decode cX8_leaked 14 = .ok (.invokevirtual 186, 3) := by decide +kernel
theorem dX8_leaked_17 : decode cX8_leaked 17 = .ok (.getfield 212, 3) := by decide +kernel
theorem dX8_leaked_20 : decode cX8_leaked 20 = .ok (.ireturn, 1) := by decide +kernel
theorem dX8_lost_0 : decode cX8_lost 0 = .ok (.iload_n 1, 1) := by decide +kernel
theorem dX8_lost_1 : decode cX8_lost 1 = .ok (.bipush 40, 2) := by decide +kernel
theorem dX8_lost_3 : decode cX8_lost 3 = .ok (.invokestatic 81, 3) := by decide +kernel
theorem dX8_lost_6 : decode cX8_lost 6 = .ok (.ifCond .ne 6, 3) := by decide +kernel
theorem dX8_lost_9 : decode cX8_lost 9 = .ok (.bipush (-2), 2) := by decide +kernel
theorem dX8_lost_11 : decode cX8_lost 11 = .ok (.ireturn, 1) := by decide +kernel
theorem dX8_lost_12 : decode cX8_lost 12 = .ok (.aload_n 0, 1) := by decide +kernel
theorem dX8_lost_13 : decode cX8_lost 13 = .ok (.getfield 24, 3) := by decide +kernel
theorem dX8_lost_16 : decode cX8_lost 16 = .ok (.getfield 112, 3) := by decide +kernel
theorem dX8_lost_19 : decode cX8_lost 19 = .ok (.invokevirtual 215, 3) := by decide +kernel
theorem dX8_lost_22 : decode cX8_lost 22 = .ok (.aload_n 0, 1) := by decide +kernel
theorem dX8_lost_23 : decode cX8_lost 23 = .ok (.iload_n 1, 1) := by decide +kernel
theorem dX8_lost_24 : decode cX8_lost 24 = .ok (.invokevirtual 186, 3) := by decide +kernel
theorem dX8_lost_27 : decode cX8_lost 27 = .ok (.iconst (-1), 1) := by decide +kernel
theorem dX8_lost_28 : decode cX8_lost 28 = .ok (.invokevirtual 203, 3) := by decide +kernel
theorem dX8_lost_31 : decode cX8_lost 31 = .ok (.iconst (-1), 1) := by decide +kernel
theorem dX8_lost_32 : decode cX8_lost 32 = .ok (.ixor, 1) := by decide +kernel
theorem dX8_lost_33 : decode cX8_lost 33 = .ok (.iand, 1) := by decide +kernel
theorem dX8_lost_34 : decode cX8_lost 34 = .ok (.ireturn, 1) := by decide +kernel
theorem dX8_works_0 : decode cX8_works 0 = .ok (.iload_n 1, 1) := by decide +kernel
theorem dX8_works_1 : decode cX8_works 1 = .ok (.aload_n 0, 1) := by decide +kernel
theorem dX8_works_2 : decode cX8_works 2 = .ok (.getfield 24, 3) := by decide +kernel
theorem dX8_works_5 : decode cX8_works 5 = .ok (.getfield 150, 3) := by decide +kernel
theorem dX8_works_8 : decode cX8_works 8 = .ok (.getfield 154, 3) := by decide +kernel
theorem dX8_works_11 : decode cX8_works 11 = .ok (.invokestatic 81, 3) := by decide +kernel
theorem dX8_works_14 : decode cX8_works 14 = .ok (.ifCond .ne 6, 3) := by decide +kernel
theorem dX8_works_17 : decode cX8_works 17 = .ok (.bipush (-2), 2) := by decide +kernel
theorem dX8_works_19 : decode cX8_works 19 = .ok (.ireturn, 1) := by decide +kernel
theorem dX8_works_20 : decode cX8_works 20 = .ok (.aload_n 0, 1) := by decide +kernel
theorem dX8_works_21 : decode cX8_works 21 = .ok (.aload_n 0, 1) := by decide +kernel
theorem dX8_works_22 : decode cX8_works 22 = .ok (.getfield 24, 3) := by decide +kernel
theorem dX8_works_25 : decode cX8_works 25 = .ok (.getfield 150, 3) := by decide +kernel
theorem dX8_works_28 : decode cX8_works 28 = .ok (.getfield 157, 3) := by decide +kernel
theorem dX8_works_31 : decode cX8_works 31 = .ok (.iload_n 1, 1) := by decide +kernel
theorem dX8_works_32 : decode cX8_works 32 = .ok (.iaload, 1) := by decide +kernel
theorem dX8_works_33 : decode cX8_works 33 = .ok (.invokevirtual 186, 3) := by decide +kernel
theorem dX8_works_36 : decode cX8_works 36 = .ok (.getfield 218, 3) := by decide +kernel
theorem dX8_works_39 : decode cX8_works 39 = .ok (.iload_n 1, 1) := by decide +kernel
theorem dX8_works_40 : decode cX8_works 40 = .ok (.ishr, 1) := by decide +kernel
theorem dX8_works_41 : decode cX8_works 41 = .ok (.iconst 1, 1) := by decide +kernel
theorem dX8_works_42 : decode cX8_works 42 = .ok (.iand, 1) := by decide +kernel
theorem dX8_works_43 : decode cX8_works 43 = .ok (.ireturn, 1) := by decide +kernel
theorem dX8_sing_0 : decode cX8_sing 0 = .ok (.iload_n 1, 1) := by decide +kernel
theorem dX8_sing_1 : decode cX8_sing 1 = .ok (.bipush 40, 2) := by decide +kernel
theorem dX8_sing_3 : decode cX8_sing 3 = .ok (.invokestatic 81, 3) := by decide +kernel
theorem dX8_sing_6 : decode cX8_sing 6 = .ok (.ifCond .eq 17, 3) := by decide +kernel
theorem dX8_sing_9 : decode cX8_sing 9 = .ok (.iload_n 2, 1) := by decide +kernel
theorem dX8_sing_10 : decode cX8_sing 10 = .ok (.iconst (-1), 1) := by decide +kernel
theorem dX8_sing_11 : decode cX8_sing 11 = .ok (.if_icmp .eq 15, 3) := by decide +kernel
theorem dX8_sing_14 : decode cX8_sing 14 = .ok (.iload_n 2, 1) := by decide +kernel
theorem dX8_sing_15 : decode cX8_sing 15 = .ok (.bipush 8, 2) := by decide +kernel
theorem dX8_sing_17 : decode cX8_sing 17 = .ok (.invokestatic 81, 3) := by decide +kernel
theorem dX8_sing_20 : decode cX8_sing 20 = .ok (.ifCond .ne 6, 3) := by decide +kernel
theorem dX8_sing_23 : decode cX8_sing 23 = .ok (.bipush (-2), 2) := by decide +kernel
theorem dX8_sing_25 : decode cX8_sing 25 = .ok (.ireturn, 1) := by decide +kernel
theorem dX8_sing_26 : decode cX8_sing 26 = .ok (.aload_n 0, 1) := by decide +kernel
theorem dX8_sing_27 : decode cX8_sing 27 = .ok (.getfield 31, 3) := by decide +kernel
theorem dX8_sing_30 : decode cX8_sing 30 = .ok (.aload_n 0, 1) := by decide +kernel
theorem dX8_sing_31 : decode cX8_sing 31 = .ok (.iload_n 1, 1) := by decide +kernel
theorem dX8_sing_32 : decode cX8_sing 32 = .ok (.invokevirtual 186, 3) := by decide +kernel
theorem dX8_sing_35 : decode cX8_sing 35 = .ok (.invokevirtual 221, 3) := by decide +kernel
theorem dX8_sing_38 : decode cX8_sing 38 = .ok (.iload_n 2, 1) := by decide +kernel
theorem dX8_sing_39 : decode cX8_sing 39 = .ok (.iconst (-1), 1) := by decide +kernel
theorem dX8_sing_40 : decode cX8_sing 40 = .ok (.if_icmp .eq 14, 3) := by decide +kernel
theorem dX8_sing_43 : decode cX8_sing 43 = .ok (.aload_n 0, 1) := by decide +kernel
theorem dX8_sing_44 : decode cX8_sing 44 = .ok (.getfield 31, 3) := by decide +kernel
theorem dX8_sing_47 : decode cX8_sing 47 = .ok (.getfield 225, 3) := by decide +kernel
theorem dX8_sing_50 : decode cX8_sing 50 = .ok (.iconst (-1), 1) := by decide +kernel
theorem dX8_sing_51 : decode cX8_sing 51 = .ok (.if_icmp .ne 11, 3) := by decide +kernel
theorem dX8_sing_54 : decode cX8_sing 54 = .ok (.aload_n 0, 1) := by decide +kernel
theorem dX8_sing_55 : decode cX8_sing 55 = .ok (.getfield 31, 3) := by decide +kernel
theorem dX8_sing_58 : decode cX8_sing 58 = .ok (.getfield 225, 3) := by decide +kernel
theorem dX8_sing_61 : decode cX8_sing 61 = .ok (.ireturn, 1) := by decide +kernel
theorem dX8_sing_62 : decode cX8_sing 62 = .ok (.iload_n 2, 1) := by decide +kernel
theorem dX8_sing_63 : decode cX8_sing 63 = .ok (.aload_n 0, 1) := by decide +kernel
theorem dX8_sing_64 : decode cX8_sing 64 = .ok (.getfield 31, 3) := by decide +kernel
theorem dX8_sing_67 : decode cX8_sing 67 = .ok (.getfield 130, 3) := by decide +kernel
theorem dX8_sing_70 : decode cX8_sing 70 = .ok (.if_icmp .ge 15, 3) := by decide +kernel
theorem dX8_sing_73 : decode cX8_sing 73 = .ok (.aload_n 0, 1) := by decide +kernel
theorem dX8_sing_74 : decode cX8_sing 74 = .ok (.getfield 31, 3) := by decide +kernel
theorem dX8_sing_77 : decode cX8_sing 77 = .ok (.getfield 228, 3) := by decide +kernel
theorem dX8_sing_80 : decode cX8_sing 80 = .ok (.iload_n 2, 1) := by decide +kernel
theorem dX8_sing_81 : decode cX8_sing 81 = .ok (.iaload, 1) := by decide +kernel
theorem dX8_sing_82 : decode cX8_sing 82 = .ok (.goto 4, 3) := by decide +kernel
theorem dX8_sing_85 : decode cX8_sing 85 = .ok (.iconst (-1), 1) := by decide +kernel
theorem dX8_sing_86 : decode cX8_sing 86 = .ok (.ireturn, 1) := by decide +kernel
theorem dX8_corks_0 : decode cX8_corks 0 = .ok (.iload_n 1, 1) := by decide +kernel
theorem dX8_corks_1 : decode cX8_corks 1 = .ok (.bipush 40, 2) := by decide +kernel
theorem dX8_corks_3 : decode cX8_corks 3 = .ok (.invokestatic 81, 3) := by decide +kernel
theorem dX8_corks_6 : decode cX8_corks 6 = .ok (.ifCond .eq 16, 3) := by decide +kernel
theorem dX8_corks_9 : decode cX8_corks 9 = .ok (.iload_n 2, 1) := by decide +kernel
theorem dX8_corks_10 : decode cX8_corks 10 = .ok (.iconst (-1), 1) := by decide +kernel
theorem dX8_corks_11 : decode cX8_corks 11 = .ok (.if_icmp .eq 14, 3) := by decide +kernel
theorem dX8_corks_14 : decode cX8_corks 14 = .ok (.iload_n 2, 1) := by decide +kernel
theorem dX8_corks_15 : decode cX8_corks 15 = .ok (.iconst 3, 1) := by decide +kernel
theorem dX8_corks_16 : decode cX8_corks 16 = .ok (.invokestatic 81, 3) := by decide +kernel
theorem dX8_corks_19 : decode cX8_corks 19 = .ok (.ifCond .ne 6, 3) := by decide +kernel
theorem dX8_corks_22 : decode cX8_corks 22 = .ok (.bipush (-2), 2) := by decide +kernel
theorem dX8_corks_24 : decode cX8_corks 24 = .ok (.ireturn, 1) := by decide +kernel
theorem dX8_corks_25 : decode cX8_corks 25 = .ok (.aload_n 0, 1) := by decide +kernel
theorem dX8_corks_26 : decode cX8_corks 26 = .ok (.getfield 71, 3) := by decide +kernel
theorem dX8_corks_29 : decode cX8_corks 29 = .ok (.iload_n 1, 1) := by decide +kernel
theorem dX8_corks_30 : decode cX8_corks 30 = .ok (.if_icmp .eq 17, 3) := by decide +kernel
theorem dX8_corks_33 : decode cX8_corks 33 = .ok (.aload_n 0, 1) := by decide +kernel
theorem dX8_corks_34 : decode cX8_corks 34 = .ok (.aload_n 0, 1) := by decide +kernel
theorem dX8_corks_35 : decode cX8_corks 35 = .ok (.iload_n 1, 1) := by decide +kernel
theorem dX8_corks_36 : decode cX8_corks 36 = .ok (.invokevirtual 231, 3) := by decide +kernel
theorem dX8_corks_39 : decode cX8_corks 39 = .ok (.putfield 75, 3) := by decide +kernel
theorem dX8_corks_42 : decode cX8_corks 42 = .ok (.aload_n 0, 1) := by decide +kernel
theorem dX8_corks_43 : decode cX8_corks 43 = .ok (.iload_n 1, 1) := by decide +kernel
theorem dX8_corks_44 : decode cX8_corks 44 = .ok (.putfield 71, 3) := by decide +kernel
theorem dX8_corks_47 : decode cX8_corks 47 = .ok (.aload_n 0, 1) := by decide +kernel
theorem dX8_corks_48 : decode cX8_corks 48 = .ok (.getfield 75, 3) := by decide +kernel
theorem dX8_corks_51 : decode cX8_corks 51 = .ok (.iconst (-1), 1) := by decide +kernel
theorem dX8_corks_52 : decode cX8_corks 52 = .ok (.if_icmp .ne 5, 3) := by decide +kernel
theorem dX8_corks_55 : decode cX8_corks 55 = .ok (.iconst (-1), 1) := by decide +kernel
theorem dX8_corks_56 : decode cX8_corks 56 = .ok (.ireturn, 1) := by decide +kernel
theorem dX8_corks_57 : decode cX8_corks 57 = .ok (.iload_n 2, 1) := by decide +kernel
theorem dX8_corks_58 : decode cX8_corks 58 = .ok (.iconst (-1), 1) := by decide +kernel
theorem dX8_corks_59 : decode cX8_corks 59 = .ok (.if_icmp .ne 13, 3) := by decide +kernel
theorem dX8_corks_62 : decode cX8_corks 62 = .ok (.aload_n 0, 1) := by decide +kernel
theorem dX8_corks_63 : decode cX8_corks 63 = .ok (.getfield 75, 3) := by decide +kernel
theorem dX8_corks_66 : decode cX8_corks 66 = .ok (.invokestatic 234, 3) := by decide +kernel
theorem dX8_corks_69 : decode cX8_corks 69 = .ok (.goto 8, 3) := by decide +kernel
theorem dX8_corks_72 : decode cX8_corks 72 = .ok (.aload_n 0, 1) := by decide +kernel
theorem dX8_corks_73 : decode cX8_corks 73 = .ok (.iload_n 2, 1) := by decide +kernel
theorem dX8_corks_74 : decode cX8_corks 74 = .ok (.invokevirtual 239, 3) := by decide +kernel
theorem dX8_corks_77 : decode cX8_corks 77 = .ok (.ireturn, 1) := by decide +kernel
theorem dX8_most_0 : decode cX8_most 0 = .ok (.iload_n 1, 1) := by decide +kernel
theorem dX8_most_1 : decode cX8_most 1 = .ok (.bipush 40, 2) := by decide +kernel
theorem dX8_most_3 : decode cX8_most 3 = .ok (.invokestatic 81, 3) := by decide +kernel
theorem dX8_most_6 : decode cX8_most 6 = .ok (.ifCond .eq 12, 3) := by decide +kernel
theorem dX8_most_9 : decode cX8_most 9 = .ok (.iload_n 2, 1) := by decide +kernel
theorem dX8_most_10 : decode cX8_most 10 = .ok (.bipush 8, 2) := by decide +kernel
theorem dX8_most_12 : decode cX8_most 12 = .ok (.invokestatic 81, 3) := by decide +kernel
theorem dX8_most_15 : decode cX8_most 15 = .ok (.ifCond .ne 6, 3) := by decide +kernel
theorem dX8_most_18 : decode cX8_most 18 = .ok (.bipush (-2), 2) := by decide +kernel
theorem dX8_most_20 : decode cX8_most 20 = .ok (.ireturn, 1) := by decide +kernel
theorem dX8_most_21 : decode cX8_most 21 = .ok (.aload_n 0, 1) := by decide +kernel
theorem dX8_most_22 : decode cX8_most 22 = .ok (.iload_n 1, 1) := by decide +kernel
theorem dX8_most_23 : decode cX8_most 23 = .ok (.invokevirtual 186, 3) := by decide +kernel
theorem dX8_most_26 : decode cX8_most 26 = .ok (.astore_n 3, 1) := by decide +kernel
theorem dX8_most_27 : decode cX8_most 27 = .ok (.iconst (-1), 1) := by decide +kernel
theorem dX8_most_28 : decode cX8_most 28 = .ok (.istore 4, 2) := by decide +kernel
theorem dX8_most_30 : decode cX8_most 30 = .ok (.iconst 0, 1) := by decide +kernel
theorem dX8_most_31 : decode cX8_most 31 = .ok (.istore 5, 2) := by decide +kernel
theorem dX8_most_33 : decode cX8_most 33 = .ok (.iconst 0, 1) := by decide +kernel
theorem dX8_most_34 : decode cX8_most 34 = .ok (.istore 6, 2) := by decide +kernel
theorem dX8_most_36 : decode cX8_most 36 = .ok (.iload 6, 2) := by decide +kernel
theorem dX8_most_38 : decode cX8_most 38 = .ok (.aload_n 0, 1) := by decide +kernel
theorem dX8_most_39 : decode cX8_most 39 = .ok (.getfield 24, 3) := by decide +kernel
theorem dX8_most_42 : decode cX8_most 42 = .ok (.getfield 112, 3) := by decide +kernel
theorem dX8_most_45 : decode cX8_most 45 = .ok (.getfield 242, 3) := by decide +kernel
theorem dX8_most_48 : decode cX8_most 48 = .ok (.if_icmp .ge 34, 3) := by decide +kernel
theorem dX8_most_51 : decode cX8_most 51 = .ok (.aload_n 3, 1) := by decide +kernel
theorem dX8_most_52 : decode cX8_most 52 = .ok (.iload 6, 2) := by decide +kernel
theorem dX8_most_54 : decode cX8_most 54 = .ok (.iload_n 2, 1) := by decide +kernel
theorem dX8_most_55 : decode cX8_most 55 = .ok (.invokevirtual 193, 3) := by decide +kernel
theorem dX8_most_58 : decode cX8_most 58 = .ok (.iload 5, 2) := by decide +kernel
theorem dX8_most_60 : decode cX8_most 60 = .ok (.if_icmp .le 16, 3) := by decide +kernel
theorem dX8_most_63 : decode cX8_most 63 = .ok (.iload 6, 2) := by decide +kernel
theorem dX8_most_65 : decode cX8_most 65 = .ok (.istore 4, 2) := by decide +kernel
theorem dX8_most_67 : decode cX8_most 67 = .ok (.aload_n 3, 1) := by decide +kernel
theorem dX8_most_68 : decode cX8_most 68 = .ok (.iload 6, 2) := by decide +kernel
theorem dX8_most_70 : decode cX8_most 70 = .ok (.iload_n 2, 1) := by decide +kernel
theorem dX8_most_71 : decode cX8_most 71 = .ok (.invokevirtual 193, 3) := by decide +kernel
theorem dX8_most_74 : decode cX8_most 74 = .ok (.istore 5, 2) := by decide +kernel
theorem dX8_most_76 : decode cX8_most 76 = .ok (.iinc 6 1, 3) := by decide +kernel
theorem dX8_most_79 : decode cX8_most 79 = .ok (.goto (-43), 3) := by decide +kernel
theorem dX8_most_82 : decode cX8_most 82 = .ok (.iload 4, 2) := by decide +kernel
theorem dX8_most_84 : decode cX8_most 84 = .ok (.ireturn, 1) := by decide +kernel
theorem dX8_weighed_0 : decode cX8_weighed 0 = .ok (.iload_n 1, 1) := by decide +kernel
theorem dX8_weighed_1 : decode cX8_weighed 1 = .ok (.bipush 40, 2) := by decide +kernel
theorem dX8_weighed_3 : decode cX8_weighed 3 = .ok (.invokestatic 81, 3) := by decide +kernel
theorem dX8_weighed_6 : decode cX8_weighed 6 = .ok (.ifCond .eq 22, 3) := by decide +kernel
theorem dX8_weighed_9 : decode cX8_weighed 9 = .ok (.iload_n 2, 1) := by decide +kernel
theorem dX8_weighed_10 : decode cX8_weighed 10 = .ok (.bipush 8, 2) := by decide +kernel
theorem dX8_weighed_12 : decode cX8_weighed 12 = .ok (.invokestatic 81, 3) := by decide +kernel
theorem dX8_weighed_15 : decode cX8_weighed 15 = .ok (.ifCond .eq 13, 3) := by decide +kernel
theorem dX8_weighed_18 : decode cX8_weighed 18 = .ok (.iload_n 3, 1) := by decide +kernel
theorem dX8_weighed_19 : decode cX8_weighed 19 = .ok (.sipush 1000, 3) := by decide +kernel
theorem dX8_weighed_22 : decode cX8_weighed 22 = .ok (.invokestatic 81, 3) := by decide +kernel
theorem dX8_weighed_25 : decode cX8_weighed 25 = .ok (.ifCond .ne 6, 3) := by decide +kernel
theorem dX8_weighed_28 : decode cX8_weighed 28 = .ok (.bipush (-2), 2) := by decide +kernel
theorem dX8_weighed_30 : decode cX8_weighed 30 = .ok (.ireturn, 1) := by decide +kernel
theorem dX8_weighed_31 : decode cX8_weighed 31 = .ok (.aload_n 0, 1) := by decide +kernel
theorem dX8_weighed_32 : decode cX8_weighed 32 = .ok (.getfield 38, 3) := by decide +kernel
theorem dX8_weighed_35 : decode cX8_weighed 35 = .ok (.getfield 243, 3) := by decide +kernel
theorem dX8_weighed_38 : decode cX8_weighed 38 = .ok (.istore 4, 2) := by decide +kernel
theorem dX8_weighed_40 : decode cX8_weighed 40 = .ok (.iload 4, 2) := by decide +kernel
theorem dX8_weighed_42 : decode cX8_weighed 42 = .ok (.bipush 8, 2) := by decide +kernel
theorem dX8_weighed_44 : decode cX8_weighed 44 = .ok (.if_icmp .lt 6, 3) := by decide +kernel
theorem dX8_weighed_47 : decode cX8_weighed 47 = .ok (.bipush (-4), 2) := by decide +kernel
theorem dX8_weighed_49 : decode cX8_weighed 49 = .ok (.ireturn, 1) := by decide +kernel
theorem dX8_weighed_50 : decode cX8_weighed 50 = .ok (.aload_n 0, 1) := by decide +kernel
theorem dX8_weighed_51 : decode cX8_weighed 51 = .ok (.getfield 38, 3) := by decide +kernel
theorem dX8_weighed_54 : decode cX8_weighed 54 = .ok (.getfield 244, 3) := by decide +kernel
theorem dX8_weighed_57 : decode cX8_weighed 57 = .ok (.iload 4, 2) := by decide +kernel
theorem dX8_weighed_59 : decode cX8_weighed 59 = .ok (.iload_n 1, 1) := by decide +kernel
theorem dX8_weighed_60 : decode cX8_weighed 60 = .ok (.iastore, 1) := by decide +kernel
theorem dX8_weighed_61 : decode cX8_weighed 61 = .ok (.aload_n 0, 1) := by decide +kernel
theorem dX8_weighed_62 : decode cX8_weighed 62 = .ok (.getfield 38, 3) := by decide +kernel
theorem dX8_weighed_65 : decode cX8_weighed 65 = .ok (.getfield 245, 3) := by decide +kernel
theorem dX8_weighed_68 : decode cX8_weighed 68 = .ok (.iload 4, 2) := by decide +kernel
theorem dX8_weighed_70 : decode cX8_weighed 70 = .ok (.iload_n 2, 1) := by decide +kernel
theorem dX8_weighed_71 : decode cX8_weighed 71 = .ok (.iastore, 1) := by decide +kernel
theorem dX8_weighed_72 : decode cX8_weighed 72 = .ok (.aload_n 0, 1) := by decide +kernel
theorem dX8_weighed_73 : decode cX8_weighed 73 = .ok (.getfield 38, 3) := by decide +kernel
theorem dX8_weighed_76 : decode cX8_weighed 76 = .ok (.getfield 246, 3) := by decide +kernel
theorem dX8_weighed_79 : decode cX8_weighed 79 = .ok (.iload 4, 2) := by decide +kernel
theorem dX8_weighed_81 : decode cX8_weighed 81 = .ok (.iload_n 3, 1) := by decide +kernel
theorem dX8_weighed_82 : decode cX8_weighed 82 = .ok (.iastore, 1) := by decide +kernel
theorem dX8_weighed_83 : decode cX8_weighed 83 = .ok (.aload_n 0, 1) := by decide +kernel
theorem dX8_weighed_84 : decode cX8_weighed 84 = .ok (.getfield 38, 3) := by decide +kernel
theorem dX8_weighed_87 : decode cX8_weighed 87 = .ok (.dup, 1) := by decide +kernel
theorem dX8_weighed_88 : decode cX8_weighed 88 = .ok (.getfield 243, 3) := by decide +kernel
theorem dX8_weighed_91 : decode cX8_weighed 91 = .ok (.iconst 1, 1) := by decide +kernel
theorem dX8_weighed_92 : decode cX8_weighed 92 = .ok (.iadd, 1) := by decide +kernel
theorem dX8_weighed_93 : decode cX8_weighed 93 = .ok (.putfield 243, 3) := by decide +kernel
theorem dX8_weighed_96 : decode cX8_weighed 96 = .ok (.aload_n 0, 1) := by decide +kernel
theorem dX8_weighed_97 : decode cX8_weighed 97 = .ok (.getfield 38, 3) := by decide +kernel
theorem dX8_weighed_100 : decode cX8_weighed 100 = .ok (.getfield 243, 3) := by decide +kernel
theorem dX8_weighed_103 : decode cX8_weighed 103 = .ok (.ireturn, 1) := by decide +kernel
theorem dX8_forget_0 : decode cX8_forget 0 = .ok (.aload_n 0, 1) := by decide +kernel
theorem dX8_forget_1 : decode cX8_forget 1 = .ok (.getfield 38, 3) := by decide +kernel
theorem dX8_forget_4 : decode cX8_forget 4 = .ok (.getfield 243, 3) := by decide +kernel
theorem dX8_forget_7 : decode cX8_forget 7 = .ok (.istore_n 1, 1) := by decide +kernel
theorem dX8_forget_8 : decode cX8_forget 8 = .ok (.aload_n 0, 1) := by decide +kernel
theorem dX8_forget_9 : decode cX8_forget 9 = .ok (.getfield 38, 3) := by decide +kernel
theorem dX8_forget_12 : decode cX8_forget 12 = .ok (.iconst 0, 1) := by decide +kernel
theorem dX8_forget_13 : decode cX8_forget 13 = .ok (.putfield 243, 3) := by decide +kernel
theorem dX8_forget_16 : decode cX8_forget 16 = .ok (.iload_n 1, 1) := by decide +kernel
theorem dX8_forget_17 : decode cX8_forget 17 = .ok (.ireturn, 1) := by decide +kernel
theorem dX8_hid_0 : decode cX8_hid 0 = .ok (.iconst 0, 1) := by decide +kernel
theorem dX8_hid_1 : decode cX8_hid 1 = .ok (.istore_n 1, 1) := by decide +kernel
theorem dX8_hid_2 : decode cX8_hid 2 = .ok (.iconst 0, 1) := by decide +kernel
theorem dX8_hid_3 : decode cX8_hid 3 = .ok (.istore_n 2, 1) := by decide +kernel
theorem dX8_hid_4 : decode cX8_hid 4 = .ok (.iload_n 2, 1) := by decide +kernel
theorem dX8_hid_5 : decode cX8_hid 5 = .ok (.aload_n 0, 1) := by decide +kernel
theorem dX8_hid_6 : decode cX8_hid 6 = .ok (.getfield 24, 3) := by decide +kernel
theorem dX8_hid_9 : decode cX8_hid 9 = .ok (.getfield 150, 3) := by decide +kernel
theorem dX8_hid_12 : decode cX8_hid 12 = .ok (.getfield 154, 3) := by decide +kernel
theorem dX8_hid_15 : decode cX8_hid 15 = .ok (.if_icmp .ge 25, 3) := by decide +kernel
theorem dX8_hid_18 : decode cX8_hid 18 = .ok (.aload_n 0, 1) := by decide +kernel
theorem dX8_hid_19 : decode cX8_hid 19 = .ok (.iload_n 2, 1) := by decide +kernel
theorem dX8_hid_20 : decode cX8_hid 20 = .ok (.iconst 0, 1) := by decide +kernel
theorem dX8_hid_21 : decode cX8_hid 21 = .ok (.iconst 0, 1) := by decide +kernel
theorem dX8_hid_22 : decode cX8_hid 22 = .ok (.invokevirtual 247, 3) := by decide +kernel
theorem dX8_hid_25 : decode cX8_hid 25 = .ok (.ifCond .eq 9, 3) := by decide +kernel
theorem dX8_hid_28 : decode cX8_hid 28 = .ok (.iload_n 1, 1) := by decide +kernel
theorem dX8_hid_29 : decode cX8_hid 29 = .ok (.iconst 1, 1) := by decide +kernel
theorem dX8_hid_30 : decode cX8_hid 30 = .ok (.iload_n 2, 1) := by decide +kernel
theorem dX8_hid_31 : decode cX8_hid 31 = .ok (.ishl, 1) := by decide +kernel
theorem dX8_hid_32 : decode cX8_hid 32 = .ok (.ior, 1) := by decide +kernel
theorem dX8_hid_33 : decode cX8_hid 33 = .ok (.istore_n 1, 1) := by decide +kernel
theorem dX8_hid_34 : decode cX8_hid 34 = .ok (.iinc 2 1, 3) := by decide +kernel
theorem dX8_hid_37 : decode cX8_hid 37 = .ok (.goto (-33), 3) := by decide +kernel
theorem dX8_hid_40 : decode cX8_hid 40 = .ok (.iload_n 1, 1) := by decide +kernel
theorem dX8_hid_41 : decode cX8_hid 41 = .ok (.ireturn, 1) := by decide +kernel
theorem dX8_swapped_0 : decode cX8_swapped 0 = .ok (.iload_n 1, 1) := by decide +kernel
theorem dX8_swapped_1 : decode cX8_swapped 1 = .ok (.iconst 2, 1) := by decide +kernel
theorem dX8_swapped_2 : decode cX8_swapped 2 = .ok (.invokestatic 81, 3) := by decide +kernel
theorem dX8_swapped_5 : decode cX8_swapped 5 = .ok (.ifCond .ne 6, 3) := by decide +kernel
theorem dX8_swapped_8 : decode cX8_swapped 8 = .ok (.bipush (-2), 2) := by decide +kernel
theorem dX8_swapped_10 : decode cX8_swapped 10 = .ok (.ireturn, 1) := by decide +kernel
theorem dX8_swapped_11 : decode cX8_swapped 11 = .ok (.iconst 0, 1) := by decide +kernel
theorem dX8_swapped_12 : decode cX8_swapped 12 = .ok (.istore_n 2, 1) := by decide +kernel
theorem dX8_swapped_13 : decode cX8_swapped 13 = .ok (.iconst (-1), 1) := by decide +kernel
theorem dX8_swapped_14 : decode cX8_swapped 14 = .ok (.istore_n 3, 1) := by decide +kernel
theorem dX8_swapped_15 : decode cX8_swapped 15 = .ok (.iconst 0, 1) := by decide +kernel
theorem dX8_swapped_16 : decode cX8_swapped 16 = .ok (.istore 4, 2) := by decide +kernel
theorem dX8_swapped_18 : decode cX8_swapped 18 = .ok (.iload 4, 2) := by decide +kernel
theorem dX8_swapped_20 : decode cX8_swapped 20 = .ok (.aload_n 0, 1) := by decide +kernel
theorem dX8_swapped_21 : decode cX8_swapped 21 = .ok (.getfield 24, 3) := by decide +kernel
theorem dX8_swapped_24 : decode cX8_swapped 24 = .ok (.getfield 112, 3) := by decide +kernel
theorem dX8_swapped_27 : decode cX8_swapped 27 = .ok (.getfield 242, 3) := by decide +kernel
theorem dX8_swapped_30 : decode cX8_swapped 30 = .ok (.if_icmp .ge 68, 3) := by decide +kernel
theorem dX8_swapped_33 : decode cX8_swapped 33 = .ok (.iload 4, 2) := by decide +kernel
theorem dX8_swapped_35 : decode cX8_swapped 35 = .ok (.iconst 1, 1) := by decide +kernel
theorem dX8_swapped_36 : decode cX8_swapped 36 = .ok (.iadd, 1) := by decide +kernel
theorem dX8_swapped_37 : decode cX8_swapped 37 = .ok (.istore 5, 2) := by decide +kernel
theorem dX8_swapped_39 : decode cX8_swapped 39 = .ok (.iload 5, 2) := by decide +kernel
theorem dX8_swapped_41 : decode cX8_swapped 41 = .ok (.aload_n 0, 1) := by decide +kernel
theorem dX8_swapped_42 : decode cX8_swapped 42 = .ok (.getfield 24, 3) := by decide +kernel
theorem dX8_swapped_45 : decode cX8_swapped 45 = .ok (.getfield 112, 3) := by decide +kernel
theorem dX8_swapped_48 : decode cX8_swapped 48 = .ok (.getfield 242, 3) := by decide +kernel
theorem dX8_swapped_51 : decode cX8_swapped 51 = .ok (.if_icmp .ge 41, 3) := by decide +kernel
theorem dX8_swapped_54 : decode cX8_swapped 54 = .ok (.aload_n 0, 1) := by decide +kernel
theorem dX8_swapped_55 : decode cX8_swapped 55 = .ok (.iconst (-1), 1) := by decide +kernel
theorem dX8_swapped_56 : decode cX8_swapped 56 = .ok (.iload 4, 2) := by decide +kernel
theorem dX8_swapped_58 : decode cX8_swapped 58 = .ok (.iload 5, 2) := by decide +kernel
theorem dX8_swapped_60 : decode cX8_swapped 60 = .ok (.invokevirtual 247, 3) := by decide +kernel
theorem dX8_swapped_63 : decode cX8_swapped 63 = .ok (.ifCond .ne 6, 3) := by decide +kernel
theorem dX8_swapped_66 : decode cX8_swapped 66 = .ok (.goto 20, 3) := by decide +kernel
theorem dX8_swapped_69 : decode cX8_swapped 69 = .ok (.iinc 2 1, 3) := by decide +kernel
theorem dX8_swapped_72 : decode cX8_swapped 72 = .ok (.iload_n 3, 1) := by decide +kernel
theorem dX8_swapped_73 : decode cX8_swapped 73 = .ok (.iconst (-1), 1) := by decide +kernel
theorem dX8_swapped_74 : decode cX8_swapped 74 = .ok (.if_icmp .ne 12, 3) := by decide +kernel
theorem dX8_swapped_77 : decode cX8_swapped 77 = .ok (.bipush 8, 2) := by decide +kernel
theorem dX8_swapped_79 : decode cX8_swapped 79 = .ok (.iload 4, 2) := by decide +kernel
theorem dX8_swapped_81 : decode cX8_swapped 81 = .ok (.imul, 1) := by decide +kernel
theorem dX8_swapped_82 : decode cX8_swapped 82 = .ok (.iload 5, 2) := by decide +kernel
theorem dX8_swapped_84 : decode cX8_swapped 84 = .ok (.iadd, 1) := by decide +kernel
theorem dX8_swapped_85 : decode cX8_swapped 85 = .ok (.istore_n 3, 1) := by decide +kernel
theorem dX8_swapped_86 : decode cX8_swapped 86 = .ok (.iinc 5 1, 3) := by decide +kernel
theorem dX8_swapped_89 : decode cX8_swapped 89 = .ok (.goto (-50), 3) := by decide +kernel
theorem dX8_swapped_92 : decode cX8_swapped 92 = .ok (.iinc 4 1, 3) := by decide +kernel
theorem dX8_swapped_95 : decode cX8_swapped 95 = .ok (.goto (-77), 3) := by decide +kernel
theorem dX8_swapped_98 : decode cX8_swapped 98 = .ok (.iload_n 1, 1) := by decide +kernel
theorem dX8_swapped_99 : decode cX8_swapped 99 = .ok (.ifCond .ne 7, 3) := by decide +kernel
theorem dX8_swapped_102 : decode cX8_swapped 102 = .ok (.iload_n 2, 1) := by decide +kernel
theorem dX8_swapped_103 : decode cX8_swapped 103 = .ok (.goto 4, 3) := by decide +kernel
theorem dX8_swapped_106 : decode cX8_swapped 106 = .ok (.iload_n 3, 1) := by decide +kernel
theorem dX8_swapped_107 : decode cX8_swapped 107 = .ok (.ireturn, 1) := by decide +kernel
theorem dX8_weigh_0 : decode cX8_weigh 0 = .ok (.iload_n 1, 1) := by decide +kernel
theorem dX8_weigh_1 : decode cX8_weigh 1 = .ok (.bipush 40, 2) := by decide +kernel
theorem dX8_weigh_3 : decode cX8_weigh 3 = .ok (.invokestatic 81, 3) := by decide +kernel
theorem dX8_weigh_6 : decode cX8_weigh 6 = .ok (.ifCond .ne 6, 3) := by decide +kernel
theorem dX8_weigh_9 : decode cX8_weigh 9 = .ok (.bipush (-2), 2) := by decide +kernel
theorem dX8_weigh_11 : decode cX8_weigh 11 = .ok (.ireturn, 1) := by decide +kernel
theorem dX8_weigh_12 : decode cX8_weigh 12 = .ok (.aload_n 0, 1) := by decide +kernel
theorem dX8_weigh_13 : decode cX8_weigh 13 = .ok (.invokevirtual 251, 3) := by decide +kernel
theorem dX8_weigh_16 : decode cX8_weigh 16 = .ok (.istore_n 2, 1) := by decide +kernel
theorem dX8_weigh_17 : decode cX8_weigh 17 = .ok (.aload_n 0, 1) := by decide +kernel
theorem dX8_weigh_18 : decode cX8_weigh 18 = .ok (.iload_n 2, 1) := by decide +kernel
theorem dX8_weigh_19 : decode cX8_weigh 19 = .ok (.iload_n 1, 1) := by decide +kernel
theorem dX8_weigh_20 : decode cX8_weigh 20 = .ok (.invokevirtual 254, 3) := by decide +kernel
theorem dX8_weigh_23 : decode cX8_weigh 23 = .ok (.iconst (-1), 1) := by decide +kernel
theorem dX8_weigh_24 : decode cX8_weigh 24 = .ok (.istore_n 3, 1) := by decide +kernel
theorem dX8_weigh_25 : decode cX8_weigh 25 = .ok (.iconst 0, 1) := by decide +kernel
theorem dX8_weigh_26 : decode cX8_weigh 26 = .ok (.istore 4, 2) := by decide +kernel
theorem dX8_weigh_28 : decode cX8_weigh 28 = .ok (.iconst 0, 1) := by decide +kernel
theorem dX8_weigh_29 : decode cX8_weigh 29 = .ok (.istore 5, 2) := by decide +kernel
theorem dX8_weigh_31 : decode cX8_weigh 31 = .ok (.iload 5, 2) := by decide +kernel
theorem dX8_weigh_33 : decode cX8_weigh 33 = .ok (.aload_n 0, 1) := by decide +kernel
theorem dX8_weigh_34 : decode cX8_weigh 34 = .ok (.getfield 24, 3) := by decide +kernel
theorem dX8_weigh_37 : decode cX8_weigh 37 = .ok (.getfield 112, 3) := by decide +kernel
theorem dX8_weigh_40 : decode cX8_weigh 40 = .ok (.getfield 242, 3) := by decide +kernel
theorem dX8_weigh_43 : decode cX8_weigh 43 = .ok (.if_icmp .ge 37, 3) := by decide +kernel
theorem dX8_weigh_46 : decode cX8_weigh 46 = .ok (.aload_n 0, 1) := by decide +kernel
theorem dX8_weigh_47 : decode cX8_weigh 47 = .ok (.iload_n 2, 1) := by decide +kernel
theorem dX8_weigh_48 : decode cX8_weigh 48 = .ok (.iload 5, 2) := by decide +kernel
theorem dX8_weigh_50 : decode cX8_weigh 50 = .ok (.invokevirtual 258, 3) := by decide +kernel
theorem dX8_weigh_53 : decode cX8_weigh 53 = .ok (.istore 6, 2) := by decide +kernel
theorem dX8_weigh_55 : decode cX8_weigh 55 = .ok (.iload_n 3, 1) := by decide +kernel
theorem dX8_weigh_56 : decode cX8_weigh 56 = .ok (.iconst (-1), 1) := by decide +kernel
theorem dX8_weigh_57 : decode cX8_weigh 57 = .ok (.if_icmp .eq 10, 3) := by decide +kernel
theorem dX8_weigh_60 : decode cX8_weigh 60 = .ok (.iload 6, 2) := by decide +kernel
theorem dX8_weigh_62 : decode cX8_weigh 62 = .ok (.iload 4, 2) := by decide +kernel
theorem dX8_weigh_64 : decode cX8_weigh 64 = .ok (.if_icmp .ge 10, 3) := by decide +kernel
theorem dX8_weigh_67 : decode cX8_weigh 67 = .ok (.iload 5, 2) := by decide +kernel
theorem dX8_weigh_69 : decode cX8_weigh 69 = .ok (.istore_n 3, 1) := by decide +kernel
theorem dX8_weigh_70 : decode cX8_weigh 70 = .ok (.iload 6, 2) := by decide +kernel
theorem dX8_weigh_72 : decode cX8_weigh 72 = .ok (.istore 4, 2) := by decide +kernel
theorem dX8_weigh_74 : decode cX8_weigh 74 = .ok (.iinc 5 1, 3) := by decide +kernel
theorem dX8_weigh_77 : decode cX8_weigh 77 = .ok (.goto (-46), 3) := by decide +kernel
theorem dX8_weigh_80 : decode cX8_weigh 80 = .ok (.iload_n 3, 1) := by decide +kernel
theorem dX8_weigh_81 : decode cX8_weigh 81 = .ok (.ireturn, 1) := by decide +kernel
theorem dX8_heat_0 : decode cX8_heat 0 = .ok (.iload_n 1, 1) := by decide +kernel
theorem dX8_heat_1 : decode cX8_heat 1 = .ok (.bipush 17, 2) := by decide +kernel
theorem dX8_heat_3 : decode cX8_heat 3 = .ok (.invokestatic 81, 3) := by decide +kernel
theorem dX8_heat_6 : decode cX8_heat 6 = .ok (.ifCond .eq 29, 3) := by decide +kernel
theorem dX8_heat_9 : decode cX8_heat 9 = .ok (.aload_n 0, 1) := by decide +kernel
theorem dX8_heat_10 : decode cX8_heat 10 = .ok (.iload_n 2, 1) := by decide +kernel
theorem dX8_heat_11 : decode cX8_heat 11 = .ok (.invokevirtual 108, 3) := by decide +kernel
theorem dX8_heat_14 : decode cX8_heat 14 = .ok (.ifCond .eq 21, 3) := by decide +kernel
theorem dX8_heat_17 : decode cX8_heat 17 = .ok (.iload_n 3, 1) := by decide +kernel
theorem dX8_heat_18 : decode cX8_heat 18 = .ok (.bipush 10, 2) := by decide +kernel
theorem dX8_heat_20 : decode cX8_heat 20 = .ok (.invokestatic 81, 3) := by decide +kernel
theorem dX8_heat_23 : decode cX8_heat 23 = .ok (.ifCond .eq 12, 3) := by decide +kernel
theorem dX8_heat_26 : decode cX8_heat 26 = .ok (.iload 4, 2) := by decide +kernel
theorem dX8_heat_28 : decode cX8_heat 28 = .ok (.iconst 2, 1) := by decide +kernel
theorem dX8_heat_29 : decode cX8_heat 29 = .ok (.invokestatic 81, 3) := by decide +kernel
theorem dX8_heat_32 : decode cX8_heat 32 = .ok (.ifCond .ne 7, 3) := by decide +kernel
theorem dX8_heat_35 : decode cX8_heat 35 = .ok (.ldc2_w 263, 3) := by decide +kernel
theorem dX8_heat_38 : decode cX8_heat 38 = .ok (.lreturn, 1) := by decide +kernel
theorem dX8_heat_39 : decode cX8_heat 39 = .ok (.aload_n 0, 1) := by decide +kernel
theorem dX8_heat_40 : decode cX8_heat 40 = .ok (.getfield 59, 3) := by decide +kernel
theorem dX8_heat_43 : decode cX8_heat 43 = .ok (.iconst 0, 1) := by decide +kernel
theorem dX8_heat_44 : decode cX8_heat 44 = .ok (.aaload, 1) := by decide +kernel
theorem dX8_heat_45 : decode cX8_heat 45 = .ok (.aload_n 0, 1) := by decide +kernel
theorem dX8_heat_46 : decode cX8_heat 46 = .ok (.getfield 24, 3) := by decide +kernel
theorem dX8_heat_49 : decode cX8_heat 49 = .ok (.getfield 112, 3) := by decide +kernel
theorem dX8_heat_52 : decode cX8_heat 52 = .ok (.iconst 0, 1) := by decide +kernel
theorem dX8_heat_53 : decode cX8_heat 53 = .ok (.iconst 0, 1) := by decide +kernel
theorem dX8_heat_54 : decode cX8_heat 54 = .ok (.invokevirtual 265, 3) := by decide +kernel
theorem dX8_heat_57 : decode cX8_heat 57 = .ok (.aload_n 0, 1) := by decide +kernel
theorem dX8_heat_58 : decode cX8_heat 58 = .ok (.getfield 59, 3) := by decide +kernel
theorem dX8_heat_61 : decode cX8_heat 61 = .ok (.aload_n 0, 1) := by decide +kernel
theorem dX8_heat_62 : decode cX8_heat 62 = .ok (.getfield 24, 3) := by decide +kernel
theorem dX8_heat_65 : decode cX8_heat 65 = .ok (.iconst 0, 1) := by decide +kernel
theorem dX8_heat_66 : decode cX8_heat 66 = .ok (.iload_n 3, 1) := by decide +kernel
theorem dX8_heat_67 : decode cX8_heat 67 = .ok (.iload_n 1, 1) := by decide +kernel
theorem dX8_heat_68 : decode cX8_heat 68 = .ok (.iload_n 2, 1) := by decide +kernel
theorem dX8_heat_69 : decode cX8_heat 69 = .ok (.invokestatic 269, 3) := by decide +kernel
theorem dX8_heat_72 : decode cX8_heat 72 = .ok (.lstore 5, 2) := by decide +kernel
theorem dX8_heat_74 : decode cX8_heat 74 = .ok (.lconst 1, 1) := by decide +kernel
theorem dX8_heat_75 : decode cX8_heat 75 = .ok (.iconst 4, 1) := by decide +kernel
theorem dX8_heat_76 : decode cX8_heat 76 = .ok (.iload_n 3, 1) := by decide +kernel
theorem dX8_heat_77 : decode cX8_heat 77 = .ok (.iconst 1, 1) := by decide +kernel
theorem dX8_heat_78 : decode cX8_heat 78 = .ok (.iadd, 1) := by decide +kernel
theorem dX8_heat_79 : decode cX8_heat 79 = .ok (.imul, 1) := by decide +kernel
theorem dX8_heat_80 : decode cX8_heat 80 = .ok (.lshl, 1) := by decide +kernel
theorem dX8_heat_81 : decode cX8_heat 81 = .ok (.lstore 7, 2) := by decide +kernel
theorem dX8_heat_83 : decode cX8_heat 83 = .ok (.lload 5, 2) := by decide +kernel
theorem dX8_heat_85 : decode cX8_heat 85 = .ok (.lconst 0, 1) := by decide +kernel
theorem dX8_heat_86 : decode cX8_heat 86 = .ok (.lcmp, 1) := by decide +kernel
theorem dX8_heat_87 : decode cX8_heat 87 = .ok (.ifCond .ne 6, 3) := by decide +kernel
theorem dX8_heat_90 : decode cX8_heat 90 = .ok (.lconst 1, 1) := by decide +kernel
theorem dX8_heat_91 : decode cX8_heat 91 = .ok (.lstore 7, 2) := by decide +kernel
theorem dX8_heat_93 : decode cX8_heat 93 = .ok (.lload 5, 2) := by decide +kernel
theorem dX8_heat_95 : decode cX8_heat 95 = .ok (.invokestatic 273, 3) := by decide +kernel
theorem dX8_heat_98 : decode cX8_heat 98 = .ok (.lload 7, 2) := by decide +kernel
theorem dX8_heat_100 : decode cX8_heat 100 = .ok (.invokestatic 273, 3) := by decide +kernel
theorem dX8_heat_103 : decode cX8_heat 103 = .ok (.invokestatic 277, 3) := by decide +kernel
theorem dX8_heat_106 : decode cX8_heat 106 = .ok (.istore 9, 2) := by decide +kernel
theorem dX8_heat_108 : decode cX8_heat 108 = .ok (.iload 4, 2) := by decide +kernel
theorem dX8_heat_110 : decode cX8_heat 110 = .ok (.ifCond .ne 8, 3) := by decide +kernel
theorem dX8_heat_113 : decode cX8_heat 113 = .ok (.lload 5, 2) := by decide +kernel
theorem dX8_heat_115 : decode cX8_heat 115 = .ok (.goto 5, 3) := by decide +kernel
theorem dX8_heat_118 : decode cX8_heat 118 = .ok (.lload 7, 2) := by decide +kernel
theorem dX8_heat_120 : decode cX8_heat 120 = .ok (.iload 9, 2) := by decide +kernel
theorem dX8_heat_122 : decode cX8_heat 122 = .ok (.lshr, 1) := by decide +kernel
theorem dX8_heat_123 : decode cX8_heat 123 = .ok (.lreturn, 1) := by decide +kernel
theorem dX8_market_0 : decode cX8_market 0 = .ok (.iload_n 2, 1) := by decide +kernel
theorem dX8_market_1 : decode cX8_market 1 = .ok (.bipush 40, 2) := by decide +kernel
theorem dX8_market_3 : decode cX8_market 3 = .ok (.invokestatic 81, 3) := by decide +kernel
theorem dX8_market_6 : decode cX8_market 6 = .ok (.ifCond .eq 16, 3) := by decide +kernel
theorem dX8_market_9 : decode cX8_market 9 = .ok (.iload_n 3, 1) := by decide +kernel
theorem dX8_market_10 : decode cX8_market 10 = .ok (.iconst (-1), 1) := by decide +kernel
theorem dX8_market_11 : decode cX8_market 11 = .ok (.if_icmp .eq 14, 3) := by decide +kernel
theorem dX8_market_14 : decode cX8_market 14 = .ok (.aload_n 0, 1) := by decide +kernel
theorem dX8_market_15 : decode cX8_market 15 = .ok (.iload_n 3, 1) := by decide +kernel
theorem dX8_market_16 : decode cX8_market 16 = .ok (.invokevirtual 108, 3) := by decide +kernel
theorem dX8_market_19 : decode cX8_market 19 = .ok (.ifCond .ne 6, 3) := by decide +kernel
theorem dX8_market_22 : decode cX8_market 22 = .ok (.bipush (-2), 2) := by decide +kernel
theorem dX8_market_24 : decode cX8_market 24 = .ok (.ireturn, 1) := by decide +kernel
theorem dX8_market_25 : decode cX8_market 25 = .ok (.aload_n 0, 1) := by decide +kernel
theorem dX8_market_26 : decode cX8_market 26 = .ok (.getfield 24, 3) := by decide +kernel
theorem dX8_market_29 : decode cX8_market 29 = .ok (.getfield 112, 3) := by decide +kernel
theorem dX8_market_32 : decode cX8_market 32 = .ok (.getfield 242, 3) := by decide +kernel
theorem dX8_market_35 : decode cX8_market 35 = .ok (.istore 4, 2) := by decide +kernel
theorem dX8_market_37 : decode cX8_market 37 = .ok (.iconst 0, 1) := by decide +kernel
theorem dX8_market_38 : decode cX8_market 38 = .ok (.istore 5, 2) := by decide +kernel
theorem dX8_market_40 : decode cX8_market 40 = .ok (.iload_n 1, 1) := by decide +kernel
theorem dX8_market_41 : decode cX8_market 41 = .ok (.istore 6, 2) := by decide +kernel
theorem dX8_market_43 : decode cX8_market 43 = .ok (.aload_n 0, 1) := by decide +kernel
theorem dX8_market_44 : decode cX8_market 44 = .ok (.getfield 56, 3) := by decide +kernel
theorem dX8_market_47 : decode cX8_market 47 = .ok (.aload_n 0, 1) := by decide +kernel
theorem dX8_market_48 : decode cX8_market 48 = .ok (.getfield 24, 3) := by decide +kernel
theorem dX8_market_51 : decode cX8_market 51 = .ok (.getfield 112, 3) := by decide +kernel
theorem dX8_market_54 : decode cX8_market 54 = .ok (.iconst 0, 1) := by decide +kernel
theorem dX8_market_55 : decode cX8_market 55 = .ok (.iconst 0, 1) := by decide +kernel
theorem dX8_market_56 : decode cX8_market 56 = .ok (.invokevirtual 265, 3) := by decide +kernel
theorem dX8_market_59 : decode cX8_market 59 = .ok (.iconst 0, 1) := by decide +kernel
theorem dX8_market_60 : decode cX8_market 60 = .ok (.istore 7, 2) := by decide +kernel
theorem dX8_market_62 : decode cX8_market 62 = .ok (.iload 7, 2) := by decide +kernel
theorem dX8_market_64 : decode cX8_market 64 = .ok (.iload_n 2, 1) := by decide +kernel
theorem dX8_market_65 : decode cX8_market 65 = .ok (.if_icmp .gt 74, 3) := by decide +kernel
theorem dX8_market_68 : decode cX8_market 68 = .ok (.iload 4, 2) := by decide +kernel
theorem dX8_market_70 : decode cX8_market 70 = .ok (.ifCond .le 69, 3) := by decide +kernel
theorem dX8_market_73 : decode cX8_market 73 = .ok (.aload_n 0, 1) := by decide +kernel
theorem dX8_market_74 : decode cX8_market 74 = .ok (.getfield 56, 3) := by decide +kernel
theorem dX8_market_77 : decode cX8_market 77 = .ok (.aload_n 0, 1) := by decide +kernel
theorem dX8_market_78 : decode cX8_market 78 = .ok (.getfield 24, 3) := by decide +kernel
theorem dX8_market_81 : decode cX8_market 81 = .ok (.iconst (-1), 1) := by decide +kernel
theorem dX8_market_82 : decode cX8_market 82 = .ok (.invokevirtual 282, 3) := by decide +kernel
theorem dX8_market_85 : decode cX8_market 85 = .ok (.iload 6, 2) := by decide +kernel
theorem dX8_market_87 : decode cX8_market 87 = .ok (.invokestatic 286, 3) := by decide +kernel
theorem dX8_market_90 : decode cX8_market 90 = .ok (.istore 6, 2) := by decide +kernel
theorem dX8_market_92 : decode cX8_market 92 = .ok (.iload 6, 2) := by decide +kernel
theorem dX8_market_94 : decode cX8_market 94 = .ok (.bipush 16, 2) := by decide +kernel
theorem dX8_market_96 : decode cX8_market 96 = .ok (.iushr, 1) := by decide +kernel
theorem dX8_market_97 : decode cX8_market 97 = .ok (.iload 4, 2) := by decide +kernel
theorem dX8_market_99 : decode cX8_market 99 = .ok (.irem, 1) := by decide +kernel
theorem dX8_market_100 : decode cX8_market 100 = .ok (.istore 8, 2) := by decide +kernel
theorem dX8_market_102 : decode cX8_market 102 = .ok (.iload 6, 2) := by decide +kernel
theorem dX8_market_104 : decode cX8_market 104 = .ok (.invokestatic 286, 3) := by decide +kernel
theorem dX8_market_107 : decode cX8_market 107 = .ok (.istore 6, 2) := by decide +kernel
theorem dX8_market_109 : decode cX8_market 109 = .ok (.aload_n 0, 1) := by decide +kernel
theorem dX8_market_110 : decode cX8_market 110 = .ok (.getfield 56, 3) := by decide +kernel
theorem dX8_market_113 : decode cX8_market 113 = .ok (.iconst 0, 1) := by decide +kernel
theorem dX8_market_114 : decode cX8_market 114 = .ok (.iload 8, 2) := by decide +kernel
theorem dX8_market_116 : decode cX8_market 116 = .ok (.iload 6, 2) := by decide +kernel
theorem dX8_market_118 : decode cX8_market 118 = .ok (.bipush 16, 2) := by decide +kernel
theorem dX8_market_120 : decode cX8_market 120 = .ok (.iushr, 1) := by decide +kernel
theorem dX8_market_121 : decode cX8_market 121 = .ok (.bipush 6, 2) := by decide +kernel
theorem dX8_market_123 : decode cX8_market 123 = .ok (.irem, 1) := by decide +kernel
theorem dX8_market_124 : decode cX8_market 124 = .ok (.invokevirtual 289, 3) := by decide +kernel
theorem dX8_market_127 : decode cX8_market 127 = .ok (.ifCond .eq 6, 3) := by decide +kernel
theorem dX8_market_130 : decode cX8_market 130 = .ok (.iinc 5 1, 3) := by decide +kernel
theorem dX8_market_133 : decode cX8_market 133 = .ok (.iinc 7 1, 3) := by decide +kernel
theorem dX8_market_136 : decode cX8_market 136 = .ok (.goto (-74), 3) := by decide +kernel
theorem dX8_market_139 : decode cX8_market 139 = .ok (.iload_n 3, 1) := by decide +kernel
theorem dX8_market_140 : decode cX8_market 140 = .ok (.iconst (-1), 1) := by decide +kernel
theorem dX8_market_141 : decode cX8_market 141 = .ok (.if_icmp .ne 8, 3) := by decide +kernel
theorem dX8_market_144 : decode cX8_market 144 = .ok (.iload 5, 2) := by decide +kernel
theorem dX8_market_146 : decode cX8_market 146 = .ok (.goto 12, 3) := by decide +kernel
theorem dX8_market_149 : decode cX8_market 149 = .ok (.aload_n 0, 1) := by decide +kernel
theorem dX8_market_150 : decode cX8_market 150 = .ok (.getfield 56, 3) := by decide +kernel
theorem dX8_market_153 : decode cX8_market 153 = .ok (.getfield 197, 3) := by decide +kernel
theorem dX8_market_156 : decode cX8_market 156 = .ok (.iload_n 3, 1) := by decide +kernel
theorem dX8_market_157 : decode cX8_market 157 = .ok (.iaload, 1) := by decide +kernel
theorem dX8_market_158 : decode cX8_market 158 = .ok (.ireturn, 1) := by decide +kernel
theorem dX8_sheet_0 : decode cX8_sheet 0 = .ok (.iload_n 1, 1) := by decide +kernel
theorem dX8_sheet_1 : decode cX8_sheet 1 = .ok (.iconst 4, 1) := by decide +kernel
theorem dX8_sheet_2 : decode cX8_sheet 2 = .ok (.invokestatic 81, 3) := by decide +kernel
theorem dX8_sheet_5 : decode cX8_sheet 5 = .ok (.ifCond .eq 17, 3) := by decide +kernel
theorem dX8_sheet_8 : decode cX8_sheet 8 = .ok (.iload_n 2, 1) := by decide +kernel
theorem dX8_sheet_9 : decode cX8_sheet 9 = .ok (.iconst 3, 1) := by decide +kernel
theorem dX8_sheet_10 : decode cX8_sheet 10 = .ok (.invokestatic 81, 3) := by decide +kernel
theorem dX8_sheet_13 : decode cX8_sheet 13 = .ok (.ifCond .eq 9, 3) := by decide +kernel
theorem dX8_sheet_16 : decode cX8_sheet 16 = .ok (.iload_n 3, 1) := by decide +kernel
theorem dX8_sheet_17 : decode cX8_sheet 17 = .ok (.bipush 60, 2) := by decide +kernel
theorem dX8_sheet_19 : decode cX8_sheet 19 = .ok (.if_icmp .le 6, 3) := by decide +kernel
theorem dX8_sheet_22 : decode cX8_sheet 22 = .ok (.bipush (-2), 2) := by decide +kernel
theorem dX8_sheet_24 : decode cX8_sheet 24 = .ok (.ireturn, 1) := by decide +kernel
theorem dX8_sheet_25 : decode cX8_sheet 25 = .ok (.iload_n 3, 1) := by decide +kernel
theorem dX8_sheet_26 : decode cX8_sheet 26 = .ok (.ifCond .ge 9, 3) := by decide +kernel
theorem dX8_sheet_29 : decode cX8_sheet 29 = .ok (.aload_n 0, 1) := by decide +kernel
theorem dX8_sheet_30 : decode cX8_sheet 30 = .ok (.iconst 5, 1) := by decide +kernel
theorem dX8_sheet_31 : decode cX8_sheet 31 = .ok (.invokevirtual 172, 3) := by decide +kernel
theorem dX8_sheet_34 : decode cX8_sheet 34 = .ok (.ireturn, 1) := by decide +kernel
theorem dX8_sheet_35 : decode cX8_sheet 35 = .ok (.aload_n 0, 1) := by decide +kernel
theorem dX8_sheet_36 : decode cX8_sheet 36 = .ok (.getfield 45, 3) := by decide +kernel
theorem dX8_sheet_39 : decode cX8_sheet 39 = .ok (.getfield 169, 3) := by decide +kernel
theorem dX8_sheet_42 : decode cX8_sheet 42 = .ok (.iload_n 1, 1) := by decide +kernel
theorem dX8_sheet_43 : decode cX8_sheet 43 = .ok (.iload_n 2, 1) := by decide +kernel
theorem dX8_sheet_44 : decode cX8_sheet 44 = .ok (.iastore, 1) := by decide +kernel
theorem dX8_sheet_45 : decode cX8_sheet 45 = .ok (.aload_n 0, 1) := by decide +kernel
theorem dX8_sheet_46 : decode cX8_sheet 46 = .ok (.getfield 45, 3) := by decide +kernel
theorem dX8_sheet_49 : decode cX8_sheet 49 = .ok (.getfield 180, 3) := by decide +kernel
theorem dX8_sheet_52 : decode cX8_sheet 52 = .ok (.iload_n 1, 1) := by decide +kernel
theorem dX8_sheet_53 : decode cX8_sheet 53 = .ok (.iload_n 3, 1) := by decide +kernel
theorem dX8_sheet_54 : decode cX8_sheet 54 = .ok (.iastore, 1) := by decide +kernel
theorem dX8_sheet_55 : decode cX8_sheet 55 = .ok (.aload_n 0, 1) := by decide +kernel
theorem dX8_sheet_56 : decode cX8_sheet 56 = .ok (.getfield 45, 3) := by decide +kernel
theorem dX8_sheet_59 : decode cX8_sheet 59 = .ok (.getfield 176, 3) := by decide +kernel
theorem dX8_sheet_62 : decode cX8_sheet 62 = .ok (.iload_n 1, 1) := by decide +kernel
theorem dX8_sheet_63 : decode cX8_sheet 63 = .ok (.aaload, 1) := by decide +kernel
theorem dX8_sheet_64 : decode cX8_sheet 64 = .ok (.iconst 0, 1) := by decide +kernel
theorem dX8_sheet_65 : decode cX8_sheet 65 = .ok (.invokestatic 292, 3) := by decide +kernel
theorem dX8_sheet_68 : decode cX8_sheet 68 = .ok (.iload_n 3, 1) := by decide +kernel
theorem dX8_sheet_69 : decode cX8_sheet 69 = .ok (.ireturn, 1) := by decide +kernel
theorem dX8_lose_0 : decode cX8_lose 0 = .ok (.iload_n 1, 1) := by decide +kernel
theorem dX8_lose_1 : decode cX8_lose 1 = .ok (.iconst 4, 1) := by decide +kernel
theorem dX8_lose_2 : decode cX8_lose 2 = .ok (.invokestatic 81, 3) := by decide +kernel
theorem dX8_lose_5 : decode cX8_lose 5 = .ok (.ifCond .ne 6, 3) := by decide +kernel
theorem dX8_lose_8 : decode cX8_lose 8 = .ok (.bipush (-2), 2) := by decide +kernel
theorem dX8_lose_10 : decode cX8_lose 10 = .ok (.ireturn, 1) := by decide +kernel
theorem dX8_lose_11 : decode cX8_lose 11 = .ok (.aload_n 0, 1) := by decide +kernel
theorem dX8_lose_12 : decode cX8_lose 12 = .ok (.getfield 45, 3) := by decide +kernel
theorem dX8_lose_15 : decode cX8_lose 15 = .ok (.getfield 169, 3) := by decide +kernel
theorem dX8_lose_18 : decode cX8_lose 18 = .ok (.iload_n 1, 1) := by decide +kernel
theorem dX8_lose_19 : decode cX8_lose 19 = .ok (.iaload, 1) := by decide +kernel
theorem dX8_lose_20 : decode cX8_lose 20 = .ok (.iconst (-1), 1) := by decide +kernel
theorem dX8_lose_21 : decode cX8_lose 21 = .ok (.if_icmp .ne 9, 3) := by decide +kernel
theorem dX8_lose_24 : decode cX8_lose 24 = .ok (.aload_n 0, 1) := by decide +kernel
theorem dX8_lose_25 : decode cX8_lose 25 = .ok (.iconst 1, 1) := by decide +kernel
theorem dX8_lose_26 : decode cX8_lose 26 = .ok (.invokevirtual 172, 3) := by decide +kernel
theorem dX8_lose_29 : decode cX8_lose 29 = .ok (.ireturn, 1) := by decide +kernel
theorem dX8_lose_30 : decode cX8_lose 30 = .ok (.aload_n 0, 1) := by decide +kernel
theorem dX8_lose_31 : decode cX8_lose 31 = .ok (.getfield 45, 3) := by decide +kernel
theorem dX8_lose_34 : decode cX8_lose 34 = .ok (.getfield 180, 3) := by decide +kernel
theorem dX8_lose_37 : decode cX8_lose 37 = .ok (.iload_n 1, 1) := by decide +kernel
theorem dX8_lose_38 : decode cX8_lose 38 = .ok (.iaload, 1) := by decide +kernel
theorem dX8_lose_39 : decode cX8_lose 39 = .ok (.istore_n 2, 1) := by decide +kernel
theorem dX8_lose_40 : decode cX8_lose 40 = .ok (.aload_n 0, 1) := by decide +kernel
theorem dX8_lose_41 : decode cX8_lose 41 = .ok (.getfield 45, 3) := by decide +kernel
theorem dX8_lose_44 : decode cX8_lose 44 = .ok (.getfield 169, 3) := by decide +kernel
theorem dX8_lose_47 : decode cX8_lose 47 = .ok (.iload_n 1, 1) := by decide +kernel
theorem dX8_lose_48 : decode cX8_lose 48 = .ok (.iconst (-1), 1) := by decide +kernel
theorem dX8_lose_49 : decode cX8_lose 49 = .ok (.iastore, 1) := by decide +kernel
theorem dX8_lose_50 : decode cX8_lose 50 = .ok (.aload_n 0, 1) := by decide +kernel
theorem dX8_lose_51 : decode cX8_lose 51 = .ok (.getfield 45, 3) := by decide +kernel
theorem dX8_lose_54 : decode cX8_lose 54 = .ok (.getfield 180, 3) := by decide +kernel
theorem dX8_lose_57 : decode cX8_lose 57 = .ok (.iload_n 1, 1) := by decide +kernel
theorem dX8_lose_58 : decode cX8_lose 58 = .ok (.iconst 0, 1) := by decide +kernel
theorem dX8_lose_59 : decode cX8_lose 59 = .ok (.iastore, 1) := by decide +kernel
theorem dX8_lose_60 : decode cX8_lose 60 = .ok (.iload_n 2, 1) := by decide +kernel
theorem dX8_lose_61 : decode cX8_lose 61 = .ok (.ireturn, 1) := by decide +kernel
theorem dX8_put_0 : decode cX8_put 0 = .ok (.iload_n 1, 1) := by decide +kernel
theorem dX8_put_1 : decode cX8_put 1 = .ok (.iconst 4, 1) := by decide +kernel
theorem dX8_put_2 : decode cX8_put 2 = .ok (.invokestatic 81, 3) := by decide +kernel
theorem dX8_put_5 : decode cX8_put 5 = .ok (.ifCond .eq 11, 3) := by decide +kernel
theorem dX8_put_8 : decode cX8_put 8 = .ok (.iload_n 2, 1) := by decide +kernel
theorem dX8_put_9 : decode cX8_put 9 = .ok (.iconst 3, 1) := by decide +kernel
theorem dX8_put_10 : decode cX8_put 10 = .ok (.invokestatic 81, 3) := by decide +kernel
theorem dX8_put_13 : decode cX8_put 13 = .ok (.ifCond .ne 6, 3) := by decide +kernel
theorem dX8_put_16 : decode cX8_put 16 = .ok (.bipush (-2), 2) := by decide +kernel
theorem dX8_put_18 : decode cX8_put 18 = .ok (.ireturn, 1) := by decide +kernel
theorem dX8_put_19 : decode cX8_put 19 = .ok (.aload_n 0, 1) := by decide +kernel
theorem dX8_put_20 : decode cX8_put 20 = .ok (.getfield 45, 3) := by decide +kernel
theorem dX8_put_23 : decode cX8_put 23 = .ok (.iload_n 1, 1) := by decide +kernel
theorem dX8_put_24 : decode cX8_put 24 = .ok (.iload_n 2, 1) := by decide +kernel
theorem dX8_put_25 : decode cX8_put 25 = .ok (.iload_n 3, 1) := by decide +kernel
theorem dX8_put_26 : decode cX8_put 26 = .ok (.invokevirtual 298, 3) := by decide +kernel
theorem dX8_put_29 : decode cX8_put 29 = .ok (.istore 5, 2) := by decide +kernel
theorem dX8_put_31 : decode cX8_put 31 = .ok (.iload 5, 2) := by decide +kernel
theorem dX8_put_33 : decode cX8_put 33 = .ok (.ifCond .eq 10, 3) := by decide +kernel
theorem dX8_put_36 : decode cX8_put 36 = .ok (.aload_n 0, 1) := by decide +kernel
theorem dX8_put_37 : decode cX8_put 37 = .ok (.iload 5, 2) := by decide +kernel
theorem dX8_put_39 : decode cX8_put 39 = .ok (.invokevirtual 172, 3) := by decide +kernel
theorem dX8_put_42 : decode cX8_put 42 = .ok (.ireturn, 1) := by decide +kernel
theorem dX8_put_43 : decode cX8_put 43 = .ok (.aload_n 0, 1) := by decide +kernel
theorem dX8_put_44 : decode cX8_put 44 = .ok (.getfield 45, 3) := by decide +kernel
theorem dX8_put_47 : decode cX8_put 47 = .ok (.iload_n 1, 1) := by decide +kernel
theorem dX8_put_48 : decode cX8_put 48 = .ok (.iload_n 3, 1) := by decide +kernel
theorem dX8_put_49 : decode cX8_put 49 = .ok (.iload 4, 2) := by decide +kernel
theorem dX8_put_51 : decode cX8_put 51 = .ok (.invokevirtual 302, 3) := by decide +kernel
theorem dX8_put_54 : decode cX8_put 54 = .ok (.iconst 1, 1) := by decide +kernel
theorem dX8_put_55 : decode cX8_put 55 = .ok (.ireturn, 1) := by decide +kernel
theorem dX8_get_0 : decode cX8_get 0 = .ok (.iload_n 1, 1) := by decide +kernel
theorem dX8_get_1 : decode cX8_get 1 = .ok (.iconst 4, 1) := by decide +kernel
theorem dX8_get_2 : decode cX8_get 2 = .ok (.invokestatic 81, 3) := by decide +kernel
theorem dX8_get_5 : decode cX8_get 5 = .ok (.ifCond .eq 11, 3) := by decide +kernel
theorem dX8_get_8 : decode cX8_get 8 = .ok (.iload_n 2, 1) := by decide +kernel
theorem dX8_get_9 : decode cX8_get 9 = .ok (.iconst 3, 1) := by decide +kernel
theorem dX8_get_10 : decode cX8_get 10 = .ok (.invokestatic 81, 3) := by decide +kernel
theorem dX8_get_13 : decode cX8_get 13 = .ok (.ifCond .ne 7, 3) := by decide +kernel
theorem dX8_get_16 : decode cX8_get 16 = .ok (.ldc_w 306, 3) := by decide +kernel
theorem dX8_get_19 : decode cX8_get 19 = .ok (.ireturn, 1) := by decide +kernel
theorem dX8_get_20 : decode cX8_get 20 = .ok (.aload_n 0, 1) := by decide +kernel
theorem dX8_get_21 : decode cX8_get 21 = .ok (.getfield 45, 3) := by decide +kernel
theorem dX8_get_24 : decode cX8_get 24 = .ok (.iload_n 1, 1) := by decide +kernel
theorem dX8_get_25 : decode cX8_get 25 = .ok (.iload_n 2, 1) := by decide +kernel
theorem dX8_get_26 : decode cX8_get 26 = .ok (.iload_n 3, 1) := by decide +kernel
theorem dX8_get_27 : decode cX8_get 27 = .ok (.invokevirtual 298, 3) := by decide +kernel
theorem dX8_get_30 : decode cX8_get 30 = .ok (.istore 4, 2) := by decide +kernel
theorem dX8_get_32 : decode cX8_get 32 = .ok (.iload 4, 2) := by decide +kernel
theorem dX8_get_34 : decode cX8_get 34 = .ok (.ifCond .eq 14, 3) := by decide +kernel
theorem dX8_get_37 : decode cX8_get 37 = .ok (.aload_n 0, 1) := by decide +kernel
theorem dX8_get_38 : decode cX8_get 38 = .ok (.iload 4, 2) := by decide +kernel
theorem dX8_get_40 : decode cX8_get 40 = .ok (.invokevirtual 172, 3) := by decide +kernel
theorem dX8_get_43 : decode cX8_get 43 = .ok (.pop, 1) := by decide +kernel
theorem dX8_get_44 : decode cX8_get 44 = .ok (.ldc_w 306, 3) := by decide +kernel
theorem dX8_get_47 : decode cX8_get 47 = .ok (.ireturn, 1) := by decide +kernel
theorem dX8_get_48 : decode cX8_get 48 = .ok (.aload_n 0, 1) := by decide +kernel
theorem dX8_get_49 : decode cX8_get 49 = .ok (.getfield 45, 3) := by decide +kernel
theorem dX8_get_52 : decode cX8_get 52 = .ok (.getfield 176, 3) := by decide +kernel
theorem dX8_get_55 : decode cX8_get 55 = .ok (.iload_n 1, 1) := by decide +kernel
theorem dX8_get_56 : decode cX8_get 56 = .ok (.aaload, 1) := by decide +kernel
theorem dX8_get_57 : decode cX8_get 57 = .ok (.iload_n 3, 1) := by decide +kernel
theorem dX8_get_58 : decode cX8_get 58 = .ok (.iaload, 1) := by decide +kernel
theorem dX8_get_59 : decode cX8_get 59 = .ok (.ireturn, 1) := by decide +kernel
theorem dX8_copy_0 : decode cX8_copy 0 = .ok (.iload_n 1, 1) := by decide +kernel
theorem dX8_copy_1 : decode cX8_copy 1 = .ok (.iconst 4, 1) := by decide +kernel
theorem dX8_copy_2 : decode cX8_copy 2 = .ok (.invokestatic 81, 3) := by decide +kernel
theorem dX8_copy_5 : decode cX8_copy 5 = .ok (.ifCond .eq 11, 3) := by decide +kernel
theorem dX8_copy_8 : decode cX8_copy 8 = .ok (.iload_n 3, 1) := by decide +kernel
theorem dX8_copy_9 : decode cX8_copy 9 = .ok (.iconst 4, 1) := by decide +kernel
theorem dX8_copy_10 : decode cX8_copy 10 = .ok (.invokestatic 81, 3) := by decide +kernel
theorem dX8_copy_13 : decode cX8_copy 13 = .ok (.ifCond .ne 6, 3) := by decide +kernel
theorem dX8_copy_16 : decode cX8_copy 16 = .ok (.bipush (-2), 2) := by decide +kernel
theorem dX8_copy_18 : decode cX8_copy 18 = .ok (.ireturn, 1) := by decide +kernel
theorem dX8_copy_19 : decode cX8_copy 19 = .ok (.aload_n 0, 1) := by decide +kernel
theorem dX8_copy_20 : decode cX8_copy 20 = .ok (.getfield 45, 3) := by decide +kernel
theorem dX8_copy_23 : decode cX8_copy 23 = .ok (.getfield 169, 3) := by decide +kernel
theorem dX8_copy_26 : decode cX8_copy 26 = .ok (.iload_n 1, 1) := by decide +kernel
theorem dX8_copy_27 : decode cX8_copy 27 = .ok (.iaload, 1) := by decide +kernel
theorem dX8_copy_28 : decode cX8_copy 28 = .ok (.iconst (-1), 1) := by decide +kernel
theorem dX8_copy_29 : decode cX8_copy 29 = .ok (.if_icmp .eq 16, 3) := by decide +kernel
theorem dX8_copy_32 : decode cX8_copy 32 = .ok (.aload_n 0, 1) := by decide +kernel
theorem dX8_copy_33 : decode cX8_copy 33 = .ok (.getfield 45, 3) := by decide +kernel
theorem dX8_copy_36 : decode cX8_copy 36 = .ok (.getfield 169, 3) := by decide +kernel
theorem dX8_copy_39 : decode cX8_copy 39 = .ok (.iload_n 3, 1) := by decide +kernel
theorem dX8_copy_40 : decode cX8_copy 40 = .ok (.iaload, 1) := by decide +kernel
theorem dX8_copy_41 : decode cX8_copy 41 = .ok (.iconst (-1), 1) := by decide +kernel
theorem dX8_copy_42 : decode cX8_copy 42 = .ok (.if_icmp .ne 9, 3) := by decide +kernel
theorem dX8_copy_45 : decode cX8_copy 45 = .ok (.aload_n 0, 1) := by decide +kernel
theorem dX8_copy_46 : decode cX8_copy 46 = .ok (.iconst 1, 1) := by decide +kernel
theorem dX8_copy_47 : decode cX8_copy 47 = .ok (.invokevirtual 172, 3) := by decide +kernel
theorem dX8_copy_50 : decode cX8_copy 50 = .ok (.ireturn, 1) := by decide +kernel
theorem dX8_copy_51 : decode cX8_copy 51 = .ok (.aload_n 0, 1) := by decide +kernel
theorem dX8_copy_52 : decode cX8_copy 52 = .ok (.getfield 45, 3) := by decide +kernel
theorem dX8_copy_55 : decode cX8_copy 55 = .ok (.getfield 169, 3) := by decide +kernel
theorem dX8_copy_58 : decode cX8_copy 58 = .ok (.iload_n 1, 1) := by decide +kernel
theorem dX8_copy_59 : decode cX8_copy 59 = .ok (.iaload, 1) := by decide +kernel
theorem dX8_copy_60 : decode cX8_copy 60 = .ok (.aload_n 0, 1) := by decide +kernel
theorem dX8_copy_61 : decode cX8_copy 61 = .ok (.getfield 45, 3) := by decide +kernel
theorem dX8_copy_64 : decode cX8_copy 64 = .ok (.getfield 169, 3) := by decide +kernel
theorem dX8_copy_67 : decode cX8_copy 67 = .ok (.iload_n 3, 1) := by decide +kernel
theorem dX8_copy_68 : decode cX8_copy 68 = .ok (.iaload, 1) := by decide +kernel
theorem dX8_copy_69 : decode cX8_copy 69 = .ok (.if_icmp .eq 9, 3) := by decide +kernel
theorem dX8_copy_72 : decode cX8_copy 72 = .ok (.aload_n 0, 1) := by decide +kernel
theorem dX8_copy_73 : decode cX8_copy 73 = .ok (.iconst 4, 1) := by decide +kernel
theorem dX8_copy_74 : decode cX8_copy 74 = .ok (.invokevirtual 172, 3) := by decide +kernel
theorem dX8_copy_77 : decode cX8_copy 77 = .ok (.ireturn, 1) := by decide +kernel
theorem dX8_copy_78 : decode cX8_copy 78 = .ok (.aload_n 0, 1) := by decide +kernel
theorem dX8_copy_79 : decode cX8_copy 79 = .ok (.getfield 45, 3) := by decide +kernel
theorem dX8_copy_82 : decode cX8_copy 82 = .ok (.iload_n 1, 1) := by decide +kernel
theorem dX8_copy_83 : decode cX8_copy 83 = .ok (.iload_n 2, 1) := by decide +kernel
theorem dX8_copy_84 : decode cX8_copy 84 = .ok (.iload 5, 2) := by decide +kernel
theorem dX8_copy_86 : decode cX8_copy 86 = .ok (.invokevirtual 307, 3) := by decide +kernel
theorem dX8_copy_89 : decode cX8_copy 89 = .ok (.ifCond .eq 18, 3) := by decide +kernel
theorem dX8_copy_92 : decode cX8_copy 92 = .ok (.aload_n 0, 1) := by decide +kernel
theorem dX8_copy_93 : decode cX8_copy 93 = .ok (.getfield 45, 3) := by decide +kernel
theorem dX8_copy_96 : decode cX8_copy 96 = .ok (.iload_n 3, 1) := by decide +kernel
theorem dX8_copy_97 : decode cX8_copy 97 = .ok (.iload 4, 2) := by decide +kernel
theorem dX8_copy_99 : decode cX8_copy 99 = .ok (.iload 5, 2) := by decide +kernel
theorem dX8_copy_101 : decode cX8_copy 101 = .ok (.invokevirtual 307, 3) := by decide +kernel
theorem dX8_copy_104 : decode cX8_copy 104 = .ok (.ifCond .ne 9, 3) := by decide +kernel
theorem dX8_copy_107 : decode cX8_copy 107 = .ok (.aload_n 0, 1) := by decide +kernel
theorem dX8_copy_108 : decode cX8_copy 108 = .ok (.iconst 2, 1) := by decide +kernel
theorem dX8_copy_109 : decode cX8_copy 109 = .ok (.invokevirtual 172, 3) := by decide +kernel
theorem dX8_copy_112 : decode cX8_copy 112 = .ok (.ireturn, 1) := by decide +kernel
theorem dX8_copy_113 : decode cX8_copy 113 = .ok (.aload_n 0, 1) := by decide +kernel
theorem dX8_copy_114 : decode cX8_copy 114 = .ok (.getfield 45, 3) := by decide +kernel
theorem dX8_copy_117 : decode cX8_copy 117 = .ok (.getfield 176, 3) := by decide +kernel
theorem dX8_copy_120 : decode cX8_copy 120 = .ok (.iload_n 1, 1) := by decide +kernel
theorem dX8_copy_121 : decode cX8_copy 121 = .ok (.aaload, 1) := by decide +kernel
theorem dX8_copy_122 : decode cX8_copy 122 = .ok (.iload_n 2, 1) := by decide +kernel
theorem dX8_copy_123 : decode cX8_copy 123 = .ok (.aload_n 0, 1) := by decide +kernel
theorem dX8_copy_124 : decode cX8_copy 124 = .ok (.getfield 45, 3) := by decide +kernel
theorem dX8_copy_127 : decode cX8_copy 127 = .ok (.getfield 176, 3) := by decide +kernel
theorem dX8_copy_130 : decode cX8_copy 130 = .ok (.iload_n 3, 1) := by decide +kernel
theorem dX8_copy_131 : decode cX8_copy 131 = .ok (.aaload, 1) := by decide +kernel
theorem dX8_copy_132 : decode cX8_copy 132 = .ok (.iload 4, 2) := by decide +kernel
theorem dX8_copy_134 : decode cX8_copy 134 = .ok (.iload 5, 2) := by decide +kernel
theorem dX8_copy_136 : decode cX8_copy 136 = .ok (.invokestatic 310, 3) := by decide +kernel
theorem dX8_copy_139 : decode cX8_copy 139 = .ok (.iconst 1, 1) := by decide +kernel
theorem dX8_copy_140 : decode cX8_copy 140 = .ok (.ireturn, 1) := by decide +kernel
theorem dX8_write_0 : decode cX8_write 0 = .ok (.aload_n 0, 1) := by decide +kernel
theorem dX8_write_1 : decode cX8_write 1 = .ok (.iload_n 1, 1) := by decide +kernel
theorem dX8_write_2 : decode cX8_write 2 = .ok (.invokevirtual 108, 3) := by decide +kernel
theorem dX8_write_5 : decode cX8_write 5 = .ok (.ifCond .eq 11, 3) := by decide +kernel
theorem dX8_write_8 : decode cX8_write 8 = .ok (.iload_n 2, 1) := by decide +kernel
theorem dX8_write_9 : decode cX8_write 9 = .ok (.iconst 4, 1) := by decide +kernel
theorem dX8_write_10 : decode cX8_write 10 = .ok (.invokestatic 81, 3) := by decide +kernel
theorem dX8_write_13 : decode cX8_write 13 = .ok (.ifCond .ne 6, 3) := by decide +kernel
theorem dX8_write_16 : decode cX8_write 16 = .ok (.bipush (-2), 2) := by decide +kernel
theorem dX8_write_18 : decode cX8_write 18 = .ok (.ireturn, 1) := by decide +kernel
theorem dX8_write_19 : decode cX8_write 19 = .ok (.aload_n 0, 1) := by decide +kernel
theorem dX8_write_20 : decode cX8_write 20 = .ok (.getfield 45, 3) := by decide +kernel
theorem dX8_write_23 : decode cX8_write 23 = .ok (.getfield 169, 3) := by decide +kernel
theorem dX8_write_26 : decode cX8_write 26 = .ok (.iload_n 2, 1) := by decide +kernel
theorem dX8_write_27 : decode cX8_write 27 = .ok (.iaload, 1) := by decide +kernel
theorem dX8_write_28 : decode cX8_write 28 = .ok (.iconst (-1), 1) := by decide +kernel
theorem dX8_write_29 : decode cX8_write 29 = .ok (.if_icmp .ne 9, 3) := by decide +kernel
theorem dX8_write_32 : decode cX8_write 32 = .ok (.aload_n 0, 1) := by decide +kernel
theorem dX8_write_33 : decode cX8_write 33 = .ok (.iconst 1, 1) := by decide +kernel
theorem dX8_write_34 : decode cX8_write 34 = .ok (.invokevirtual 172, 3) := by decide +kernel
theorem dX8_write_37 : decode cX8_write 37 = .ok (.ireturn, 1) := by decide +kernel
theorem dX8_write_38 : decode cX8_write 38 = .ok (.aload_n 0, 1) := by decide +kernel
theorem dX8_write_39 : decode cX8_write 39 = .ok (.getfield 45, 3) := by decide +kernel
theorem dX8_write_42 : decode cX8_write 42 = .ok (.getfield 180, 3) := by decide +kernel
theorem dX8_write_45 : decode cX8_write 45 = .ok (.iload_n 2, 1) := by decide +kernel
theorem dX8_write_46 : decode cX8_write 46 = .ok (.iaload, 1) := by decide +kernel
theorem dX8_write_47 : decode cX8_write 47 = .ok (.bipush 40, 2) := by decide +kernel
theorem dX8_write_49 : decode cX8_write 49 = .ok (.invokestatic 277, 3) := by decide +kernel
theorem dX8_write_52 : decode cX8_write 52 = .ok (.istore_n 3, 1) := by decide +kernel
theorem dX8_write_53 : decode cX8_write 53 = .ok (.iconst 0, 1) := by decide +kernel
theorem dX8_write_54 : decode cX8_write 54 = .ok (.istore 4, 2) := by decide +kernel
theorem dX8_write_56 : decode cX8_write 56 = .ok (.iload 4, 2) := by decide +kernel
theorem dX8_write_58 : decode cX8_write 58 = .ok (.iload_n 3, 1) := by decide +kernel
theorem dX8_write_59 : decode cX8_write 59 = .ok (.if_icmp .ge 29, 3) := by decide +kernel
theorem dX8_write_62 : decode cX8_write 62 = .ok (.aload_n 0, 1) := by decide +kernel
theorem dX8_write_63 : decode cX8_write 63 = .ok (.getfield 45, 3) := by decide +kernel
theorem dX8_write_66 : decode cX8_write 66 = .ok (.iload_n 2, 1) := by decide +kernel
theorem dX8_write_67 : decode cX8_write 67 = .ok (.iload 4, 2) := by decide +kernel
theorem dX8_write_69 : decode cX8_write 69 = .ok (.aload_n 0, 1) := by decide +kernel
theorem dX8_write_70 : decode cX8_write 70 = .ok (.iload 4, 2) := by decide +kernel
theorem dX8_write_72 : decode cX8_write 72 = .ok (.invokevirtual 186, 3) := by decide +kernel
theorem dX8_write_75 : decode cX8_write 75 = .ok (.iload_n 1, 1) := by decide +kernel
theorem dX8_write_76 : decode cX8_write 76 = .ok (.invokevirtual 190, 3) := by decide +kernel
theorem dX8_write_79 : decode cX8_write 79 = .ok (.invokevirtual 302, 3) := by decide +kernel
theorem dX8_write_82 : decode cX8_write 82 = .ok (.iinc 4 1, 3) := by decide +kernel
theorem dX8_write_85 : decode cX8_write 85 = .ok (.goto (-29), 3) := by decide +kernel
theorem dX8_write_88 : decode cX8_write 88 = .ok (.iload_n 3, 1) := by decide +kernel
theorem dX8_write_89 : decode cX8_write 89 = .ok (.ireturn, 1) := by decide +kernel
theorem dX8_count_0 : decode cX8_count 0 = .ok (.iload_n 1, 1) := by decide +kernel
theorem dX8_count_1 : decode cX8_count 1 = .ok (.tableswitch 131 0 8 #[51, 62, 70, 78, 86, 97, 110, 118, 126], 51) := by decide +kernel
theorem dX8_count_52 : decode cX8_count 52 = .ok (.aload_n 0, 1) := by decide +kernel
theorem dX8_count_53 : decode cX8_count 53 = .ok (.getfield 24, 3) := by decide +kernel
theorem dX8_count_56 : decode cX8_count 56 = .ok (.getfield 112, 3) := by decide +kernel
theorem dX8_count_59 : decode cX8_count 59 = .ok (.getfield 242, 3) := by decide +kernel
theorem dX8_count_62 : decode cX8_count 62 = .ok (.ireturn, 1) := by decide +kernel
theorem dX8_count_63 : decode cX8_count 63 = .ok (.aload_n 0, 1) := by decide +kernel
theorem dX8_count_64 : decode cX8_count 64 = .ok (.getfield 31, 3) := by decide +kernel
theorem dX8_count_67 : decode cX8_count 67 = .ok (.getfield 130, 3) := by decide +kernel
theorem dX8_count_70 : decode cX8_count 70 = .ok (.ireturn, 1) := by decide +kernel
theorem dX8_count_71 : decode cX8_count 71 = .ok (.aload_n 0, 1) := by decide +kernel
theorem dX8_count_72 : decode cX8_count 72 = .ok (.getfield 14, 3) := by decide +kernel
theorem dX8_count_75 : decode cX8_count 75 = .ok (.getfield 89, 3) := by decide +kernel
theorem dX8_count_78 : decode cX8_count 78 = .ok (.ireturn, 1) := by decide +kernel
theorem dX8_count_79 : decode cX8_count 79 = .ok (.aload_n 0, 1) := by decide +kernel
theorem dX8_count_80 : decode cX8_count 80 = .ok (.getfield 18, 3) := by decide +kernel
theorem dX8_count_83 : decode cX8_count 83 = .ok (.getfield 89, 3) := by decide +kernel
theorem dX8_count_86 : decode cX8_count 86 = .ok (.ireturn, 1) := by decide +kernel
theorem dX8_count_87 : decode cX8_count 87 = .ok (.aload_n 0, 1) := by decide +kernel
theorem dX8_count_88 : decode cX8_count 88 = .ok (.getfield 24, 3) := by decide +kernel
theorem dX8_count_91 : decode cX8_count 91 = .ok (.getfield 150, 3) := by decide +kernel
theorem dX8_count_94 : decode cX8_count 94 = .ok (.getfield 154, 3) := by decide +kernel
theorem dX8_count_97 : decode cX8_count 97 = .ok (.ireturn, 1) := by decide +kernel
theorem dX8_count_98 : decode cX8_count 98 = .ok (.aload_n 0, 1) := by decide +kernel
theorem dX8_count_99 : decode cX8_count 99 = .ok (.bipush 39, 2) := by decide +kernel
theorem dX8_count_101 : decode cX8_count 101 = .ok (.invokevirtual 186, 3) := by decide +kernel
theorem dX8_count_104 : decode cX8_count 104 = .ok (.getfield 218, 3) := by decide +kernel
theorem dX8_count_107 : decode cX8_count 107 = .ok (.invokestatic 234, 3) := by decide +kernel
theorem dX8_count_110 : decode cX8_count 110 = .ok (.ireturn, 1) := by decide +kernel
theorem dX8_count_111 : decode cX8_count 111 = .ok (.aload_n 0, 1) := by decide +kernel
theorem dX8_count_112 : decode cX8_count 112 = .ok (.getfield 24, 3) := by decide +kernel
theorem dX8_count_115 : decode cX8_count 115 = .ok (.getfield 140, 3) := by decide +kernel
theorem dX8_count_118 : decode cX8_count 118 = .ok (.ireturn, 1) := by decide +kernel
theorem dX8_count_119 : decode cX8_count 119 = .ok (.aload_n 0, 1) := by decide +kernel
theorem dX8_count_120 : decode cX8_count 120 = .ok (.getfield 38, 3) := by decide +kernel
theorem dX8_count_123 : decode cX8_count 123 = .ok (.getfield 243, 3) := by decide +kernel
theorem dX8_count_126 : decode cX8_count 126 = .ok (.ireturn, 1) := by decide +kernel
theorem dX8_count_127 : decode cX8_count 127 = .ok (.aload_n 0, 1) := by decide +kernel
theorem dX8_count_128 : decode cX8_count 128 = .ok (.getfield 78, 3) := by decide +kernel
theorem dX8_count_131 : decode cX8_count 131 = .ok (.ireturn, 1) := by decide +kernel
theorem dX8_count_132 : decode cX8_count 132 = .ok (.bipush (-2), 2) := by decide +kernel
theorem dX8_count_134 : decode cX8_count 134 = .ok (.ireturn, 1) := by decide +kernel
theorem dX8_digest_0 : decode cX8_digest 0 = .ok (.ldc2_w 316, 3) := by decide +kernel
theorem dX8_digest_3 : decode cX8_digest 3 = .ok (.lstore_n 1, 1) := by decide +kernel
theorem dX8_digest_4 : decode cX8_digest 4 = .ok (.iconst 0, 1) := by decide +kernel
theorem dX8_digest_5 : decode cX8_digest 5 = .ok (.istore_n 3, 1) := by decide +kernel
theorem dX8_digest_6 : decode cX8_digest 6 = .ok (.iload_n 3, 1) := by decide +kernel
theorem dX8_digest_7 : decode cX8_digest 7 = .ok (.bipush 7, 2) := by decide +kernel
theorem dX8_digest_9 : decode cX8_digest 9 = .ok (.if_icmp .gt 22, 3) := by decide +kernel
theorem dX8_digest_12 : decode cX8_digest 12 = .ok (.ldc2_w 318, 3) := by decide +kernel
theorem dX8_digest_15 : decode cX8_digest 15 = .ok (.lload_n 1, 1) := by decide +kernel
theorem dX8_digest_16 : decode cX8_digest 16 = .ok (.lmul, 1) := by decide +kernel
theorem dX8_digest_17 : decode cX8_digest 17 = .ok (.aload_n 0, 1) := by decide +kernel
theorem dX8_digest_18 : decode cX8_digest 18 = .ok (.iload_n 3, 1) := by decide +kernel
theorem dX8_digest_19 : decode cX8_digest 19 = .ok (.invokevirtual 320, 3) := by decide +kernel
theorem dX8_digest_22 : decode cX8_digest 22 = .ok (.i2l, 1) := by decide +kernel
theorem dX8_digest_23 : decode cX8_digest 23 = .ok (.ladd, 1) := by decide +kernel
theorem dX8_digest_24 : decode cX8_digest 24 = .ok (.lstore_n 1, 1) := by decide +kernel
theorem dX8_digest_25 : decode cX8_digest 25 = .ok (.iinc 3 1, 3) := by decide +kernel
theorem dX8_digest_28 : decode cX8_digest 28 = .ok (.goto (-22), 3) := by decide +kernel
theorem dX8_digest_31 : decode cX8_digest 31 = .ok (.iconst 0, 1) := by decide +kernel
theorem dX8_digest_32 : decode cX8_digest 32 = .ok (.istore_n 3, 1) := by decide +kernel
theorem dX8_digest_33 : decode cX8_digest 33 = .ok (.iload_n 3, 1) := by decide +kernel
theorem dX8_digest_34 : decode cX8_digest 34 = .ok (.iconst 2, 1) := by decide +kernel
theorem dX8_digest_35 : decode cX8_digest 35 = .ok (.if_icmp .ge 22, 3) := by decide +kernel
theorem dX8_digest_38 : decode cX8_digest 38 = .ok (.ldc2_w 318, 3) := by decide +kernel
theorem dX8_digest_41 : decode cX8_digest 41 = .ok (.lload_n 1, 1) := by decide +kernel
theorem dX8_digest_42 : decode cX8_digest 42 = .ok (.lmul, 1) := by decide +kernel
theorem dX8_digest_43 : decode cX8_digest 43 = .ok (.aload_n 0, 1) := by decide +kernel
theorem dX8_digest_44 : decode cX8_digest 44 = .ok (.iload_n 3, 1) := by decide +kernel
theorem dX8_digest_45 : decode cX8_digest 45 = .ok (.invokevirtual 323, 3) := by decide +kernel
theorem dX8_digest_48 : decode cX8_digest 48 = .ok (.i2l, 1) := by decide +kernel
theorem dX8_digest_49 : decode cX8_digest 49 = .ok (.ladd, 1) := by decide +kernel
theorem dX8_digest_50 : decode cX8_digest 50 = .ok (.lstore_n 1, 1) := by decide +kernel
theorem dX8_digest_51 : decode cX8_digest 51 = .ok (.iinc 3 1, 3) := by decide +kernel
theorem dX8_digest_54 : decode cX8_digest 54 = .ok (.goto (-21), 3) := by decide +kernel
theorem dX8_digest_57 : decode cX8_digest 57 = .ok (.iconst 0, 1) := by decide +kernel
theorem dX8_digest_58 : decode cX8_digest 58 = .ok (.istore_n 3, 1) := by decide +kernel
theorem dX8_digest_59 : decode cX8_digest 59 = .ok (.iload_n 3, 1) := by decide +kernel
theorem dX8_digest_60 : decode cX8_digest 60 = .ok (.aload_n 0, 1) := by decide +kernel
theorem dX8_digest_61 : decode cX8_digest 61 = .ok (.getfield 24, 3) := by decide +kernel
theorem dX8_digest_64 : decode cX8_digest 64 = .ok (.getfield 112, 3) := by decide +kernel
theorem dX8_digest_67 : decode cX8_digest 67 = .ok (.getfield 242, 3) := by decide +kernel
theorem dX8_digest_70 : decode cX8_digest 70 = .ok (.if_icmp .ge 16, 3) := by decide +kernel
theorem dX8_digest_73 : decode cX8_digest 73 = .ok (.aload_n 0, 1) := by decide +kernel
theorem dX8_digest_74 : decode cX8_digest 74 = .ok (.lload_n 1, 1) := by decide +kernel
theorem dX8_digest_75 : decode cX8_digest 75 = .ok (.iload_n 3, 1) := by decide +kernel
theorem dX8_digest_76 : decode cX8_digest 76 = .ok (.invokevirtual 326, 3) := by decide +kernel
theorem dX8_digest_79 : decode cX8_digest 79 = .ok (.lstore_n 1, 1) := by decide +kernel
theorem dX8_digest_80 : decode cX8_digest 80 = .ok (.iinc 3 1, 3) := by decide +kernel
theorem dX8_digest_83 : decode cX8_digest 83 = .ok (.goto (-24), 3) := by decide +kernel
theorem dX8_digest_86 : decode cX8_digest 86 = .ok (.iconst 0, 1) := by decide +kernel
theorem dX8_digest_87 : decode cX8_digest 87 = .ok (.istore_n 3, 1) := by decide +kernel
theorem dX8_digest_88 : decode cX8_digest 88 = .ok (.iload_n 3, 1) := by decide +kernel
theorem dX8_digest_89 : decode cX8_digest 89 = .ok (.aload_n 0, 1) := by decide +kernel
theorem dX8_digest_90 : decode cX8_digest 90 = .ok (.getfield 31, 3) := by decide +kernel
theorem dX8_digest_93 : decode cX8_digest 93 = .ok (.getfield 130, 3) := by decide +kernel
theorem dX8_digest_96 : decode cX8_digest 96 = .ok (.if_icmp .ge 22, 3) := by decide +kernel
theorem dX8_digest_99 : decode cX8_digest 99 = .ok (.ldc2_w 318, 3) := by decide +kernel
theorem dX8_digest_102 : decode cX8_digest 102 = .ok (.lload_n 1, 1) := by decide +kernel
theorem dX8_digest_103 : decode cX8_digest 103 = .ok (.lmul, 1) := by decide +kernel
theorem dX8_digest_104 : decode cX8_digest 104 = .ok (.aload_n 0, 1) := by decide +kernel
theorem dX8_digest_105 : decode cX8_digest 105 = .ok (.iload_n 3, 1) := by decide +kernel
theorem dX8_digest_106 : decode cX8_digest 106 = .ok (.invokevirtual 330, 3) := by decide +kernel
theorem dX8_digest_109 : decode cX8_digest 109 = .ok (.i2l, 1) := by decide +kernel
theorem dX8_digest_110 : decode cX8_digest 110 = .ok (.ladd, 1) := by decide +kernel
theorem dX8_digest_111 : decode cX8_digest 111 = .ok (.lstore_n 1, 1) := by decide +kernel
theorem dX8_digest_112 : decode cX8_digest 112 = .ok (.iinc 3 1, 3) := by decide +kernel
theorem dX8_digest_115 : decode cX8_digest 115 = .ok (.goto (-27), 3) := by decide +kernel
theorem dX8_digest_118 : decode cX8_digest 118 = .ok (.iconst 0, 1) := by decide +kernel
theorem dX8_digest_119 : decode cX8_digest 119 = .ok (.istore_n 3, 1) := by decide +kernel
theorem dX8_digest_120 : decode cX8_digest 120 = .ok (.iload_n 3, 1) := by decide +kernel
theorem dX8_digest_121 : decode cX8_digest 121 = .ok (.bipush 8, 2) := by decide +kernel
theorem dX8_digest_123 : decode cX8_digest 123 = .ok (.if_icmp .ge 53, 3) := by decide +kernel
theorem dX8_digest_126 : decode cX8_digest 126 = .ok (.ldc2_w 318, 3) := by decide +kernel
theorem dX8_digest_129 : decode cX8_digest 129 = .ok (.lload_n 1, 1) := by decide +kernel
theorem dX8_digest_130 : decode cX8_digest 130 = .ok (.lmul, 1) := by decide +kernel
theorem dX8_digest_131 : decode cX8_digest 131 = .ok (.aload_n 0, 1) := by decide +kernel
theorem dX8_digest_132 : decode cX8_digest 132 = .ok (.bipush 39, 2) := by decide +kernel
theorem dX8_digest_134 : decode cX8_digest 134 = .ok (.iload_n 3, 1) := by decide +kernel
theorem dX8_digest_135 : decode cX8_digest 135 = .ok (.invokevirtual 333, 3) := by decide +kernel
theorem dX8_digest_138 : decode cX8_digest 138 = .ok (.i2l, 1) := by decide +kernel
theorem dX8_digest_139 : decode cX8_digest 139 = .ok (.ladd, 1) := by decide +kernel
theorem dX8_digest_140 : decode cX8_digest 140 = .ok (.lstore_n 1, 1) := by decide +kernel
theorem dX8_digest_141 : decode cX8_digest 141 = .ok (.ldc2_w 318, 3) := by decide +kernel
theorem dX8_digest_144 : decode cX8_digest 144 = .ok (.lload_n 1, 1) := by decide +kernel
theorem dX8_digest_145 : decode cX8_digest 145 = .ok (.lmul, 1) := by decide +kernel
theorem dX8_digest_146 : decode cX8_digest 146 = .ok (.aload_n 0, 1) := by decide +kernel
theorem dX8_digest_147 : decode cX8_digest 147 = .ok (.bipush 39, 2) := by decide +kernel
theorem dX8_digest_149 : decode cX8_digest 149 = .ok (.iload_n 3, 1) := by decide +kernel
theorem dX8_digest_150 : decode cX8_digest 150 = .ok (.invokevirtual 336, 3) := by decide +kernel
theorem dX8_digest_153 : decode cX8_digest 153 = .ok (.i2l, 1) := by decide +kernel
theorem dX8_digest_154 : decode cX8_digest 154 = .ok (.ladd, 1) := by decide +kernel
theorem dX8_digest_155 : decode cX8_digest 155 = .ok (.lstore_n 1, 1) := by decide +kernel
theorem dX8_digest_156 : decode cX8_digest 156 = .ok (.ldc2_w 318, 3) := by decide +kernel
theorem dX8_digest_159 : decode cX8_digest 159 = .ok (.lload_n 1, 1) := by decide +kernel
theorem dX8_digest_160 : decode cX8_digest 160 = .ok (.lmul, 1) := by decide +kernel
theorem dX8_digest_161 : decode cX8_digest 161 = .ok (.aload_n 0, 1) := by decide +kernel
theorem dX8_digest_162 : decode cX8_digest 162 = .ok (.iconst 5, 1) := by decide +kernel
theorem dX8_digest_163 : decode cX8_digest 163 = .ok (.iload_n 3, 1) := by decide +kernel
theorem dX8_digest_164 : decode cX8_digest 164 = .ok (.invokevirtual 339, 3) := by decide +kernel
theorem dX8_digest_167 : decode cX8_digest 167 = .ok (.i2l, 1) := by decide +kernel
theorem dX8_digest_168 : decode cX8_digest 168 = .ok (.ladd, 1) := by decide +kernel
theorem dX8_digest_169 : decode cX8_digest 169 = .ok (.lstore_n 1, 1) := by decide +kernel
theorem dX8_digest_170 : decode cX8_digest 170 = .ok (.iinc 3 1, 3) := by decide +kernel
theorem dX8_digest_173 : decode cX8_digest 173 = .ok (.goto (-53), 3) := by decide +kernel
theorem dX8_digest_176 : decode cX8_digest 176 = .ok (.iconst 0, 1) := by decide +kernel
theorem dX8_digest_177 : decode cX8_digest 177 = .ok (.istore_n 3, 1) := by decide +kernel
theorem dX8_digest_178 : decode cX8_digest 178 = .ok (.iload_n 3, 1) := by decide +kernel
theorem dX8_digest_179 : decode cX8_digest 179 = .ok (.bipush 6, 2) := by decide +kernel
theorem dX8_digest_181 : decode cX8_digest 181 = .ok (.if_icmp .ge 24, 3) := by decide +kernel
theorem dX8_digest_184 : decode cX8_digest 184 = .ok (.ldc2_w 318, 3) := by decide +kernel
theorem dX8_digest_187 : decode cX8_digest 187 = .ok (.lload_n 1, 1) := by decide +kernel
theorem dX8_digest_188 : decode cX8_digest 188 = .ok (.lmul, 1) := by decide +kernel
theorem dX8_digest_189 : decode cX8_digest 189 = .ok (.aload_n 0, 1) := by decide +kernel
theorem dX8_digest_190 : decode cX8_digest 190 = .ok (.bipush 9, 2) := by decide +kernel
theorem dX8_digest_192 : decode cX8_digest 192 = .ok (.iload_n 3, 1) := by decide +kernel
theorem dX8_digest_193 : decode cX8_digest 193 = .ok (.invokevirtual 341, 3) := by decide +kernel
theorem dX8_digest_196 : decode cX8_digest 196 = .ok (.i2l, 1) := by decide +kernel
theorem dX8_digest_197 : decode cX8_digest 197 = .ok (.ladd, 1) := by decide +kernel
theorem dX8_digest_198 : decode cX8_digest 198 = .ok (.lstore_n 1, 1) := by decide +kernel
theorem dX8_digest_199 : decode cX8_digest 199 = .ok (.iinc 3 1, 3) := by decide +kernel
theorem dX8_digest_202 : decode cX8_digest 202 = .ok (.goto (-24), 3) := by decide +kernel
theorem dX8_digest_205 : decode cX8_digest 205 = .ok (.iconst 0, 1) := by decide +kernel
theorem dX8_digest_206 : decode cX8_digest 206 = .ok (.istore_n 3, 1) := by decide +kernel
theorem dX8_digest_207 : decode cX8_digest 207 = .ok (.iload_n 3, 1) := by decide +kernel
theorem dX8_digest_208 : decode cX8_digest 208 = .ok (.iconst 3, 1) := by decide +kernel
theorem dX8_digest_209 : decode cX8_digest 209 = .ok (.if_icmp .ge 132, 3) := by decide +kernel
theorem dX8_digest_212 : decode cX8_digest 212 = .ok (.iload_n 3, 1) := by decide +kernel
theorem dX8_digest_213 : decode cX8_digest 213 = .ok (.ifCond .ne 7, 3) := by decide +kernel
theorem dX8_digest_216 : decode cX8_digest 216 = .ok (.iconst 0, 1) := by decide +kernel
theorem dX8_digest_217 : decode cX8_digest 217 = .ok (.goto 14, 3) := by decide +kernel
theorem dX8_digest_220 : decode cX8_digest 220 = .ok (.iload_n 3, 1) := by decide +kernel
theorem dX8_digest_221 : decode cX8_digest 221 = .ok (.iconst 1, 1) := by decide +kernel
theorem dX8_digest_222 : decode cX8_digest 222 = .ok (.if_icmp .ne 7, 3) := by decide +kernel
theorem dX8_digest_225 : decode cX8_digest 225 = .ok (.iconst 5, 1) := by decide +kernel
theorem dX8_digest_226 : decode cX8_digest 226 = .ok (.goto 5, 3) := by decide +kernel
theorem dX8_digest_229 : decode cX8_digest 229 = .ok (.bipush 39, 2) := by decide +kernel
theorem dX8_digest_231 : decode cX8_digest 231 = .ok (.istore 4, 2) := by decide +kernel
theorem dX8_digest_233 : decode cX8_digest 233 = .ok (.ldc2_w 318, 3) := by decide +kernel
theorem dX8_digest_236 : decode cX8_digest 236 = .ok (.lload_n 1, 1) := by decide +kernel
theorem dX8_digest_237 : decode cX8_digest 237 = .ok (.lmul, 1) := by decide +kernel
theorem dX8_digest_238 : decode cX8_digest 238 = .ok (.aload_n 0, 1) := by decide +kernel
theorem dX8_digest_239 : decode cX8_digest 239 = .ok (.iload 4, 2) := by decide +kernel
theorem dX8_digest_241 : decode cX8_digest 241 = .ok (.invokevirtual 344, 3) := by decide +kernel
theorem dX8_digest_244 : decode cX8_digest 244 = .ok (.i2l, 1) := by decide +kernel
theorem dX8_digest_245 : decode cX8_digest 245 = .ok (.ladd, 1) := by decide +kernel
theorem dX8_digest_246 : decode cX8_digest 246 = .ok (.lstore_n 1, 1) := by decide +kernel
theorem dX8_digest_247 : decode cX8_digest 247 = .ok (.ldc2_w 318, 3) := by decide +kernel
theorem dX8_digest_250 : decode cX8_digest 250 = .ok (.lload_n 1, 1) := by decide +kernel
theorem dX8_digest_251 : decode cX8_digest 251 = .ok (.lmul, 1) := by decide +kernel
theorem dX8_digest_252 : decode cX8_digest 252 = .ok (.aload_n 0, 1) := by decide +kernel
theorem dX8_digest_253 : decode cX8_digest 253 = .ok (.iload 4, 2) := by decide +kernel
theorem dX8_digest_255 : decode cX8_digest 255 = .ok (.invokevirtual 347, 3) := by decide +kernel
theorem dX8_digest_258 : decode cX8_digest 258 = .ok (.i2l, 1) := by decide +kernel
theorem dX8_digest_259 : decode cX8_digest 259 = .ok (.ladd, 1) := by decide +kernel
theorem dX8_digest_260 : decode cX8_digest 260 = .ok (.lstore_n 1, 1) := by decide +kernel
theorem dX8_digest_261 : decode cX8_digest 261 = .ok (.ldc2_w 318, 3) := by decide +kernel
theorem dX8_digest_264 : decode cX8_digest 264 = .ok (.lload_n 1, 1) := by decide +kernel
theorem dX8_digest_265 : decode cX8_digest 265 = .ok (.lmul, 1) := by decide +kernel
theorem dX8_digest_266 : decode cX8_digest 266 = .ok (.aload_n 0, 1) := by decide +kernel
theorem dX8_digest_267 : decode cX8_digest 267 = .ok (.iload 4, 2) := by decide +kernel
theorem dX8_digest_269 : decode cX8_digest 269 = .ok (.iconst (-1), 1) := by decide +kernel
theorem dX8_digest_270 : decode cX8_digest 270 = .ok (.invokevirtual 350, 3) := by decide +kernel
theorem dX8_digest_273 : decode cX8_digest 273 = .ok (.i2l, 1) := by decide +kernel
theorem dX8_digest_274 : decode cX8_digest 274 = .ok (.ladd, 1) := by decide +kernel
theorem dX8_digest_275 : decode cX8_digest 275 = .ok (.lstore_n 1, 1) := by decide +kernel
theorem dX8_digest_276 : decode cX8_digest 276 = .ok (.ldc2_w 318, 3) := by decide +kernel
theorem dX8_digest_279 : decode cX8_digest 279 = .ok (.lload_n 1, 1) := by decide +kernel
theorem dX8_digest_280 : decode cX8_digest 280 = .ok (.lmul, 1) := by decide +kernel
theorem dX8_digest_281 : decode cX8_digest 281 = .ok (.aload_n 0, 1) := by decide +kernel
theorem dX8_digest_282 : decode cX8_digest 282 = .ok (.iload 4, 2) := by decide +kernel
theorem dX8_digest_284 : decode cX8_digest 284 = .ok (.iconst 0, 1) := by decide +kernel
theorem dX8_digest_285 : decode cX8_digest 285 = .ok (.invokevirtual 350, 3) := by decide +kernel
theorem dX8_digest_288 : decode cX8_digest 288 = .ok (.i2l, 1) := by decide +kernel
theorem dX8_digest_289 : decode cX8_digest 289 = .ok (.ladd, 1) := by decide +kernel
theorem dX8_digest_290 : decode cX8_digest 290 = .ok (.lstore_n 1, 1) := by decide +kernel
theorem dX8_digest_291 : decode cX8_digest 291 = .ok (.ldc2_w 318, 3) := by decide +kernel
theorem dX8_digest_294 : decode cX8_digest 294 = .ok (.lload_n 1, 1) := by decide +kernel
theorem dX8_digest_295 : decode cX8_digest 295 = .ok (.lmul, 1) := by decide +kernel
theorem dX8_digest_296 : decode cX8_digest 296 = .ok (.aload_n 0, 1) := by decide +kernel
theorem dX8_digest_297 : decode cX8_digest 297 = .ok (.iload 4, 2) := by decide +kernel
theorem dX8_digest_299 : decode cX8_digest 299 = .ok (.iconst (-1), 1) := by decide +kernel
theorem dX8_digest_300 : decode cX8_digest 300 = .ok (.invokevirtual 353, 3) := by decide +kernel
theorem dX8_digest_303 : decode cX8_digest 303 = .ok (.i2l, 1) := by decide +kernel
theorem dX8_digest_304 : decode cX8_digest 304 = .ok (.ladd, 1) := by decide +kernel
theorem dX8_digest_305 : decode cX8_digest 305 = .ok (.lstore_n 1, 1) := by decide +kernel
theorem dX8_digest_306 : decode cX8_digest 306 = .ok (.ldc2_w 318, 3) := by decide +kernel
theorem dX8_digest_309 : decode cX8_digest 309 = .ok (.lload_n 1, 1) := by decide +kernel
theorem dX8_digest_310 : decode cX8_digest 310 = .ok (.lmul, 1) := by decide +kernel
theorem dX8_digest_311 : decode cX8_digest 311 = .ok (.aload_n 0, 1) := by decide +kernel
theorem dX8_digest_312 : decode cX8_digest 312 = .ok (.iload 4, 2) := by decide +kernel
theorem dX8_digest_314 : decode cX8_digest 314 = .ok (.iconst 0, 1) := by decide +kernel
theorem dX8_digest_315 : decode cX8_digest 315 = .ok (.invokevirtual 353, 3) := by decide +kernel
theorem dX8_digest_318 : decode cX8_digest 318 = .ok (.i2l, 1) := by decide +kernel
theorem dX8_digest_319 : decode cX8_digest 319 = .ok (.ladd, 1) := by decide +kernel
theorem dX8_digest_320 : decode cX8_digest 320 = .ok (.lstore_n 1, 1) := by decide +kernel
theorem dX8_digest_321 : decode cX8_digest 321 = .ok (.ldc2_w 318, 3) := by decide +kernel
theorem dX8_digest_324 : decode cX8_digest 324 = .ok (.lload_n 1, 1) := by decide +kernel
theorem dX8_digest_325 : decode cX8_digest 325 = .ok (.lmul, 1) := by decide +kernel
theorem dX8_digest_326 : decode cX8_digest 326 = .ok (.aload_n 0, 1) := by decide +kernel
theorem dX8_digest_327 : decode cX8_digest 327 = .ok (.iload 4, 2) := by decide +kernel
theorem dX8_digest_329 : decode cX8_digest 329 = .ok (.invokevirtual 356, 3) := by decide +kernel
theorem dX8_digest_332 : decode cX8_digest 332 = .ok (.i2l, 1) := by decide +kernel
theorem dX8_digest_333 : decode cX8_digest 333 = .ok (.ladd, 1) := by decide +kernel
theorem dX8_digest_334 : decode cX8_digest 334 = .ok (.lstore_n 1, 1) := by decide +kernel
theorem dX8_digest_335 : decode cX8_digest 335 = .ok (.iinc 3 1, 3) := by decide +kernel
theorem dX8_digest_338 : decode cX8_digest 338 = .ok (.goto (-131), 3) := by decide +kernel
theorem dX8_digest_341 : decode cX8_digest 341 = .ok (.iconst 0, 1) := by decide +kernel
theorem dX8_digest_342 : decode cX8_digest 342 = .ok (.istore_n 3, 1) := by decide +kernel
theorem dX8_digest_343 : decode cX8_digest 343 = .ok (.iload_n 3, 1) := by decide +kernel
theorem dX8_digest_344 : decode cX8_digest 344 = .ok (.aload_n 0, 1) := by decide +kernel
theorem dX8_digest_345 : decode cX8_digest 345 = .ok (.getfield 24, 3) := by decide +kernel
theorem dX8_digest_348 : decode cX8_digest 348 = .ok (.getfield 150, 3) := by decide +kernel
theorem dX8_digest_351 : decode cX8_digest 351 = .ok (.getfield 154, 3) := by decide +kernel
theorem dX8_digest_354 : decode cX8_digest 354 = .ok (.if_icmp .ge 22, 3) := by decide +kernel
theorem dX8_digest_357 : decode cX8_digest 357 = .ok (.ldc2_w 318, 3) := by decide +kernel
theorem dX8_digest_360 : decode cX8_digest 360 = .ok (.lload_n 1, 1) := by decide +kernel
theorem dX8_digest_361 : decode cX8_digest 361 = .ok (.lmul, 1) := by decide +kernel
theorem dX8_digest_362 : decode cX8_digest 362 = .ok (.aload_n 0, 1) := by decide +kernel
theorem dX8_digest_363 : decode cX8_digest 363 = .ok (.iload_n 3, 1) := by decide +kernel
theorem dX8_digest_364 : decode cX8_digest 364 = .ok (.invokevirtual 359, 3) := by decide +kernel
theorem dX8_digest_367 : decode cX8_digest 367 = .ok (.i2l, 1) := by decide +kernel
theorem dX8_digest_368 : decode cX8_digest 368 = .ok (.ladd, 1) := by decide +kernel
theorem dX8_digest_369 : decode cX8_digest 369 = .ok (.lstore_n 1, 1) := by decide +kernel
theorem dX8_digest_370 : decode cX8_digest 370 = .ok (.iinc 3 1, 3) := by decide +kernel
theorem dX8_digest_373 : decode cX8_digest 373 = .ok (.goto (-30), 3) := by decide +kernel
theorem dX8_digest_376 : decode cX8_digest 376 = .ok (.ldc2_w 318, 3) := by decide +kernel
theorem dX8_digest_379 : decode cX8_digest 379 = .ok (.lload_n 1, 1) := by decide +kernel
theorem dX8_digest_380 : decode cX8_digest 380 = .ok (.lmul, 1) := by decide +kernel
theorem dX8_digest_381 : decode cX8_digest 381 = .ok (.aload_n 0, 1) := by decide +kernel
theorem dX8_digest_382 : decode cX8_digest 382 = .ok (.invokevirtual 251, 3) := by decide +kernel
theorem dX8_digest_385 : decode cX8_digest 385 = .ok (.i2l, 1) := by decide +kernel
theorem dX8_digest_386 : decode cX8_digest 386 = .ok (.ladd, 1) := by decide +kernel
theorem dX8_digest_387 : decode cX8_digest 387 = .ok (.lstore_n 1, 1) := by decide +kernel
theorem dX8_digest_388 : decode cX8_digest 388 = .ok (.ldc2_w 318, 3) := by decide +kernel
theorem dX8_digest_391 : decode cX8_digest 391 = .ok (.lload_n 1, 1) := by decide +kernel
theorem dX8_digest_392 : decode cX8_digest 392 = .ok (.lmul, 1) := by decide +kernel
theorem dX8_digest_393 : decode cX8_digest 393 = .ok (.aload_n 0, 1) := by decide +kernel
theorem dX8_digest_394 : decode cX8_digest 394 = .ok (.iconst 0, 1) := by decide +kernel
theorem dX8_digest_395 : decode cX8_digest 395 = .ok (.invokevirtual 362, 3) := by decide +kernel
theorem dX8_digest_398 : decode cX8_digest 398 = .ok (.i2l, 1) := by decide +kernel
theorem dX8_digest_399 : decode cX8_digest 399 = .ok (.ladd, 1) := by decide +kernel
theorem dX8_digest_400 : decode cX8_digest 400 = .ok (.lstore_n 1, 1) := by decide +kernel
theorem dX8_digest_401 : decode cX8_digest 401 = .ok (.ldc2_w 318, 3) := by decide +kernel
theorem dX8_digest_404 : decode cX8_digest 404 = .ok (.lload_n 1, 1) := by decide +kernel
theorem dX8_digest_405 : decode cX8_digest 405 = .ok (.lmul, 1) := by decide +kernel
theorem dX8_digest_406 : decode cX8_digest 406 = .ok (.aload_n 0, 1) := by decide +kernel
theorem dX8_digest_407 : decode cX8_digest 407 = .ok (.iconst 1, 1) := by decide +kernel
theorem dX8_digest_408 : decode cX8_digest 408 = .ok (.invokevirtual 362, 3) := by decide +kernel
theorem dX8_digest_411 : decode cX8_digest 411 = .ok (.i2l, 1) := by decide +kernel
theorem dX8_digest_412 : decode cX8_digest 412 = .ok (.ladd, 1) := by decide +kernel
theorem dX8_digest_413 : decode cX8_digest 413 = .ok (.lstore_n 1, 1) := by decide +kernel
theorem dX8_digest_414 : decode cX8_digest 414 = .ok (.ldc2_w 318, 3) := by decide +kernel
theorem dX8_digest_417 : decode cX8_digest 417 = .ok (.lload_n 1, 1) := by decide +kernel
theorem dX8_digest_418 : decode cX8_digest 418 = .ok (.lmul, 1) := by decide +kernel
theorem dX8_digest_419 : decode cX8_digest 419 = .ok (.aload_n 0, 1) := by decide +kernel
theorem dX8_digest_420 : decode cX8_digest 420 = .ok (.bipush 7, 2) := by decide +kernel
theorem dX8_digest_422 : decode cX8_digest 422 = .ok (.bipush 20, 2) := by decide +kernel
theorem dX8_digest_424 : decode cX8_digest 424 = .ok (.iconst (-1), 1) := by decide +kernel
theorem dX8_digest_425 : decode cX8_digest 425 = .ok (.invokevirtual 365, 3) := by decide +kernel
theorem dX8_digest_428 : decode cX8_digest 428 = .ok (.i2l, 1) := by decide +kernel
theorem dX8_digest_429 : decode cX8_digest 429 = .ok (.ladd, 1) := by decide +kernel
theorem dX8_digest_430 : decode cX8_digest 430 = .ok (.lreturn, 1) := by decide +kernel
theorem dX8_mixBottle_0 : decode cX8_mixBottle 0 = .ok (.lload_n 1, 1) := by decide +kernel
theorem dX8_mixBottle_1 : decode cX8_mixBottle 1 = .ok (.lstore 4, 2) := by decide +kernel
theorem dX8_mixBottle_3 : decode cX8_mixBottle 3 = .ok (.iconst 0, 1) := by decide +kernel
theorem dX8_mixBottle_4 : decode cX8_mixBottle 4 = .ok (.istore 6, 2) := by decide +kernel
theorem dX8_mixBottle_6 : decode cX8_mixBottle 6 = .ok (.iload 6, 2) := by decide +kernel
theorem dX8_mixBottle_8 : decode cX8_mixBottle 8 = .ok (.iconst 3, 1) := by decide +kernel
theorem dX8_mixBottle_9 : decode cX8_mixBottle 9 = .ok (.if_icmp .gt 26, 3) := by decide +kernel
theorem dX8_mixBottle_12 : decode cX8_mixBottle 12 = .ok (.ldc2_w 318, 3) := by decide +kernel
theorem dX8_mixBottle_15 : decode cX8_mixBottle 15 = .ok (.lload 4, 2) := by decide +kernel
theorem dX8_mixBottle_17 : decode cX8_mixBottle 17 = .ok (.lmul, 1) := by decide +kernel
theorem dX8_mixBottle_18 : decode cX8_mixBottle 18 = .ok (.aload_n 0, 1) := by decide +kernel
theorem dX8_mixBottle_19 : decode cX8_mixBottle 19 = .ok (.iload_n 3, 1) := by decide +kernel
theorem dX8_mixBottle_20 : decode cX8_mixBottle 20 = .ok (.iload 6, 2) := by decide +kernel
theorem dX8_mixBottle_22 : decode cX8_mixBottle 22 = .ok (.invokevirtual 368, 3) := by decide +kernel
theorem dX8_mixBottle_25 : decode cX8_mixBottle 25 = .ok (.i2l, 1) := by decide +kernel
theorem dX8_mixBottle_26 : decode cX8_mixBottle 26 = .ok (.ladd, 1) := by decide +kernel
theorem dX8_mixBottle_27 : decode cX8_mixBottle 27 = .ok (.lstore 4, 2) := by decide +kernel
theorem dX8_mixBottle_29 : decode cX8_mixBottle 29 = .ok (.iinc 6 1, 3) := by decide +kernel
theorem dX8_mixBottle_32 : decode cX8_mixBottle 32 = .ok (.goto (-26), 3) := by decide +kernel
theorem dX8_mixBottle_35 : decode cX8_mixBottle 35 = .ok (.ldc2_w 318, 3) := by decide +kernel
theorem dX8_mixBottle_38 : decode cX8_mixBottle 38 = .ok (.lload 4, 2) := by decide +kernel
theorem dX8_mixBottle_40 : decode cX8_mixBottle 40 = .ok (.lmul, 1) := by decide +kernel
theorem dX8_mixBottle_41 : decode cX8_mixBottle 41 = .ok (.aload_n 0, 1) := by decide +kernel
theorem dX8_mixBottle_42 : decode cX8_mixBottle 42 = .ok (.iconst 5, 1) := by decide +kernel
theorem dX8_mixBottle_43 : decode cX8_mixBottle 43 = .ok (.iload_n 3, 1) := by decide +kernel
theorem dX8_mixBottle_44 : decode cX8_mixBottle 44 = .ok (.iconst (-1), 1) := by decide +kernel
theorem dX8_mixBottle_45 : decode cX8_mixBottle 45 = .ok (.invokevirtual 370, 3) := by decide +kernel
theorem dX8_mixBottle_48 : decode cX8_mixBottle 48 = .ok (.i2l, 1) := by decide +kernel
theorem dX8_mixBottle_49 : decode cX8_mixBottle 49 = .ok (.ladd, 1) := by decide +kernel
theorem dX8_mixBottle_50 : decode cX8_mixBottle 50 = .ok (.lstore 4, 2) := by decide +kernel
theorem dX8_mixBottle_52 : decode cX8_mixBottle 52 = .ok (.ldc2_w 318, 3) := by decide +kernel
theorem dX8_mixBottle_55 : decode cX8_mixBottle 55 = .ok (.lload 4, 2) := by decide +kernel
theorem dX8_mixBottle_57 : decode cX8_mixBottle 57 = .ok (.lmul, 1) := by decide +kernel
theorem dX8_mixBottle_58 : decode cX8_mixBottle 58 = .ok (.aload_n 0, 1) := by decide +kernel
theorem dX8_mixBottle_59 : decode cX8_mixBottle 59 = .ok (.bipush 39, 2) := by decide +kernel
theorem dX8_mixBottle_61 : decode cX8_mixBottle 61 = .ok (.iload_n 3, 1) := by decide +kernel
theorem dX8_mixBottle_62 : decode cX8_mixBottle 62 = .ok (.iconst (-1), 1) := by decide +kernel
theorem dX8_mixBottle_63 : decode cX8_mixBottle 63 = .ok (.invokevirtual 370, 3) := by decide +kernel
theorem dX8_mixBottle_66 : decode cX8_mixBottle 66 = .ok (.i2l, 1) := by decide +kernel
theorem dX8_mixBottle_67 : decode cX8_mixBottle 67 = .ok (.ladd, 1) := by decide +kernel
theorem dX8_mixBottle_68 : decode cX8_mixBottle 68 = .ok (.lstore 4, 2) := by decide +kernel
theorem dX8_mixBottle_70 : decode cX8_mixBottle 70 = .ok (.ldc2_w 318, 3) := by decide +kernel
theorem dX8_mixBottle_73 : decode cX8_mixBottle 73 = .ok (.lload 4, 2) := by decide +kernel
theorem dX8_mixBottle_75 : decode cX8_mixBottle 75 = .ok (.lmul, 1) := by decide +kernel
theorem dX8_mixBottle_76 : decode cX8_mixBottle 76 = .ok (.aload_n 0, 1) := by decide +kernel
theorem dX8_mixBottle_77 : decode cX8_mixBottle 77 = .ok (.bipush 9, 2) := by decide +kernel
theorem dX8_mixBottle_79 : decode cX8_mixBottle 79 = .ok (.iload_n 3, 1) := by decide +kernel
theorem dX8_mixBottle_80 : decode cX8_mixBottle 80 = .ok (.invokevirtual 373, 3) := by decide +kernel
theorem dX8_mixBottle_83 : decode cX8_mixBottle 83 = .ok (.i2l, 1) := by decide +kernel
theorem dX8_mixBottle_84 : decode cX8_mixBottle 84 = .ok (.ladd, 1) := by decide +kernel
theorem dX8_mixBottle_85 : decode cX8_mixBottle 85 = .ok (.lstore 4, 2) := by decide +kernel
theorem dX8_mixBottle_87 : decode cX8_mixBottle 87 = .ok (.ldc2_w 318, 3) := by decide +kernel
theorem dX8_mixBottle_90 : decode cX8_mixBottle 90 = .ok (.lload 4, 2) := by decide +kernel
theorem dX8_mixBottle_92 : decode cX8_mixBottle 92 = .ok (.lmul, 1) := by decide +kernel
theorem dX8_mixBottle_93 : decode cX8_mixBottle 93 = .ok (.aload_n 0, 1) := by decide +kernel
theorem dX8_mixBottle_94 : decode cX8_mixBottle 94 = .ok (.bipush 39, 2) := by decide +kernel
theorem dX8_mixBottle_96 : decode cX8_mixBottle 96 = .ok (.iload_n 3, 1) := by decide +kernel
theorem dX8_mixBottle_97 : decode cX8_mixBottle 97 = .ok (.invokevirtual 376, 3) := by decide +kernel
theorem dX8_mixBottle_100 : decode cX8_mixBottle 100 = .ok (.i2l, 1) := by decide +kernel
theorem dX8_mixBottle_101 : decode cX8_mixBottle 101 = .ok (.ladd, 1) := by decide +kernel
theorem dX8_mixBottle_102 : decode cX8_mixBottle 102 = .ok (.lstore 4, 2) := by decide +kernel
theorem dX8_mixBottle_104 : decode cX8_mixBottle 104 = .ok (.ldc2_w 318, 3) := by decide +kernel
theorem dX8_mixBottle_107 : decode cX8_mixBottle 107 = .ok (.lload 4, 2) := by decide +kernel
theorem dX8_mixBottle_109 : decode cX8_mixBottle 109 = .ok (.lmul, 1) := by decide +kernel
theorem dX8_mixBottle_110 : decode cX8_mixBottle 110 = .ok (.aload_n 0, 1) := by decide +kernel
theorem dX8_mixBottle_111 : decode cX8_mixBottle 111 = .ok (.iconst 5, 1) := by decide +kernel
theorem dX8_mixBottle_112 : decode cX8_mixBottle 112 = .ok (.iload_n 3, 1) := by decide +kernel
theorem dX8_mixBottle_113 : decode cX8_mixBottle 113 = .ok (.bipush 6, 2) := by decide +kernel
theorem dX8_mixBottle_115 : decode cX8_mixBottle 115 = .ok (.iconst 0, 1) := by decide +kernel
theorem dX8_mixBottle_116 : decode cX8_mixBottle 116 = .ok (.invokevirtual 379, 3) := by decide +kernel
theorem dX8_mixBottle_119 : decode cX8_mixBottle 119 = .ok (.ladd, 1) := by decide +kernel
theorem dX8_mixBottle_120 : decode cX8_mixBottle 120 = .ok (.lstore 4, 2) := by decide +kernel
theorem dX8_mixBottle_122 : decode cX8_mixBottle 122 = .ok (.ldc2_w 318, 3) := by decide +kernel
theorem dX8_mixBottle_125 : decode cX8_mixBottle 125 = .ok (.lload 4, 2) := by decide +kernel
theorem dX8_mixBottle_127 : decode cX8_mixBottle 127 = .ok (.lmul, 1) := by decide +kernel
theorem dX8_mixBottle_128 : decode cX8_mixBottle 128 = .ok (.aload_n 0, 1) := by decide +kernel
theorem dX8_mixBottle_129 : decode cX8_mixBottle 129 = .ok (.iconst 5, 1) := by decide +kernel
theorem dX8_mixBottle_130 : decode cX8_mixBottle 130 = .ok (.iload_n 3, 1) := by decide +kernel
theorem dX8_mixBottle_131 : decode cX8_mixBottle 131 = .ok (.bipush 6, 2) := by decide +kernel
theorem dX8_mixBottle_133 : decode cX8_mixBottle 133 = .ok (.iconst 1, 1) := by decide +kernel
theorem dX8_mixBottle_134 : decode cX8_mixBottle 134 = .ok (.invokevirtual 379, 3) := by decide +kernel
theorem dX8_mixBottle_137 : decode cX8_mixBottle 137 = .ok (.ladd, 1) := by decide +kernel
theorem dX8_mixBottle_138 : decode cX8_mixBottle 138 = .ok (.lstore 4, 2) := by decide +kernel
theorem dX8_mixBottle_140 : decode cX8_mixBottle 140 = .ok (.ldc2_w 318, 3) := by decide +kernel
theorem dX8_mixBottle_143 : decode cX8_mixBottle 143 = .ok (.lload 4, 2) := by decide +kernel
theorem dX8_mixBottle_145 : decode cX8_mixBottle 145 = .ok (.lmul, 1) := by decide +kernel
theorem dX8_mixBottle_146 : decode cX8_mixBottle 146 = .ok (.aload_n 0, 1) := by decide +kernel
theorem dX8_mixBottle_147 : decode cX8_mixBottle 147 = .ok (.bipush 7, 2) := by decide +kernel
theorem dX8_mixBottle_149 : decode cX8_mixBottle 149 = .ok (.bipush 20, 2) := by decide +kernel
theorem dX8_mixBottle_151 : decode cX8_mixBottle 151 = .ok (.iload_n 3, 1) := by decide +kernel
theorem dX8_mixBottle_152 : decode cX8_mixBottle 152 = .ok (.invokevirtual 365, 3) := by decide +kernel
theorem dX8_mixBottle_155 : decode cX8_mixBottle 155 = .ok (.i2l, 1) := by decide +kernel
theorem dX8_mixBottle_156 : decode cX8_mixBottle 156 = .ok (.ladd, 1) := by decide +kernel
theorem dX8_mixBottle_157 : decode cX8_mixBottle 157 = .ok (.lreturn, 1) := by decide +kernel
theorem dX8_isWithin_0 : decode cX8_isWithin 0 = .ok (.iload_n 0, 1) := by decide +kernel
theorem dX8_isWithin_1 : decode cX8_isWithin 1 = .ok (.ifCond .lt 12, 3) := by decide +kernel
theorem dX8_isWithin_4 : decode cX8_isWithin 4 = .ok (.iload_n 0, 1) := by decide +kernel
theorem dX8_isWithin_5 : decode cX8_isWithin 5 = .ok (.iload_n 1, 1) := by decide +kernel
theorem dX8_isWithin_6 : decode cX8_isWithin 6 = .ok (.if_icmp .ge 7, 3) := by decide +kernel
theorem dX8_isWithin_9 : decode cX8_isWithin 9 = .ok (.iconst 1, 1) := by decide +kernel
theorem dX8_isWithin_10 : decode cX8_isWithin 10 = .ok (.goto 4, 3) := by decide +kernel
theorem dX8_isWithin_13 : decode cX8_isWithin 13 = .ok (.iconst 0, 1) := by decide +kernel
theorem dX8_isWithin_14 : decode cX8_isWithin 14 = .ok (.ireturn, 1) := by decide +kernel
theorem dX8_isBottle_0 : decode cX8_isBottle 0 = .ok (.iload_n 1, 1) := by decide +kernel
theorem dX8_isBottle_1 : decode cX8_isBottle 1 = .ok (.aload_n 0, 1) := by decide +kernel
theorem dX8_isBottle_2 : decode cX8_isBottle 2 = .ok (.getfield 24, 3) := by decide +kernel
theorem dX8_isBottle_5 : decode cX8_isBottle 5 = .ok (.getfield 112, 3) := by decide +kernel
theorem dX8_isBottle_8 : decode cX8_isBottle 8 = .ok (.getfield 242, 3) := by decide +kernel
theorem dX8_isBottle_11 : decode cX8_isBottle 11 = .ok (.invokestatic 81, 3) := by decide +kernel
theorem dX8_isBottle_14 : decode cX8_isBottle 14 = .ok (.ireturn, 1) := by decide +kernel
theorem dX8_textOf_0 : decode cX8_textOf 0 = .ok (.iload_n 1, 1) := by decide +kernel
theorem dX8_textOf_1 : decode cX8_textOf 1 = .ok (.ifCond .ne 10, 3) := by decide +kernel
theorem dX8_textOf_4 : decode cX8_textOf 4 = .ok (.aload_n 0, 1) := by decide +kernel
theorem dX8_textOf_5 : decode cX8_textOf 5 = .ok (.getfield 14, 3) := by decide +kernel
theorem dX8_textOf_8 : decode cX8_textOf 8 = .ok (.goto 7, 3) := by decide +kernel
theorem dX8_textOf_11 : decode cX8_textOf 11 = .ok (.aload_n 0, 1) := by decide +kernel
theorem dX8_textOf_12 : decode cX8_textOf 12 = .ok (.getfield 18, 3) := by decide +kernel
theorem dX8_textOf_15 : decode cX8_textOf 15 = .ok (.areturn, 1) := by decide +kernel
theorem dX8_takeTexts_0 : decode cX8_takeTexts 0 = .ok (.aload_n 0, 1) := by decide +kernel
theorem dX8_takeTexts_1 : decode cX8_takeTexts 1 = .ok (.getfield 24, 3) := by decide +kernel
theorem dX8_takeTexts_4 : decode cX8_takeTexts 4 = .ok (.getfield 112, 3) := by decide +kernel
theorem dX8_takeTexts_7 : decode cX8_takeTexts 7 = .ok (.aload_n 0, 1) := by decide +kernel
theorem dX8_takeTexts_8 : decode cX8_takeTexts 8 = .ok (.getfield 14, 3) := by decide +kernel
theorem dX8_takeTexts_11 : decode cX8_takeTexts 11 = .ok (.invokevirtual 383, 3) := by decide +kernel
theorem dX8_takeTexts_14 : decode cX8_takeTexts 14 = .ok (.aload_n 0, 1) := by decide +kernel
theorem dX8_takeTexts_15 : decode cX8_takeTexts 15 = .ok (.getfield 31, 3) := by decide +kernel
theorem dX8_takeTexts_18 : decode cX8_takeTexts 18 = .ok (.aload_n 0, 1) := by decide +kernel
theorem dX8_takeTexts_19 : decode cX8_takeTexts 19 = .ok (.getfield 18, 3) := by decide +kernel
theorem dX8_takeTexts_22 : decode cX8_takeTexts 22 = .ok (.invokevirtual 387, 3) := by decide +kernel
theorem dX8_takeTexts_25 : decode cX8_takeTexts 25 = .ok (.aload_n 0, 1) := by decide +kernel
theorem dX8_takeTexts_26 : decode cX8_takeTexts 26 = .ok (.invokevirtual 137, 3) := by decide +kernel
theorem dX8_takeTexts_29 : decode cX8_takeTexts 29 = .ok (.return_, 1) := by decide +kernel
theorem dX8_forgetDays_0 : decode cX8_forgetDays 0 = .ok (.aload_n 0, 1) := by decide +kernel
theorem dX8_forgetDays_1 : decode cX8_forgetDays 1 = .ok (.iconst 1, 1) := by decide +kernel
theorem dX8_forgetDays_2 : decode cX8_forgetDays 2 = .ok (.putfield 67, 3) := by decide +kernel
theorem dX8_forgetDays_5 : decode cX8_forgetDays 5 = .ok (.aload_n 0, 1) := by decide +kernel
theorem dX8_forgetDays_6 : decode cX8_forgetDays 6 = .ok (.iconst (-1), 1) := by decide +kernel
theorem dX8_forgetDays_7 : decode cX8_forgetDays 7 = .ok (.putfield 71, 3) := by decide +kernel
theorem dX8_forgetDays_10 : decode cX8_forgetDays 10 = .ok (.return_, 1) := by decide +kernel
theorem dX8_find_0 : decode cX8_find 0 = .ok (.aload_n 0, 1) := by decide +kernel
theorem dX8_find_1 : decode cX8_find 1 = .ok (.iload_n 1, 1) := by decide +kernel
theorem dX8_find_2 : decode cX8_find 2 = .ok (.putfield 78, 3) := by decide +kernel
theorem dX8_find_5 : decode cX8_find 5 = .ok (.bipush (-10), 2) := by decide +kernel
theorem dX8_find_7 : decode cX8_find 7 = .ok (.iload_n 1, 1) := by decide +kernel
theorem dX8_find_8 : decode cX8_find 8 = .ok (.isub, 1) := by decide +kernel
theorem dX8_find_9 : decode cX8_find 9 = .ok (.ireturn, 1) := by decide +kernel
theorem dX8_mayBeAct_0 : decode cX8_mayBeAct 0 = .ok (.iload_n 0, 1) := by decide +kernel
theorem dX8_mayBeAct_1 : decode cX8_mayBeAct 1 = .ok (.bipush 40, 2) := by decide +kernel
theorem dX8_mayBeAct_3 : decode cX8_mayBeAct 3 = .ok (.invokestatic 81, 3) := by decide +kernel
theorem dX8_mayBeAct_6 : decode cX8_mayBeAct 6 = .ok (.ifCond .eq 20, 3) := by decide +kernel
theorem dX8_mayBeAct_9 : decode cX8_mayBeAct 9 = .ok (.iload_n 1, 1) := by decide +kernel
theorem dX8_mayBeAct_10 : decode cX8_mayBeAct 10 = .ok (.iconst 4, 1) := by decide +kernel
theorem dX8_mayBeAct_11 : decode cX8_mayBeAct 11 = .ok (.invokestatic 81, 3) := by decide +kernel
theorem dX8_mayBeAct_14 : decode cX8_mayBeAct 14 = .ok (.ifCond .eq 12, 3) := by decide +kernel
theorem dX8_mayBeAct_17 : decode cX8_mayBeAct 17 = .ok (.iload_n 2, 1) := by decide +kernel
theorem dX8_mayBeAct_18 : decode cX8_mayBeAct 18 = .ok (.bipush 8, 2) := by decide +kernel
theorem dX8_mayBeAct_20 : decode cX8_mayBeAct 20 = .ok (.invokestatic 81, 3) := by decide +kernel
theorem dX8_mayBeAct_23 : decode cX8_mayBeAct 23 = .ok (.ifCond .ne 5, 3) := by decide +kernel
theorem dX8_mayBeAct_26 : decode cX8_mayBeAct 26 = .ok (.iconst 0, 1) := by decide +kernel
theorem dX8_mayBeAct_27 : decode cX8_mayBeAct 27 = .ok (.ireturn, 1) := by decide +kernel
theorem dX8_mayBeAct_28 : decode cX8_mayBeAct 28 = .ok (.iload_n 3, 1) := by decide +kernel
theorem dX8_mayBeAct_29 : decode cX8_mayBeAct 29 = .ok (.iload_n 1, 1) := by decide +kernel
theorem dX8_mayBeAct_30 : decode cX8_mayBeAct 30 = .ok (.ifCond .ne 8, 3) := by decide +kernel
theorem dX8_mayBeAct_33 : decode cX8_mayBeAct 33 = .ok (.bipush 6, 2) := by decide +kernel
theorem dX8_mayBeAct_35 : decode cX8_mayBeAct 35 = .ok (.goto 14, 3) := by decide +kernel
theorem dX8_mayBeAct_38 : decode cX8_mayBeAct 38 = .ok (.iload_n 1, 1) := by decide +kernel
theorem dX8_mayBeAct_39 : decode cX8_mayBeAct 39 = .ok (.iconst 1, 1) := by decide +kernel
theorem dX8_mayBeAct_40 : decode cX8_mayBeAct 40 = .ok (.if_icmp .ne 8, 3) := by decide +kernel
theorem dX8_mayBeAct_43 : decode cX8_mayBeAct 43 = .ok (.bipush 8, 2) := by decide +kernel
theorem dX8_mayBeAct_45 : decode cX8_mayBeAct 45 = .ok (.goto 4, 3) := by decide +kernel
theorem dX8_mayBeAct_48 : decode cX8_mayBeAct 48 = .ok (.iconst 1, 1) := by decide +kernel
theorem dX8_mayBeAct_49 : decode cX8_mayBeAct 49 = .ok (.invokestatic 81, 3) := by decide +kernel
theorem dX8_mayBeAct_52 : decode cX8_mayBeAct 52 = .ok (.ireturn, 1) := by decide +kernel
theorem dX8_behind_0 : decode cX8_behind 0 = .ok (.aload_n 0, 1) := by decide +kernel
theorem dX8_behind_1 : decode cX8_behind 1 = .ok (.getfield 67, 3) := by decide +kernel
theorem dX8_behind_4 : decode cX8_behind 4 = .ok (.ifCond .ne 14, 3) := by decide +kernel
theorem dX8_behind_7 : decode cX8_behind 7 = .ok (.aload_n 0, 1) := by decide +kernel
theorem dX8_behind_8 : decode cX8_behind 8 = .ok (.getfield 52, 3) := by decide +kernel
theorem dX8_behind_11 : decode cX8_behind 11 = .ok (.getfield 388, 3) := by decide +kernel
theorem dX8_behind_14 : decode cX8_behind 14 = .ok (.iload_n 1, 1) := by decide +kernel
theorem dX8_behind_15 : decode cX8_behind 15 = .ok (.if_icmp .le 24, 3) := by decide +kernel
theorem dX8_behind_18 : decode cX8_behind 18 = .ok (.aload_n 0, 1) := by decide +kernel
theorem dX8_behind_19 : decode cX8_behind 19 = .ok (.getfield 52, 3) := by decide +kernel
theorem dX8_behind_22 : decode cX8_behind 22 = .ok (.aload_n 0, 1) := by decide +kernel
theorem dX8_behind_23 : decode cX8_behind 23 = .ok (.getfield 24, 3) := by decide +kernel
theorem dX8_behind_26 : decode cX8_behind 26 = .ok (.getfield 112, 3) := by decide +kernel
theorem dX8_behind_29 : decode cX8_behind 29 = .ok (.iconst 0, 1) := by decide +kernel
theorem dX8_behind_30 : decode cX8_behind 30 = .ok (.iconst 0, 1) := by decide +kernel
theorem dX8_behind_31 : decode cX8_behind 31 = .ok (.invokevirtual 265, 3) := by decide +kernel
theorem dX8_behind_34 : decode cX8_behind 34 = .ok (.aload_n 0, 1) := by decide +kernel
theorem dX8_behind_35 : decode cX8_behind 35 = .ok (.iconst 0, 1) := by decide +kernel
theorem dX8_behind_36 : decode cX8_behind 36 = .ok (.putfield 67, 3) := by decide +kernel
theorem dX8_behind_39 : decode cX8_behind 39 = .ok (.aload_n 0, 1) := by decide +kernel
theorem dX8_behind_40 : decode cX8_behind 40 = .ok (.getfield 52, 3) := by decide +kernel
theorem dX8_behind_43 : decode cX8_behind 43 = .ok (.getfield 388, 3) := by decide +kernel
theorem dX8_behind_46 : decode cX8_behind 46 = .ok (.iconst 1, 1) := by decide +kernel
theorem dX8_behind_47 : decode cX8_behind 47 = .ok (.iadd, 1) := by decide +kernel
theorem dX8_behind_48 : decode cX8_behind 48 = .ok (.istore_n 2, 1) := by decide +kernel
theorem dX8_behind_49 : decode cX8_behind 49 = .ok (.iload_n 2, 1) := by decide +kernel
theorem dX8_behind_50 : decode cX8_behind 50 = .ok (.iload_n 1, 1) := by decide +kernel
theorem dX8_behind_51 : decode cX8_behind 51 = .ok (.if_icmp .gt 21, 3) := by decide +kernel
theorem dX8_behind_54 : decode cX8_behind 54 = .ok (.aload_n 0, 1) := by decide +kernel
theorem dX8_behind_55 : decode cX8_behind 55 = .ok (.getfield 52, 3) := by decide +kernel
theorem dX8_behind_58 : decode cX8_behind 58 = .ok (.aload_n 0, 1) := by decide +kernel
theorem dX8_behind_59 : decode cX8_behind 59 = .ok (.getfield 24, 3) := by decide +kernel
theorem dX8_behind_62 : decode cX8_behind 62 = .ok (.iconst (-1), 1) := by decide +kernel
theorem dX8_behind_63 : decode cX8_behind 63 = .ok (.invokevirtual 282, 3) := by decide +kernel
theorem dX8_behind_66 : decode cX8_behind 66 = .ok (.iinc 2 1, 3) := by decide +kernel
theorem dX8_behind_69 : decode cX8_behind 69 = .ok (.goto (-20), 3) := by decide +kernel
theorem dX8_behind_72 : decode cX8_behind 72 = .ok (.aload_n 0, 1) := by decide +kernel
theorem dX8_behind_73 : decode cX8_behind 73 = .ok (.getfield 52, 3) := by decide +kernel
theorem dX8_behind_76 : decode cX8_behind 76 = .ok (.areturn, 1) := by decide +kernel
theorem dX8_seekCorks_0 : decode cX8_seekCorks 0 = .ok (.iconst 0, 1) := by decide +kernel
theorem dX8_seekCorks_1 : decode cX8_seekCorks 1 = .ok (.istore_n 2, 1) := by decide +kernel
theorem dX8_seekCorks_2 : decode cX8_seekCorks 2 = .ok (.iload_n 2, 1) := by decide +kernel
theorem dX8_seekCorks_3 : decode cX8_seekCorks 3 = .ok (.iconst 3, 1) := by decide +kernel
theorem dX8_seekCorks_4 : decode cX8_seekCorks 4 = .ok (.if_icmp .gt 50, 3) := by decide +kernel
theorem dX8_seekCorks_7 : decode cX8_seekCorks 7 = .ok (.sipush 255, 3) := by decide +kernel
theorem dX8_seekCorks_10 : decode cX8_seekCorks 10 = .ok (.istore_n 3, 1) := by decide +kernel
theorem dX8_seekCorks_11 : decode cX8_seekCorks 11 = .ok (.iload_n 3, 1) := by decide +kernel
theorem dX8_seekCorks_12 : decode cX8_seekCorks 12 = .ok (.ifCond .lt 36, 3) := by decide +kernel
theorem dX8_seekCorks_15 : decode cX8_seekCorks 15 = .ok (.iload_n 3, 1) := by decide +kernel
theorem dX8_seekCorks_16 : decode cX8_seekCorks 16 = .ok (.invokestatic 234, 3) := by decide +kernel
theorem dX8_seekCorks_19 : decode cX8_seekCorks 19 = .ok (.iload_n 2, 1) := by decide +kernel
theorem dX8_seekCorks_20 : decode cX8_seekCorks 20 = .ok (.if_icmp .ne 22, 3) := by decide +kernel
theorem dX8_seekCorks_23 : decode cX8_seekCorks 23 = .ok (.aload_n 0, 1) := by decide +kernel
theorem dX8_seekCorks_24 : decode cX8_seekCorks 24 = .ok (.iload_n 3, 1) := by decide +kernel
theorem dX8_seekCorks_25 : decode cX8_seekCorks 25 = .ok (.invokevirtual 390, 3) := by decide +kernel
theorem dX8_seekCorks_28 : decode cX8_seekCorks 28 = .ok (.ifCond .eq 14, 3) := by decide +kernel
theorem dX8_seekCorks_31 : decode cX8_seekCorks 31 = .ok (.aload_n 0, 1) := by decide +kernel
theorem dX8_seekCorks_32 : decode cX8_seekCorks 32 = .ok (.iload_n 3, 1) := by decide +kernel
theorem dX8_seekCorks_33 : decode cX8_seekCorks 33 = .ok (.iload_n 1, 1) := by decide +kernel
theorem dX8_seekCorks_34 : decode cX8_seekCorks 34 = .ok (.invokevirtual 393, 3) := by decide +kernel
theorem dX8_seekCorks_37 : decode cX8_seekCorks 37 = .ok (.ifCond .eq 5, 3) := by decide +kernel
theorem dX8_seekCorks_40 : decode cX8_seekCorks 40 = .ok (.iload_n 3, 1) := by decide +kernel
theorem dX8_seekCorks_41 : decode cX8_seekCorks 41 = .ok (.ireturn, 1) := by decide +kernel
theorem dX8_seekCorks_42 : decode cX8_seekCorks 42 = .ok (.iinc 3 (-1), 3) := by decide +kernel
theorem dX8_seekCorks_45 : decode cX8_seekCorks 45 = .ok (.goto (-34), 3) := by decide +kernel
theorem dX8_seekCorks_48 : decode cX8_seekCorks 48 = .ok (.iinc 2 1, 3) := by decide +kernel
theorem dX8_seekCorks_51 : decode cX8_seekCorks 51 = .ok (.goto (-49), 3) := by decide +kernel
theorem dX8_seekCorks_54 : decode cX8_seekCorks 54 = .ok (.iconst (-1), 1) := by decide +kernel
theorem dX8_seekCorks_55 : decode cX8_seekCorks 55 = .ok (.ireturn, 1) := by decide +kernel
theorem dX8_areBottles_0 : decode cX8_areBottles 0 = .ok (.iload_n 1, 1) := by decide +kernel
theorem dX8_areBottles_1 : decode cX8_areBottles 1 = .ok (.sipush 255, 3) := by decide +kernel
theorem dX8_areBottles_4 : decode cX8_areBottles 4 = .ok (.aload_n 0, 1) := by decide +kernel
theorem dX8_areBottles_5 : decode cX8_areBottles 5 = .ok (.getfield 24, 3) := by decide +kernel
theorem dX8_areBottles_8 : decode cX8_areBottles 8 = .ok (.getfield 112, 3) := by decide +kernel
theorem dX8_areBottles_11 : decode cX8_areBottles 11 = .ok (.getfield 242, 3) := by decide +kernel
theorem dX8_areBottles_14 : decode cX8_areBottles 14 = .ok (.ishr, 1) := by decide +kernel
theorem dX8_areBottles_15 : decode cX8_areBottles 15 = .ok (.iand, 1) := by decide +kernel
theorem dX8_areBottles_16 : decode cX8_areBottles 16 = .ok (.ifCond .ne 7, 3) := by decide +kernel
theorem dX8_areBottles_19 : decode cX8_areBottles 19 = .ok (.iconst 1, 1) := by decide +kernel
theorem dX8_areBottles_20 : decode cX8_areBottles 20 = .ok (.goto 4, 3) := by decide +kernel
theorem dX8_areBottles_23 : decode cX8_areBottles 23 = .ok (.iconst 0, 1) := by decide +kernel
theorem dX8_areBottles_24 : decode cX8_areBottles 24 = .ok (.ireturn, 1) := by decide +kernel
theorem dX8_isAmong_0 : decode cX8_isAmong 0 = .ok (.iload_n 0, 1) := by decide +kernel
theorem dX8_isAmong_1 : decode cX8_isAmong 1 = .ok (.bipush 7, 2) := by decide +kernel
theorem dX8_isAmong_3 : decode cX8_isAmong 3 = .ok (.iload_n 1, 1) := by decide +kernel
theorem dX8_isAmong_4 : decode cX8_isAmong 4 = .ok (.isub, 1) := by decide +kernel
theorem dX8_isAmong_5 : decode cX8_isAmong 5 = .ok (.ishr, 1) := by decide +kernel
theorem dX8_isAmong_6 : decode cX8_isAmong 6 = .ok (.iconst 1, 1) := by decide +kernel
theorem dX8_isAmong_7 : decode cX8_isAmong 7 = .ok (.iand, 1) := by decide +kernel
theorem dX8_isAmong_8 : decode cX8_isAmong 8 = .ok (.iconst 1, 1) := by decide +kernel
theorem dX8_isAmong_9 : decode cX8_isAmong 9 = .ok (.if_icmp .ne 7, 3) := by decide +kernel
theorem dX8_isAmong_12 : decode cX8_isAmong 12 = .ok (.iconst 1, 1) := by decide +kernel
theorem dX8_isAmong_13 : decode cX8_isAmong 13 = .ok (.goto 4, 3) := by decide +kernel
theorem dX8_isAmong_16 : decode cX8_isAmong 16 = .ok (.iconst 0, 1) := by decide +kernel
theorem dX8_isAmong_17 : decode cX8_isAmong 17 = .ok (.ireturn, 1) := by decide +kernel
theorem dX8_singsCorked_0 : decode cX8_singsCorked 0 = .ok (.aload_n 0, 1) := by decide +kernel
theorem dX8_singsCorked_1 : decode cX8_singsCorked 1 = .ok (.getfield 56, 3) := by decide +kernel
theorem dX8_singsCorked_4 : decode cX8_singsCorked 4 = .ok (.aload_n 0, 1) := by decide +kernel
theorem dX8_singsCorked_5 : decode cX8_singsCorked 5 = .ok (.getfield 24, 3) := by decide +kernel
theorem dX8_singsCorked_8 : decode cX8_singsCorked 8 = .ok (.getfield 112, 3) := by decide +kernel
theorem dX8_singsCorked_11 : decode cX8_singsCorked 11 = .ok (.iconst 0, 1) := by decide +kernel
theorem dX8_singsCorked_12 : decode cX8_singsCorked 12 = .ok (.iconst 0, 1) := by decide +kernel
theorem dX8_singsCorked_13 : decode cX8_singsCorked 13 = .ok (.invokevirtual 265, 3) := by decide +kernel
theorem dX8_singsCorked_16 : decode cX8_singsCorked 16 = .ok (.iconst 0, 1) := by decide +kernel
theorem dX8_singsCorked_17 : decode cX8_singsCorked 17 = .ok (.istore_n 3, 1) := by decide +kernel
theorem dX8_singsCorked_18 : decode cX8_singsCorked 18 = .ok (.iload_n 3, 1) := by decide +kernel
theorem dX8_singsCorked_19 : decode cX8_singsCorked 19 = .ok (.bipush 8, 2) := by decide +kernel
theorem dX8_singsCorked_21 : decode cX8_singsCorked 21 = .ok (.if_icmp .ge 28, 3) := by decide +kernel
theorem dX8_singsCorked_24 : decode cX8_singsCorked 24 = .ok (.iload_n 1, 1) := by decide +kernel
theorem dX8_singsCorked_25 : decode cX8_singsCorked 25 = .ok (.iload_n 3, 1) := by decide +kernel
theorem dX8_singsCorked_26 : decode cX8_singsCorked 26 = .ok (.invokestatic 396, 3) := by decide +kernel
theorem dX8_singsCorked_29 : decode cX8_singsCorked 29 = .ok (.ifCond .eq 14, 3) := by decide +kernel
theorem dX8_singsCorked_32 : decode cX8_singsCorked 32 = .ok (.aload_n 0, 1) := by decide +kernel
theorem dX8_singsCorked_33 : decode cX8_singsCorked 33 = .ok (.getfield 56, 3) := by decide +kernel
theorem dX8_singsCorked_36 : decode cX8_singsCorked 36 = .ok (.getfield 399, 3) := by decide +kernel
theorem dX8_singsCorked_39 : decode cX8_singsCorked 39 = .ok (.iload_n 3, 1) := by decide +kernel
theorem dX8_singsCorked_40 : decode cX8_singsCorked 40 = .ok (.bipush 9, 2) := by decide +kernel
theorem dX8_singsCorked_42 : decode cX8_singsCorked 42 = .ok (.iastore, 1) := by decide +kernel
theorem dX8_singsCorked_43 : decode cX8_singsCorked 43 = .ok (.iinc 3 1, 3) := by decide +kernel
theorem dX8_singsCorked_46 : decode cX8_singsCorked 46 = .ok (.goto (-28), 3) := by decide +kernel
theorem dX8_singsCorked_49 : decode cX8_singsCorked 49 = .ok (.iconst 0, 1) := by decide +kernel
theorem dX8_singsCorked_50 : decode cX8_singsCorked 50 = .ok (.istore_n 3, 1) := by decide +kernel
theorem dX8_singsCorked_51 : decode cX8_singsCorked 51 = .ok (.iload_n 3, 1) := by decide +kernel
theorem dX8_singsCorked_52 : decode cX8_singsCorked 52 = .ok (.iload_n 2, 1) := by decide +kernel
theorem dX8_singsCorked_53 : decode cX8_singsCorked 53 = .ok (.if_icmp .gt 21, 3) := by decide +kernel
theorem dX8_singsCorked_56 : decode cX8_singsCorked 56 = .ok (.aload_n 0, 1) := by decide +kernel
theorem dX8_singsCorked_57 : decode cX8_singsCorked 57 = .ok (.getfield 56, 3) := by decide +kernel
theorem dX8_singsCorked_60 : decode cX8_singsCorked 60 = .ok (.aload_n 0, 1) := by decide +kernel
theorem dX8_singsCorked_61 : decode cX8_singsCorked 61 = .ok (.getfield 24, 3) := by decide +kernel
theorem dX8_singsCorked_64 : decode cX8_singsCorked 64 = .ok (.iconst (-1), 1) := by decide +kernel
theorem dX8_singsCorked_65 : decode cX8_singsCorked 65 = .ok (.invokevirtual 282, 3) := by decide +kernel
theorem dX8_singsCorked_68 : decode cX8_singsCorked 68 = .ok (.iinc 3 1, 3) := by decide +kernel
theorem dX8_singsCorked_71 : decode cX8_singsCorked 71 = .ok (.goto (-20), 3) := by decide +kernel
theorem dX8_singsCorked_74 : decode cX8_singsCorked 74 = .ok (.aload_n 0, 1) := by decide +kernel
theorem dX8_singsCorked_75 : decode cX8_singsCorked 75 = .ok (.getfield 31, 3) := by decide +kernel
theorem dX8_singsCorked_78 : decode cX8_singsCorked 78 = .ok (.aload_n 0, 1) := by decide +kernel
theorem dX8_singsCorked_79 : decode cX8_singsCorked 79 = .ok (.getfield 56, 3) := by decide +kernel
theorem dX8_singsCorked_82 : decode cX8_singsCorked 82 = .ok (.invokevirtual 400, 3) := by decide +kernel
theorem dX8_singsCorked_85 : decode cX8_singsCorked 85 = .ok (.aload_n 0, 1) := by decide +kernel
theorem dX8_singsCorked_86 : decode cX8_singsCorked 86 = .ok (.getfield 31, 3) := by decide +kernel
theorem dX8_singsCorked_89 : decode cX8_singsCorked 89 = .ok (.getfield 225, 3) := by decide +kernel
theorem dX8_singsCorked_92 : decode cX8_singsCorked 92 = .ok (.iconst (-1), 1) := by decide +kernel
theorem dX8_singsCorked_93 : decode cX8_singsCorked 93 = .ok (.if_icmp .eq 7, 3) := by decide +kernel
theorem dX8_singsCorked_96 : decode cX8_singsCorked 96 = .ok (.iconst 1, 1) := by decide +kernel
theorem dX8_singsCorked_97 : decode cX8_singsCorked 97 = .ok (.goto 4, 3) := by decide +kernel
theorem dX8_singsCorked_100 : decode cX8_singsCorked 100 = .ok (.iconst 0, 1) := by decide +kernel
theorem dX8_singsCorked_101 : decode cX8_singsCorked 101 = .ok (.ireturn, 1) := by decide +kernel
theorem dX8_corkedAt_0 : decode cX8_corkedAt 0 = .ok (.iconst 0, 1) := by decide +kernel
theorem dX8_corkedAt_1 : decode cX8_corkedAt 1 = .ok (.istore_n 2, 1) := by decide +kernel
theorem dX8_corkedAt_2 : decode cX8_corkedAt 2 = .ok (.iconst 0, 1) := by decide +kernel
theorem dX8_corkedAt_3 : decode cX8_corkedAt 3 = .ok (.istore_n 3, 1) := by decide +kernel
theorem dX8_corkedAt_4 : decode cX8_corkedAt 4 = .ok (.iload_n 3, 1) := by decide +kernel
theorem dX8_corkedAt_5 : decode cX8_corkedAt 5 = .ok (.bipush 8, 2) := by decide +kernel
theorem dX8_corkedAt_7 : decode cX8_corkedAt 7 = .ok (.if_icmp .ge 46, 3) := by decide +kernel
theorem dX8_corkedAt_10 : decode cX8_corkedAt 10 = .ok (.aload_n 0, 1) := by decide +kernel
theorem dX8_corkedAt_11 : decode cX8_corkedAt 11 = .ok (.getfield 75, 3) := by decide +kernel
theorem dX8_corkedAt_14 : decode cX8_corkedAt 14 = .ok (.iload_n 3, 1) := by decide +kernel
theorem dX8_corkedAt_15 : decode cX8_corkedAt 15 = .ok (.invokestatic 396, 3) := by decide +kernel
theorem dX8_corkedAt_18 : decode cX8_corkedAt 18 = .ok (.ifCond .eq 10, 3) := by decide +kernel
theorem dX8_corkedAt_21 : decode cX8_corkedAt 21 = .ok (.iload_n 2, 1) := by decide +kernel
theorem dX8_corkedAt_22 : decode cX8_corkedAt 22 = .ok (.iload_n 1, 1) := by decide +kernel
theorem dX8_corkedAt_23 : decode cX8_corkedAt 23 = .ok (.if_icmp .ne 5, 3) := by decide +kernel
theorem dX8_corkedAt_26 : decode cX8_corkedAt 26 = .ok (.iload_n 3, 1) := by decide +kernel
theorem dX8_corkedAt_27 : decode cX8_corkedAt 27 = .ok (.ireturn, 1) := by decide +kernel
theorem dX8_corkedAt_28 : decode cX8_corkedAt 28 = .ok (.iload_n 2, 1) := by decide +kernel
theorem dX8_corkedAt_29 : decode cX8_corkedAt 29 = .ok (.aload_n 0, 1) := by decide +kernel
theorem dX8_corkedAt_30 : decode cX8_corkedAt 30 = .ok (.getfield 75, 3) := by decide +kernel
theorem dX8_corkedAt_33 : decode cX8_corkedAt 33 = .ok (.iload_n 3, 1) := by decide +kernel
theorem dX8_corkedAt_34 : decode cX8_corkedAt 34 = .ok (.invokestatic 396, 3) := by decide +kernel
theorem dX8_corkedAt_37 : decode cX8_corkedAt 37 = .ok (.ifCond .eq 7, 3) := by decide +kernel
theorem dX8_corkedAt_40 : decode cX8_corkedAt 40 = .ok (.iconst 1, 1) := by decide +kernel
theorem dX8_corkedAt_41 : decode cX8_corkedAt 41 = .ok (.goto 4, 3) := by decide +kernel
theorem dX8_corkedAt_44 : decode cX8_corkedAt 44 = .ok (.iconst 0, 1) := by decide +kernel
theorem dX8_corkedAt_45 : decode cX8_corkedAt 45 = .ok (.iadd, 1) := by decide +kernel
theorem dX8_corkedAt_46 : decode cX8_corkedAt 46 = .ok (.istore_n 2, 1) := by decide +kernel
theorem dX8_corkedAt_47 : decode cX8_corkedAt 47 = .ok (.iinc 3 1, 3) := by decide +kernel
theorem dX8_corkedAt_50 : decode cX8_corkedAt 50 = .ok (.goto (-46), 3) := by decide +kernel
theorem dX8_corkedAt_53 : decode cX8_corkedAt 53 = .ok (.iconst (-1), 1) := by decide +kernel
theorem dX8_corkedAt_54 : decode cX8_corkedAt 54 = .ok (.ireturn, 1) := by decide +kernel
theorem dX8_comesOut_0 : decode cX8_comesOut 0 = .ok (.aload_n 0, 1) := by decide +kernel
theorem dX8_comesOut_1 : decode cX8_comesOut 1 = .ok (.getfield 38, 3) := by decide +kernel
theorem dX8_comesOut_4 : decode cX8_comesOut 4 = .ok (.invokevirtual 403, 3) := by decide +kernel
theorem dX8_comesOut_7 : decode cX8_comesOut 7 = .ok (.istore 4, 2) := by decide +kernel
theorem dX8_comesOut_9 : decode cX8_comesOut 9 = .ok (.aload_n 0, 1) := by decide +kernel
theorem dX8_comesOut_10 : decode cX8_comesOut 10 = .ok (.getfield 56, 3) := by decide +kernel
theorem dX8_comesOut_13 : decode cX8_comesOut 13 = .ok (.aload_n 0, 1) := by decide +kernel
theorem dX8_comesOut_14 : decode cX8_comesOut 14 = .ok (.getfield 24, 3) := by decide +kernel
theorem dX8_comesOut_17 : decode cX8_comesOut 17 = .ok (.getfield 112, 3) := by decide +kernel
theorem dX8_comesOut_20 : decode cX8_comesOut 20 = .ok (.iload_n 2, 1) := by decide +kernel
theorem dX8_comesOut_21 : decode cX8_comesOut 21 = .ok (.iload_n 3, 1) := by decide +kernel
theorem dX8_comesOut_22 : decode cX8_comesOut 22 = .ok (.invokevirtual 265, 3) := by decide +kernel
theorem dX8_comesOut_25 : decode cX8_comesOut 25 = .ok (.iconst 0, 1) := by decide +kernel
theorem dX8_comesOut_26 : decode cX8_comesOut 26 = .ok (.istore 5, 2) := by decide +kernel
theorem dX8_comesOut_28 : decode cX8_comesOut 28 = .ok (.iload 5, 2) := by decide +kernel
theorem dX8_comesOut_30 : decode cX8_comesOut 30 = .ok (.iload 4, 2) := by decide +kernel
theorem dX8_comesOut_32 : decode cX8_comesOut 32 = .ok (.if_icmp .gt 37, 3) := by decide +kernel
theorem dX8_comesOut_35 : decode cX8_comesOut 35 = .ok (.aload_n 0, 1) := by decide +kernel
theorem dX8_comesOut_36 : decode cX8_comesOut 36 = .ok (.getfield 56, 3) := by decide +kernel
theorem dX8_comesOut_39 : decode cX8_comesOut 39 = .ok (.aload_n 0, 1) := by decide +kernel
theorem dX8_comesOut_40 : decode cX8_comesOut 40 = .ok (.getfield 24, 3) := by decide +kernel
theorem dX8_comesOut_43 : decode cX8_comesOut 43 = .ok (.iload_n 1, 1) := by decide +kernel
theorem dX8_comesOut_44 : decode cX8_comesOut 44 = .ok (.invokevirtual 282, 3) := by decide +kernel
theorem dX8_comesOut_47 : decode cX8_comesOut 47 = .ok (.aload_n 0, 1) := by decide +kernel
theorem dX8_comesOut_48 : decode cX8_comesOut 48 = .ok (.getfield 38, 3) := by decide +kernel
theorem dX8_comesOut_51 : decode cX8_comesOut 51 = .ok (.aload_n 0, 1) := by decide +kernel
theorem dX8_comesOut_52 : decode cX8_comesOut 52 = .ok (.getfield 56, 3) := by decide +kernel
theorem dX8_comesOut_55 : decode cX8_comesOut 55 = .ok (.invokevirtual 406, 3) := by decide +kernel
theorem dX8_comesOut_58 : decode cX8_comesOut 58 = .ok (.ifCond .ne 5, 3) := by decide +kernel
theorem dX8_comesOut_61 : decode cX8_comesOut 61 = .ok (.iconst 0, 1) := by decide +kernel
theorem dX8_comesOut_62 : decode cX8_comesOut 62 = .ok (.ireturn, 1) := by decide +kernel
theorem dX8_comesOut_63 : decode cX8_comesOut 63 = .ok (.iinc 5 1, 3) := by decide +kernel
theorem dX8_comesOut_66 : decode cX8_comesOut 66 = .ok (.goto (-38), 3) := by decide +kernel
theorem dX8_comesOut_69 : decode cX8_comesOut 69 = .ok (.iconst 1, 1) := by decide +kernel
theorem dX8_comesOut_70 : decode cX8_comesOut 70 = .ok (.ireturn, 1) := by decide +kernel
theorem dX8_holdWithoutEach_0 : decode cX8_holdWithoutEach 0 = .ok (.iconst 0, 1) := by decide +kernel
theorem dX8_holdWithoutEach_1 : decode cX8_holdWithoutEach 1 = .ok (.istore_n 3, 1) := by decide +kernel
theorem dX8_holdWithoutEach_2 : decode cX8_holdWithoutEach 2 = .ok (.iload_n 3, 1) := by decide +kernel
theorem dX8_holdWithoutEach_3 : decode cX8_holdWithoutEach 3 = .ok (.aload_n 0, 1) := by decide +kernel
theorem dX8_holdWithoutEach_4 : decode cX8_holdWithoutEach 4 = .ok (.getfield 24, 3) := by decide +kernel
theorem dX8_holdWithoutEach_7 : decode cX8_holdWithoutEach 7 = .ok (.getfield 150, 3) := by decide +kernel
theorem dX8_holdWithoutEach_10 : decode cX8_holdWithoutEach 10 = .ok (.getfield 154, 3) := by decide +kernel
theorem dX8_holdWithoutEach_13 : decode cX8_holdWithoutEach 13 = .ok (.if_icmp .ge 108, 3) := by decide +kernel
theorem dX8_holdWithoutEach_16 : decode cX8_holdWithoutEach 16 = .ok (.iload_n 1, 1) := by decide +kernel
theorem dX8_holdWithoutEach_17 : decode cX8_holdWithoutEach 17 = .ok (.iload_n 3, 1) := by decide +kernel
theorem dX8_holdWithoutEach_18 : decode cX8_holdWithoutEach 18 = .ok (.ishr, 1) := by decide +kernel
theorem dX8_holdWithoutEach_19 : decode cX8_holdWithoutEach 19 = .ok (.iconst 1, 1) := by decide +kernel
theorem dX8_holdWithoutEach_20 : decode cX8_holdWithoutEach 20 = .ok (.iand, 1) := by decide +kernel
theorem dX8_holdWithoutEach_21 : decode cX8_holdWithoutEach 21 = .ok (.ifCond .ne 6, 3) := by decide +kernel
theorem dX8_holdWithoutEach_24 : decode cX8_holdWithoutEach 24 = .ok (.goto 91, 3) := by decide +kernel
theorem dX8_holdWithoutEach_27 : decode cX8_holdWithoutEach 27 = .ok (.aload_n 0, 1) := by decide +kernel
theorem dX8_holdWithoutEach_28 : decode cX8_holdWithoutEach 28 = .ok (.getfield 56, 3) := by decide +kernel
theorem dX8_holdWithoutEach_31 : decode cX8_holdWithoutEach 31 = .ok (.aload_n 0, 1) := by decide +kernel
theorem dX8_holdWithoutEach_32 : decode cX8_holdWithoutEach 32 = .ok (.getfield 24, 3) := by decide +kernel
theorem dX8_holdWithoutEach_35 : decode cX8_holdWithoutEach 35 = .ok (.getfield 112, 3) := by decide +kernel
theorem dX8_holdWithoutEach_38 : decode cX8_holdWithoutEach 38 = .ok (.iconst 0, 1) := by decide +kernel
theorem dX8_holdWithoutEach_39 : decode cX8_holdWithoutEach 39 = .ok (.iconst 0, 1) := by decide +kernel
theorem dX8_holdWithoutEach_40 : decode cX8_holdWithoutEach 40 = .ok (.invokevirtual 265, 3) := by decide +kernel
theorem dX8_holdWithoutEach_43 : decode cX8_holdWithoutEach 43 = .ok (.iconst 0, 1) := by decide +kernel
theorem dX8_holdWithoutEach_44 : decode cX8_holdWithoutEach 44 = .ok (.istore 4, 2) := by decide +kernel
theorem dX8_holdWithoutEach_46 : decode cX8_holdWithoutEach 46 = .ok (.iload 4, 2) := by decide +kernel
theorem dX8_holdWithoutEach_48 : decode cX8_holdWithoutEach 48 = .ok (.iload_n 2, 1) := by decide +kernel
theorem dX8_holdWithoutEach_49 : decode cX8_holdWithoutEach 49 = .ok (.if_icmp .gt 21, 3) := by decide +kernel
theorem dX8_holdWithoutEach_52 : decode cX8_holdWithoutEach 52 = .ok (.aload_n 0, 1) := by decide +kernel
theorem dX8_holdWithoutEach_53 : decode cX8_holdWithoutEach 53 = .ok (.getfield 56, 3) := by decide +kernel
theorem dX8_holdWithoutEach_56 : decode cX8_holdWithoutEach 56 = .ok (.aload_n 0, 1) := by decide +kernel
theorem dX8_holdWithoutEach_57 : decode cX8_holdWithoutEach 57 = .ok (.getfield 24, 3) := by decide +kernel
theorem dX8_holdWithoutEach_60 : decode cX8_holdWithoutEach 60 = .ok (.iload_n 3, 1) := by decide +kernel
theorem dX8_holdWithoutEach_61 : decode cX8_holdWithoutEach 61 = .ok (.invokevirtual 282, 3) := by decide +kernel
theorem dX8_holdWithoutEach_64 : decode cX8_holdWithoutEach 64 = .ok (.iinc 4 1, 3) := by decide +kernel
theorem dX8_holdWithoutEach_67 : decode cX8_holdWithoutEach 67 = .ok (.goto (-21), 3) := by decide +kernel
theorem dX8_holdWithoutEach_70 : decode cX8_holdWithoutEach 70 = .ok (.iconst 0, 1) := by decide +kernel
theorem dX8_holdWithoutEach_71 : decode cX8_holdWithoutEach 71 = .ok (.istore 4, 2) := by decide +kernel
theorem dX8_holdWithoutEach_73 : decode cX8_holdWithoutEach 73 = .ok (.iload 4, 2) := by decide +kernel
theorem dX8_holdWithoutEach_75 : decode cX8_holdWithoutEach 75 = .ok (.aload_n 0, 1) := by decide +kernel
theorem dX8_holdWithoutEach_76 : decode cX8_holdWithoutEach 76 = .ok (.getfield 24, 3) := by decide +kernel
theorem dX8_holdWithoutEach_79 : decode cX8_holdWithoutEach 79 = .ok (.getfield 112, 3) := by decide +kernel
theorem dX8_holdWithoutEach_82 : decode cX8_holdWithoutEach 82 = .ok (.getfield 242, 3) := by decide +kernel
theorem dX8_holdWithoutEach_85 : decode cX8_holdWithoutEach 85 = .ok (.if_icmp .ge 30, 3) := by decide +kernel
theorem dX8_holdWithoutEach_88 : decode cX8_holdWithoutEach 88 = .ok (.aload_n 0, 1) := by decide +kernel
theorem dX8_holdWithoutEach_89 : decode cX8_holdWithoutEach 89 = .ok (.getfield 63, 3) := by decide +kernel
theorem dX8_holdWithoutEach_92 : decode cX8_holdWithoutEach 92 = .ok (.bipush 8, 2) := by decide +kernel
theorem dX8_holdWithoutEach_94 : decode cX8_holdWithoutEach 94 = .ok (.iload_n 3, 1) := by decide +kernel
theorem dX8_holdWithoutEach_95 : decode cX8_holdWithoutEach 95 = .ok (.imul, 1) := by decide +kernel
theorem dX8_holdWithoutEach_96 : decode cX8_holdWithoutEach 96 = .ok (.iload 4, 2) := by decide +kernel
theorem dX8_holdWithoutEach_98 : decode cX8_holdWithoutEach 98 = .ok (.iadd, 1) := by decide +kernel
theorem dX8_holdWithoutEach_99 : decode cX8_holdWithoutEach 99 = .ok (.aload_n 0, 1) := by decide +kernel
theorem dX8_holdWithoutEach_100 : decode cX8_holdWithoutEach 100 = .ok (.getfield 56, 3) := by decide +kernel
theorem dX8_holdWithoutEach_103 : decode cX8_holdWithoutEach 103 = .ok (.iload 4, 2) := by decide +kernel
theorem dX8_holdWithoutEach_105 : decode cX8_holdWithoutEach 105 = .ok (.invokevirtual 190, 3) := by decide +kernel
theorem dX8_holdWithoutEach_108 : decode cX8_holdWithoutEach 108 = .ok (.iastore, 1) := by decide +kernel
theorem dX8_holdWithoutEach_109 : decode cX8_holdWithoutEach 109 = .ok (.iinc 4 1, 3) := by decide +kernel
theorem dX8_holdWithoutEach_112 : decode cX8_holdWithoutEach 112 = .ok (.goto (-39), 3) := by decide +kernel
theorem dX8_holdWithoutEach_115 : decode cX8_holdWithoutEach 115 = .ok (.iinc 3 1, 3) := by decide +kernel
theorem dX8_holdWithoutEach_118 : decode cX8_holdWithoutEach 118 = .ok (.goto (-116), 3) := by decide +kernel
theorem dX8_holdWithoutEach_121 : decode cX8_holdWithoutEach 121 = .ok (.return_, 1) := by decide +kernel
theorem dX8_mostAlike_0 : decode cX8_mostAlike 0 = .ok (.iconst 0, 1) := by decide +kernel
theorem dX8_mostAlike_1 : decode cX8_mostAlike 1 = .ok (.istore_n 3, 1) := by decide +kernel
theorem dX8_mostAlike_2 : decode cX8_mostAlike 2 = .ok (.iconst 0, 1) := by decide +kernel
theorem dX8_mostAlike_3 : decode cX8_mostAlike 3 = .ok (.istore 4, 2) := by decide +kernel
theorem dX8_mostAlike_5 : decode cX8_mostAlike 5 = .ok (.iload 4, 2) := by decide +kernel
theorem dX8_mostAlike_7 : decode cX8_mostAlike 7 = .ok (.bipush 16, 2) := by decide +kernel
theorem dX8_mostAlike_9 : decode cX8_mostAlike 9 = .ok (.if_icmp .ge 92, 3) := by decide +kernel
theorem dX8_mostAlike_12 : decode cX8_mostAlike 12 = .ok (.iconst 0, 1) := by decide +kernel
theorem dX8_mostAlike_13 : decode cX8_mostAlike 13 = .ok (.istore 5, 2) := by decide +kernel
theorem dX8_mostAlike_15 : decode cX8_mostAlike 15 = .ok (.iconst 0, 1) := by decide +kernel
theorem dX8_mostAlike_16 : decode cX8_mostAlike 16 = .ok (.istore 6, 2) := by decide +kernel
theorem dX8_mostAlike_18 : decode cX8_mostAlike 18 = .ok (.iload 6, 2) := by decide +kernel
theorem dX8_mostAlike_20 : decode cX8_mostAlike 20 = .ok (.bipush 16, 2) := by decide +kernel
theorem dX8_mostAlike_22 : decode cX8_mostAlike 22 = .ok (.if_icmp .ge 66, 3) := by decide +kernel
theorem dX8_mostAlike_25 : decode cX8_mostAlike 25 = .ok (.iload_n 1, 1) := by decide +kernel
theorem dX8_mostAlike_26 : decode cX8_mostAlike 26 = .ok (.iload 4, 2) := by decide +kernel
theorem dX8_mostAlike_28 : decode cX8_mostAlike 28 = .ok (.ishr, 1) := by decide +kernel
theorem dX8_mostAlike_29 : decode cX8_mostAlike 29 = .ok (.iload_n 1, 1) := by decide +kernel
theorem dX8_mostAlike_30 : decode cX8_mostAlike 30 = .ok (.iload 6, 2) := by decide +kernel
theorem dX8_mostAlike_32 : decode cX8_mostAlike 32 = .ok (.ishr, 1) := by decide +kernel
theorem dX8_mostAlike_33 : decode cX8_mostAlike 33 = .ok (.iand, 1) := by decide +kernel
theorem dX8_mostAlike_34 : decode cX8_mostAlike 34 = .ok (.iconst 1, 1) := by decide +kernel
theorem dX8_mostAlike_35 : decode cX8_mostAlike 35 = .ok (.iand, 1) := by decide +kernel
theorem dX8_mostAlike_36 : decode cX8_mostAlike 36 = .ok (.iconst 1, 1) := by decide +kernel
theorem dX8_mostAlike_37 : decode cX8_mostAlike 37 = .ok (.if_icmp .ne 7, 3) := by decide +kernel
theorem dX8_mostAlike_40 : decode cX8_mostAlike 40 = .ok (.iconst 1, 1) := by decide +kernel
theorem dX8_mostAlike_41 : decode cX8_mostAlike 41 = .ok (.goto 4, 3) := by decide +kernel
theorem dX8_mostAlike_44 : decode cX8_mostAlike 44 = .ok (.iconst 0, 1) := by decide +kernel
theorem dX8_mostAlike_45 : decode cX8_mostAlike 45 = .ok (.istore 7, 2) := by decide +kernel
theorem dX8_mostAlike_47 : decode cX8_mostAlike 47 = .ok (.iload 7, 2) := by decide +kernel
theorem dX8_mostAlike_49 : decode cX8_mostAlike 49 = .ok (.ifCond .eq 33, 3) := by decide +kernel
theorem dX8_mostAlike_52 : decode cX8_mostAlike 52 = .ok (.aload_n 0, 1) := by decide +kernel
theorem dX8_mostAlike_53 : decode cX8_mostAlike 53 = .ok (.getfield 63, 3) := by decide +kernel
theorem dX8_mostAlike_56 : decode cX8_mostAlike 56 = .ok (.bipush 8, 2) := by decide +kernel
theorem dX8_mostAlike_58 : decode cX8_mostAlike 58 = .ok (.iload 4, 2) := by decide +kernel
theorem dX8_mostAlike_60 : decode cX8_mostAlike 60 = .ok (.imul, 1) := by decide +kernel
theorem dX8_mostAlike_61 : decode cX8_mostAlike 61 = .ok (.iload_n 2, 1) := by decide +kernel
theorem dX8_mostAlike_62 : decode cX8_mostAlike 62 = .ok (.iadd, 1) := by decide +kernel
theorem dX8_mostAlike_63 : decode cX8_mostAlike 63 = .ok (.iaload, 1) := by decide +kernel
theorem dX8_mostAlike_64 : decode cX8_mostAlike 64 = .ok (.aload_n 0, 1) := by decide +kernel
theorem dX8_mostAlike_65 : decode cX8_mostAlike 65 = .ok (.getfield 63, 3) := by decide +kernel
theorem dX8_mostAlike_68 : decode cX8_mostAlike 68 = .ok (.bipush 8, 2) := by decide +kernel
theorem dX8_mostAlike_70 : decode cX8_mostAlike 70 = .ok (.iload 6, 2) := by decide +kernel
theorem dX8_mostAlike_72 : decode cX8_mostAlike 72 = .ok (.imul, 1) := by decide +kernel
theorem dX8_mostAlike_73 : decode cX8_mostAlike 73 = .ok (.iload_n 2, 1) := by decide +kernel
theorem dX8_mostAlike_74 : decode cX8_mostAlike 74 = .ok (.iadd, 1) := by decide +kernel
theorem dX8_mostAlike_75 : decode cX8_mostAlike 75 = .ok (.iaload, 1) := by decide +kernel
theorem dX8_mostAlike_76 : decode cX8_mostAlike 76 = .ok (.if_icmp .ne 6, 3) := by decide +kernel
theorem dX8_mostAlike_79 : decode cX8_mostAlike 79 = .ok (.iinc 5 1, 3) := by decide +kernel
theorem dX8_mostAlike_82 : decode cX8_mostAlike 82 = .ok (.iinc 6 1, 3) := by decide +kernel
theorem dX8_mostAlike_85 : decode cX8_mostAlike 85 = .ok (.goto (-67), 3) := by decide +kernel
theorem dX8_mostAlike_88 : decode cX8_mostAlike 88 = .ok (.iload_n 3, 1) := by decide +kernel
theorem dX8_mostAlike_89 : decode cX8_mostAlike 89 = .ok (.iload 5, 2) := by decide +kernel
theorem dX8_mostAlike_91 : decode cX8_mostAlike 91 = .ok (.invokestatic 410, 3) := by decide +kernel
theorem dX8_mostAlike_94 : decode cX8_mostAlike 94 = .ok (.istore_n 3, 1) := by decide +kernel
theorem dX8_mostAlike_95 : decode cX8_mostAlike 95 = .ok (.iinc 4 1, 3) := by decide +kernel
theorem dX8_mostAlike_98 : decode cX8_mostAlike 98 = .ok (.goto (-93), 3) := by decide +kernel
theorem dX8_mostAlike_101 : decode cX8_mostAlike 101 = .ok (.iload_n 3, 1) := by decide +kernel
theorem dX8_mostAlike_102 : decode cX8_mostAlike 102 = .ok (.ireturn, 1) := by decide +kernel
theorem dX8_wholeWays_0 : decode cX8_wholeWays 0 = .ok (.iload_n 2, 1) := by decide +kernel
theorem dX8_wholeWays_1 : decode cX8_wholeWays 1 = .ok (.aload_n 0, 1) := by decide +kernel
theorem dX8_wholeWays_2 : decode cX8_wholeWays 2 = .ok (.arraylength, 1) := by decide +kernel
theorem dX8_wholeWays_3 : decode cX8_wholeWays 3 = .ok (.invokestatic 81, 3) := by decide +kernel
theorem dX8_wholeWays_6 : decode cX8_wholeWays 6 = .ok (.ifCond .eq 14, 3) := by decide +kernel
theorem dX8_wholeWays_9 : decode cX8_wholeWays 9 = .ok (.aload_n 0, 1) := by decide +kernel
theorem dX8_wholeWays_10 : decode cX8_wholeWays 10 = .ok (.iload_n 2, 1) := by decide +kernel
theorem dX8_wholeWays_11 : decode cX8_wholeWays 11 = .ok (.aaload, 1) := by decide +kernel
theorem dX8_wholeWays_12 : decode cX8_wholeWays 12 = .ok (.iload 5, 2) := by decide +kernel
theorem dX8_wholeWays_14 : decode cX8_wholeWays 14 = .ok (.invokevirtual 200, 3) := by decide +kernel
theorem dX8_wholeWays_17 : decode cX8_wholeWays 17 = .ok (.ifCond .ne 5, 3) := by decide +kernel
theorem dX8_wholeWays_20 : decode cX8_wholeWays 20 = .ok (.lconst 0, 1) := by decide +kernel
theorem dX8_wholeWays_21 : decode cX8_wholeWays 21 = .ok (.lreturn, 1) := by decide +kernel
theorem dX8_wholeWays_22 : decode cX8_wholeWays 22 = .ok (.iload_n 2, 1) := by decide +kernel
theorem dX8_wholeWays_23 : decode cX8_wholeWays 23 = .ok (.iload_n 3, 1) := by decide +kernel
theorem dX8_wholeWays_24 : decode cX8_wholeWays 24 = .ok (.if_icmp .gt 11, 3) := by decide +kernel
theorem dX8_wholeWays_27 : decode cX8_wholeWays 27 = .ok (.iload_n 2, 1) := by decide +kernel
theorem dX8_wholeWays_28 : decode cX8_wholeWays 28 = .ok (.iconst 1, 1) := by decide +kernel
theorem dX8_wholeWays_29 : decode cX8_wholeWays 29 = .ok (.iadd, 1) := by decide +kernel
theorem dX8_wholeWays_30 : decode cX8_wholeWays 30 = .ok (.aload_n 0, 1) := by decide +kernel
theorem dX8_wholeWays_31 : decode cX8_wholeWays 31 = .ok (.arraylength, 1) := by decide +kernel
theorem dX8_wholeWays_32 : decode cX8_wholeWays 32 = .ok (.if_icmp .lt 5, 3) := by decide +kernel
theorem dX8_wholeWays_35 : decode cX8_wholeWays 35 = .ok (.lconst 1, 1) := by decide +kernel
theorem dX8_wholeWays_36 : decode cX8_wholeWays 36 = .ok (.lreturn, 1) := by decide +kernel
theorem dX8_wholeWays_37 : decode cX8_wholeWays 37 = .ok (.aload_n 0, 1) := by decide +kernel
theorem dX8_wholeWays_38 : decode cX8_wholeWays 38 = .ok (.iload_n 2, 1) := by decide +kernel
theorem dX8_wholeWays_39 : decode cX8_wholeWays 39 = .ok (.iconst 1, 1) := by decide +kernel
theorem dX8_wholeWays_40 : decode cX8_wholeWays 40 = .ok (.iadd, 1) := by decide +kernel
theorem dX8_wholeWays_41 : decode cX8_wholeWays 41 = .ok (.aaload, 1) := by decide +kernel
theorem dX8_wholeWays_42 : decode cX8_wholeWays 42 = .ok (.astore 6, 2) := by decide +kernel
theorem dX8_wholeWays_44 : decode cX8_wholeWays 44 = .ok (.aload 6, 2) := by decide +kernel
theorem dX8_wholeWays_46 : decode cX8_wholeWays 46 = .ok (.aload_n 0, 1) := by decide +kernel
theorem dX8_wholeWays_47 : decode cX8_wholeWays 47 = .ok (.iload_n 2, 1) := by decide +kernel
theorem dX8_wholeWays_48 : decode cX8_wholeWays 48 = .ok (.aaload, 1) := by decide +kernel
theorem dX8_wholeWays_49 : decode cX8_wholeWays 49 = .ok (.invokevirtual 413, 3) := by decide +kernel
theorem dX8_wholeWays_52 : decode cX8_wholeWays 52 = .ok (.aload 6, 2) := by decide +kernel
theorem dX8_wholeWays_54 : decode cX8_wholeWays 54 = .ok (.aload_n 1, 1) := by decide +kernel
theorem dX8_wholeWays_55 : decode cX8_wholeWays 55 = .ok (.getfield 150, 3) := by decide +kernel
theorem dX8_wholeWays_58 : decode cX8_wholeWays 58 = .ok (.iconst (-1), 1) := by decide +kernel
theorem dX8_wholeWays_59 : decode cX8_wholeWays 59 = .ok (.invokevirtual 416, 3) := by decide +kernel
theorem dX8_wholeWays_62 : decode cX8_wholeWays 62 = .ok (.aload 6, 2) := by decide +kernel
theorem dX8_wholeWays_64 : decode cX8_wholeWays 64 = .ok (.aload_n 1, 1) := by decide +kernel
theorem dX8_wholeWays_65 : decode cX8_wholeWays 65 = .ok (.getfield 134, 3) := by decide +kernel
theorem dX8_wholeWays_68 : decode cX8_wholeWays 68 = .ok (.invokevirtual 420, 3) := by decide +kernel
theorem dX8_wholeWays_71 : decode cX8_wholeWays 71 = .ok (.istore 7, 2) := by decide +kernel
theorem dX8_wholeWays_73 : decode cX8_wholeWays 73 = .ok (.iload 7, 2) := by decide +kernel
theorem dX8_wholeWays_75 : decode cX8_wholeWays 75 = .ok (.ifCond .ne 21, 3) := by decide +kernel
theorem dX8_wholeWays_78 : decode cX8_wholeWays 78 = .ok (.ldc2_w 423, 3) := by decide +kernel
theorem dX8_wholeWays_81 : decode cX8_wholeWays 81 = .ok (.aload_n 0, 1) := by decide +kernel
theorem dX8_wholeWays_82 : decode cX8_wholeWays 82 = .ok (.aload_n 1, 1) := by decide +kernel
theorem dX8_wholeWays_83 : decode cX8_wholeWays 83 = .ok (.iload_n 2, 1) := by decide +kernel
theorem dX8_wholeWays_84 : decode cX8_wholeWays 84 = .ok (.iconst 1, 1) := by decide +kernel
theorem dX8_wholeWays_85 : decode cX8_wholeWays 85 = .ok (.iadd, 1) := by decide +kernel
theorem dX8_wholeWays_86 : decode cX8_wholeWays 86 = .ok (.iload_n 3, 1) := by decide +kernel
theorem dX8_wholeWays_87 : decode cX8_wholeWays 87 = .ok (.iload 4, 2) := by decide +kernel
theorem dX8_wholeWays_89 : decode cX8_wholeWays 89 = .ok (.iload 5, 2) := by decide +kernel
theorem dX8_wholeWays_91 : decode cX8_wholeWays 91 = .ok (.invokestatic 269, 3) := by decide +kernel
theorem dX8_wholeWays_94 : decode cX8_wholeWays 94 = .ok (.lmul, 1) := by decide +kernel
theorem dX8_wholeWays_95 : decode cX8_wholeWays 95 = .ok (.lreturn, 1) := by decide +kernel
theorem dX8_wholeWays_96 : decode cX8_wholeWays 96 = .ok (.bipush 16, 2) := by decide +kernel
theorem dX8_wholeWays_98 : decode cX8_wholeWays 98 = .ok (.iload 4, 2) := by decide +kernel
theorem dX8_wholeWays_100 : decode cX8_wholeWays 100 = .ok (.isub, 1) := by decide +kernel
theorem dX8_wholeWays_101 : decode cX8_wholeWays 101 = .ok (.i2l, 1) := by decide +kernel
theorem dX8_wholeWays_102 : decode cX8_wholeWays 102 = .ok (.aload_n 0, 1) := by decide +kernel
theorem dX8_wholeWays_103 : decode cX8_wholeWays 103 = .ok (.aload_n 1, 1) := by decide +kernel
theorem dX8_wholeWays_104 : decode cX8_wholeWays 104 = .ok (.iload_n 2, 1) := by decide +kernel
theorem dX8_wholeWays_105 : decode cX8_wholeWays 105 = .ok (.iconst 1, 1) := by decide +kernel
theorem dX8_wholeWays_106 : decode cX8_wholeWays 106 = .ok (.iadd, 1) := by decide +kernel
theorem dX8_wholeWays_107 : decode cX8_wholeWays 107 = .ok (.iload_n 3, 1) := by decide +kernel
theorem dX8_wholeWays_108 : decode cX8_wholeWays 108 = .ok (.iload 4, 2) := by decide +kernel
theorem dX8_wholeWays_110 : decode cX8_wholeWays 110 = .ok (.iload 5, 2) := by decide +kernel
theorem dX8_wholeWays_112 : decode cX8_wholeWays 112 = .ok (.invokestatic 269, 3) := by decide +kernel
theorem dX8_wholeWays_115 : decode cX8_wholeWays 115 = .ok (.lmul, 1) := by decide +kernel
theorem dX8_wholeWays_116 : decode cX8_wholeWays 116 = .ok (.lstore 8, 2) := by decide +kernel
theorem dX8_wholeWays_118 : decode cX8_wholeWays 118 = .ok (.aload 6, 2) := by decide +kernel
theorem dX8_wholeWays_120 : decode cX8_wholeWays 120 = .ok (.iload 7, 2) := by decide +kernel
theorem dX8_wholeWays_122 : decode cX8_wholeWays 122 = .ok (.invokevirtual 425, 3) := by decide +kernel
theorem dX8_wholeWays_125 : decode cX8_wholeWays 125 = .ok (.lload 8, 2) := by decide +kernel
theorem dX8_wholeWays_127 : decode cX8_wholeWays 127 = .ok (.iload 4, 2) := by decide +kernel
theorem dX8_wholeWays_129 : decode cX8_wholeWays 129 = .ok (.i2l, 1) := by decide +kernel
theorem dX8_wholeWays_130 : decode cX8_wholeWays 130 = .ok (.aload_n 0, 1) := by decide +kernel
theorem dX8_wholeWays_131 : decode cX8_wholeWays 131 = .ok (.aload_n 1, 1) := by decide +kernel
theorem dX8_wholeWays_132 : decode cX8_wholeWays 132 = .ok (.iload_n 2, 1) := by decide +kernel
theorem dX8_wholeWays_133 : decode cX8_wholeWays 133 = .ok (.iconst 1, 1) := by decide +kernel
theorem dX8_wholeWays_134 : decode cX8_wholeWays 134 = .ok (.iadd, 1) := by decide +kernel
theorem dX8_wholeWays_135 : decode cX8_wholeWays 135 = .ok (.iload_n 3, 1) := by decide +kernel
theorem dX8_wholeWays_136 : decode cX8_wholeWays 136 = .ok (.iload 4, 2) := by decide +kernel
theorem dX8_wholeWays_138 : decode cX8_wholeWays 138 = .ok (.iload 5, 2) := by decide +kernel
theorem dX8_wholeWays_140 : decode cX8_wholeWays 140 = .ok (.invokestatic 269, 3) := by decide +kernel
theorem dX8_wholeWays_143 : decode cX8_wholeWays 143 = .ok (.lmul, 1) := by decide +kernel
theorem dX8_wholeWays_144 : decode cX8_wholeWays 144 = .ok (.ladd, 1) := by decide +kernel
theorem dX8_wholeWays_145 : decode cX8_wholeWays 145 = .ok (.lreturn, 1) := by decide +kernel
theorem dX8_nextSeed_0 : decode cX8_nextSeed 0 = .ok (.ldc_w 428, 3) := by decide +kernel
theorem dX8_nextSeed_3 : decode cX8_nextSeed 3 = .ok (.iload_n 0, 1) := by decide +kernel
theorem dX8_nextSeed_4 : decode cX8_nextSeed 4 = .ok (.imul, 1) := by decide +kernel
theorem dX8_nextSeed_5 : decode cX8_nextSeed 5 = .ok (.sipush 12345, 3) := by decide +kernel
theorem dX8_nextSeed_8 : decode cX8_nextSeed 8 = .ok (.iadd, 1) := by decide +kernel
theorem dX8_nextSeed_9 : decode cX8_nextSeed 9 = .ok (.ireturn, 1) := by decide +kernel
