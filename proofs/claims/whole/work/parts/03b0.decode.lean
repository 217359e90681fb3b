theorem md_T_init_0 : decode mc_T_init 0 = .ok (.aload_n 0, 1) := by decide +kernel
theorem md_T_init_1 : decode mc_T_init 1 = .ok (.invokespecial 1, 3) := by decide +kernel
theorem md_T_init_4 : decode mc_T_init 4 = .ok (.aload_n 0, 1) := by decide +kernel
theorem md_T_init_5 : decode mc_T_init 5 = .ok (.bipush 101, 2) := by decide +kernel
theorem md_T_init_7 : decode mc_T_init 7 = .ok (.anewarray 9, 3) := by decide +kernel
theorem md_T_init_10 : decode mc_T_init 10 = .ok (.putfield 11, 3) := by decide +kernel
theorem md_T_init_13 : decode mc_T_init 13 = .ok (.aload_n 0, 1) := by decide +kernel
theorem md_T_init_14 : decode mc_T_init 14 = .ok (.bipush 33, 2) := by decide +kernel
theorem md_T_init_16 : decode mc_T_init 16 = .ok (.anewarray 15, 3) := by decide +kernel
theorem md_T_init_19 : decode mc_T_init 19 = .ok (.putfield 17, 3) := by decide +kernel
theorem md_T_init_22 : decode mc_T_init 22 = .ok (.aload_n 0, 1) := by decide +kernel
theorem md_T_init_23 : decode mc_T_init 23 = .ok (.bipush 17, 2) := by decide +kernel
theorem md_T_init_25 : decode mc_T_init 25 = .ok (.anewarray 21, 3) := by decide +kernel
theorem md_T_init_28 : decode mc_T_init 28 = .ok (.putfield 23, 3) := by decide +kernel
theorem md_T_init_31 : decode mc_T_init 31 = .ok (.aload_n 0, 1) := by decide +kernel
theorem md_T_init_32 : decode mc_T_init 32 = .ok (.new 27, 3) := by decide +kernel
theorem md_T_init_35 : decode mc_T_init 35 = .ok (.dup, 1) := by decide +kernel
theorem md_T_init_36 : decode mc_T_init 36 = .ok (.invokespecial 29, 3) := by decide +kernel
theorem md_T_init_39 : decode mc_T_init 39 = .ok (.putfield 30, 3) := by decide +kernel
theorem md_T_init_42 : decode mc_T_init 42 = .ok (.aload_n 0, 1) := by decide +kernel
theorem md_T_init_43 : decode mc_T_init 43 = .ok (.new 34, 3) := by decide +kernel
theorem md_T_init_46 : decode mc_T_init 46 = .ok (.dup, 1) := by decide +kernel
theorem md_T_init_47 : decode mc_T_init 47 = .ok (.sipush 1000, 3) := by decide +kernel
theorem md_T_init_50 : decode mc_T_init 50 = .ok (.invokespecial 36, 3) := by decide +kernel
theorem md_T_init_53 : decode mc_T_init 53 = .ok (.putfield 39, 3) := by decide +kernel
theorem md_T_init_56 : decode mc_T_init 56 = .ok (.iload_n 1, 1) := by decide +kernel
theorem md_T_init_57 : decode mc_T_init 57 = .ok (.iconst 1, 1) := by decide +kernel
theorem md_T_init_58 : decode mc_T_init 58 = .ok (.if_icmp .lt 9, 3) := by decide +kernel
theorem md_T_init_61 : decode mc_T_init 61 = .ok (.iload_n 1, 1) := by decide +kernel
theorem md_T_init_62 : decode mc_T_init 62 = .ok (.bipush 8, 2) := by decide +kernel
theorem md_T_init_64 : decode mc_T_init 64 = .ok (.if_icmp .le 7, 3) := by decide +kernel
theorem md_T_init_67 : decode mc_T_init 67 = .ok (.iconst 1, 1) := by decide +kernel
theorem md_T_init_68 : decode mc_T_init 68 = .ok (.goto 4, 3) := by decide +kernel
theorem md_T_init_71 : decode mc_T_init 71 = .ok (.iload_n 1, 1) := by decide +kernel
theorem md_T_init_72 : decode mc_T_init 72 = .ok (.istore_n 2, 1) := by decide +kernel
theorem md_T_init_73 : decode mc_T_init 73 = .ok (.aload_n 0, 1) := by decide +kernel
theorem md_T_init_74 : decode mc_T_init 74 = .ok (.iload_n 2, 1) := by decide +kernel
theorem md_T_init_75 : decode mc_T_init 75 = .ok (.anewarray 43, 3) := by decide +kernel
theorem md_T_init_78 : decode mc_T_init 78 = .ok (.putfield 45, 3) := by decide +kernel
theorem md_T_init_81 : decode mc_T_init 81 = .ok (.iconst 0, 1) := by decide +kernel
theorem md_T_init_82 : decode mc_T_init 82 = .ok (.istore_n 3, 1) := by decide +kernel
theorem md_T_init_83 : decode mc_T_init 83 = .ok (.iload_n 3, 1) := by decide +kernel
theorem md_T_init_84 : decode mc_T_init 84 = .ok (.iload_n 2, 1) := by decide +kernel
theorem md_T_init_85 : decode mc_T_init 85 = .ok (.if_icmp .ge 23, 3) := by decide +kernel
theorem md_T_init_88 : decode mc_T_init 88 = .ok (.aload_n 0, 1) := by decide +kernel
theorem md_T_init_89 : decode mc_T_init 89 = .ok (.getfield 45, 3) := by decide +kernel
theorem md_T_init_92 : decode mc_T_init 92 = .ok (.iload_n 3, 1) := by decide +kernel
theorem md_T_init_93 : decode mc_T_init 93 = .ok (.new 43, 3) := by decide +kernel
theorem md_T_init_96 : decode mc_T_init 96 = .ok (.dup, 1) := by decide +kernel
theorem md_T_init_97 : decode mc_T_init 97 = .ok (.iload_n 3, 1) := by decide +kernel
theorem md_T_init_98 : decode mc_T_init 98 = .ok (.invokespecial 49, 3) := by decide +kernel
theorem md_T_init_101 : decode mc_T_init 101 = .ok (.aastore, 1) := by decide +kernel
theorem md_T_init_102 : decode mc_T_init 102 = .ok (.iinc 3 1, 3) := by decide +kernel
theorem md_T_init_105 : decode mc_T_init 105 = .ok (.goto (-22), 3) := by decide +kernel
theorem md_T_init_108 : decode mc_T_init 108 = .ok (.iconst 0, 1) := by decide +kernel
theorem md_T_init_109 : decode mc_T_init 109 = .ok (.istore_n 3, 1) := by decide +kernel
theorem md_T_init_110 : decode mc_T_init 110 = .ok (.iload_n 3, 1) := by decide +kernel
theorem md_T_init_111 : decode mc_T_init 111 = .ok (.aload_n 0, 1) := by decide +kernel
theorem md_T_init_112 : decode mc_T_init 112 = .ok (.getfield 17, 3) := by decide +kernel
theorem md_T_init_115 : decode mc_T_init 115 = .ok (.arraylength, 1) := by decide +kernel
theorem md_T_init_116 : decode mc_T_init 116 = .ok (.if_icmp .ge 22, 3) := by decide +kernel
theorem md_T_init_119 : decode mc_T_init 119 = .ok (.aload_n 0, 1) := by decide +kernel
theorem md_T_init_120 : decode mc_T_init 120 = .ok (.getfield 17, 3) := by decide +kernel
theorem md_T_init_123 : decode mc_T_init 123 = .ok (.iload_n 3, 1) := by decide +kernel
theorem md_T_init_124 : decode mc_T_init 124 = .ok (.new 15, 3) := by decide +kernel
theorem md_T_init_127 : decode mc_T_init 127 = .ok (.dup, 1) := by decide +kernel
theorem md_T_init_128 : decode mc_T_init 128 = .ok (.invokespecial 50, 3) := by decide +kernel
theorem md_T_init_131 : decode mc_T_init 131 = .ok (.aastore, 1) := by decide +kernel
theorem md_T_init_132 : decode mc_T_init 132 = .ok (.iinc 3 1, 3) := by decide +kernel
theorem md_T_init_135 : decode mc_T_init 135 = .ok (.goto (-25), 3) := by decide +kernel
theorem md_T_init_138 : decode mc_T_init 138 = .ok (.iconst 0, 1) := by decide +kernel
theorem md_T_init_139 : decode mc_T_init 139 = .ok (.istore_n 3, 1) := by decide +kernel
theorem md_T_init_140 : decode mc_T_init 140 = .ok (.iload_n 3, 1) := by decide +kernel
theorem md_T_init_141 : decode mc_T_init 141 = .ok (.aload_n 0, 1) := by decide +kernel
theorem md_T_init_142 : decode mc_T_init 142 = .ok (.getfield 23, 3) := by decide +kernel
theorem md_T_init_145 : decode mc_T_init 145 = .ok (.arraylength, 1) := by decide +kernel
theorem md_T_init_146 : decode mc_T_init 146 = .ok (.if_icmp .ge 22, 3) := by decide +kernel
theorem md_T_init_149 : decode mc_T_init 149 = .ok (.aload_n 0, 1) := by decide +kernel
theorem md_T_init_150 : decode mc_T_init 150 = .ok (.getfield 23, 3) := by decide +kernel
theorem md_T_init_153 : decode mc_T_init 153 = .ok (.iload_n 3, 1) := by decide +kernel
theorem md_T_init_154 : decode mc_T_init 154 = .ok (.new 21, 3) := by decide +kernel
theorem md_T_init_157 : decode mc_T_init 157 = .ok (.dup, 1) := by decide +kernel
theorem md_T_init_158 : decode mc_T_init 158 = .ok (.invokespecial 51, 3) := by decide +kernel
theorem md_T_init_161 : decode mc_T_init 161 = .ok (.aastore, 1) := by decide +kernel
theorem md_T_init_162 : decode mc_T_init 162 = .ok (.iinc 3 1, 3) := by decide +kernel
theorem md_T_init_165 : decode mc_T_init 165 = .ok (.goto (-25), 3) := by decide +kernel
theorem md_T_init_168 : decode mc_T_init 168 = .ok (.aload_n 0, 1) := by decide +kernel
theorem md_T_init_169 : decode mc_T_init 169 = .ok (.new 34, 3) := by decide +kernel
theorem md_T_init_172 : decode mc_T_init 172 = .ok (.dup, 1) := by decide +kernel
theorem md_T_init_173 : decode mc_T_init 173 = .ok (.ldc 52, 2) := by decide +kernel
theorem md_T_init_175 : decode mc_T_init 175 = .ok (.iload_n 2, 1) := by decide +kernel
theorem md_T_init_176 : decode mc_T_init 176 = .ok (.imul, 1) := by decide +kernel
theorem md_T_init_177 : decode mc_T_init 177 = .ok (.invokespecial 36, 3) := by decide +kernel
theorem md_T_init_180 : decode mc_T_init 180 = .ok (.putfield 53, 3) := by decide +kernel
theorem md_T_init_183 : decode mc_T_init 183 = .ok (.return_, 1) := by decide +kernel
theorem md_T_task_0 : decode mc_T_task 0 = .ok (.aload_n 0, 1) := by decide +kernel
theorem md_T_task_1 : decode mc_T_task 1 = .ok (.iload_n 2, 1) := by decide +kernel
theorem md_T_task_2 : decode mc_T_task 2 = .ok (.invokevirtual 56, 3) := by decide +kernel
theorem md_T_task_5 : decode mc_T_task 5 = .ok (.astore 5, 2) := by decide +kernel
theorem md_T_task_7 : decode mc_T_task 7 = .ok (.aload 5, 2) := by decide +kernel
theorem md_T_task_9 : decode mc_T_task 9 = .ok (.ifnonnull 5, 3) := by decide +kernel
theorem md_T_task_12 : decode mc_T_task 12 = .ok (.iconst (-1), 1) := by decide +kernel
theorem md_T_task_13 : decode mc_T_task 13 = .ok (.ireturn, 1) := by decide +kernel
theorem md_T_task_14 : decode mc_T_task 14 = .ok (.iload 4, 2) := by decide +kernel
theorem md_T_task_16 : decode mc_T_task 16 = .ok (.ifCond .eq 7, 3) := by decide +kernel
theorem md_T_task_19 : decode mc_T_task 19 = .ok (.iconst 1, 1) := by decide +kernel
theorem md_T_task_20 : decode mc_T_task 20 = .ok (.goto 5, 3) := by decide +kernel
theorem md_T_task_23 : decode mc_T_task 23 = .ok (.bipush 100, 2) := by decide +kernel
theorem md_T_task_25 : decode mc_T_task 25 = .ok (.istore 6, 2) := by decide +kernel
theorem md_T_task_27 : decode mc_T_task 27 = .ok (.iload_n 1, 1) := by decide +kernel
theorem md_T_task_28 : decode mc_T_task 28 = .ok (.ifCond .lt 21, 3) := by decide +kernel
theorem md_T_task_31 : decode mc_T_task 31 = .ok (.iload_n 1, 1) := by decide +kernel
theorem md_T_task_32 : decode mc_T_task 32 = .ok (.sipush 255, 3) := by decide +kernel
theorem md_T_task_35 : decode mc_T_task 35 = .ok (.if_icmp .gt 14, 3) := by decide +kernel
theorem md_T_task_38 : decode mc_T_task 38 = .ok (.iload_n 3, 1) := by decide +kernel
theorem md_T_task_39 : decode mc_T_task 39 = .ok (.iconst 1, 1) := by decide +kernel
theorem md_T_task_40 : decode mc_T_task 40 = .ok (.if_icmp .lt 9, 3) := by decide +kernel
theorem md_T_task_43 : decode mc_T_task 43 = .ok (.iload_n 3, 1) := by decide +kernel
theorem md_T_task_44 : decode mc_T_task 44 = .ok (.iload 6, 2) := by decide +kernel
theorem md_T_task_46 : decode mc_T_task 46 = .ok (.if_icmp .le 6, 3) := by decide +kernel
theorem md_T_task_49 : decode mc_T_task 49 = .ok (.bipush (-2), 2) := by decide +kernel
theorem md_T_task_51 : decode mc_T_task 51 = .ok (.ireturn, 1) := by decide +kernel
theorem md_T_task_52 : decode mc_T_task 52 = .ok (.aload_n 0, 1) := by decide +kernel
theorem md_T_task_53 : decode mc_T_task 53 = .ok (.getfield 60, 3) := by decide +kernel
theorem md_T_task_56 : decode mc_T_task 56 = .ok (.ifCond .le 6, 3) := by decide +kernel
theorem md_T_task_59 : decode mc_T_task 59 = .ok (.bipush (-3), 2) := by decide +kernel
theorem md_T_task_61 : decode mc_T_task 61 = .ok (.ireturn, 1) := by decide +kernel
theorem md_T_task_62 : decode mc_T_task 62 = .ok (.aload_n 0, 1) := by decide +kernel
theorem md_T_task_63 : decode mc_T_task 63 = .ok (.getfield 64, 3) := by decide +kernel
theorem md_T_task_66 : decode mc_T_task 66 = .ok (.bipush 100, 2) := by decide +kernel
theorem md_T_task_68 : decode mc_T_task 68 = .ok (.if_icmp .lt 6, 3) := by decide +kernel
theorem md_T_task_71 : decode mc_T_task 71 = .ok (.bipush (-4), 2) := by decide +kernel
theorem md_T_task_73 : decode mc_T_task 73 = .ok (.ireturn, 1) := by decide +kernel
theorem md_T_task_74 : decode mc_T_task 74 = .ok (.aload_n 0, 1) := by decide +kernel
theorem md_T_task_75 : decode mc_T_task 75 = .ok (.dup, 1) := by decide +kernel
theorem md_T_task_76 : decode mc_T_task 76 = .ok (.getfield 64, 3) := by decide +kernel
theorem md_T_task_79 : decode mc_T_task 79 = .ok (.iconst 1, 1) := by decide +kernel
theorem md_T_task_80 : decode mc_T_task 80 = .ok (.iadd, 1) := by decide +kernel
theorem md_T_task_81 : decode mc_T_task 81 = .ok (.putfield 64, 3) := by decide +kernel
theorem md_T_task_84 : decode mc_T_task 84 = .ok (.new 9, 3) := by decide +kernel
theorem md_T_task_87 : decode mc_T_task 87 = .ok (.dup, 1) := by decide +kernel
theorem md_T_task_88 : decode mc_T_task 88 = .ok (.aload_n 0, 1) := by decide +kernel
theorem md_T_task_89 : decode mc_T_task 89 = .ok (.getfield 64, 3) := by decide +kernel
theorem md_T_task_92 : decode mc_T_task 92 = .ok (.iload_n 1, 1) := by decide +kernel
theorem md_T_task_93 : decode mc_T_task 93 = .ok (.aload 5, 2) := by decide +kernel
theorem md_T_task_95 : decode mc_T_task 95 = .ok (.iload_n 3, 1) := by decide +kernel
theorem md_T_task_96 : decode mc_T_task 96 = .ok (.iload 4, 2) := by decide +kernel
theorem md_T_task_98 : decode mc_T_task 98 = .ok (.invokespecial 67, 3) := by decide +kernel
theorem md_T_task_101 : decode mc_T_task 101 = .ok (.astore 7, 2) := by decide +kernel
theorem md_T_task_103 : decode mc_T_task 103 = .ok (.aload_n 0, 1) := by decide +kernel
theorem md_T_task_104 : decode mc_T_task 104 = .ok (.getfield 11, 3) := by decide +kernel
theorem md_T_task_107 : decode mc_T_task 107 = .ok (.aload_n 0, 1) := by decide +kernel
theorem md_T_task_108 : decode mc_T_task 108 = .ok (.getfield 64, 3) := by decide +kernel
theorem md_T_task_111 : decode mc_T_task 111 = .ok (.aload 7, 2) := by decide +kernel
theorem md_T_task_113 : decode mc_T_task 113 = .ok (.aastore, 1) := by decide +kernel
theorem md_T_task_114 : decode mc_T_task 114 = .ok (.aload 5, 2) := by decide +kernel
theorem md_T_task_116 : decode mc_T_task 116 = .ok (.aload 7, 2) := by decide +kernel
theorem md_T_task_118 : decode mc_T_task 118 = .ok (.invokevirtual 70, 3) := by decide +kernel
theorem md_T_task_121 : decode mc_T_task 121 = .ok (.aload_n 0, 1) := by decide +kernel
theorem md_T_task_122 : decode mc_T_task 122 = .ok (.getfield 64, 3) := by decide +kernel
theorem md_T_task_125 : decode mc_T_task 125 = .ok (.ireturn, 1) := by decide +kernel
theorem md_T_part_0 : decode mc_T_part 0 = .ok (.aload_n 0, 1) := by decide +kernel
theorem md_T_part_1 : decode mc_T_part 1 = .ok (.iload_n 1, 1) := by decide +kernel
theorem md_T_part_2 : decode mc_T_part 2 = .ok (.invokevirtual 74, 3) := by decide +kernel
theorem md_T_part_5 : decode mc_T_part 5 = .ok (.astore 5, 2) := by decide +kernel
theorem md_T_part_7 : decode mc_T_part 7 = .ok (.aload 5, 2) := by decide +kernel
theorem md_T_part_9 : decode mc_T_part 9 = .ok (.ifnonnull 5, 3) := by decide +kernel
theorem md_T_part_12 : decode mc_T_part 12 = .ok (.iconst (-1), 1) := by decide +kernel
theorem md_T_part_13 : decode mc_T_part 13 = .ok (.ireturn, 1) := by decide +kernel
theorem md_T_part_14 : decode mc_T_part 14 = .ok (.iload_n 2, 1) := by decide +kernel
theorem md_T_part_15 : decode mc_T_part 15 = .ok (.lload_n 3, 1) := by decide +kernel
theorem md_T_part_16 : decode mc_T_part 16 = .ok (.invokestatic 78, 3) := by decide +kernel
theorem md_T_part_19 : decode mc_T_part 19 = .ok (.ifCond .ne 6, 3) := by decide +kernel
theorem md_T_part_22 : decode mc_T_part 22 = .ok (.bipush (-2), 2) := by decide +kernel
theorem md_T_part_24 : decode mc_T_part 24 = .ok (.ireturn, 1) := by decide +kernel
theorem md_T_part_25 : decode mc_T_part 25 = .ok (.aload_n 0, 1) := by decide +kernel
theorem md_T_part_26 : decode mc_T_part 26 = .ok (.getfield 60, 3) := by decide +kernel
theorem md_T_part_29 : decode mc_T_part 29 = .ok (.ifCond .le 6, 3) := by decide +kernel
theorem md_T_part_32 : decode mc_T_part 32 = .ok (.bipush (-3), 2) := by decide +kernel
theorem md_T_part_34 : decode mc_T_part 34 = .ok (.ireturn, 1) := by decide +kernel
theorem md_T_part_35 : decode mc_T_part 35 = .ok (.aload_n 0, 1) := by decide +kernel
theorem md_T_part_36 : decode mc_T_part 36 = .ok (.getfield 82, 3) := by decide +kernel
theorem md_T_part_39 : decode mc_T_part 39 = .ok (.sipush 500, 3) := by decide +kernel
theorem md_T_part_42 : decode mc_T_part 42 = .ok (.if_icmp .lt 6, 3) := by decide +kernel
theorem md_T_part_45 : decode mc_T_part 45 = .ok (.bipush (-4), 2) := by decide +kernel
theorem md_T_part_47 : decode mc_T_part 47 = .ok (.ireturn, 1) := by decide +kernel
theorem md_T_part_48 : decode mc_T_part 48 = .ok (.aload_n 0, 1) := by decide +kernel
theorem md_T_part_49 : decode mc_T_part 49 = .ok (.dup, 1) := by decide +kernel
theorem md_T_part_50 : decode mc_T_part 50 = .ok (.getfield 82, 3) := by decide +kernel
theorem md_T_part_53 : decode mc_T_part 53 = .ok (.iconst 1, 1) := by decide +kernel
theorem md_T_part_54 : decode mc_T_part 54 = .ok (.iadd, 1) := by decide +kernel
theorem md_T_part_55 : decode mc_T_part 55 = .ok (.putfield 82, 3) := by decide +kernel
theorem md_T_part_58 : decode mc_T_part 58 = .ok (.lload_n 3, 1) := by decide +kernel
theorem md_T_part_59 : decode mc_T_part 59 = .ok (.l2i, 1) := by decide +kernel
theorem md_T_part_60 : decode mc_T_part 60 = .ok (.istore 6, 2) := by decide +kernel
theorem md_T_part_62 : decode mc_T_part 62 = .ok (.iload_n 2, 1) := by decide +kernel
theorem md_T_part_63 : decode mc_T_part 63 = .ok (.bipush 6, 2) := by decide +kernel
theorem md_T_part_65 : decode mc_T_part 65 = .ok (.if_icmp .ne 34, 3) := by decide +kernel
theorem md_T_part_68 : decode mc_T_part 68 = .ok (.aload_n 0, 1) := by decide +kernel
theorem md_T_part_69 : decode mc_T_part 69 = .ok (.iload 6, 2) := by decide +kernel
theorem md_T_part_71 : decode mc_T_part 71 = .ok (.invokevirtual 85, 3) := by decide +kernel
theorem md_T_part_74 : decode mc_T_part 74 = .ok (.astore 7, 2) := by decide +kernel
theorem md_T_part_76 : decode mc_T_part 76 = .ok (.aload 7, 2) := by decide +kernel
theorem md_T_part_78 : decode mc_T_part 78 = .ok (.ifnull 21, 3) := by decide +kernel
theorem md_T_part_81 : decode mc_T_part 81 = .ok (.aload 7, 2) := by decide +kernel
theorem md_T_part_83 : decode mc_T_part 83 = .ok (.aload 7, 2) := by decide +kernel
theorem md_T_part_85 : decode mc_T_part 85 = .ok (.getfield 89, 3) := by decide +kernel
theorem md_T_part_88 : decode mc_T_part 88 = .ok (.aload 5, 2) := by decide +kernel
theorem md_T_part_90 : decode mc_T_part 90 = .ok (.getfield 92, 3) := by decide +kernel
theorem md_T_part_93 : decode mc_T_part 93 = .ok (.invokestatic 95, 3) := by decide +kernel
theorem md_T_part_96 : decode mc_T_part 96 = .ok (.putfield 89, 3) := by decide +kernel
theorem md_T_part_99 : decode mc_T_part 99 = .ok (.aload 5, 2) := by decide +kernel
theorem md_T_part_101 : decode mc_T_part 101 = .ok (.new 101, 3) := by decide +kernel
theorem md_T_part_104 : decode mc_T_part 104 = .ok (.dup, 1) := by decide +kernel
theorem md_T_part_105 : decode mc_T_part 105 = .ok (.iload_n 2, 1) := by decide +kernel
theorem md_T_part_106 : decode mc_T_part 106 = .ok (.iload 6, 2) := by decide +kernel
theorem md_T_part_108 : decode mc_T_part 108 = .ok (.invokespecial 103, 3) := by decide +kernel
theorem md_T_part_111 : decode mc_T_part 111 = .ok (.invokevirtual 106, 3) := by decide +kernel
theorem md_T_part_114 : decode mc_T_part 114 = .ok (.ireturn, 1) := by decide +kernel
theorem md_T_manner_0 : decode mc_T_manner 0 = .ok (.aload_n 0, 1) := by decide +kernel
theorem md_T_manner_1 : decode mc_T_manner 1 = .ok (.iload_n 1, 1) := by decide +kernel
theorem md_T_manner_2 : decode mc_T_manner 2 = .ok (.invokevirtual 74, 3) := by decide +kernel
theorem md_T_manner_5 : decode mc_T_manner 5 = .ok (.astore_n 3, 1) := by decide +kernel
theorem md_T_manner_6 : decode mc_T_manner 6 = .ok (.aload_n 3, 1) := by decide +kernel
theorem md_T_manner_7 : decode mc_T_manner 7 = .ok (.ifnonnull 5, 3) := by decide +kernel
theorem md_T_manner_10 : decode mc_T_manner 10 = .ok (.iconst (-1), 1) := by decide +kernel
theorem md_T_manner_11 : decode mc_T_manner 11 = .ok (.ireturn, 1) := by decide +kernel
theorem md_T_manner_12 : decode mc_T_manner 12 = .ok (.aload_n 0, 1) := by decide +kernel
theorem md_T_manner_13 : decode mc_T_manner 13 = .ok (.getfield 60, 3) := by decide +kernel
theorem md_T_manner_16 : decode mc_T_manner 16 = .ok (.ifCond .le 6, 3) := by decide +kernel
theorem md_T_manner_19 : decode mc_T_manner 19 = .ok (.bipush (-3), 2) := by decide +kernel
theorem md_T_manner_21 : decode mc_T_manner 21 = .ok (.ireturn, 1) := by decide +kernel
theorem md_T_manner_22 : decode mc_T_manner 22 = .ok (.aload_n 3, 1) := by decide +kernel
theorem md_T_manner_23 : decode mc_T_manner 23 = .ok (.iload_n 2, 1) := by decide +kernel
theorem md_T_manner_24 : decode mc_T_manner 24 = .ok (.putfield 110, 3) := by decide +kernel
theorem md_T_manner_27 : decode mc_T_manner 27 = .ok (.iconst 1, 1) := by decide +kernel
theorem md_T_manner_28 : decode mc_T_manner 28 = .ok (.ireturn, 1) := by decide +kernel
theorem md_T_activate_0 : decode mc_T_activate 0 = .ok (.aload_n 0, 1) := by decide +kernel
theorem md_T_activate_1 : decode mc_T_activate 1 = .ok (.iload_n 1, 1) := by decide +kernel
theorem md_T_activate_2 : decode mc_T_activate 2 = .ok (.invokevirtual 74, 3) := by decide +kernel
theorem md_T_activate_5 : decode mc_T_activate 5 = .ok (.astore 4, 2) := by decide +kernel
theorem md_T_activate_7 : decode mc_T_activate 7 = .ok (.aload 4, 2) := by decide +kernel
theorem md_T_activate_9 : decode mc_T_activate 9 = .ok (.ifnonnull 5, 3) := by decide +kernel
theorem md_T_activate_12 : decode mc_T_activate 12 = .ok (.iconst (-1), 1) := by decide +kernel
theorem md_T_activate_13 : decode mc_T_activate 13 = .ok (.ireturn, 1) := by decide +kernel
theorem md_T_activate_14 : decode mc_T_activate 14 = .ok (.aload_n 0, 1) := by decide +kernel
theorem md_T_activate_15 : decode mc_T_activate 15 = .ok (.lload_n 2, 1) := by decide +kernel
theorem md_T_activate_16 : decode mc_T_activate 16 = .ok (.invokevirtual 114, 3) := by decide +kernel
theorem md_T_activate_19 : decode mc_T_activate 19 = .ok (.ifCond .ne 6, 3) := by decide +kernel
theorem md_T_activate_22 : decode mc_T_activate 22 = .ok (.bipush (-2), 2) := by decide +kernel
theorem md_T_activate_24 : decode mc_T_activate 24 = .ok (.ireturn, 1) := by decide +kernel
theorem md_T_activate_25 : decode mc_T_activate 25 = .ok (.aload_n 0, 1) := by decide +kernel
theorem md_T_activate_26 : decode mc_T_activate 26 = .ok (.getfield 118, 3) := by decide +kernel
theorem md_T_activate_29 : decode mc_T_activate 29 = .ok (.sipush 500, 3) := by decide +kernel
theorem md_T_activate_32 : decode mc_T_activate 32 = .ok (.if_icmp .lt 6, 3) := by decide +kernel
theorem md_T_activate_35 : decode mc_T_activate 35 = .ok (.bipush (-4), 2) := by decide +kernel
theorem md_T_activate_37 : decode mc_T_activate 37 = .ok (.ireturn, 1) := by decide +kernel
theorem md_T_activate_38 : decode mc_T_activate 38 = .ok (.aload_n 0, 1) := by decide +kernel
theorem md_T_activate_39 : decode mc_T_activate 39 = .ok (.dup, 1) := by decide +kernel
theorem md_T_activate_40 : decode mc_T_activate 40 = .ok (.getfield 118, 3) := by decide +kernel
theorem md_T_activate_43 : decode mc_T_activate 43 = .ok (.iconst 1, 1) := by decide +kernel
theorem md_T_activate_44 : decode mc_T_activate 44 = .ok (.iadd, 1) := by decide +kernel
theorem md_T_activate_45 : decode mc_T_activate 45 = .ok (.putfield 118, 3) := by decide +kernel
theorem md_T_activate_48 : decode mc_T_activate 48 = .ok (.aload_n 0, 1) := by decide +kernel
theorem md_T_activate_49 : decode mc_T_activate 49 = .ok (.new 121, 3) := by decide +kernel
theorem md_T_activate_52 : decode mc_T_activate 52 = .ok (.dup, 1) := by decide +kernel
theorem md_T_activate_53 : decode mc_T_activate 53 = .ok (.aload 4, 2) := by decide +kernel
theorem md_T_activate_55 : decode mc_T_activate 55 = .ok (.lload_n 2, 1) := by decide +kernel
theorem md_T_activate_56 : decode mc_T_activate 56 = .ok (.l2i, 1) := by decide +kernel
theorem md_T_activate_57 : decode mc_T_activate 57 = .ok (.invokespecial 123, 3) := by decide +kernel
theorem md_T_activate_60 : decode mc_T_activate 60 = .ok (.invokevirtual 126, 3) := by decide +kernel
theorem md_T_activate_63 : decode mc_T_activate 63 = .ok (.iconst 1, 1) := by decide +kernel
theorem md_T_activate_64 : decode mc_T_activate 64 = .ok (.ireturn, 1) := by decide +kernel
theorem md_T_interrupt_0 : decode mc_T_interrupt 0 = .ok (.iload_n 1, 1) := by decide +kernel
theorem md_T_interrupt_1 : decode mc_T_interrupt 1 = .ok (.iconst 1, 1) := by decide +kernel
theorem md_T_interrupt_2 : decode mc_T_interrupt 2 = .ok (.if_icmp .lt 33, 3) := by decide +kernel
theorem md_T_interrupt_5 : decode mc_T_interrupt 5 = .ok (.iload_n 1, 1) := by decide +kernel
theorem md_T_interrupt_6 : decode mc_T_interrupt 6 = .ok (.bipush 15, 2) := by decide +kernel
theorem md_T_interrupt_8 : decode mc_T_interrupt 8 = .ok (.if_icmp .gt 27, 3) := by decide +kernel
theorem md_T_interrupt_11 : decode mc_T_interrupt 11 = .ok (.aload_n 0, 1) := by decide +kernel
theorem md_T_interrupt_12 : decode mc_T_interrupt 12 = .ok (.lload_n 2, 1) := by decide +kernel
theorem md_T_interrupt_13 : decode mc_T_interrupt 13 = .ok (.invokevirtual 114, 3) := by decide +kernel
theorem md_T_interrupt_16 : decode mc_T_interrupt 16 = .ok (.ifCond .eq 19, 3) := by decide +kernel
theorem md_T_interrupt_19 : decode mc_T_interrupt 19 = .ok (.lload 4, 2) := by decide +kernel
theorem md_T_interrupt_21 : decode mc_T_interrupt 21 = .ok (.lconst 1, 1) := by decide +kernel
theorem md_T_interrupt_22 : decode mc_T_interrupt 22 = .ok (.lcmp, 1) := by decide +kernel
theorem md_T_interrupt_23 : decode mc_T_interrupt 23 = .ok (.ifCond .lt 12, 3) := by decide +kernel
theorem md_T_interrupt_26 : decode mc_T_interrupt 26 = .ok (.lload 4, 2) := by decide +kernel
theorem md_T_interrupt_28 : decode mc_T_interrupt 28 = .ok (.ldc2_w 130, 3) := by decide +kernel
theorem md_T_interrupt_31 : decode mc_T_interrupt 31 = .ok (.lcmp, 1) := by decide +kernel
theorem md_T_interrupt_32 : decode mc_T_interrupt 32 = .ok (.ifCond .le 6, 3) := by decide +kernel
theorem md_T_interrupt_35 : decode mc_T_interrupt 35 = .ok (.bipush (-2), 2) := by decide +kernel
theorem md_T_interrupt_37 : decode mc_T_interrupt 37 = .ok (.ireturn, 1) := by decide +kernel
theorem md_T_interrupt_38 : decode mc_T_interrupt 38 = .ok (.aload_n 0, 1) := by decide +kernel
theorem md_T_interrupt_39 : decode mc_T_interrupt 39 = .ok (.getfield 30, 3) := by decide +kernel
theorem md_T_interrupt_42 : decode mc_T_interrupt 42 = .ok (.getfield 132, 3) := by decide +kernel
theorem md_T_interrupt_45 : decode mc_T_interrupt 45 = .ok (.sipush 500, 3) := by decide +kernel
theorem md_T_interrupt_48 : decode mc_T_interrupt 48 = .ok (.if_icmp .lt 6, 3) := by decide +kernel
theorem md_T_interrupt_51 : decode mc_T_interrupt 51 = .ok (.bipush (-4), 2) := by decide +kernel
theorem md_T_interrupt_53 : decode mc_T_interrupt 53 = .ok (.ireturn, 1) := by decide +kernel
theorem md_T_interrupt_54 : decode mc_T_interrupt 54 = .ok (.aload_n 0, 1) := by decide +kernel
theorem md_T_interrupt_55 : decode mc_T_interrupt 55 = .ok (.getfield 30, 3) := by decide +kernel
theorem md_T_interrupt_58 : decode mc_T_interrupt 58 = .ok (.new 135, 3) := by decide +kernel
theorem md_T_interrupt_61 : decode mc_T_interrupt 61 = .ok (.dup, 1) := by decide +kernel
theorem md_T_interrupt_62 : decode mc_T_interrupt 62 = .ok (.iload_n 1, 1) := by decide +kernel
theorem md_T_interrupt_63 : decode mc_T_interrupt 63 = .ok (.lload_n 2, 1) := by decide +kernel
theorem md_T_interrupt_64 : decode mc_T_interrupt 64 = .ok (.l2i, 1) := by decide +kernel
theorem md_T_interrupt_65 : decode mc_T_interrupt 65 = .ok (.lload 4, 2) := by decide +kernel
theorem md_T_interrupt_67 : decode mc_T_interrupt 67 = .ok (.l2i, 1) := by decide +kernel
theorem md_T_interrupt_68 : decode mc_T_interrupt 68 = .ok (.invokespecial 137, 3) := by decide +kernel
theorem md_T_interrupt_71 : decode mc_T_interrupt 71 = .ok (.invokevirtual 140, 3) := by decide +kernel
theorem md_T_interrupt_74 : decode mc_T_interrupt 74 = .ok (.aload_n 0, 1) := by decide +kernel
theorem md_T_interrupt_75 : decode mc_T_interrupt 75 = .ok (.getfield 30, 3) := by decide +kernel
theorem md_T_interrupt_78 : decode mc_T_interrupt 78 = .ok (.getfield 132, 3) := by decide +kernel
theorem md_T_interrupt_81 : decode mc_T_interrupt 81 = .ok (.ireturn, 1) := by decide +kernel
theorem md_T_run_0 : decode mc_T_run 0 = .ok (.lload_n 1, 1) := by decide +kernel
theorem md_T_run_1 : decode mc_T_run 1 = .ok (.lconst 0, 1) := by decide +kernel
theorem md_T_run_2 : decode mc_T_run 2 = .ok (.lcmp, 1) := by decide +kernel
theorem md_T_run_3 : decode mc_T_run 3 = .ok (.ifCond .lt 16, 3) := by decide +kernel
theorem md_T_run_6 : decode mc_T_run 6 = .ok (.lload_n 1, 1) := by decide +kernel
theorem md_T_run_7 : decode mc_T_run 7 = .ok (.ldc 52, 2) := by decide +kernel
theorem md_T_run_9 : decode mc_T_run 9 = .ok (.aload_n 0, 1) := by decide +kernel
theorem md_T_run_10 : decode mc_T_run 10 = .ok (.getfield 60, 3) := by decide +kernel
theorem md_T_run_13 : decode mc_T_run 13 = .ok (.isub, 1) := by decide +kernel
theorem md_T_run_14 : decode mc_T_run 14 = .ok (.i2l, 1) := by decide +kernel
theorem md_T_run_15 : decode mc_T_run 15 = .ok (.lcmp, 1) := by decide +kernel
theorem md_T_run_16 : decode mc_T_run 16 = .ok (.ifCond .le 6, 3) := by decide +kernel
theorem md_T_run_19 : decode mc_T_run 19 = .ok (.bipush (-2), 2) := by decide +kernel
theorem md_T_run_21 : decode mc_T_run 21 = .ok (.ireturn, 1) := by decide +kernel
theorem md_T_run_22 : decode mc_T_run 22 = .ok (.aload_n 0, 1) := by decide +kernel
theorem md_T_run_23 : decode mc_T_run 23 = .ok (.getfield 60, 3) := by decide +kernel
theorem md_T_run_26 : decode mc_T_run 26 = .ok (.lload_n 1, 1) := by decide +kernel
theorem md_T_run_27 : decode mc_T_run 27 = .ok (.l2i, 1) := by decide +kernel
theorem md_T_run_28 : decode mc_T_run 28 = .ok (.iadd, 1) := by decide +kernel
theorem md_T_run_29 : decode mc_T_run 29 = .ok (.istore_n 3, 1) := by decide +kernel
theorem md_T_run_30 : decode mc_T_run 30 = .ok (.iconst 0, 1) := by decide +kernel
theorem md_T_run_31 : decode mc_T_run 31 = .ok (.istore 4, 2) := by decide +kernel
theorem md_T_run_33 : decode mc_T_run 33 = .ok (.iconst 0, 1) := by decide +kernel
theorem md_T_run_34 : decode mc_T_run 34 = .ok (.istore 5, 2) := by decide +kernel
theorem md_T_run_36 : decode mc_T_run 36 = .ok (.aload_n 0, 1) := by decide +kernel
theorem md_T_run_37 : decode mc_T_run 37 = .ok (.getfield 60, 3) := by decide +kernel
theorem md_T_run_40 : decode mc_T_run 40 = .ok (.iload_n 3, 1) := by decide +kernel
theorem md_T_run_41 : decode mc_T_run 41 = .ok (.if_icmp .ge 82, 3) := by decide +kernel
theorem md_T_run_44 : decode mc_T_run 44 = .ok (.iload 5, 2) := by decide +kernel
theorem md_T_run_46 : decode mc_T_run 46 = .ok (.ldc 52, 2) := by decide +kernel
theorem md_T_run_48 : decode mc_T_run 48 = .ok (.if_icmp .ge 75, 3) := by decide +kernel
theorem md_T_run_51 : decode mc_T_run 51 = .ok (.aload_n 0, 1) := by decide +kernel
theorem md_T_run_52 : decode mc_T_run 52 = .ok (.invokevirtual 144, 3) := by decide +kernel
theorem md_T_run_55 : decode mc_T_run 55 = .ok (.aload_n 0, 1) := by decide +kernel
theorem md_T_run_56 : decode mc_T_run 56 = .ok (.invokevirtual 147, 3) := by decide +kernel
theorem md_T_run_59 : decode mc_T_run 59 = .ok (.aload_n 0, 1) := by decide +kernel
theorem md_T_run_60 : decode mc_T_run 60 = .ok (.invokevirtual 150, 3) := by decide +kernel
theorem md_T_run_63 : decode mc_T_run 63 = .ok (.aload_n 0, 1) := by decide +kernel
theorem md_T_run_64 : decode mc_T_run 64 = .ok (.getfield 45, 3) := by decide +kernel
theorem md_T_run_67 : decode mc_T_run 67 = .ok (.astore 6, 2) := by decide +kernel
theorem md_T_run_69 : decode mc_T_run 69 = .ok (.aload 6, 2) := by decide +kernel
theorem md_T_run_71 : decode mc_T_run 71 = .ok (.arraylength, 1) := by decide +kernel
theorem md_T_run_72 : decode mc_T_run 72 = .ok (.istore 7, 2) := by decide +kernel
theorem md_T_run_74 : decode mc_T_run 74 = .ok (.iconst 0, 1) := by decide +kernel
theorem md_T_run_75 : decode mc_T_run 75 = .ok (.istore 8, 2) := by decide +kernel
theorem md_T_run_77 : decode mc_T_run 77 = .ok (.iload 8, 2) := by decide +kernel
theorem md_T_run_79 : decode mc_T_run 79 = .ok (.iload 7, 2) := by decide +kernel
theorem md_T_run_81 : decode mc_T_run 81 = .ok (.if_icmp .ge 22, 3) := by decide +kernel
theorem md_T_run_84 : decode mc_T_run 84 = .ok (.aload 6, 2) := by decide +kernel
theorem md_T_run_86 : decode mc_T_run 86 = .ok (.iload 8, 2) := by decide +kernel
theorem md_T_run_88 : decode mc_T_run 88 = .ok (.aaload, 1) := by decide +kernel
theorem md_T_run_89 : decode mc_T_run 89 = .ok (.astore 9, 2) := by decide +kernel
theorem md_T_run_91 : decode mc_T_run 91 = .ok (.aload_n 0, 1) := by decide +kernel
theorem md_T_run_92 : decode mc_T_run 92 = .ok (.aload 9, 2) := by decide +kernel
theorem md_T_run_94 : decode mc_T_run 94 = .ok (.invokevirtual 153, 3) := by decide +kernel
theorem md_T_run_97 : decode mc_T_run 97 = .ok (.iinc 8 1, 3) := by decide +kernel
theorem md_T_run_100 : decode mc_T_run 100 = .ok (.goto (-23), 3) := by decide +kernel
theorem md_T_run_103 : decode mc_T_run 103 = .ok (.iload 4, 2) := by decide +kernel
theorem md_T_run_105 : decode mc_T_run 105 = .ok (.aload_n 0, 1) := by decide +kernel
theorem md_T_run_106 : decode mc_T_run 106 = .ok (.aload_n 0, 1) := by decide +kernel
theorem md_T_run_107 : decode mc_T_run 107 = .ok (.iload_n 3, 1) := by decide +kernel
theorem md_T_run_108 : decode mc_T_run 108 = .ok (.invokevirtual 157, 3) := by decide +kernel
theorem md_T_run_111 : decode mc_T_run 111 = .ok (.invokevirtual 161, 3) := by decide +kernel
theorem md_T_run_114 : decode mc_T_run 114 = .ok (.iadd, 1) := by decide +kernel
theorem md_T_run_115 : decode mc_T_run 115 = .ok (.istore 4, 2) := by decide +kernel
theorem md_T_run_117 : decode mc_T_run 117 = .ok (.iinc 5 1, 3) := by decide +kernel
theorem md_T_run_120 : decode mc_T_run 120 = .ok (.goto (-84), 3) := by decide +kernel
theorem md_T_run_123 : decode mc_T_run 123 = .ok (.iload 4, 2) := by decide +kernel
theorem md_T_run_125 : decode mc_T_run 125 = .ok (.ireturn, 1) := by decide +kernel
theorem md_T_now_0 : decode mc_T_now 0 = .ok (.aload_n 0, 1) := by decide +kernel
theorem md_T_now_1 : decode mc_T_now 1 = .ok (.getfield 60, 3) := by decide +kernel
theorem md_T_now_4 : decode mc_T_now 4 = .ok (.i2l, 1) := by decide +kernel
theorem md_T_now_5 : decode mc_T_now 5 = .ok (.lreturn, 1) := by decide +kernel
theorem md_T_running_0 : decode mc_T_running 0 = .ok (.aload_n 0, 1) := by decide +kernel
theorem md_T_running_1 : decode mc_T_running 1 = .ok (.iload_n 1, 1) := by decide +kernel
theorem md_T_running_2 : decode mc_T_running 2 = .ok (.invokevirtual 56, 3) := by decide +kernel
theorem md_T_running_5 : decode mc_T_running 5 = .ok (.astore 4, 2) := by decide +kernel
theorem md_T_running_7 : decode mc_T_running 7 = .ok (.aload 4, 2) := by decide +kernel
theorem md_T_running_9 : decode mc_T_running 9 = .ok (.ifnonnull 5, 3) := by decide +kernel
theorem md_T_running_12 : decode mc_T_running 12 = .ok (.iconst (-1), 1) := by decide +kernel
theorem md_T_running_13 : decode mc_T_running 13 = .ok (.ireturn, 1) := by decide +kernel
theorem md_T_running_14 : decode mc_T_running 14 = .ok (.lload_n 2, 1) := by decide +kernel
theorem md_T_running_15 : decode mc_T_running 15 = .ok (.lconst 0, 1) := by decide +kernel
theorem md_T_running_16 : decode mc_T_running 16 = .ok (.lcmp, 1) := by decide +kernel
theorem md_T_running_17 : decode mc_T_running 17 = .ok (.ifCond .lt 13, 3) := by decide +kernel
theorem md_T_running_20 : decode mc_T_running 20 = .ok (.lload_n 2, 1) := by decide +kernel
theorem md_T_running_21 : decode mc_T_running 21 = .ok (.aload_n 0, 1) := by decide +kernel
theorem md_T_running_22 : decode mc_T_running 22 = .ok (.getfield 60, 3) := by decide +kernel
theorem md_T_running_25 : decode mc_T_running 25 = .ok (.i2l, 1) := by decide +kernel
theorem md_T_running_26 : decode mc_T_running 26 = .ok (.lcmp, 1) := by decide +kernel
theorem md_T_running_27 : decode mc_T_running 27 = .ok (.ifCond .lt 6, 3) := by decide +kernel
theorem md_T_running_30 : decode mc_T_running 30 = .ok (.bipush (-2), 2) := by decide +kernel
theorem md_T_running_32 : decode mc_T_running 32 = .ok (.ireturn, 1) := by decide +kernel
theorem md_T_running_33 : decode mc_T_running 33 = .ok (.aload 4, 2) := by decide +kernel
theorem md_T_running_35 : decode mc_T_running 35 = .ok (.lload_n 2, 1) := by decide +kernel
theorem md_T_running_36 : decode mc_T_running 36 = .ok (.l2i, 1) := by decide +kernel
theorem md_T_running_37 : decode mc_T_running 37 = .ok (.invokevirtual 164, 3) := by decide +kernel
theorem md_T_running_40 : decode mc_T_running 40 = .ok (.ireturn, 1) := by decide +kernel
theorem md_T_used_0 : decode mc_T_used 0 = .ok (.aload_n 0, 1) := by decide +kernel
theorem md_T_used_1 : decode mc_T_used 1 = .ok (.iload_n 1, 1) := by decide +kernel
theorem md_T_used_2 : decode mc_T_used 2 = .ok (.invokevirtual 74, 3) := by decide +kernel
theorem md_T_used_5 : decode mc_T_used 5 = .ok (.astore_n 2, 1) := by decide +kernel
theorem md_T_used_6 : decode mc_T_used 6 = .ok (.aload_n 2, 1) := by decide +kernel
theorem md_T_used_7 : decode mc_T_used 7 = .ok (.ifnonnull 9, 3) := by decide +kernel
theorem md_T_used_10 : decode mc_T_used 10 = .ok (.ldc2_w 167, 3) := by decide +kernel
theorem md_T_used_13 : decode mc_T_used 13 = .ok (.goto 8, 3) := by decide +kernel
theorem md_T_used_16 : decode mc_T_used 16 = .ok (.aload_n 2, 1) := by decide +kernel
theorem md_T_used_17 : decode mc_T_used 17 = .ok (.getfield 169, 3) := by decide +kernel
theorem md_T_used_20 : decode mc_T_used 20 = .ok (.i2l, 1) := by decide +kernel
theorem md_T_used_21 : decode mc_T_used 21 = .ok (.lreturn, 1) := by decide +kernel
theorem md_T_state_0 : decode mc_T_state 0 = .ok (.aload_n 0, 1) := by decide +kernel
theorem md_T_state_1 : decode mc_T_state 1 = .ok (.iload_n 1, 1) := by decide +kernel
theorem md_T_state_2 : decode mc_T_state 2 = .ok (.invokevirtual 74, 3) := by decide +kernel
theorem md_T_state_5 : decode mc_T_state 5 = .ok (.astore_n 2, 1) := by decide +kernel
theorem md_T_state_6 : decode mc_T_state 6 = .ok (.aload_n 2, 1) := by decide +kernel
theorem md_T_state_7 : decode mc_T_state 7 = .ok (.ifnonnull 7, 3) := by decide +kernel
theorem md_T_state_10 : decode mc_T_state 10 = .ok (.iconst (-1), 1) := by decide +kernel
theorem md_T_state_11 : decode mc_T_state 11 = .ok (.goto 7, 3) := by decide +kernel
theorem md_T_state_14 : decode mc_T_state 14 = .ok (.aload_n 2, 1) := by decide +kernel
theorem md_T_state_15 : decode mc_T_state 15 = .ok (.getfield 172, 3) := by decide +kernel
theorem md_T_state_18 : decode mc_T_state 18 = .ok (.ireturn, 1) := by decide +kernel
theorem md_T_event_0 : decode mc_T_event 0 = .ok (.aload_n 0, 1) := by decide +kernel
theorem md_T_event_1 : decode mc_T_event 1 = .ok (.iload_n 1, 1) := by decide +kernel
theorem md_T_event_2 : decode mc_T_event 2 = .ok (.invokevirtual 74, 3) := by decide +kernel
theorem md_T_event_5 : decode mc_T_event 5 = .ok (.astore_n 3, 1) := by decide +kernel
theorem md_T_event_6 : decode mc_T_event 6 = .ok (.aload_n 3, 1) := by decide +kernel
theorem md_T_event_7 : decode mc_T_event 7 = .ok (.ifnonnull 5, 3) := by decide +kernel
theorem md_T_event_10 : decode mc_T_event 10 = .ok (.iconst (-1), 1) := by decide +kernel
theorem md_T_event_11 : decode mc_T_event 11 = .ok (.ireturn, 1) := by decide +kernel
theorem md_T_event_12 : decode mc_T_event 12 = .ok (.iload_n 2, 1) := by decide +kernel
theorem md_T_event_13 : decode mc_T_event 13 = .ok (.iconst 1, 1) := by decide +kernel
theorem md_T_event_14 : decode mc_T_event 14 = .ok (.if_icmp .lt 9, 3) := by decide +kernel
theorem md_T_event_17 : decode mc_T_event 17 = .ok (.iload_n 2, 1) := by decide +kernel
theorem md_T_event_18 : decode mc_T_event 18 = .ok (.ldc 175, 2) := by decide +kernel
theorem md_T_event_20 : decode mc_T_event 20 = .ok (.if_icmp .lt 6, 3) := by decide +kernel
theorem md_T_event_23 : decode mc_T_event 23 = .ok (.bipush (-2), 2) := by decide +kernel
theorem md_T_event_25 : decode mc_T_event 25 = .ok (.ireturn, 1) := by decide +kernel
theorem md_T_event_26 : decode mc_T_event 26 = .ok (.aload_n 3, 1) := by decide +kernel
theorem md_T_event_27 : decode mc_T_event 27 = .ok (.invokevirtual 176, 3) := by decide +kernel
theorem md_T_event_30 : decode mc_T_event 30 = .ok (.ifCond .ne 6, 3) := by decide +kernel
theorem md_T_event_33 : decode mc_T_event 33 = .ok (.bipush (-3), 2) := by decide +kernel
theorem md_T_event_35 : decode mc_T_event 35 = .ok (.ireturn, 1) := by decide +kernel
theorem md_T_event_36 : decode mc_T_event 36 = .ok (.aload_n 0, 1) := by decide +kernel
theorem md_T_event_37 : decode mc_T_event 37 = .ok (.aload_n 3, 1) := by decide +kernel
theorem md_T_event_38 : decode mc_T_event 38 = .ok (.iload_n 2, 1) := by decide +kernel
theorem md_T_event_39 : decode mc_T_event 39 = .ok (.invokevirtual 180, 3) := by decide +kernel
theorem md_T_event_42 : decode mc_T_event 42 = .ok (.iconst 1, 1) := by decide +kernel
theorem md_T_event_43 : decode mc_T_event 43 = .ok (.ireturn, 1) := by decide +kernel
theorem md_T_events_0 : decode mc_T_events 0 = .ok (.aload_n 0, 1) := by decide +kernel
theorem md_T_events_1 : decode mc_T_events 1 = .ok (.iload_n 1, 1) := by decide +kernel
theorem md_T_events_2 : decode mc_T_events 2 = .ok (.invokevirtual 74, 3) := by decide +kernel
theorem md_T_events_5 : decode mc_T_events 5 = .ok (.astore_n 2, 1) := by decide +kernel
theorem md_T_events_6 : decode mc_T_events 6 = .ok (.aload_n 2, 1) := by decide +kernel
theorem md_T_events_7 : decode mc_T_events 7 = .ok (.ifnonnull 7, 3) := by decide +kernel
theorem md_T_events_10 : decode mc_T_events 10 = .ok (.iconst (-1), 1) := by decide +kernel
theorem md_T_events_11 : decode mc_T_events 11 = .ok (.goto 7, 3) := by decide +kernel
theorem md_T_events_14 : decode mc_T_events 14 = .ok (.aload_n 2, 1) := by decide +kernel
theorem md_T_events_15 : decode mc_T_events 15 = .ok (.getfield 183, 3) := by decide +kernel
theorem md_T_events_18 : decode mc_T_events 18 = .ok (.ireturn, 1) := by decide +kernel
theorem md_T_code_0 : decode mc_T_code 0 = .ok (.aload_n 0, 1) := by decide +kernel
theorem md_T_code_1 : decode mc_T_code 1 = .ok (.getfield 39, 3) := by decide +kernel
theorem md_T_code_4 : decode mc_T_code 4 = .ok (.iload_n 1, 1) := by decide +kernel
theorem md_T_code_5 : decode mc_T_code 5 = .ok (.iload_n 2, 1) := by decide +kernel
theorem md_T_code_6 : decode mc_T_code 6 = .ok (.invokevirtual 186, 3) := by decide +kernel
theorem md_T_code_9 : decode mc_T_code 9 = .ok (.ireturn, 1) := by decide +kernel
theorem md_T_order_0 : decode mc_T_order 0 = .ok (.aload_n 0, 1) := by decide +kernel
theorem md_T_order_1 : decode mc_T_order 1 = .ok (.getfield 53, 3) := by decide +kernel
theorem md_T_order_4 : decode mc_T_order 4 = .ok (.iload_n 1, 1) := by decide +kernel
theorem md_T_order_5 : decode mc_T_order 5 = .ok (.iload_n 2, 1) := by decide +kernel
theorem md_T_order_6 : decode mc_T_order 6 = .ok (.invokevirtual 186, 3) := by decide +kernel
theorem md_T_order_9 : decode mc_T_order 9 = .ok (.ireturn, 1) := by decide +kernel
theorem md_T_spin_0 : decode mc_T_spin 0 = .ok (.aload_n 0, 1) := by decide +kernel
theorem md_T_spin_1 : decode mc_T_spin 1 = .ok (.iload_n 1, 1) := by decide +kernel
theorem md_T_spin_2 : decode mc_T_spin 2 = .ok (.invokevirtual 56, 3) := by decide +kernel
theorem md_T_spin_5 : decode mc_T_spin 5 = .ok (.astore_n 3, 1) := by decide +kernel
theorem md_T_spin_6 : decode mc_T_spin 6 = .ok (.aload_n 3, 1) := by decide +kernel
theorem md_T_spin_7 : decode mc_T_spin 7 = .ok (.ifnonnull 7, 3) := by decide +kernel
theorem md_T_spin_10 : decode mc_T_spin 10 = .ok (.sipush (-1000), 3) := by decide +kernel
theorem md_T_spin_13 : decode mc_T_spin 13 = .ok (.ireturn, 1) := by decide +kernel
theorem md_T_spin_14 : decode mc_T_spin 14 = .ok (.aload_n 0, 1) := by decide +kernel
theorem md_T_spin_15 : decode mc_T_spin 15 = .ok (.iload_n 2, 1) := by decide +kernel
theorem md_T_spin_16 : decode mc_T_spin 16 = .ok (.invokevirtual 189, 3) := by decide +kernel
theorem md_T_spin_19 : decode mc_T_spin 19 = .ok (.astore 4, 2) := by decide +kernel
theorem md_T_spin_21 : decode mc_T_spin 21 = .ok (.aload 4, 2) := by decide +kernel
theorem md_T_spin_23 : decode mc_T_spin 23 = .ok (.ifnonnull 7, 3) := by decide +kernel
theorem md_T_spin_26 : decode mc_T_spin 26 = .ok (.sipush (-2000), 3) := by decide +kernel
theorem md_T_spin_29 : decode mc_T_spin 29 = .ok (.ireturn, 1) := by decide +kernel
theorem md_T_spin_30 : decode mc_T_spin 30 = .ok (.aload 4, 2) := by decide +kernel
theorem md_T_spin_32 : decode mc_T_spin 32 = .ok (.getfield 193, 3) := by decide +kernel
theorem md_T_spin_35 : decode mc_T_spin 35 = .ok (.ifnull 24, 3) := by decide +kernel
theorem md_T_spin_38 : decode mc_T_spin 38 = .ok (.aload 4, 2) := by decide +kernel
theorem md_T_spin_40 : decode mc_T_spin 40 = .ok (.getfield 193, 3) := by decide +kernel
theorem md_T_spin_43 : decode mc_T_spin 43 = .ok (.getfield 197, 3) := by decide +kernel
theorem md_T_spin_46 : decode mc_T_spin 46 = .ok (.aload_n 3, 1) := by decide +kernel
theorem md_T_spin_47 : decode mc_T_spin 47 = .ok (.if_acmp .ne 12, 3) := by decide +kernel
theorem md_T_spin_50 : decode mc_T_spin 50 = .ok (.aload 4, 2) := by decide +kernel
theorem md_T_spin_52 : decode mc_T_spin 52 = .ok (.getfield 193, 3) := by decide +kernel
theorem md_T_spin_55 : decode mc_T_spin 55 = .ok (.getfield 201, 3) := by decide +kernel
theorem md_T_spin_58 : decode mc_T_spin 58 = .ok (.ireturn, 1) := by decide +kernel
theorem md_T_spin_59 : decode mc_T_spin 59 = .ok (.aload 4, 2) := by decide +kernel
theorem md_T_spin_61 : decode mc_T_spin 61 = .ok (.aload_n 3, 1) := by decide +kernel
theorem md_T_spin_62 : decode mc_T_spin 62 = .ok (.invokevirtual 204, 3) := by decide +kernel
theorem md_T_spin_65 : decode mc_T_spin 65 = .ok (.astore 5, 2) := by decide +kernel
theorem md_T_spin_67 : decode mc_T_spin 67 = .ok (.aload 5, 2) := by decide +kernel
theorem md_T_spin_69 : decode mc_T_spin 69 = .ok (.ifnonnull 7, 3) := by decide +kernel
theorem md_T_spin_72 : decode mc_T_spin 72 = .ok (.iconst 0, 1) := by decide +kernel
theorem md_T_spin_73 : decode mc_T_spin 73 = .ok (.goto 9, 3) := by decide +kernel
theorem md_T_spin_76 : decode mc_T_spin 76 = .ok (.aload 5, 2) := by decide +kernel
theorem md_T_spin_78 : decode mc_T_spin 78 = .ok (.getfield 201, 3) := by decide +kernel
theorem md_T_spin_81 : decode mc_T_spin 81 = .ok (.ineg, 1) := by decide +kernel
theorem md_T_spin_82 : decode mc_T_spin 82 = .ok (.ireturn, 1) := by decide +kernel
theorem md_T_holder_0 : decode mc_T_holder 0 = .ok (.aload_n 0, 1) := by decide +kernel
theorem md_T_holder_1 : decode mc_T_holder 1 = .ok (.iload_n 1, 1) := by decide +kernel
theorem md_T_holder_2 : decode mc_T_holder 2 = .ok (.invokevirtual 85, 3) := by decide +kernel
theorem md_T_holder_5 : decode mc_T_holder 5 = .ok (.astore_n 2, 1) := by decide +kernel
theorem md_T_holder_6 : decode mc_T_holder 6 = .ok (.aload_n 2, 1) := by decide +kernel
theorem md_T_holder_7 : decode mc_T_holder 7 = .ok (.ifnonnull 6, 3) := by decide +kernel
theorem md_T_holder_10 : decode mc_T_holder 10 = .ok (.bipush (-2), 2) := by decide +kernel
theorem md_T_holder_12 : decode mc_T_holder 12 = .ok (.ireturn, 1) := by decide +kernel
theorem md_T_holder_13 : decode mc_T_holder 13 = .ok (.aload_n 2, 1) := by decide +kernel
theorem md_T_holder_14 : decode mc_T_holder 14 = .ok (.getfield 208, 3) := by decide +kernel
theorem md_T_holder_17 : decode mc_T_holder 17 = .ok (.ifnonnull 7, 3) := by decide +kernel
theorem md_T_holder_20 : decode mc_T_holder 20 = .ok (.iconst 0, 1) := by decide +kernel
theorem md_T_holder_21 : decode mc_T_holder 21 = .ok (.goto 10, 3) := by decide +kernel
theorem md_T_holder_24 : decode mc_T_holder 24 = .ok (.aload_n 2, 1) := by decide +kernel
theorem md_T_holder_25 : decode mc_T_holder 25 = .ok (.getfield 208, 3) := by decide +kernel
theorem md_T_holder_28 : decode mc_T_holder 28 = .ok (.getfield 201, 3) := by decide +kernel
theorem md_T_holder_31 : decode mc_T_holder 31 = .ok (.ireturn, 1) := by decide +kernel
theorem md_T_coreOf_0 : decode mc_T_coreOf 0 = .ok (.iload_n 1, 1) := by decide +kernel
theorem md_T_coreOf_1 : decode mc_T_coreOf 1 = .ok (.ifCond .lt 12, 3) := by decide +kernel
theorem md_T_coreOf_4 : decode mc_T_coreOf 4 = .ok (.iload_n 1, 1) := by decide +kernel
theorem md_T_coreOf_5 : decode mc_T_coreOf 5 = .ok (.aload_n 0, 1) := by decide +kernel
theorem md_T_coreOf_6 : decode mc_T_coreOf 6 = .ok (.getfield 45, 3) := by decide +kernel
theorem md_T_coreOf_9 : decode mc_T_coreOf 9 = .ok (.arraylength, 1) := by decide +kernel
theorem md_T_coreOf_10 : decode mc_T_coreOf 10 = .ok (.if_icmp .lt 7, 3) := by decide +kernel
theorem md_T_coreOf_13 : decode mc_T_coreOf 13 = .ok (.aconst_null, 1) := by decide +kernel
theorem md_T_coreOf_14 : decode mc_T_coreOf 14 = .ok (.goto 9, 3) := by decide +kernel
theorem md_T_coreOf_17 : decode mc_T_coreOf 17 = .ok (.aload_n 0, 1) := by decide +kernel
theorem md_T_coreOf_18 : decode mc_T_coreOf 18 = .ok (.getfield 45, 3) := by decide +kernel
theorem md_T_coreOf_21 : decode mc_T_coreOf 21 = .ok (.iload_n 1, 1) := by decide +kernel
theorem md_T_coreOf_22 : decode mc_T_coreOf 22 = .ok (.aaload, 1) := by decide +kernel
theorem md_T_coreOf_23 : decode mc_T_coreOf 23 = .ok (.areturn, 1) := by decide +kernel
theorem md_T_taskOf_0 : decode mc_T_taskOf 0 = .ok (.iload_n 1, 1) := by decide +kernel
theorem md_T_taskOf_1 : decode mc_T_taskOf 1 = .ok (.iconst 1, 1) := by decide +kernel
theorem md_T_taskOf_2 : decode mc_T_taskOf 2 = .ok (.if_icmp .lt 12, 3) := by decide +kernel
theorem md_T_taskOf_5 : decode mc_T_taskOf 5 = .ok (.iload_n 1, 1) := by decide +kernel
theorem md_T_taskOf_6 : decode mc_T_taskOf 6 = .ok (.aload_n 0, 1) := by decide +kernel
theorem md_T_taskOf_7 : decode mc_T_taskOf 7 = .ok (.getfield 11, 3) := by decide +kernel
theorem md_T_taskOf_10 : decode mc_T_taskOf 10 = .ok (.arraylength, 1) := by decide +kernel
theorem md_T_taskOf_11 : decode mc_T_taskOf 11 = .ok (.if_icmp .lt 7, 3) := by decide +kernel
theorem md_T_taskOf_14 : decode mc_T_taskOf 14 = .ok (.aconst_null, 1) := by decide +kernel
theorem md_T_taskOf_15 : decode mc_T_taskOf 15 = .ok (.goto 9, 3) := by decide +kernel
theorem md_T_taskOf_18 : decode mc_T_taskOf 18 = .ok (.aload_n 0, 1) := by decide +kernel
theorem md_T_taskOf_19 : decode mc_T_taskOf 19 = .ok (.getfield 11, 3) := by decide +kernel
theorem md_T_taskOf_22 : decode mc_T_taskOf 22 = .ok (.iload_n 1, 1) := by decide +kernel
theorem md_T_taskOf_23 : decode mc_T_taskOf 23 = .ok (.aaload, 1) := by decide +kernel
theorem md_T_taskOf_24 : decode mc_T_taskOf 24 = .ok (.areturn, 1) := by decide +kernel
theorem md_T_resourceOf_0 : decode mc_T_resourceOf 0 = .ok (.iload_n 1, 1) := by decide +kernel
theorem md_T_resourceOf_1 : decode mc_T_resourceOf 1 = .ok (.iconst 1, 1) := by decide +kernel
theorem md_T_resourceOf_2 : decode mc_T_resourceOf 2 = .ok (.if_icmp .lt 12, 3) := by decide +kernel
theorem md_T_resourceOf_5 : decode mc_T_resourceOf 5 = .ok (.iload_n 1, 1) := by decide +kernel
theorem md_T_resourceOf_6 : decode mc_T_resourceOf 6 = .ok (.aload_n 0, 1) := by decide +kernel
theorem md_T_resourceOf_7 : decode mc_T_resourceOf 7 = .ok (.getfield 17, 3) := by decide +kernel
theorem md_T_resourceOf_10 : decode mc_T_resourceOf 10 = .ok (.arraylength, 1) := by decide +kernel
theorem md_T_resourceOf_11 : decode mc_T_resourceOf 11 = .ok (.if_icmp .lt 7, 3) := by decide +kernel
theorem md_T_resourceOf_14 : decode mc_T_resourceOf 14 = .ok (.aconst_null, 1) := by decide +kernel
theorem md_T_resourceOf_15 : decode mc_T_resourceOf 15 = .ok (.goto 9, 3) := by decide +kernel
theorem md_T_resourceOf_18 : decode mc_T_resourceOf 18 = .ok (.aload_n 0, 1) := by decide +kernel
theorem md_T_resourceOf_19 : decode mc_T_resourceOf 19 = .ok (.getfield 17, 3) := by decide +kernel
theorem md_T_resourceOf_22 : decode mc_T_resourceOf 22 = .ok (.iload_n 1, 1) := by decide +kernel
theorem md_T_resourceOf_23 : decode mc_T_resourceOf 23 = .ok (.aaload, 1) := by decide +kernel
theorem md_T_resourceOf_24 : decode mc_T_resourceOf 24 = .ok (.areturn, 1) := by decide +kernel
theorem md_T_lockOf_0 : decode mc_T_lockOf 0 = .ok (.iload_n 1, 1) := by decide +kernel
theorem md_T_lockOf_1 : decode mc_T_lockOf 1 = .ok (.iconst 1, 1) := by decide +kernel
theorem md_T_lockOf_2 : decode mc_T_lockOf 2 = .ok (.if_icmp .lt 12, 3) := by decide +kernel
theorem md_T_lockOf_5 : decode mc_T_lockOf 5 = .ok (.iload_n 1, 1) := by decide +kernel
theorem md_T_lockOf_6 : decode mc_T_lockOf 6 = .ok (.aload_n 0, 1) := by decide +kernel
theorem md_T_lockOf_7 : decode mc_T_lockOf 7 = .ok (.getfield 23, 3) := by decide +kernel
theorem md_T_lockOf_10 : decode mc_T_lockOf 10 = .ok (.arraylength, 1) := by decide +kernel
theorem md_T_lockOf_11 : decode mc_T_lockOf 11 = .ok (.if_icmp .lt 7, 3) := by decide +kernel
theorem md_T_lockOf_14 : decode mc_T_lockOf 14 = .ok (.aconst_null, 1) := by decide +kernel
theorem md_T_lockOf_15 : decode mc_T_lockOf 15 = .ok (.goto 9, 3) := by decide +kernel
theorem md_T_lockOf_18 : decode mc_T_lockOf 18 = .ok (.aload_n 0, 1) := by decide +kernel
theorem md_T_lockOf_19 : decode mc_T_lockOf 19 = .ok (.getfield 23, 3) := by decide +kernel
theorem md_T_lockOf_22 : decode mc_T_lockOf 22 = .ok (.iload_n 1, 1) := by decide +kernel
theorem md_T_lockOf_23 : decode mc_T_lockOf 23 = .ok (.aaload, 1) := by decide +kernel
theorem md_T_lockOf_24 : decode mc_T_lockOf 24 = .ok (.areturn, 1) := by decide +kernel
theorem md_T_isToCome_0 : decode mc_T_isToCome 0 = .ok (.lload_n 1, 1) := by decide +kernel
theorem md_T_isToCome_1 : decode mc_T_isToCome 1 = .ok (.aload_n 0, 1) := by decide +kernel
theorem md_T_isToCome_2 : decode mc_T_isToCome 2 = .ok (.getfield 60, 3) := by decide +kernel
theorem md_T_isToCome_5 : decode mc_T_isToCome 5 = .ok (.i2l, 1) := by decide +kernel
theorem md_T_isToCome_6 : decode mc_T_isToCome 6 = .ok (.lcmp, 1) := by decide +kernel
theorem md_T_isToCome_7 : decode mc_T_isToCome 7 = .ok (.ifCond .lt 15, 3) := by decide +kernel
theorem md_T_isToCome_10 : decode mc_T_isToCome 10 = .ok (.lload_n 1, 1) := by decide +kernel
theorem md_T_isToCome_11 : decode mc_T_isToCome 11 = .ok (.ldc2_w 209, 3) := by decide +kernel
theorem md_T_isToCome_14 : decode mc_T_isToCome 14 = .ok (.lcmp, 1) := by decide +kernel
theorem md_T_isToCome_15 : decode mc_T_isToCome 15 = .ok (.ifCond .gt 7, 3) := by decide +kernel
theorem md_T_isToCome_18 : decode mc_T_isToCome 18 = .ok (.iconst 1, 1) := by decide +kernel
theorem md_T_isToCome_19 : decode mc_T_isToCome 19 = .ok (.goto 4, 3) := by decide +kernel
theorem md_T_isToCome_22 : decode mc_T_isToCome 22 = .ok (.iconst 0, 1) := by decide +kernel
theorem md_T_isToCome_23 : decode mc_T_isToCome 23 = .ok (.ireturn, 1) := by decide +kernel
theorem md_T_mayBePart_0 : decode mc_T_mayBePart 0 = .ok (.iload_n 0, 1) := by decide +kernel
theorem md_T_mayBePart_1 : decode mc_T_mayBePart 1 = .ok (.ifCond .lt 19, 3) := by decide +kernel
theorem md_T_mayBePart_4 : decode mc_T_mayBePart 4 = .ok (.iload_n 0, 1) := by decide +kernel
theorem md_T_mayBePart_5 : decode mc_T_mayBePart 5 = .ok (.getstatic 211, 3) := by decide +kernel
theorem md_T_mayBePart_8 : decode mc_T_mayBePart 8 = .ok (.arraylength, 1) := by decide +kernel
theorem md_T_mayBePart_9 : decode mc_T_mayBePart 9 = .ok (.if_icmp .ge 11, 3) := by decide +kernel
theorem md_T_mayBePart_12 : decode mc_T_mayBePart 12 = .ok (.iload_n 0, 1) := by decide +kernel
theorem md_T_mayBePart_13 : decode mc_T_mayBePart 13 = .ok (.getstatic 215, 3) := by decide +kernel
theorem md_T_mayBePart_16 : decode mc_T_mayBePart 16 = .ok (.arraylength, 1) := by decide +kernel
theorem md_T_mayBePart_17 : decode mc_T_mayBePart 17 = .ok (.if_icmp .lt 5, 3) := by decide +kernel
theorem md_T_mayBePart_20 : decode mc_T_mayBePart 20 = .ok (.iconst 0, 1) := by decide +kernel
theorem md_T_mayBePart_21 : decode mc_T_mayBePart 21 = .ok (.ireturn, 1) := by decide +kernel
theorem md_T_mayBePart_22 : decode mc_T_mayBePart 22 = .ok (.lload_n 1, 1) := by decide +kernel
theorem md_T_mayBePart_23 : decode mc_T_mayBePart 23 = .ok (.getstatic 211, 3) := by decide +kernel
theorem md_T_mayBePart_26 : decode mc_T_mayBePart 26 = .ok (.iload_n 0, 1) := by decide +kernel
theorem md_T_mayBePart_27 : decode mc_T_mayBePart 27 = .ok (.iaload, 1) := by decide +kernel
theorem md_T_mayBePart_28 : decode mc_T_mayBePart 28 = .ok (.i2l, 1) := by decide +kernel
theorem md_T_mayBePart_29 : decode mc_T_mayBePart 29 = .ok (.lcmp, 1) := by decide +kernel
theorem md_T_mayBePart_30 : decode mc_T_mayBePart 30 = .ok (.ifCond .lt 14, 3) := by decide +kernel
theorem md_T_mayBePart_33 : decode mc_T_mayBePart 33 = .ok (.lload_n 1, 1) := by decide +kernel
theorem md_T_mayBePart_34 : decode mc_T_mayBePart 34 = .ok (.getstatic 215, 3) := by decide +kernel
theorem md_T_mayBePart_37 : decode mc_T_mayBePart 37 = .ok (.iload_n 0, 1) := by decide +kernel
theorem md_T_mayBePart_38 : decode mc_T_mayBePart 38 = .ok (.iaload, 1) := by decide +kernel
theorem md_T_mayBePart_39 : decode mc_T_mayBePart 39 = .ok (.i2l, 1) := by decide +kernel
theorem md_T_mayBePart_40 : decode mc_T_mayBePart 40 = .ok (.lcmp, 1) := by decide +kernel
theorem md_T_mayBePart_41 : decode mc_T_mayBePart 41 = .ok (.ifCond .le 5, 3) := by decide +kernel
theorem md_T_mayBePart_44 : decode mc_T_mayBePart 44 = .ok (.iconst 0, 1) := by decide +kernel
theorem md_T_mayBePart_45 : decode mc_T_mayBePart 45 = .ok (.ireturn, 1) := by decide +kernel
theorem md_T_mayBePart_46 : decode mc_T_mayBePart 46 = .ok (.iload_n 0, 1) := by decide +kernel
theorem md_T_mayBePart_47 : decode mc_T_mayBePart 47 = .ok (.iconst 4, 1) := by decide +kernel
theorem md_T_mayBePart_48 : decode mc_T_mayBePart 48 = .ok (.if_icmp .ne 13, 3) := by decide +kernel
theorem md_T_mayBePart_51 : decode mc_T_mayBePart 51 = .ok (.lload_n 1, 1) := by decide +kernel
theorem md_T_mayBePart_52 : decode mc_T_mayBePart 52 = .ok (.ldc2_w 218, 3) := by decide +kernel
theorem md_T_mayBePart_55 : decode mc_T_mayBePart 55 = .ok (.lrem, 1) := by decide +kernel
theorem md_T_mayBePart_56 : decode mc_T_mayBePart 56 = .ok (.lconst 0, 1) := by decide +kernel
theorem md_T_mayBePart_57 : decode mc_T_mayBePart 57 = .ok (.lcmp, 1) := by decide +kernel
theorem md_T_mayBePart_58 : decode mc_T_mayBePart 58 = .ok (.ifCond .eq 7, 3) := by decide +kernel
theorem md_T_mayBePart_61 : decode mc_T_mayBePart 61 = .ok (.iconst 1, 1) := by decide +kernel
theorem md_T_mayBePart_62 : decode mc_T_mayBePart 62 = .ok (.goto 4, 3) := by decide +kernel
theorem md_T_mayBePart_65 : decode mc_T_mayBePart 65 = .ok (.iconst 0, 1) := by decide +kernel
theorem md_T_mayBePart_66 : decode mc_T_mayBePart 66 = .ok (.ireturn, 1) := by decide +kernel
theorem md_T_addTelling_0 : decode mc_T_addTelling 0 = .ok (.aconst_null, 1) := by decide +kernel
theorem md_T_addTelling_1 : decode mc_T_addTelling 1 = .ok (.astore_n 2, 1) := by decide +kernel
theorem md_T_addTelling_2 : decode mc_T_addTelling 2 = .ok (.aload_n 0, 1) := by decide +kernel
theorem md_T_addTelling_3 : decode mc_T_addTelling 3 = .ok (.getfield 220, 3) := by decide +kernel
theorem md_T_addTelling_6 : decode mc_T_addTelling 6 = .ok (.astore_n 3, 1) := by decide +kernel
theorem md_T_addTelling_7 : decode mc_T_addTelling 7 = .ok (.aload_n 3, 1) := by decide +kernel
theorem md_T_addTelling_8 : decode mc_T_addTelling 8 = .ok (.ifnull 24, 3) := by decide +kernel
theorem md_T_addTelling_11 : decode mc_T_addTelling 11 = .ok (.aload_n 3, 1) := by decide +kernel
theorem md_T_addTelling_12 : decode mc_T_addTelling 12 = .ok (.getfield 224, 3) := by decide +kernel
theorem md_T_addTelling_15 : decode mc_T_addTelling 15 = .ok (.aload_n 1, 1) := by decide +kernel
theorem md_T_addTelling_16 : decode mc_T_addTelling 16 = .ok (.getfield 224, 3) := by decide +kernel
theorem md_T_addTelling_19 : decode mc_T_addTelling 19 = .ok (.if_icmp .gt 13, 3) := by decide +kernel
theorem md_T_addTelling_22 : decode mc_T_addTelling 22 = .ok (.aload_n 3, 1) := by decide +kernel
theorem md_T_addTelling_23 : decode mc_T_addTelling 23 = .ok (.astore_n 2, 1) := by decide +kernel
theorem md_T_addTelling_24 : decode mc_T_addTelling 24 = .ok (.aload_n 3, 1) := by decide +kernel
theorem md_T_addTelling_25 : decode mc_T_addTelling 25 = .ok (.getfield 225, 3) := by decide +kernel
theorem md_T_addTelling_28 : decode mc_T_addTelling 28 = .ok (.astore_n 3, 1) := by decide +kernel
theorem md_T_addTelling_29 : decode mc_T_addTelling 29 = .ok (.goto (-22), 3) := by decide +kernel
theorem md_T_addTelling_32 : decode mc_T_addTelling 32 = .ok (.aload_n 2, 1) := by decide +kernel
theorem md_T_addTelling_33 : decode mc_T_addTelling 33 = .ok (.ifnonnull 19, 3) := by decide +kernel
theorem md_T_addTelling_36 : decode mc_T_addTelling 36 = .ok (.aload_n 1, 1) := by decide +kernel
theorem md_T_addTelling_37 : decode mc_T_addTelling 37 = .ok (.aload_n 0, 1) := by decide +kernel
theorem md_T_addTelling_38 : decode mc_T_addTelling 38 = .ok (.getfield 220, 3) := by decide +kernel
theorem md_T_addTelling_41 : decode mc_T_addTelling 41 = .ok (.putfield 225, 3) := by decide +kernel
theorem md_T_addTelling_44 : decode mc_T_addTelling 44 = .ok (.aload_n 0, 1) := by decide +kernel
theorem md_T_addTelling_45 : decode mc_T_addTelling 45 = .ok (.aload_n 1, 1) := by decide +kernel
theorem md_T_addTelling_46 : decode mc_T_addTelling 46 = .ok (.putfield 220, 3) := by decide +kernel
theorem md_T_addTelling_49 : decode mc_T_addTelling 49 = .ok (.goto 16, 3) := by decide +kernel
theorem md_T_addTelling_52 : decode mc_T_addTelling 52 = .ok (.aload_n 1, 1) := by decide +kernel
theorem md_T_addTelling_53 : decode mc_T_addTelling 53 = .ok (.aload_n 2, 1) := by decide +kernel
theorem md_T_addTelling_54 : decode mc_T_addTelling 54 = .ok (.getfield 225, 3) := by decide +kernel
theorem md_T_addTelling_57 : decode mc_T_addTelling 57 = .ok (.putfield 225, 3) := by decide +kernel
theorem md_T_addTelling_60 : decode mc_T_addTelling 60 = .ok (.aload_n 2, 1) := by decide +kernel
theorem md_T_addTelling_61 : decode mc_T_addTelling 61 = .ok (.aload_n 1, 1) := by decide +kernel
theorem md_T_addTelling_62 : decode mc_T_addTelling 62 = .ok (.putfield 225, 3) := by decide +kernel
theorem md_T_addTelling_65 : decode mc_T_addTelling 65 = .ok (.return_, 1) := by decide +kernel
theorem md_T_activateThoseTold_0 : decode mc_T_activateThoseTold 0 = .ok (.aload_n 0, 1) := by decide +kernel
theorem md_T_activateThoseTold_1 : decode mc_T_activateThoseTold 1 = .ok (.getfield 220, 3) := by decide +kernel
theorem md_T_activateThoseTold_4 : decode mc_T_activateThoseTold 4 = .ok (.astore_n 1, 1) := by decide +kernel
theorem md_T_activateThoseTold_5 : decode mc_T_activateThoseTold 5 = .ok (.aload_n 1, 1) := by decide +kernel
theorem md_T_activateThoseTold_6 : decode mc_T_activateThoseTold 6 = .ok (.ifnull 38, 3) := by decide +kernel
theorem md_T_activateThoseTold_9 : decode mc_T_activateThoseTold 9 = .ok (.aload_n 1, 1) := by decide +kernel
theorem md_T_activateThoseTold_10 : decode mc_T_activateThoseTold 10 = .ok (.getfield 224, 3) := by decide +kernel
theorem md_T_activateThoseTold_13 : decode mc_T_activateThoseTold 13 = .ok (.aload_n 0, 1) := by decide +kernel
theorem md_T_activateThoseTold_14 : decode mc_T_activateThoseTold 14 = .ok (.getfield 60, 3) := by decide +kernel
theorem md_T_activateThoseTold_17 : decode mc_T_activateThoseTold 17 = .ok (.if_icmp .gt 27, 3) := by decide +kernel
theorem md_T_activateThoseTold_20 : decode mc_T_activateThoseTold 20 = .ok (.aload_n 0, 1) := by decide +kernel
theorem md_T_activateThoseTold_21 : decode mc_T_activateThoseTold 21 = .ok (.aload_n 1, 1) := by decide +kernel
theorem md_T_activateThoseTold_22 : decode mc_T_activateThoseTold 22 = .ok (.getfield 225, 3) := by decide +kernel
theorem md_T_activateThoseTold_25 : decode mc_T_activateThoseTold 25 = .ok (.putfield 220, 3) := by decide +kernel
theorem md_T_activateThoseTold_28 : decode mc_T_activateThoseTold 28 = .ok (.aload_n 0, 1) := by decide +kernel
theorem md_T_activateThoseTold_29 : decode mc_T_activateThoseTold 29 = .ok (.aload_n 1, 1) := by decide +kernel
theorem md_T_activateThoseTold_30 : decode mc_T_activateThoseTold 30 = .ok (.getfield 228, 3) := by decide +kernel
theorem md_T_activateThoseTold_33 : decode mc_T_activateThoseTold 33 = .ok (.invokevirtual 231, 3) := by decide +kernel
theorem md_T_activateThoseTold_36 : decode mc_T_activateThoseTold 36 = .ok (.aload_n 1, 1) := by decide +kernel
theorem md_T_activateThoseTold_37 : decode mc_T_activateThoseTold 37 = .ok (.getfield 225, 3) := by decide +kernel
theorem md_T_activateThoseTold_40 : decode mc_T_activateThoseTold 40 = .ok (.astore_n 1, 1) := by decide +kernel
theorem md_T_activateThoseTold_41 : decode mc_T_activateThoseTold 41 = .ok (.goto (-36), 3) := by decide +kernel
theorem md_T_activateThoseTold_44 : decode mc_T_activateThoseTold 44 = .ok (.return_, 1) := by decide +kernel
theorem md_T_takeSteps_0 : decode mc_T_takeSteps 0 = .ok (.iconst 1, 1) := by decide +kernel
theorem md_T_takeSteps_1 : decode mc_T_takeSteps 1 = .ok (.istore_n 1, 1) := by decide +kernel
theorem md_T_takeSteps_2 : decode mc_T_takeSteps 2 = .ok (.iconst 0, 1) := by decide +kernel
theorem md_T_takeSteps_3 : decode mc_T_takeSteps 3 = .ok (.istore_n 2, 1) := by decide +kernel
theorem md_T_takeSteps_4 : decode mc_T_takeSteps 4 = .ok (.iload_n 1, 1) := by decide +kernel
theorem md_T_takeSteps_5 : decode mc_T_takeSteps 5 = .ok (.ifCond .eq 95, 3) := by decide +kernel
theorem md_T_takeSteps_8 : decode mc_T_takeSteps 8 = .ok (.iload_n 2, 1) := by decide +kernel
theorem md_T_takeSteps_9 : decode mc_T_takeSteps 9 = .ok (.sipush 1000, 3) := by decide +kernel
theorem md_T_takeSteps_12 : decode mc_T_takeSteps 12 = .ok (.if_icmp .ge 88, 3) := by decide +kernel
theorem md_T_takeSteps_15 : decode mc_T_takeSteps 15 = .ok (.iconst 0, 1) := by decide +kernel
theorem md_T_takeSteps_16 : decode mc_T_takeSteps 16 = .ok (.istore_n 1, 1) := by decide +kernel
theorem md_T_takeSteps_17 : decode mc_T_takeSteps 17 = .ok (.aload_n 0, 1) := by decide +kernel
theorem md_T_takeSteps_18 : decode mc_T_takeSteps 18 = .ok (.getfield 45, 3) := by decide +kernel
theorem md_T_takeSteps_21 : decode mc_T_takeSteps 21 = .ok (.astore_n 3, 1) := by decide +kernel
theorem md_T_takeSteps_22 : decode mc_T_takeSteps 22 = .ok (.aload_n 3, 1) := by decide +kernel
theorem md_T_takeSteps_23 : decode mc_T_takeSteps 23 = .ok (.arraylength, 1) := by decide +kernel
theorem md_T_takeSteps_24 : decode mc_T_takeSteps 24 = .ok (.istore 4, 2) := by decide +kernel
theorem md_T_takeSteps_26 : decode mc_T_takeSteps 26 = .ok (.iconst 0, 1) := by decide +kernel
theorem md_T_takeSteps_27 : decode mc_T_takeSteps 27 = .ok (.istore 5, 2) := by decide +kernel
theorem md_T_takeSteps_29 : decode mc_T_takeSteps 29 = .ok (.iload 5, 2) := by decide +kernel
theorem md_T_takeSteps_31 : decode mc_T_takeSteps 31 = .ok (.iload 4, 2) := by decide +kernel
theorem md_T_takeSteps_33 : decode mc_T_takeSteps 33 = .ok (.if_icmp .ge 61, 3) := by decide +kernel
theorem md_T_takeSteps_36 : decode mc_T_takeSteps 36 = .ok (.aload_n 3, 1) := by decide +kernel
theorem md_T_takeSteps_37 : decode mc_T_takeSteps 37 = .ok (.iload 5, 2) := by decide +kernel
theorem md_T_takeSteps_39 : decode mc_T_takeSteps 39 = .ok (.aaload, 1) := by decide +kernel
theorem md_T_takeSteps_40 : decode mc_T_takeSteps 40 = .ok (.astore 6, 2) := by decide +kernel
theorem md_T_takeSteps_42 : decode mc_T_takeSteps 42 = .ok (.aload_n 0, 1) := by decide +kernel
theorem md_T_takeSteps_43 : decode mc_T_takeSteps 43 = .ok (.aload 6, 2) := by decide +kernel
theorem md_T_takeSteps_45 : decode mc_T_takeSteps 45 = .ok (.invokevirtual 234, 3) := by decide +kernel
theorem md_T_takeSteps_48 : decode mc_T_takeSteps 48 = .ok (.astore 7, 2) := by decide +kernel
theorem md_T_takeSteps_50 : decode mc_T_takeSteps 50 = .ok (.iconst 0, 1) := by decide +kernel
theorem md_T_takeSteps_51 : decode mc_T_takeSteps 51 = .ok (.istore 8, 2) := by decide +kernel
theorem md_T_takeSteps_53 : decode mc_T_takeSteps 53 = .ok (.aload 7, 2) := by decide +kernel
theorem md_T_takeSteps_55 : decode mc_T_takeSteps 55 = .ok (.ifnull 33, 3) := by decide +kernel
theorem md_T_takeSteps_58 : decode mc_T_takeSteps 58 = .ok (.iload 8, 2) := by decide +kernel
theorem md_T_takeSteps_60 : decode mc_T_takeSteps 60 = .ok (.sipush 1000, 3) := by decide +kernel
theorem md_T_takeSteps_63 : decode mc_T_takeSteps 63 = .ok (.if_icmp .ge 25, 3) := by decide +kernel
theorem md_T_takeSteps_66 : decode mc_T_takeSteps 66 = .ok (.aload_n 0, 1) := by decide +kernel
theorem md_T_takeSteps_67 : decode mc_T_takeSteps 67 = .ok (.aload 7, 2) := by decide +kernel
theorem md_T_takeSteps_69 : decode mc_T_takeSteps 69 = .ok (.invokevirtual 237, 3) := by decide +kernel
theorem md_T_takeSteps_72 : decode mc_T_takeSteps 72 = .ok (.aload_n 0, 1) := by decide +kernel
theorem md_T_takeSteps_73 : decode mc_T_takeSteps 73 = .ok (.aload 6, 2) := by decide +kernel
theorem md_T_takeSteps_75 : decode mc_T_takeSteps 75 = .ok (.invokevirtual 234, 3) := by decide +kernel
theorem md_T_takeSteps_78 : decode mc_T_takeSteps 78 = .ok (.astore 7, 2) := by decide +kernel
theorem md_T_takeSteps_80 : decode mc_T_takeSteps 80 = .ok (.iconst 1, 1) := by decide +kernel
theorem md_T_takeSteps_81 : decode mc_T_takeSteps 81 = .ok (.istore_n 1, 1) := by decide +kernel
theorem md_T_takeSteps_82 : decode mc_T_takeSteps 82 = .ok (.iinc 8 1, 3) := by decide +kernel
theorem md_T_takeSteps_85 : decode mc_T_takeSteps 85 = .ok (.goto (-32), 3) := by decide +kernel
theorem md_T_takeSteps_88 : decode mc_T_takeSteps 88 = .ok (.iinc 5 1, 3) := by decide +kernel
theorem md_T_takeSteps_91 : decode mc_T_takeSteps 91 = .ok (.goto (-62), 3) := by decide +kernel
theorem md_T_takeSteps_94 : decode mc_T_takeSteps 94 = .ok (.iinc 2 1, 3) := by decide +kernel
theorem md_T_takeSteps_97 : decode mc_T_takeSteps 97 = .ok (.goto (-93), 3) := by decide +kernel
theorem md_T_takeSteps_100 : decode mc_T_takeSteps 100 = .ok (.return_, 1) := by decide +kernel
theorem md_T_taskWithStep_0 : decode mc_T_taskWithStep 0 = .ok (.aload_n 1, 1) := by decide +kernel
theorem md_T_taskWithStep_1 : decode mc_T_taskWithStep 1 = .ok (.getfield 240, 3) := by decide +kernel
theorem md_T_taskWithStep_4 : decode mc_T_taskWithStep 4 = .ok (.ifCond .ne 19, 3) := by decide +kernel
theorem md_T_taskWithStep_7 : decode mc_T_taskWithStep 7 = .ok (.aload_n 0, 1) := by decide +kernel
theorem md_T_taskWithStep_8 : decode mc_T_taskWithStep 8 = .ok (.getfield 30, 3) := by decide +kernel
theorem md_T_taskWithStep_11 : decode mc_T_taskWithStep 11 = .ok (.aload_n 0, 1) := by decide +kernel
theorem md_T_taskWithStep_12 : decode mc_T_taskWithStep 12 = .ok (.getfield 60, 3) := by decide +kernel
theorem md_T_taskWithStep_15 : decode mc_T_taskWithStep 15 = .ok (.invokevirtual 241, 3) := by decide +kernel
theorem md_T_taskWithStep_18 : decode mc_T_taskWithStep 18 = .ok (.ifnull 5, 3) := by decide +kernel
theorem md_T_taskWithStep_21 : decode mc_T_taskWithStep 21 = .ok (.aconst_null, 1) := by decide +kernel
theorem md_T_taskWithStep_22 : decode mc_T_taskWithStep 22 = .ok (.areturn, 1) := by decide +kernel
theorem md_T_taskWithStep_23 : decode mc_T_taskWithStep 23 = .ok (.aload_n 0, 1) := by decide +kernel
theorem md_T_taskWithStep_24 : decode mc_T_taskWithStep 24 = .ok (.aload_n 1, 1) := by decide +kernel
theorem md_T_taskWithStep_25 : decode mc_T_taskWithStep 25 = .ok (.invokevirtual 153, 3) := by decide +kernel
theorem md_T_taskWithStep_28 : decode mc_T_taskWithStep 28 = .ok (.aload_n 1, 1) := by decide +kernel
theorem md_T_taskWithStep_29 : decode mc_T_taskWithStep 29 = .ok (.getfield 245, 3) := by decide +kernel
theorem md_T_taskWithStep_32 : decode mc_T_taskWithStep 32 = .ok (.astore_n 2, 1) := by decide +kernel
theorem md_T_taskWithStep_33 : decode mc_T_taskWithStep 33 = .ok (.aload_n 2, 1) := by decide +kernel
theorem md_T_taskWithStep_34 : decode mc_T_taskWithStep 34 = .ok (.ifnull 10, 3) := by decide +kernel
theorem md_T_taskWithStep_37 : decode mc_T_taskWithStep 37 = .ok (.aload_n 2, 1) := by decide +kernel
theorem md_T_taskWithStep_38 : decode mc_T_taskWithStep 38 = .ok (.getfield 248, 3) := by decide +kernel
theorem md_T_taskWithStep_41 : decode mc_T_taskWithStep 41 = .ok (.ifnonnull 5, 3) := by decide +kernel
theorem md_T_taskWithStep_44 : decode mc_T_taskWithStep 44 = .ok (.aload_n 2, 1) := by decide +kernel
theorem md_T_taskWithStep_45 : decode mc_T_taskWithStep 45 = .ok (.areturn, 1) := by decide +kernel
theorem md_T_taskWithStep_46 : decode mc_T_taskWithStep 46 = .ok (.aload_n 2, 1) := by decide +kernel
theorem md_T_taskWithStep_47 : decode mc_T_taskWithStep 47 = .ok (.getfield 248, 3) := by decide +kernel
theorem md_T_taskWithStep_50 : decode mc_T_taskWithStep 50 = .ok (.astore_n 3, 1) := by decide +kernel
theorem md_T_taskWithStep_51 : decode mc_T_taskWithStep 51 = .ok (.aload_n 3, 1) := by decide +kernel
theorem md_T_taskWithStep_52 : decode mc_T_taskWithStep 52 = .ok (.getfield 252, 3) := by decide +kernel
theorem md_T_taskWithStep_55 : decode mc_T_taskWithStep 55 = .ok (.ifCond .eq 27, 3) := by decide +kernel
theorem md_T_taskWithStep_58 : decode mc_T_taskWithStep 58 = .ok (.aload_n 3, 1) := by decide +kernel
theorem md_T_taskWithStep_59 : decode mc_T_taskWithStep 59 = .ok (.getfield 252, 3) := by decide +kernel
theorem md_T_taskWithStep_62 : decode mc_T_taskWithStep 62 = .ok (.bipush 8, 2) := by decide +kernel
theorem md_T_taskWithStep_64 : decode mc_T_taskWithStep 64 = .ok (.if_icmp .ne 22, 3) := by decide +kernel
theorem md_T_taskWithStep_67 : decode mc_T_taskWithStep 67 = .ok (.aload_n 2, 1) := by decide +kernel
theorem md_T_taskWithStep_68 : decode mc_T_taskWithStep 68 = .ok (.aload_n 0, 1) := by decide +kernel
theorem md_T_taskWithStep_69 : decode mc_T_taskWithStep 69 = .ok (.aload_n 3, 1) := by decide +kernel
theorem md_T_taskWithStep_70 : decode mc_T_taskWithStep 70 = .ok (.getfield 255, 3) := by decide +kernel
theorem md_T_taskWithStep_73 : decode mc_T_taskWithStep 73 = .ok (.invokevirtual 189, 3) := by decide +kernel
theorem md_T_taskWithStep_76 : decode mc_T_taskWithStep 76 = .ok (.invokestatic 258, 3) := by decide +kernel
theorem md_T_taskWithStep_79 : decode mc_T_taskWithStep 79 = .ok (.ifCond .eq 7, 3) := by decide +kernel
theorem md_T_taskWithStep_82 : decode mc_T_taskWithStep 82 = .ok (.iconst 1, 1) := by decide +kernel
theorem md_T_taskWithStep_83 : decode mc_T_taskWithStep 83 = .ok (.goto 4, 3) := by decide +kernel
theorem md_T_taskWithStep_86 : decode mc_T_taskWithStep 86 = .ok (.iconst 0, 1) := by decide +kernel
theorem md_T_taskWithStep_87 : decode mc_T_taskWithStep 87 = .ok (.istore 4, 2) := by decide +kernel
theorem md_T_taskWithStep_89 : decode mc_T_taskWithStep 89 = .ok (.iload 4, 2) := by decide +kernel
theorem md_T_taskWithStep_91 : decode mc_T_taskWithStep 91 = .ok (.ifCond .eq 7, 3) := by decide +kernel
theorem md_T_taskWithStep_94 : decode mc_T_taskWithStep 94 = .ok (.aconst_null, 1) := by decide +kernel
theorem md_T_taskWithStep_95 : decode mc_T_taskWithStep 95 = .ok (.goto 4, 3) := by decide +kernel
theorem md_T_taskWithStep_98 : decode mc_T_taskWithStep 98 = .ok (.aload_n 2, 1) := by decide +kernel
theorem md_T_taskWithStep_99 : decode mc_T_taskWithStep 99 = .ok (.areturn, 1) := by decide +kernel
theorem md_T_choose_0 : decode mc_T_choose 0 = .ok (.aload_n 1, 1) := by decide +kernel
theorem md_T_choose_1 : decode mc_T_choose 1 = .ok (.getfield 245, 3) := by decide +kernel
theorem md_T_choose_4 : decode mc_T_choose 4 = .ok (.astore_n 2, 1) := by decide +kernel
theorem md_T_choose_5 : decode mc_T_choose 5 = .ok (.aload_n 2, 1) := by decide +kernel
theorem md_T_choose_6 : decode mc_T_choose 6 = .ok (.ifnull 18, 3) := by decide +kernel
theorem md_T_choose_9 : decode mc_T_choose 9 = .ok (.aload_n 2, 1) := by decide +kernel
theorem md_T_choose_10 : decode mc_T_choose 10 = .ok (.getfield 110, 3) := by decide +kernel
theorem md_T_choose_13 : decode mc_T_choose 13 = .ok (.ifCond .ne 11, 3) := by decide +kernel
theorem md_T_choose_16 : decode mc_T_choose 16 = .ok (.aload_n 1, 1) := by decide +kernel
theorem md_T_choose_17 : decode mc_T_choose 17 = .ok (.getfield 262, 3) := by decide +kernel
theorem md_T_choose_20 : decode mc_T_choose 20 = .ok (.ifCond .ne 4, 3) := by decide +kernel
theorem md_T_choose_23 : decode mc_T_choose 23 = .ok (.return_, 1) := by decide +kernel
theorem md_T_choose_24 : decode mc_T_choose 24 = .ok (.aload_n 1, 1) := by decide +kernel
theorem md_T_choose_25 : decode mc_T_choose 25 = .ok (.iconst 0, 1) := by decide +kernel
theorem md_T_choose_26 : decode mc_T_choose 26 = .ok (.putfield 262, 3) := by decide +kernel
theorem md_T_choose_29 : decode mc_T_choose 29 = .ok (.aload_n 2, 1) := by decide +kernel
theorem md_T_choose_30 : decode mc_T_choose 30 = .ok (.astore_n 3, 1) := by decide +kernel
theorem md_T_choose_31 : decode mc_T_choose 31 = .ok (.aload_n 1, 1) := by decide +kernel
theorem md_T_choose_32 : decode mc_T_choose 32 = .ok (.getfield 265, 3) := by decide +kernel
theorem md_T_choose_35 : decode mc_T_choose 35 = .ok (.astore 4, 2) := by decide +kernel
theorem md_T_choose_37 : decode mc_T_choose 37 = .ok (.aload 4, 2) := by decide +kernel
theorem md_T_choose_39 : decode mc_T_choose 39 = .ok (.ifnull 38, 3) := by decide +kernel
theorem md_T_choose_42 : decode mc_T_choose 42 = .ok (.aload 4, 2) := by decide +kernel
theorem md_T_choose_44 : decode mc_T_choose 44 = .ok (.getfield 172, 3) := by decide +kernel
theorem md_T_choose_47 : decode mc_T_choose 47 = .ok (.iconst 1, 1) := by decide +kernel
theorem md_T_choose_48 : decode mc_T_choose 48 = .ok (.if_icmp .ne 19, 3) := by decide +kernel
theorem md_T_choose_51 : decode mc_T_choose 51 = .ok (.aload_n 3, 1) := by decide +kernel
theorem md_T_choose_52 : decode mc_T_choose 52 = .ok (.ifnull 12, 3) := by decide +kernel
theorem md_T_choose_55 : decode mc_T_choose 55 = .ok (.aload 4, 2) := by decide +kernel
theorem md_T_choose_57 : decode mc_T_choose 57 = .ok (.aload_n 3, 1) := by decide +kernel
theorem md_T_choose_58 : decode mc_T_choose 58 = .ok (.invokevirtual 268, 3) := by decide +kernel
theorem md_T_choose_61 : decode mc_T_choose 61 = .ok (.ifCond .eq 6, 3) := by decide +kernel
theorem md_T_choose_64 : decode mc_T_choose 64 = .ok (.aload 4, 2) := by decide +kernel
theorem md_T_choose_66 : decode mc_T_choose 66 = .ok (.astore_n 3, 1) := by decide +kernel
theorem md_T_choose_67 : decode mc_T_choose 67 = .ok (.aload 4, 2) := by decide +kernel
theorem md_T_choose_69 : decode mc_T_choose 69 = .ok (.getfield 272, 3) := by decide +kernel
theorem md_T_choose_72 : decode mc_T_choose 72 = .ok (.astore 4, 2) := by decide +kernel
theorem md_T_choose_74 : decode mc_T_choose 74 = .ok (.goto (-37), 3) := by decide +kernel
theorem md_T_choose_77 : decode mc_T_choose 77 = .ok (.aload_n 3, 1) := by decide +kernel
theorem md_T_choose_78 : decode mc_T_choose 78 = .ok (.ifnull 8, 3) := by decide +kernel
theorem md_T_choose_81 : decode mc_T_choose 81 = .ok (.aload_n 3, 1) := by decide +kernel
theorem md_T_choose_82 : decode mc_T_choose 82 = .ok (.aload_n 2, 1) := by decide +kernel
theorem md_T_choose_83 : decode mc_T_choose 83 = .ok (.if_acmp .ne 4, 3) := by decide +kernel
theorem md_T_choose_86 : decode mc_T_choose 86 = .ok (.return_, 1) := by decide +kernel
theorem md_T_choose_87 : decode mc_T_choose 87 = .ok (.aload_n 2, 1) := by decide +kernel
theorem md_T_choose_88 : decode mc_T_choose 88 = .ok (.ifnull 8, 3) := by decide +kernel
theorem md_T_choose_91 : decode mc_T_choose 91 = .ok (.aload_n 2, 1) := by decide +kernel
theorem md_T_choose_92 : decode mc_T_choose 92 = .ok (.iconst 1, 1) := by decide +kernel
theorem md_T_choose_93 : decode mc_T_choose 93 = .ok (.putfield 172, 3) := by decide +kernel
theorem md_T_choose_96 : decode mc_T_choose 96 = .ok (.aload_n 3, 1) := by decide +kernel
theorem md_T_choose_97 : decode mc_T_choose 97 = .ok (.iconst 2, 1) := by decide +kernel
theorem md_T_choose_98 : decode mc_T_choose 98 = .ok (.putfield 172, 3) := by decide +kernel
theorem md_T_choose_101 : decode mc_T_choose 101 = .ok (.aload_n 1, 1) := by decide +kernel
theorem md_T_choose_102 : decode mc_T_choose 102 = .ok (.aload_n 3, 1) := by decide +kernel
theorem md_T_choose_103 : decode mc_T_choose 103 = .ok (.putfield 245, 3) := by decide +kernel
theorem md_T_choose_106 : decode mc_T_choose 106 = .ok (.return_, 1) := by decide +kernel
theorem md_T_startsToSpin_0 : decode mc_T_startsToSpin 0 = .ok (.aload_n 1, 1) := by decide +kernel
theorem md_T_startsToSpin_1 : decode mc_T_startsToSpin 1 = .ok (.ifnull 18, 3) := by decide +kernel
theorem md_T_startsToSpin_4 : decode mc_T_startsToSpin 4 = .ok (.aload_n 1, 1) := by decide +kernel
theorem md_T_startsToSpin_5 : decode mc_T_startsToSpin 5 = .ok (.getfield 193, 3) := by decide +kernel
theorem md_T_startsToSpin_8 : decode mc_T_startsToSpin 8 = .ok (.ifnull 11, 3) := by decide +kernel
theorem md_T_startsToSpin_11 : decode mc_T_startsToSpin 11 = .ok (.aload_n 1, 1) := by decide +kernel
theorem md_T_startsToSpin_12 : decode mc_T_startsToSpin 12 = .ok (.getfield 193, 3) := by decide +kernel
theorem md_T_startsToSpin_15 : decode mc_T_startsToSpin 15 = .ok (.aload_n 0, 1) := by decide +kernel
theorem md_T_startsToSpin_16 : decode mc_T_startsToSpin 16 = .ok (.if_acmp .ne 5, 3) := by decide +kernel
theorem md_T_startsToSpin_19 : decode mc_T_startsToSpin 19 = .ok (.iconst 0, 1) := by decide +kernel
theorem md_T_startsToSpin_20 : decode mc_T_startsToSpin 20 = .ok (.ireturn, 1) := by decide +kernel
theorem md_T_startsToSpin_21 : decode mc_T_startsToSpin 21 = .ok (.aload_n 1, 1) := by decide +kernel
theorem md_T_startsToSpin_22 : decode mc_T_startsToSpin 22 = .ok (.aload_n 0, 1) := by decide +kernel
theorem md_T_startsToSpin_23 : decode mc_T_startsToSpin 23 = .ok (.invokevirtual 275, 3) := by decide +kernel
theorem md_T_startsToSpin_26 : decode mc_T_startsToSpin 26 = .ok (.iconst 1, 1) := by decide +kernel
theorem md_T_startsToSpin_27 : decode mc_T_startsToSpin 27 = .ok (.ireturn, 1) := by decide +kernel
theorem md_T_doNextPart_0 : decode mc_T_doNextPart 0 = .ok (.aload_n 1, 1) := by decide +kernel
theorem md_T_doNextPart_1 : decode mc_T_doNextPart 1 = .ok (.getfield 248, 3) := by decide +kernel
theorem md_T_doNextPart_4 : decode mc_T_doNextPart 4 = .ok (.astore_n 2, 1) := by decide +kernel
theorem md_T_doNextPart_5 : decode mc_T_doNextPart 5 = .ok (.aload_n 2, 1) := by decide +kernel
theorem md_T_doNextPart_6 : decode mc_T_doNextPart 6 = .ok (.ifnonnull 9, 3) := by decide +kernel
theorem md_T_doNextPart_9 : decode mc_T_doNextPart 9 = .ok (.aload_n 0, 1) := by decide +kernel
theorem md_T_doNextPart_10 : decode mc_T_doNextPart 10 = .ok (.aload_n 1, 1) := by decide +kernel
theorem md_T_doNextPart_11 : decode mc_T_doNextPart 11 = .ok (.invokevirtual 278, 3) := by decide +kernel
theorem md_T_doNextPart_14 : decode mc_T_doNextPart 14 = .ok (.return_, 1) := by decide +kernel
theorem md_T_doNextPart_15 : decode mc_T_doNextPart 15 = .ok (.aload_n 1, 1) := by decide +kernel
theorem md_T_doNextPart_16 : decode mc_T_doNextPart 16 = .ok (.aload_n 2, 1) := by decide +kernel
theorem md_T_doNextPart_17 : decode mc_T_doNextPart 17 = .ok (.getfield 281, 3) := by decide +kernel
theorem md_T_doNextPart_20 : decode mc_T_doNextPart 20 = .ok (.putfield 248, 3) := by decide +kernel
theorem md_T_doNextPart_23 : decode mc_T_doNextPart 23 = .ok (.aload_n 2, 1) := by decide +kernel
theorem md_T_doNextPart_24 : decode mc_T_doNextPart 24 = .ok (.getfield 255, 3) := by decide +kernel
theorem md_T_doNextPart_27 : decode mc_T_doNextPart 27 = .ok (.istore_n 3, 1) := by decide +kernel
theorem md_T_doNextPart_28 : decode mc_T_doNextPart 28 = .ok (.aload_n 2, 1) := by decide +kernel
theorem md_T_doNextPart_29 : decode mc_T_doNextPart 29 = .ok (.getfield 252, 3) := by decide +kernel
theorem md_T_doNextPart_32 : decode mc_T_doNextPart 32 = .ok (.tableswitch 208 1 13 #[68, 77, 86, 95, 111, 120, 133, 146, 159, 172, 183, 191, 200], 68) := by decide +kernel
theorem md_T_doNextPart_100 : decode mc_T_doNextPart 100 = .ok (.aload_n 0, 1) := by decide +kernel
theorem md_T_doNextPart_101 : decode mc_T_doNextPart 101 = .ok (.aload_n 1, 1) := by decide +kernel
theorem md_T_doNextPart_102 : decode mc_T_doNextPart 102 = .ok (.iload_n 3, 1) := by decide +kernel
theorem md_T_doNextPart_103 : decode mc_T_doNextPart 103 = .ok (.invokevirtual 283, 3) := by decide +kernel
theorem md_T_doNextPart_106 : decode mc_T_doNextPart 106 = .ok (.goto 134, 3) := by decide +kernel
theorem md_T_doNextPart_109 : decode mc_T_doNextPart 109 = .ok (.aload_n 0, 1) := by decide +kernel
theorem md_T_doNextPart_110 : decode mc_T_doNextPart 110 = .ok (.aload_n 1, 1) := by decide +kernel
theorem md_T_doNextPart_111 : decode mc_T_doNextPart 111 = .ok (.iload_n 3, 1) := by decide +kernel
theorem md_T_doNextPart_112 : decode mc_T_doNextPart 112 = .ok (.invokevirtual 286, 3) := by decide +kernel
theorem md_T_doNextPart_115 : decode mc_T_doNextPart 115 = .ok (.goto 125, 3) := by decide +kernel
theorem md_T_doNextPart_118 : decode mc_T_doNextPart 118 = .ok (.aload_n 0, 1) := by decide +kernel
theorem md_T_doNextPart_119 : decode mc_T_doNextPart 119 = .ok (.aload_n 1, 1) := by decide +kernel
theorem md_T_doNextPart_120 : decode mc_T_doNextPart 120 = .ok (.iload_n 3, 1) := by decide +kernel
theorem md_T_doNextPart_121 : decode mc_T_doNextPart 121 = .ok (.invokevirtual 289, 3) := by decide +kernel
theorem md_T_doNextPart_124 : decode mc_T_doNextPart 124 = .ok (.goto 116, 3) := by decide +kernel
theorem md_T_doNextPart_127 : decode mc_T_doNextPart 127 = .ok (.aload_n 0, 1) := by decide +kernel
theorem md_T_doNextPart_128 : decode mc_T_doNextPart 128 = .ok (.aload_n 1, 1) := by decide +kernel
theorem md_T_doNextPart_129 : decode mc_T_doNextPart 129 = .ok (.iload_n 3, 1) := by decide +kernel
theorem md_T_doNextPart_130 : decode mc_T_doNextPart 130 = .ok (.ldc 175, 2) := by decide +kernel
theorem md_T_doNextPart_132 : decode mc_T_doNextPart 132 = .ok (.idiv, 1) := by decide +kernel
theorem md_T_doNextPart_133 : decode mc_T_doNextPart 133 = .ok (.iload_n 3, 1) := by decide +kernel
theorem md_T_doNextPart_134 : decode mc_T_doNextPart 134 = .ok (.ldc 175, 2) := by decide +kernel
theorem md_T_doNextPart_136 : decode mc_T_doNextPart 136 = .ok (.irem, 1) := by decide +kernel
theorem md_T_doNextPart_137 : decode mc_T_doNextPart 137 = .ok (.invokevirtual 292, 3) := by decide +kernel
theorem md_T_doNextPart_140 : decode mc_T_doNextPart 140 = .ok (.goto 100, 3) := by decide +kernel
theorem md_T_doNextPart_143 : decode mc_T_doNextPart 143 = .ok (.aload_n 0, 1) := by decide +kernel
theorem md_T_doNextPart_144 : decode mc_T_doNextPart 144 = .ok (.aload_n 1, 1) := by decide +kernel
theorem md_T_doNextPart_145 : decode mc_T_doNextPart 145 = .ok (.iload_n 3, 1) := by decide +kernel
theorem md_T_doNextPart_146 : decode mc_T_doNextPart 146 = .ok (.invokevirtual 296, 3) := by decide +kernel
theorem md_T_doNextPart_149 : decode mc_T_doNextPart 149 = .ok (.goto 91, 3) := by decide +kernel
theorem md_T_doNextPart_152 : decode mc_T_doNextPart 152 = .ok (.aload_n 0, 1) := by decide +kernel
theorem md_T_doNextPart_153 : decode mc_T_doNextPart 153 = .ok (.aload_n 1, 1) := by decide +kernel
theorem md_T_doNextPart_154 : decode mc_T_doNextPart 154 = .ok (.aload_n 0, 1) := by decide +kernel
theorem md_T_doNextPart_155 : decode mc_T_doNextPart 155 = .ok (.iload_n 3, 1) := by decide +kernel
theorem md_T_doNextPart_156 : decode mc_T_doNextPart 156 = .ok (.invokevirtual 85, 3) := by decide +kernel
theorem md_T_doNextPart_159 : decode mc_T_doNextPart 159 = .ok (.invokevirtual 299, 3) := by decide +kernel
theorem md_T_doNextPart_162 : decode mc_T_doNextPart 162 = .ok (.goto 78, 3) := by decide +kernel
theorem md_T_doNextPart_165 : decode mc_T_doNextPart 165 = .ok (.aload_n 0, 1) := by decide +kernel
theorem md_T_doNextPart_166 : decode mc_T_doNextPart 166 = .ok (.aload_n 1, 1) := by decide +kernel
theorem md_T_doNextPart_167 : decode mc_T_doNextPart 167 = .ok (.aload_n 0, 1) := by decide +kernel
theorem md_T_doNextPart_168 : decode mc_T_doNextPart 168 = .ok (.iload_n 3, 1) := by decide +kernel
theorem md_T_doNextPart_169 : decode mc_T_doNextPart 169 = .ok (.invokevirtual 85, 3) := by decide +kernel
theorem md_T_doNextPart_172 : decode mc_T_doNextPart 172 = .ok (.invokevirtual 303, 3) := by decide +kernel
theorem md_T_doNextPart_175 : decode mc_T_doNextPart 175 = .ok (.goto 65, 3) := by decide +kernel
theorem md_T_doNextPart_178 : decode mc_T_doNextPart 178 = .ok (.aload_n 0, 1) := by decide +kernel
theorem md_T_doNextPart_179 : decode mc_T_doNextPart 179 = .ok (.aload_n 1, 1) := by decide +kernel
theorem md_T_doNextPart_180 : decode mc_T_doNextPart 180 = .ok (.aload_n 0, 1) := by decide +kernel
theorem md_T_doNextPart_181 : decode mc_T_doNextPart 181 = .ok (.iload_n 3, 1) := by decide +kernel
theorem md_T_doNextPart_182 : decode mc_T_doNextPart 182 = .ok (.invokevirtual 189, 3) := by decide +kernel
theorem md_T_doNextPart_185 : decode mc_T_doNextPart 185 = .ok (.invokevirtual 306, 3) := by decide +kernel
theorem md_T_doNextPart_188 : decode mc_T_doNextPart 188 = .ok (.goto 52, 3) := by decide +kernel
theorem md_T_doNextPart_191 : decode mc_T_doNextPart 191 = .ok (.aload_n 0, 1) := by decide +kernel
theorem md_T_doNextPart_192 : decode mc_T_doNextPart 192 = .ok (.aload_n 1, 1) := by decide +kernel
theorem md_T_doNextPart_193 : decode mc_T_doNextPart 193 = .ok (.aload_n 0, 1) := by decide +kernel
theorem md_T_doNextPart_194 : decode mc_T_doNextPart 194 = .ok (.iload_n 3, 1) := by decide +kernel
theorem md_T_doNextPart_195 : decode mc_T_doNextPart 195 = .ok (.invokevirtual 189, 3) := by decide +kernel
theorem md_T_doNextPart_198 : decode mc_T_doNextPart 198 = .ok (.invokevirtual 310, 3) := by decide +kernel
theorem md_T_doNextPart_201 : decode mc_T_doNextPart 201 = .ok (.goto 39, 3) := by decide +kernel
theorem md_T_doNextPart_204 : decode mc_T_doNextPart 204 = .ok (.aload_n 1, 1) := by decide +kernel
theorem md_T_doNextPart_205 : decode mc_T_doNextPart 205 = .ok (.getfield 197, 3) := by decide +kernel
theorem md_T_doNextPart_208 : decode mc_T_doNextPart 208 = .ok (.iconst 1, 1) := by decide +kernel
theorem md_T_doNextPart_209 : decode mc_T_doNextPart 209 = .ok (.putfield 262, 3) := by decide +kernel
theorem md_T_doNextPart_212 : decode mc_T_doNextPart 212 = .ok (.goto 28, 3) := by decide +kernel
theorem md_T_doNextPart_215 : decode mc_T_doNextPart 215 = .ok (.aload_n 0, 1) := by decide +kernel
theorem md_T_doNextPart_216 : decode mc_T_doNextPart 216 = .ok (.aload_n 1, 1) := by decide +kernel
theorem md_T_doNextPart_217 : decode mc_T_doNextPart 217 = .ok (.invokevirtual 278, 3) := by decide +kernel
theorem md_T_doNextPart_220 : decode mc_T_doNextPart 220 = .ok (.goto 20, 3) := by decide +kernel
theorem md_T_doNextPart_223 : decode mc_T_doNextPart 223 = .ok (.aload_n 0, 1) := by decide +kernel
theorem md_T_doNextPart_224 : decode mc_T_doNextPart 224 = .ok (.aload_n 1, 1) := by decide +kernel
theorem md_T_doNextPart_225 : decode mc_T_doNextPart 225 = .ok (.iload_n 3, 1) := by decide +kernel
theorem md_T_doNextPart_226 : decode mc_T_doNextPart 226 = .ok (.invokevirtual 313, 3) := by decide +kernel
theorem md_T_doNextPart_229 : decode mc_T_doNextPart 229 = .ok (.goto 11, 3) := by decide +kernel
theorem md_T_doNextPart_232 : decode mc_T_doNextPart 232 = .ok (.aload_n 0, 1) := by decide +kernel
theorem md_T_doNextPart_233 : decode mc_T_doNextPart 233 = .ok (.aload_n 1, 1) := by decide +kernel
theorem md_T_doNextPart_234 : decode mc_T_doNextPart 234 = .ok (.invokevirtual 316, 3) := by decide +kernel
theorem md_T_doNextPart_237 : decode mc_T_doNextPart 237 = .ok (.goto 3, 3) := by decide +kernel
theorem md_T_doNextPart_240 : decode mc_T_doNextPart 240 = .ok (.return_, 1) := by decide +kernel
theorem md_T_activateByTask_0 : decode mc_T_activateByTask 0 = .ok (.aload_n 0, 1) := by decide +kernel
theorem md_T_activateByTask_1 : decode mc_T_activateByTask 1 = .ok (.iload_n 2, 1) := by decide +kernel
theorem md_T_activateByTask_2 : decode mc_T_activateByTask 2 = .ok (.invokevirtual 74, 3) := by decide +kernel
theorem md_T_activateByTask_5 : decode mc_T_activateByTask 5 = .ok (.astore_n 3, 1) := by decide +kernel
theorem md_T_activateByTask_6 : decode mc_T_activateByTask 6 = .ok (.aload_n 3, 1) := by decide +kernel
theorem md_T_activateByTask_7 : decode mc_T_activateByTask 7 = .ok (.ifnonnull 13, 3) := by decide +kernel
theorem md_T_activateByTask_10 : decode mc_T_activateByTask 10 = .ok (.aload_n 0, 1) := by decide +kernel
theorem md_T_activateByTask_11 : decode mc_T_activateByTask 11 = .ok (.bipush 8, 2) := by decide +kernel
theorem md_T_activateByTask_13 : decode mc_T_activateByTask 13 = .ok (.aload_n 1, 1) := by decide +kernel
theorem md_T_activateByTask_14 : decode mc_T_activateByTask 14 = .ok (.invokevirtual 319, 3) := by decide +kernel
theorem md_T_activateByTask_17 : decode mc_T_activateByTask 17 = .ok (.goto 8, 3) := by decide +kernel
theorem md_T_activateByTask_20 : decode mc_T_activateByTask 20 = .ok (.aload_n 0, 1) := by decide +kernel
theorem md_T_activateByTask_21 : decode mc_T_activateByTask 21 = .ok (.aload_n 3, 1) := by decide +kernel
theorem md_T_activateByTask_22 : decode mc_T_activateByTask 22 = .ok (.invokevirtual 231, 3) := by decide +kernel
theorem md_T_activateByTask_25 : decode mc_T_activateByTask 25 = .ok (.return_, 1) := by decide +kernel
theorem md_T_chain_0 : decode mc_T_chain 0 = .ok (.aload_n 0, 1) := by decide +kernel
theorem md_T_chain_1 : decode mc_T_chain 1 = .ok (.iload_n 2, 1) := by decide +kernel
theorem md_T_chain_2 : decode mc_T_chain 2 = .ok (.invokevirtual 74, 3) := by decide +kernel
theorem md_T_chain_5 : decode mc_T_chain 5 = .ok (.astore_n 3, 1) := by decide +kernel
theorem md_T_chain_6 : decode mc_T_chain 6 = .ok (.aload_n 3, 1) := by decide +kernel
theorem md_T_chain_7 : decode mc_T_chain 7 = .ok (.ifnonnull 10, 3) := by decide +kernel
theorem md_T_chain_10 : decode mc_T_chain 10 = .ok (.aload_n 0, 1) := by decide +kernel
theorem md_T_chain_11 : decode mc_T_chain 11 = .ok (.bipush 8, 2) := by decide +kernel
theorem md_T_chain_13 : decode mc_T_chain 13 = .ok (.aload_n 1, 1) := by decide +kernel
theorem md_T_chain_14 : decode mc_T_chain 14 = .ok (.invokevirtual 319, 3) := by decide +kernel
theorem md_T_chain_17 : decode mc_T_chain 17 = .ok (.aload_n 0, 1) := by decide +kernel
theorem md_T_chain_18 : decode mc_T_chain 18 = .ok (.aload_n 1, 1) := by decide +kernel
theorem md_T_chain_19 : decode mc_T_chain 19 = .ok (.invokevirtual 278, 3) := by decide +kernel
theorem md_T_chain_22 : decode mc_T_chain 22 = .ok (.aload_n 3, 1) := by decide +kernel
theorem md_T_chain_23 : decode mc_T_chain 23 = .ok (.ifnull 8, 3) := by decide +kernel
theorem md_T_chain_26 : decode mc_T_chain 26 = .ok (.aload_n 0, 1) := by decide +kernel
theorem md_T_chain_27 : decode mc_T_chain 27 = .ok (.aload_n 3, 1) := by decide +kernel
theorem md_T_chain_28 : decode mc_T_chain 28 = .ok (.invokevirtual 231, 3) := by decide +kernel
theorem md_T_chain_31 : decode mc_T_chain 31 = .ok (.return_, 1) := by decide +kernel
theorem md_T_waitFor_0 : decode mc_T_waitFor 0 = .ok (.aload_n 1, 1) := by decide +kernel
theorem md_T_waitFor_1 : decode mc_T_waitFor 1 = .ok (.getfield 323, 3) := by decide +kernel
theorem md_T_waitFor_4 : decode mc_T_waitFor 4 = .ok (.ifCond .ne 12, 3) := by decide +kernel
theorem md_T_waitFor_7 : decode mc_T_waitFor 7 = .ok (.aload_n 0, 1) := by decide +kernel
theorem md_T_waitFor_8 : decode mc_T_waitFor 8 = .ok (.iconst 2, 1) := by decide +kernel
theorem md_T_waitFor_9 : decode mc_T_waitFor 9 = .ok (.aload_n 1, 1) := by decide +kernel
theorem md_T_waitFor_10 : decode mc_T_waitFor 10 = .ok (.invokevirtual 319, 3) := by decide +kernel
theorem md_T_waitFor_13 : decode mc_T_waitFor 13 = .ok (.goto 53, 3) := by decide +kernel
theorem md_T_waitFor_16 : decode mc_T_waitFor 16 = .ok (.aload_n 1, 1) := by decide +kernel
theorem md_T_waitFor_17 : decode mc_T_waitFor 17 = .ok (.getfield 326, 3) := by decide +kernel
theorem md_T_waitFor_20 : decode mc_T_waitFor 20 = .ok (.ifnonnull 10, 3) := by decide +kernel
theorem md_T_waitFor_23 : decode mc_T_waitFor 23 = .ok (.aload_n 1, 1) := by decide +kernel
theorem md_T_waitFor_24 : decode mc_T_waitFor 24 = .ok (.getfield 330, 3) := by decide +kernel
theorem md_T_waitFor_27 : decode mc_T_waitFor 27 = .ok (.ifCond .le 12, 3) := by decide +kernel
theorem md_T_waitFor_30 : decode mc_T_waitFor 30 = .ok (.aload_n 0, 1) := by decide +kernel
theorem md_T_waitFor_31 : decode mc_T_waitFor 31 = .ok (.iconst 4, 1) := by decide +kernel
theorem md_T_waitFor_32 : decode mc_T_waitFor 32 = .ok (.aload_n 1, 1) := by decide +kernel
theorem md_T_waitFor_33 : decode mc_T_waitFor 33 = .ok (.invokevirtual 319, 3) := by decide +kernel
theorem md_T_waitFor_36 : decode mc_T_waitFor 36 = .ok (.goto 30, 3) := by decide +kernel
theorem md_T_waitFor_39 : decode mc_T_waitFor 39 = .ok (.aload_n 1, 1) := by decide +kernel
theorem md_T_waitFor_40 : decode mc_T_waitFor 40 = .ok (.getfield 183, 3) := by decide +kernel
theorem md_T_waitFor_43 : decode mc_T_waitFor 43 = .ok (.iload_n 2, 1) := by decide +kernel
theorem md_T_waitFor_44 : decode mc_T_waitFor 44 = .ok (.iand, 1) := by decide +kernel
theorem md_T_waitFor_45 : decode mc_T_waitFor 45 = .ok (.ifCond .ne 21, 3) := by decide +kernel
theorem md_T_waitFor_48 : decode mc_T_waitFor 48 = .ok (.aload_n 1, 1) := by decide +kernel
theorem md_T_waitFor_49 : decode mc_T_waitFor 49 = .ok (.iload_n 2, 1) := by decide +kernel
theorem md_T_waitFor_50 : decode mc_T_waitFor 50 = .ok (.putfield 333, 3) := by decide +kernel
theorem md_T_waitFor_53 : decode mc_T_waitFor 53 = .ok (.aload_n 1, 1) := by decide +kernel
theorem md_T_waitFor_54 : decode mc_T_waitFor 54 = .ok (.iconst 3, 1) := by decide +kernel
theorem md_T_waitFor_55 : decode mc_T_waitFor 55 = .ok (.putfield 172, 3) := by decide +kernel
theorem md_T_waitFor_58 : decode mc_T_waitFor 58 = .ok (.aload_n 1, 1) := by decide +kernel
theorem md_T_waitFor_59 : decode mc_T_waitFor 59 = .ok (.getfield 197, 3) := by decide +kernel
theorem md_T_waitFor_62 : decode mc_T_waitFor 62 = .ok (.aconst_null, 1) := by decide +kernel
theorem md_T_waitFor_63 : decode mc_T_waitFor 63 = .ok (.putfield 245, 3) := by decide +kernel
theorem md_T_waitFor_66 : decode mc_T_waitFor 66 = .ok (.return_, 1) := by decide +kernel
theorem md_T_setByTask_0 : decode mc_T_setByTask 0 = .ok (.aload_n 0, 1) := by decide +kernel
theorem md_T_setByTask_1 : decode mc_T_setByTask 1 = .ok (.iload_n 2, 1) := by decide +kernel
theorem md_T_setByTask_2 : decode mc_T_setByTask 2 = .ok (.invokevirtual 74, 3) := by decide +kernel
theorem md_T_setByTask_5 : decode mc_T_setByTask 5 = .ok (.astore 4, 2) := by decide +kernel
theorem md_T_setByTask_7 : decode mc_T_setByTask 7 = .ok (.aload 4, 2) := by decide +kernel
theorem md_T_setByTask_9 : decode mc_T_setByTask 9 = .ok (.ifnonnull 13, 3) := by decide +kernel
theorem md_T_setByTask_12 : decode mc_T_setByTask 12 = .ok (.aload_n 0, 1) := by decide +kernel
theorem md_T_setByTask_13 : decode mc_T_setByTask 13 = .ok (.bipush 8, 2) := by decide +kernel
theorem md_T_setByTask_15 : decode mc_T_setByTask 15 = .ok (.aload_n 1, 1) := by decide +kernel
theorem md_T_setByTask_16 : decode mc_T_setByTask 16 = .ok (.invokevirtual 319, 3) := by decide +kernel
theorem md_T_setByTask_19 : decode mc_T_setByTask 19 = .ok (.goto 27, 3) := by decide +kernel
theorem md_T_setByTask_22 : decode mc_T_setByTask 22 = .ok (.aload 4, 2) := by decide +kernel
theorem md_T_setByTask_24 : decode mc_T_setByTask 24 = .ok (.invokevirtual 176, 3) := by decide +kernel
theorem md_T_setByTask_27 : decode mc_T_setByTask 27 = .ok (.ifCond .ne 12, 3) := by decide +kernel
theorem md_T_setByTask_30 : decode mc_T_setByTask 30 = .ok (.aload_n 0, 1) := by decide +kernel
theorem md_T_setByTask_31 : decode mc_T_setByTask 31 = .ok (.iconst 5, 1) := by decide +kernel
theorem md_T_setByTask_32 : decode mc_T_setByTask 32 = .ok (.aload_n 1, 1) := by decide +kernel
theorem md_T_setByTask_33 : decode mc_T_setByTask 33 = .ok (.invokevirtual 319, 3) := by decide +kernel
theorem md_T_setByTask_36 : decode mc_T_setByTask 36 = .ok (.goto 10, 3) := by decide +kernel
theorem md_T_setByTask_39 : decode mc_T_setByTask 39 = .ok (.aload_n 0, 1) := by decide +kernel
theorem md_T_setByTask_40 : decode mc_T_setByTask 40 = .ok (.aload 4, 2) := by decide +kernel
theorem md_T_setByTask_42 : decode mc_T_setByTask 42 = .ok (.iload_n 3, 1) := by decide +kernel
theorem md_T_setByTask_43 : decode mc_T_setByTask 43 = .ok (.invokevirtual 180, 3) := by decide +kernel
theorem md_T_setByTask_46 : decode mc_T_setByTask 46 = .ok (.return_, 1) := by decide +kernel
theorem md_T_clearEvents_0 : decode mc_T_clearEvents 0 = .ok (.aload_n 1, 1) := by decide +kernel
theorem md_T_clearEvents_1 : decode mc_T_clearEvents 1 = .ok (.getfield 323, 3) := by decide +kernel
theorem md_T_clearEvents_4 : decode mc_T_clearEvents 4 = .ok (.ifCond .eq 18, 3) := by decide +kernel
theorem md_T_clearEvents_7 : decode mc_T_clearEvents 7 = .ok (.aload_n 1, 1) := by decide +kernel
theorem md_T_clearEvents_8 : decode mc_T_clearEvents 8 = .ok (.dup, 1) := by decide +kernel
theorem md_T_clearEvents_9 : decode mc_T_clearEvents 9 = .ok (.getfield 183, 3) := by decide +kernel
theorem md_T_clearEvents_12 : decode mc_T_clearEvents 12 = .ok (.iload_n 2, 1) := by decide +kernel
theorem md_T_clearEvents_13 : decode mc_T_clearEvents 13 = .ok (.iconst (-1), 1) := by decide +kernel
theorem md_T_clearEvents_14 : decode mc_T_clearEvents 14 = .ok (.ixor, 1) := by decide +kernel
theorem md_T_clearEvents_15 : decode mc_T_clearEvents 15 = .ok (.iand, 1) := by decide +kernel
theorem md_T_clearEvents_16 : decode mc_T_clearEvents 16 = .ok (.putfield 183, 3) := by decide +kernel
theorem md_T_clearEvents_19 : decode mc_T_clearEvents 19 = .ok (.goto 9, 3) := by decide +kernel
theorem md_T_clearEvents_22 : decode mc_T_clearEvents 22 = .ok (.aload_n 0, 1) := by decide +kernel
theorem md_T_clearEvents_23 : decode mc_T_clearEvents 23 = .ok (.iconst 2, 1) := by decide +kernel
theorem md_T_clearEvents_24 : decode mc_T_clearEvents 24 = .ok (.aload_n 1, 1) := by decide +kernel
theorem md_T_clearEvents_25 : decode mc_T_clearEvents 25 = .ok (.invokevirtual 319, 3) := by decide +kernel
theorem md_T_clearEvents_28 : decode mc_T_clearEvents 28 = .ok (.return_, 1) := by decide +kernel
theorem md_T_getResource_0 : decode mc_T_getResource 0 = .ok (.aload_n 2, 1) := by decide +kernel
theorem md_T_getResource_1 : decode mc_T_getResource 1 = .ok (.ifnull 10, 3) := by decide +kernel
theorem md_T_getResource_4 : decode mc_T_getResource 4 = .ok (.aload_n 2, 1) := by decide +kernel
theorem md_T_getResource_5 : decode mc_T_getResource 5 = .ok (.getfield 208, 3) := by decide +kernel
theorem md_T_getResource_8 : decode mc_T_getResource 8 = .ok (.ifnull 10, 3) := by decide +kernel
theorem md_T_getResource_11 : decode mc_T_getResource 11 = .ok (.aload_n 0, 1) := by decide +kernel
theorem md_T_getResource_12 : decode mc_T_getResource 12 = .ok (.iconst 4, 1) := by decide +kernel
theorem md_T_getResource_13 : decode mc_T_getResource 13 = .ok (.aload_n 1, 1) := by decide +kernel
theorem md_T_getResource_14 : decode mc_T_getResource 14 = .ok (.invokevirtual 319, 3) := by decide +kernel
theorem md_T_getResource_17 : decode mc_T_getResource 17 = .ok (.return_, 1) := by decide +kernel
theorem md_T_getResource_18 : decode mc_T_getResource 18 = .ok (.aload_n 2, 1) := by decide +kernel
theorem md_T_getResource_19 : decode mc_T_getResource 19 = .ok (.aload_n 1, 1) := by decide +kernel
theorem md_T_getResource_20 : decode mc_T_getResource 20 = .ok (.putfield 208, 3) := by decide +kernel
theorem md_T_getResource_23 : decode mc_T_getResource 23 = .ok (.aload_n 2, 1) := by decide +kernel
theorem md_T_getResource_24 : decode mc_T_getResource 24 = .ok (.aload_n 1, 1) := by decide +kernel
theorem md_T_getResource_25 : decode mc_T_getResource 25 = .ok (.getfield 326, 3) := by decide +kernel
theorem md_T_getResource_28 : decode mc_T_getResource 28 = .ok (.putfield 336, 3) := by decide +kernel
theorem md_T_getResource_31 : decode mc_T_getResource 31 = .ok (.aload_n 1, 1) := by decide +kernel
theorem md_T_getResource_32 : decode mc_T_getResource 32 = .ok (.aload_n 2, 1) := by decide +kernel
theorem md_T_getResource_33 : decode mc_T_getResource 33 = .ok (.putfield 326, 3) := by decide +kernel
theorem md_T_getResource_36 : decode mc_T_getResource 36 = .ok (.return_, 1) := by decide +kernel
theorem md_T_freeResource_0 : decode mc_T_freeResource 0 = .ok (.aload_n 2, 1) := by decide +kernel
theorem md_T_freeResource_1 : decode mc_T_freeResource 1 = .ok (.ifnull 11, 3) := by decide +kernel
theorem md_T_freeResource_4 : decode mc_T_freeResource 4 = .ok (.aload_n 2, 1) := by decide +kernel
theorem md_T_freeResource_5 : decode mc_T_freeResource 5 = .ok (.aload_n 1, 1) := by decide +kernel
theorem md_T_freeResource_6 : decode mc_T_freeResource 6 = .ok (.getfield 326, 3) := by decide +kernel
theorem md_T_freeResource_9 : decode mc_T_freeResource 9 = .ok (.if_acmp .eq 10, 3) := by decide +kernel
theorem md_T_freeResource_12 : decode mc_T_freeResource 12 = .ok (.aload_n 0, 1) := by decide +kernel
theorem md_T_freeResource_13 : decode mc_T_freeResource 13 = .ok (.iconst 4, 1) := by decide +kernel
theorem md_T_freeResource_14 : decode mc_T_freeResource 14 = .ok (.aload_n 1, 1) := by decide +kernel
theorem md_T_freeResource_15 : decode mc_T_freeResource 15 = .ok (.invokevirtual 319, 3) := by decide +kernel
theorem md_T_freeResource_18 : decode mc_T_freeResource 18 = .ok (.return_, 1) := by decide +kernel
theorem md_T_freeResource_19 : decode mc_T_freeResource 19 = .ok (.aload_n 2, 1) := by decide +kernel
theorem md_T_freeResource_20 : decode mc_T_freeResource 20 = .ok (.aconst_null, 1) := by decide +kernel
theorem md_T_freeResource_21 : decode mc_T_freeResource 21 = .ok (.putfield 208, 3) := by decide +kernel
theorem md_T_freeResource_24 : decode mc_T_freeResource 24 = .ok (.aload_n 1, 1) := by decide +kernel
theorem md_T_freeResource_25 : decode mc_T_freeResource 25 = .ok (.aload_n 2, 1) := by decide +kernel
theorem md_T_freeResource_26 : decode mc_T_freeResource 26 = .ok (.getfield 336, 3) := by decide +kernel
theorem md_T_freeResource_29 : decode mc_T_freeResource 29 = .ok (.putfield 326, 3) := by decide +kernel
theorem md_T_freeResource_32 : decode mc_T_freeResource 32 = .ok (.return_, 1) := by decide +kernel
theorem md_T_takeLock_0 : decode mc_T_takeLock 0 = .ok (.aload_n 2, 1) := by decide +kernel
theorem md_T_takeLock_1 : decode mc_T_takeLock 1 = .ok (.ifnull 10, 3) := by decide +kernel
theorem md_T_takeLock_4 : decode mc_T_takeLock 4 = .ok (.aload_n 2, 1) := by decide +kernel
theorem md_T_takeLock_5 : decode mc_T_takeLock 5 = .ok (.getfield 193, 3) := by decide +kernel
theorem md_T_takeLock_8 : decode mc_T_takeLock 8 = .ok (.ifnull 11, 3) := by decide +kernel
theorem md_T_takeLock_11 : decode mc_T_takeLock 11 = .ok (.aload_n 0, 1) := by decide +kernel
theorem md_T_takeLock_12 : decode mc_T_takeLock 12 = .ok (.bipush 6, 2) := by decide +kernel
theorem md_T_takeLock_14 : decode mc_T_takeLock 14 = .ok (.aload_n 1, 1) := by decide +kernel
theorem md_T_takeLock_15 : decode mc_T_takeLock 15 = .ok (.invokevirtual 319, 3) := by decide +kernel
theorem md_T_takeLock_18 : decode mc_T_takeLock 18 = .ok (.return_, 1) := by decide +kernel
theorem md_T_takeLock_19 : decode mc_T_takeLock 19 = .ok (.aload_n 2, 1) := by decide +kernel
theorem md_T_takeLock_20 : decode mc_T_takeLock 20 = .ok (.aload_n 1, 1) := by decide +kernel
theorem md_T_takeLock_21 : decode mc_T_takeLock 21 = .ok (.putfield 193, 3) := by decide +kernel
theorem md_T_takeLock_24 : decode mc_T_takeLock 24 = .ok (.aload_n 1, 1) := by decide +kernel
theorem md_T_takeLock_25 : decode mc_T_takeLock 25 = .ok (.dup, 1) := by decide +kernel
theorem md_T_takeLock_26 : decode mc_T_takeLock 26 = .ok (.getfield 330, 3) := by decide +kernel
theorem md_T_takeLock_29 : decode mc_T_takeLock 29 = .ok (.iconst 1, 1) := by decide +kernel
theorem md_T_takeLock_30 : decode mc_T_takeLock 30 = .ok (.iadd, 1) := by decide +kernel
theorem md_T_takeLock_31 : decode mc_T_takeLock 31 = .ok (.putfield 330, 3) := by decide +kernel
theorem md_T_takeLock_34 : decode mc_T_takeLock 34 = .ok (.return_, 1) := by decide +kernel
theorem md_T_unlock_0 : decode mc_T_unlock 0 = .ok (.aload_n 2, 1) := by decide +kernel
theorem md_T_unlock_1 : decode mc_T_unlock 1 = .ok (.ifnull 11, 3) := by decide +kernel
theorem md_T_unlock_4 : decode mc_T_unlock 4 = .ok (.aload_n 2, 1) := by decide +kernel
theorem md_T_unlock_5 : decode mc_T_unlock 5 = .ok (.getfield 193, 3) := by decide +kernel
theorem md_T_unlock_8 : decode mc_T_unlock 8 = .ok (.aload_n 1, 1) := by decide +kernel
theorem md_T_unlock_9 : decode mc_T_unlock 9 = .ok (.if_acmp .eq 11, 3) := by decide +kernel
theorem md_T_unlock_12 : decode mc_T_unlock 12 = .ok (.aload_n 0, 1) := by decide +kernel
theorem md_T_unlock_13 : decode mc_T_unlock 13 = .ok (.bipush 6, 2) := by decide +kernel
theorem md_T_unlock_15 : decode mc_T_unlock 15 = .ok (.aload_n 1, 1) := by decide +kernel
theorem md_T_unlock_16 : decode mc_T_unlock 16 = .ok (.invokevirtual 319, 3) := by decide +kernel
theorem md_T_unlock_19 : decode mc_T_unlock 19 = .ok (.return_, 1) := by decide +kernel
theorem md_T_unlock_20 : decode mc_T_unlock 20 = .ok (.aload_n 1, 1) := by decide +kernel
theorem md_T_unlock_21 : decode mc_T_unlock 21 = .ok (.dup, 1) := by decide +kernel
theorem md_T_unlock_22 : decode mc_T_unlock 22 = .ok (.getfield 330, 3) := by decide +kernel
theorem md_T_unlock_25 : decode mc_T_unlock 25 = .ok (.iconst 1, 1) := by decide +kernel
theorem md_T_unlock_26 : decode mc_T_unlock 26 = .ok (.isub, 1) := by decide +kernel
theorem md_T_unlock_27 : decode mc_T_unlock 27 = .ok (.putfield 330, 3) := by decide +kernel
theorem md_T_unlock_30 : decode mc_T_unlock 30 = .ok (.aload_n 2, 1) := by decide +kernel
theorem md_T_unlock_31 : decode mc_T_unlock 31 = .ok (.invokevirtual 339, 3) := by decide +kernel
theorem md_T_unlock_34 : decode mc_T_unlock 34 = .ok (.return_, 1) := by decide +kernel
theorem md_T_putOff_0 : decode mc_T_putOff 0 = .ok (.aload_n 1, 1) := by decide +kernel
theorem md_T_putOff_1 : decode mc_T_putOff 1 = .ok (.getfield 197, 3) := by decide +kernel
theorem md_T_putOff_4 : decode mc_T_putOff 4 = .ok (.getfield 240, 3) := by decide +kernel
theorem md_T_putOff_7 : decode mc_T_putOff 7 = .ok (.ifCond .ne 13, 3) := by decide +kernel
theorem md_T_putOff_10 : decode mc_T_putOff 10 = .ok (.aload_n 0, 1) := by decide +kernel
theorem md_T_putOff_11 : decode mc_T_putOff 11 = .ok (.getfield 30, 3) := by decide +kernel
theorem md_T_putOff_14 : decode mc_T_putOff 14 = .ok (.getfield 342, 3) := by decide +kernel
theorem md_T_putOff_17 : decode mc_T_putOff 17 = .ok (.ifnull 11, 3) := by decide +kernel
theorem md_T_putOff_20 : decode mc_T_putOff 20 = .ok (.aload_n 0, 1) := by decide +kernel
theorem md_T_putOff_21 : decode mc_T_putOff 21 = .ok (.bipush 7, 2) := by decide +kernel
theorem md_T_putOff_23 : decode mc_T_putOff 23 = .ok (.aload_n 1, 1) := by decide +kernel
theorem md_T_putOff_24 : decode mc_T_putOff 24 = .ok (.invokevirtual 319, 3) := by decide +kernel
theorem md_T_putOff_27 : decode mc_T_putOff 27 = .ok (.return_, 1) := by decide +kernel
theorem md_T_putOff_28 : decode mc_T_putOff 28 = .ok (.aload_n 0, 1) := by decide +kernel
theorem md_T_putOff_29 : decode mc_T_putOff 29 = .ok (.getfield 30, 3) := by decide +kernel
theorem md_T_putOff_32 : decode mc_T_putOff 32 = .ok (.aload_n 1, 1) := by decide +kernel
theorem md_T_putOff_33 : decode mc_T_putOff 33 = .ok (.putfield 342, 3) := by decide +kernel
theorem md_T_putOff_36 : decode mc_T_putOff 36 = .ok (.aload_n 0, 1) := by decide +kernel
theorem md_T_putOff_37 : decode mc_T_putOff 37 = .ok (.getfield 30, 3) := by decide +kernel
theorem md_T_putOff_40 : decode mc_T_putOff 40 = .ok (.aload_n 0, 1) := by decide +kernel
theorem md_T_putOff_41 : decode mc_T_putOff 41 = .ok (.getfield 60, 3) := by decide +kernel
theorem md_T_putOff_44 : decode mc_T_putOff 44 = .ok (.iload_n 2, 1) := by decide +kernel
theorem md_T_putOff_45 : decode mc_T_putOff 45 = .ok (.iadd, 1) := by decide +kernel
theorem md_T_putOff_46 : decode mc_T_putOff 46 = .ok (.putfield 345, 3) := by decide +kernel
theorem md_T_putOff_49 : decode mc_T_putOff 49 = .ok (.return_, 1) := by decide +kernel
theorem md_T_putOn_0 : decode mc_T_putOn 0 = .ok (.aload_n 1, 1) := by decide +kernel
theorem md_T_putOn_1 : decode mc_T_putOn 1 = .ok (.getfield 197, 3) := by decide +kernel
theorem md_T_putOn_4 : decode mc_T_putOn 4 = .ok (.getfield 240, 3) := by decide +kernel
theorem md_T_putOn_7 : decode mc_T_putOn 7 = .ok (.ifCond .ne 13, 3) := by decide +kernel
theorem md_T_putOn_10 : decode mc_T_putOn 10 = .ok (.aload_n 0, 1) := by decide +kernel
theorem md_T_putOn_11 : decode mc_T_putOn 11 = .ok (.getfield 30, 3) := by decide +kernel
theorem md_T_putOn_14 : decode mc_T_putOn 14 = .ok (.getfield 342, 3) := by decide +kernel
theorem md_T_putOn_17 : decode mc_T_putOn 17 = .ok (.ifnonnull 11, 3) := by decide +kernel
theorem md_T_putOn_20 : decode mc_T_putOn 20 = .ok (.aload_n 0, 1) := by decide +kernel
theorem md_T_putOn_21 : decode mc_T_putOn 21 = .ok (.bipush 7, 2) := by decide +kernel
theorem md_T_putOn_23 : decode mc_T_putOn 23 = .ok (.aload_n 1, 1) := by decide +kernel
theorem md_T_putOn_24 : decode mc_T_putOn 24 = .ok (.invokevirtual 319, 3) := by decide +kernel
theorem md_T_putOn_27 : decode mc_T_putOn 27 = .ok (.return_, 1) := by decide +kernel
theorem md_T_putOn_28 : decode mc_T_putOn 28 = .ok (.aload_n 0, 1) := by decide +kernel
theorem md_T_putOn_29 : decode mc_T_putOn 29 = .ok (.getfield 30, 3) := by decide +kernel
theorem md_T_putOn_32 : decode mc_T_putOn 32 = .ok (.aconst_null, 1) := by decide +kernel
theorem md_T_putOn_33 : decode mc_T_putOn 33 = .ok (.putfield 342, 3) := by decide +kernel
theorem md_T_putOn_36 : decode mc_T_putOn 36 = .ok (.return_, 1) := by decide +kernel
theorem md_T_setEvents_0 : decode mc_T_setEvents 0 = .ok (.aload_n 1, 1) := by decide +kernel
theorem md_T_setEvents_1 : decode mc_T_setEvents 1 = .ok (.dup, 1) := by decide +kernel
theorem md_T_setEvents_2 : decode mc_T_setEvents 2 = .ok (.getfield 183, 3) := by decide +kernel
theorem md_T_setEvents_5 : decode mc_T_setEvents 5 = .ok (.iload_n 2, 1) := by decide +kernel
theorem md_T_setEvents_6 : decode mc_T_setEvents 6 = .ok (.ior, 1) := by decide +kernel
theorem md_T_setEvents_7 : decode mc_T_setEvents 7 = .ok (.putfield 183, 3) := by decide +kernel
theorem md_T_setEvents_10 : decode mc_T_setEvents 10 = .ok (.aload_n 1, 1) := by decide +kernel
theorem md_T_setEvents_11 : decode mc_T_setEvents 11 = .ok (.getfield 172, 3) := by decide +kernel
theorem md_T_setEvents_14 : decode mc_T_setEvents 14 = .ok (.iconst 3, 1) := by decide +kernel
theorem md_T_setEvents_15 : decode mc_T_setEvents 15 = .ok (.if_icmp .ne 20, 3) := by decide +kernel
theorem md_T_setEvents_18 : decode mc_T_setEvents 18 = .ok (.aload_n 1, 1) := by decide +kernel
theorem md_T_setEvents_19 : decode mc_T_setEvents 19 = .ok (.getfield 183, 3) := by decide +kernel
theorem md_T_setEvents_22 : decode mc_T_setEvents 22 = .ok (.aload_n 1, 1) := by decide +kernel
theorem md_T_setEvents_23 : decode mc_T_setEvents 23 = .ok (.getfield 333, 3) := by decide +kernel
theorem md_T_setEvents_26 : decode mc_T_setEvents 26 = .ok (.iand, 1) := by decide +kernel
theorem md_T_setEvents_27 : decode mc_T_setEvents 27 = .ok (.ifCond .eq 8, 3) := by decide +kernel
theorem md_T_setEvents_30 : decode mc_T_setEvents 30 = .ok (.aload_n 0, 1) := by decide +kernel
theorem md_T_setEvents_31 : decode mc_T_setEvents 31 = .ok (.aload_n 1, 1) := by decide +kernel
theorem md_T_setEvents_32 : decode mc_T_setEvents 32 = .ok (.invokevirtual 348, 3) := by decide +kernel
theorem md_T_setEvents_35 : decode mc_T_setEvents 35 = .ok (.return_, 1) := by decide +kernel
theorem md_T_activateTask_0 : decode mc_T_activateTask 0 = .ok (.aload_n 1, 1) := by decide +kernel
theorem md_T_activateTask_1 : decode mc_T_activateTask 1 = .ok (.getfield 172, 3) := by decide +kernel
theorem md_T_activateTask_4 : decode mc_T_activateTask 4 = .ok (.ifCond .ne 11, 3) := by decide +kernel
theorem md_T_activateTask_7 : decode mc_T_activateTask 7 = .ok (.aload_n 0, 1) := by decide +kernel
theorem md_T_activateTask_8 : decode mc_T_activateTask 8 = .ok (.aload_n 1, 1) := by decide +kernel
theorem md_T_activateTask_9 : decode mc_T_activateTask 9 = .ok (.invokevirtual 351, 3) := by decide +kernel
theorem md_T_activateTask_12 : decode mc_T_activateTask 12 = .ok (.goto 35, 3) := by decide +kernel
theorem md_T_activateTask_15 : decode mc_T_activateTask 15 = .ok (.iconst 1, 1) := by decide +kernel
theorem md_T_activateTask_16 : decode mc_T_activateTask 16 = .ok (.aload_n 1, 1) := by decide +kernel
theorem md_T_activateTask_17 : decode mc_T_activateTask 17 = .ok (.getfield 354, 3) := by decide +kernel
theorem md_T_activateTask_20 : decode mc_T_activateTask 20 = .ok (.iadd, 1) := by decide +kernel
theorem md_T_activateTask_21 : decode mc_T_activateTask 21 = .ok (.aload_n 1, 1) := by decide +kernel
theorem md_T_activateTask_22 : decode mc_T_activateTask 22 = .ok (.getfield 357, 3) := by decide +kernel
theorem md_T_activateTask_25 : decode mc_T_activateTask 25 = .ok (.if_icmp .ge 16, 3) := by decide +kernel
theorem md_T_activateTask_28 : decode mc_T_activateTask 28 = .ok (.aload_n 1, 1) := by decide +kernel
theorem md_T_activateTask_29 : decode mc_T_activateTask 29 = .ok (.dup, 1) := by decide +kernel
theorem md_T_activateTask_30 : decode mc_T_activateTask 30 = .ok (.getfield 354, 3) := by decide +kernel
theorem md_T_activateTask_33 : decode mc_T_activateTask 33 = .ok (.iconst 1, 1) := by decide +kernel
theorem md_T_activateTask_34 : decode mc_T_activateTask 34 = .ok (.iadd, 1) := by decide +kernel
theorem md_T_activateTask_35 : decode mc_T_activateTask 35 = .ok (.putfield 354, 3) := by decide +kernel
theorem md_T_activateTask_38 : decode mc_T_activateTask 38 = .ok (.goto 9, 3) := by decide +kernel
theorem md_T_activateTask_41 : decode mc_T_activateTask 41 = .ok (.aload_n 0, 1) := by decide +kernel
theorem md_T_activateTask_42 : decode mc_T_activateTask 42 = .ok (.iconst 1, 1) := by decide +kernel
theorem md_T_activateTask_43 : decode mc_T_activateTask 43 = .ok (.aload_n 1, 1) := by decide +kernel
theorem md_T_activateTask_44 : decode mc_T_activateTask 44 = .ok (.invokevirtual 319, 3) := by decide +kernel
theorem md_T_activateTask_47 : decode mc_T_activateTask 47 = .ok (.return_, 1) := by decide +kernel
theorem md_T_endTask_0 : decode mc_T_endTask 0 = .ok (.aload_n 0, 1) := by decide +kernel
theorem md_T_endTask_1 : decode mc_T_endTask 1 = .ok (.aload_n 1, 1) := by decide +kernel
theorem md_T_endTask_2 : decode mc_T_endTask 2 = .ok (.invokevirtual 360, 3) := by decide +kernel
theorem md_T_endTask_5 : decode mc_T_endTask 5 = .ok (.ifCond .eq 9, 3) := by decide +kernel
theorem md_T_endTask_8 : decode mc_T_endTask 8 = .ok (.aload_n 0, 1) := by decide +kernel
theorem md_T_endTask_9 : decode mc_T_endTask 9 = .ok (.iconst 3, 1) := by decide +kernel
theorem md_T_endTask_10 : decode mc_T_endTask 10 = .ok (.aload_n 1, 1) := by decide +kernel
theorem md_T_endTask_11 : decode mc_T_endTask 11 = .ok (.invokevirtual 319, 3) := by decide +kernel
theorem md_T_endTask_14 : decode mc_T_endTask 14 = .ok (.aload_n 1, 1) := by decide +kernel
theorem md_T_endTask_15 : decode mc_T_endTask 15 = .ok (.iconst 0, 1) := by decide +kernel
theorem md_T_endTask_16 : decode mc_T_endTask 16 = .ok (.putfield 172, 3) := by decide +kernel
theorem md_T_endTask_19 : decode mc_T_endTask 19 = .ok (.aload_n 1, 1) := by decide +kernel
theorem md_T_endTask_20 : decode mc_T_endTask 20 = .ok (.getfield 197, 3) := by decide +kernel
theorem md_T_endTask_23 : decode mc_T_endTask 23 = .ok (.aconst_null, 1) := by decide +kernel
theorem md_T_endTask_24 : decode mc_T_endTask 24 = .ok (.putfield 245, 3) := by decide +kernel
theorem md_T_endTask_27 : decode mc_T_endTask 27 = .ok (.aload_n 1, 1) := by decide +kernel
theorem md_T_endTask_28 : decode mc_T_endTask 28 = .ok (.getfield 354, 3) := by decide +kernel
theorem md_T_endTask_31 : decode mc_T_endTask 31 = .ok (.ifCond .le 18, 3) := by decide +kernel
theorem md_T_endTask_34 : decode mc_T_endTask 34 = .ok (.aload_n 1, 1) := by decide +kernel
theorem md_T_endTask_35 : decode mc_T_endTask 35 = .ok (.dup, 1) := by decide +kernel
theorem md_T_endTask_36 : decode mc_T_endTask 36 = .ok (.getfield 354, 3) := by decide +kernel
theorem md_T_endTask_39 : decode mc_T_endTask 39 = .ok (.iconst 1, 1) := by decide +kernel
theorem md_T_endTask_40 : decode mc_T_endTask 40 = .ok (.isub, 1) := by decide +kernel
theorem md_T_endTask_41 : decode mc_T_endTask 41 = .ok (.putfield 354, 3) := by decide +kernel
theorem md_T_endTask_44 : decode mc_T_endTask 44 = .ok (.aload_n 0, 1) := by decide +kernel
theorem md_T_endTask_45 : decode mc_T_endTask 45 = .ok (.aload_n 1, 1) := by decide +kernel
theorem md_T_endTask_46 : decode mc_T_endTask 46 = .ok (.invokevirtual 351, 3) := by decide +kernel
theorem md_T_endTask_49 : decode mc_T_endTask 49 = .ok (.return_, 1) := by decide +kernel
theorem md_T_freeAll_0 : decode mc_T_freeAll 0 = .ok (.aload_n 1, 1) := by decide +kernel
theorem md_T_freeAll_1 : decode mc_T_freeAll 1 = .ok (.getfield 326, 3) := by decide +kernel
theorem md_T_freeAll_4 : decode mc_T_freeAll 4 = .ok (.ifnonnull 10, 3) := by decide +kernel
theorem md_T_freeAll_7 : decode mc_T_freeAll 7 = .ok (.aload_n 1, 1) := by decide +kernel
theorem md_T_freeAll_8 : decode mc_T_freeAll 8 = .ok (.getfield 330, 3) := by decide +kernel
