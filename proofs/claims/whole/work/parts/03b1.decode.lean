theorem md_T_freeAll_11 : decode mc_T_freeAll 11 = .ok (.ifCond .le 7, 3) := by decide +kernel
theorem md_T_freeAll_14 : decode mc_T_freeAll 14 = .ok (.iconst 1, 1) := by decide +kernel
theorem md_T_freeAll_15 : decode mc_T_freeAll 15 = .ok (.goto 4, 3) := by decide +kernel
theorem md_T_freeAll_18 : decode mc_T_freeAll 18 = .ok (.iconst 0, 1) := by decide +kernel
theorem md_T_freeAll_19 : decode mc_T_freeAll 19 = .ok (.istore_n 2, 1) := by decide +kernel
theorem md_T_freeAll_20 : decode mc_T_freeAll 20 = .ok (.aload_n 1, 1) := by decide +kernel
theorem md_T_freeAll_21 : decode mc_T_freeAll 21 = .ok (.getfield 326, 3) := by decide +kernel
theorem md_T_freeAll_24 : decode mc_T_freeAll 24 = .ok (.astore_n 3, 1) := by decide +kernel
theorem md_T_freeAll_25 : decode mc_T_freeAll 25 = .ok (.aload_n 3, 1) := by decide +kernel
theorem md_T_freeAll_26 : decode mc_T_freeAll 26 = .ok (.ifnull 16, 3) := by decide +kernel
theorem md_T_freeAll_29 : decode mc_T_freeAll 29 = .ok (.aload_n 3, 1) := by decide +kernel
theorem md_T_freeAll_30 : decode mc_T_freeAll 30 = .ok (.aconst_null, 1) := by decide +kernel
theorem md_T_freeAll_31 : decode mc_T_freeAll 31 = .ok (.putfield 208, 3) := by decide +kernel
theorem md_T_freeAll_34 : decode mc_T_freeAll 34 = .ok (.aload_n 3, 1) := by decide +kernel
theorem md_T_freeAll_35 : decode mc_T_freeAll 35 = .ok (.getfield 336, 3) := by decide +kernel
theorem md_T_freeAll_38 : decode mc_T_freeAll 38 = .ok (.astore_n 3, 1) := by decide +kernel
theorem md_T_freeAll_39 : decode mc_T_freeAll 39 = .ok (.goto (-14), 3) := by decide +kernel
theorem md_T_freeAll_42 : decode mc_T_freeAll 42 = .ok (.aload_n 1, 1) := by decide +kernel
theorem md_T_freeAll_43 : decode mc_T_freeAll 43 = .ok (.aconst_null, 1) := by decide +kernel
theorem md_T_freeAll_44 : decode mc_T_freeAll 44 = .ok (.putfield 326, 3) := by decide +kernel
theorem md_T_freeAll_47 : decode mc_T_freeAll 47 = .ok (.aload_n 0, 1) := by decide +kernel
theorem md_T_freeAll_48 : decode mc_T_freeAll 48 = .ok (.getfield 23, 3) := by decide +kernel
theorem md_T_freeAll_51 : decode mc_T_freeAll 51 = .ok (.astore_n 3, 1) := by decide +kernel
theorem md_T_freeAll_52 : decode mc_T_freeAll 52 = .ok (.aload_n 3, 1) := by decide +kernel
theorem md_T_freeAll_53 : decode mc_T_freeAll 53 = .ok (.arraylength, 1) := by decide +kernel
theorem md_T_freeAll_54 : decode mc_T_freeAll 54 = .ok (.istore 4, 2) := by decide +kernel
theorem md_T_freeAll_56 : decode mc_T_freeAll 56 = .ok (.iconst 0, 1) := by decide +kernel
theorem md_T_freeAll_57 : decode mc_T_freeAll 57 = .ok (.istore 5, 2) := by decide +kernel
theorem md_T_freeAll_59 : decode mc_T_freeAll 59 = .ok (.iload 5, 2) := by decide +kernel
theorem md_T_freeAll_61 : decode mc_T_freeAll 61 = .ok (.iload 4, 2) := by decide +kernel
theorem md_T_freeAll_63 : decode mc_T_freeAll 63 = .ok (.if_icmp .ge 29, 3) := by decide +kernel
theorem md_T_freeAll_66 : decode mc_T_freeAll 66 = .ok (.aload_n 3, 1) := by decide +kernel
theorem md_T_freeAll_67 : decode mc_T_freeAll 67 = .ok (.iload 5, 2) := by decide +kernel
theorem md_T_freeAll_69 : decode mc_T_freeAll 69 = .ok (.aaload, 1) := by decide +kernel
theorem md_T_freeAll_70 : decode mc_T_freeAll 70 = .ok (.astore 6, 2) := by decide +kernel
theorem md_T_freeAll_72 : decode mc_T_freeAll 72 = .ok (.aload 6, 2) := by decide +kernel
theorem md_T_freeAll_74 : decode mc_T_freeAll 74 = .ok (.getfield 193, 3) := by decide +kernel
theorem md_T_freeAll_77 : decode mc_T_freeAll 77 = .ok (.aload_n 1, 1) := by decide +kernel
theorem md_T_freeAll_78 : decode mc_T_freeAll 78 = .ok (.if_acmp .ne 8, 3) := by decide +kernel
theorem md_T_freeAll_81 : decode mc_T_freeAll 81 = .ok (.aload 6, 2) := by decide +kernel
theorem md_T_freeAll_83 : decode mc_T_freeAll 83 = .ok (.invokevirtual 339, 3) := by decide +kernel
theorem md_T_freeAll_86 : decode mc_T_freeAll 86 = .ok (.iinc 5 1, 3) := by decide +kernel
theorem md_T_freeAll_89 : decode mc_T_freeAll 89 = .ok (.goto (-30), 3) := by decide +kernel
theorem md_T_freeAll_92 : decode mc_T_freeAll 92 = .ok (.aload_n 1, 1) := by decide +kernel
theorem md_T_freeAll_93 : decode mc_T_freeAll 93 = .ok (.iconst 0, 1) := by decide +kernel
theorem md_T_freeAll_94 : decode mc_T_freeAll 94 = .ok (.putfield 330, 3) := by decide +kernel
theorem md_T_freeAll_97 : decode mc_T_freeAll 97 = .ok (.aload_n 0, 1) := by decide +kernel
theorem md_T_freeAll_98 : decode mc_T_freeAll 98 = .ok (.getfield 30, 3) := by decide +kernel
theorem md_T_freeAll_101 : decode mc_T_freeAll 101 = .ok (.getfield 342, 3) := by decide +kernel
theorem md_T_freeAll_104 : decode mc_T_freeAll 104 = .ok (.aload_n 1, 1) := by decide +kernel
theorem md_T_freeAll_105 : decode mc_T_freeAll 105 = .ok (.if_acmp .ne 13, 3) := by decide +kernel
theorem md_T_freeAll_108 : decode mc_T_freeAll 108 = .ok (.aload_n 0, 1) := by decide +kernel
theorem md_T_freeAll_109 : decode mc_T_freeAll 109 = .ok (.getfield 30, 3) := by decide +kernel
theorem md_T_freeAll_112 : decode mc_T_freeAll 112 = .ok (.aconst_null, 1) := by decide +kernel
theorem md_T_freeAll_113 : decode mc_T_freeAll 113 = .ok (.putfield 342, 3) := by decide +kernel
theorem md_T_freeAll_116 : decode mc_T_freeAll 116 = .ok (.iconst 1, 1) := by decide +kernel
theorem md_T_freeAll_117 : decode mc_T_freeAll 117 = .ok (.istore_n 2, 1) := by decide +kernel
theorem md_T_freeAll_118 : decode mc_T_freeAll 118 = .ok (.iload_n 2, 1) := by decide +kernel
theorem md_T_freeAll_119 : decode mc_T_freeAll 119 = .ok (.ireturn, 1) := by decide +kernel
theorem md_T_startTask_0 : decode mc_T_startTask 0 = .ok (.aload_n 1, 1) := by decide +kernel
theorem md_T_startTask_1 : decode mc_T_startTask 1 = .ok (.iconst 0, 1) := by decide +kernel
theorem md_T_startTask_2 : decode mc_T_startTask 2 = .ok (.putfield 183, 3) := by decide +kernel
theorem md_T_startTask_5 : decode mc_T_startTask 5 = .ok (.aload_n 1, 1) := by decide +kernel
theorem md_T_startTask_6 : decode mc_T_startTask 6 = .ok (.aload_n 1, 1) := by decide +kernel
theorem md_T_startTask_7 : decode mc_T_startTask 7 = .ok (.getfield 363, 3) := by decide +kernel
theorem md_T_startTask_10 : decode mc_T_startTask 10 = .ok (.putfield 248, 3) := by decide +kernel
theorem md_T_startTask_13 : decode mc_T_startTask 13 = .ok (.aload_n 0, 1) := by decide +kernel
theorem md_T_startTask_14 : decode mc_T_startTask 14 = .ok (.aload_n 1, 1) := by decide +kernel
theorem md_T_startTask_15 : decode mc_T_startTask 15 = .ok (.invokevirtual 348, 3) := by decide +kernel
theorem md_T_startTask_18 : decode mc_T_startTask 18 = .ok (.return_, 1) := by decide +kernel
theorem md_T_makeReady_0 : decode mc_T_makeReady 0 = .ok (.aload_n 0, 1) := by decide +kernel
theorem md_T_makeReady_1 : decode mc_T_makeReady 1 = .ok (.dup, 1) := by decide +kernel
theorem md_T_makeReady_2 : decode mc_T_makeReady 2 = .ok (.getfield 366, 3) := by decide +kernel
theorem md_T_makeReady_5 : decode mc_T_makeReady 5 = .ok (.iconst 1, 1) := by decide +kernel
theorem md_T_makeReady_6 : decode mc_T_makeReady 6 = .ok (.iadd, 1) := by decide +kernel
theorem md_T_makeReady_7 : decode mc_T_makeReady 7 = .ok (.putfield 366, 3) := by decide +kernel
theorem md_T_makeReady_10 : decode mc_T_makeReady 10 = .ok (.aload_n 1, 1) := by decide +kernel
theorem md_T_makeReady_11 : decode mc_T_makeReady 11 = .ok (.aload_n 0, 1) := by decide +kernel
theorem md_T_makeReady_12 : decode mc_T_makeReady 12 = .ok (.getfield 366, 3) := by decide +kernel
theorem md_T_makeReady_15 : decode mc_T_makeReady 15 = .ok (.putfield 369, 3) := by decide +kernel
theorem md_T_makeReady_18 : decode mc_T_makeReady 18 = .ok (.aload_n 1, 1) := by decide +kernel
theorem md_T_makeReady_19 : decode mc_T_makeReady 19 = .ok (.iconst 1, 1) := by decide +kernel
theorem md_T_makeReady_20 : decode mc_T_makeReady 20 = .ok (.putfield 172, 3) := by decide +kernel
theorem md_T_makeReady_23 : decode mc_T_makeReady 23 = .ok (.return_, 1) := by decide +kernel
theorem md_T_tellCode_0 : decode mc_T_tellCode 0 = .ok (.aload_n 0, 1) := by decide +kernel
theorem md_T_tellCode_1 : decode mc_T_tellCode 1 = .ok (.getfield 39, 3) := by decide +kernel
theorem md_T_tellCode_4 : decode mc_T_tellCode 4 = .ok (.iload_n 1, 1) := by decide +kernel
theorem md_T_tellCode_5 : decode mc_T_tellCode 5 = .ok (.aload_n 2, 1) := by decide +kernel
theorem md_T_tellCode_6 : decode mc_T_tellCode 6 = .ok (.getfield 201, 3) := by decide +kernel
theorem md_T_tellCode_9 : decode mc_T_tellCode 9 = .ok (.aload_n 0, 1) := by decide +kernel
theorem md_T_tellCode_10 : decode mc_T_tellCode 10 = .ok (.getfield 60, 3) := by decide +kernel
theorem md_T_tellCode_13 : decode mc_T_tellCode 13 = .ok (.invokevirtual 372, 3) := by decide +kernel
theorem md_T_tellCode_16 : decode mc_T_tellCode 16 = .ok (.return_, 1) := by decide +kernel
theorem md_T_tellIfOffTooLong_0 : decode mc_T_tellIfOffTooLong 0 = .ok (.aload_n 0, 1) := by decide +kernel
theorem md_T_tellIfOffTooLong_1 : decode mc_T_tellIfOffTooLong 1 = .ok (.getfield 30, 3) := by decide +kernel
theorem md_T_tellIfOffTooLong_4 : decode mc_T_tellIfOffTooLong 4 = .ok (.getfield 342, 3) := by decide +kernel
theorem md_T_tellIfOffTooLong_7 : decode mc_T_tellIfOffTooLong 7 = .ok (.astore_n 1, 1) := by decide +kernel
theorem md_T_tellIfOffTooLong_8 : decode mc_T_tellIfOffTooLong 8 = .ok (.aload_n 1, 1) := by decide +kernel
theorem md_T_tellIfOffTooLong_9 : decode mc_T_tellIfOffTooLong 9 = .ok (.ifnull 24, 3) := by decide +kernel
theorem md_T_tellIfOffTooLong_12 : decode mc_T_tellIfOffTooLong 12 = .ok (.aload_n 0, 1) := by decide +kernel
theorem md_T_tellIfOffTooLong_13 : decode mc_T_tellIfOffTooLong 13 = .ok (.getfield 30, 3) := by decide +kernel
theorem md_T_tellIfOffTooLong_16 : decode mc_T_tellIfOffTooLong 16 = .ok (.getfield 345, 3) := by decide +kernel
theorem md_T_tellIfOffTooLong_19 : decode mc_T_tellIfOffTooLong 19 = .ok (.aload_n 0, 1) := by decide +kernel
theorem md_T_tellIfOffTooLong_20 : decode mc_T_tellIfOffTooLong 20 = .ok (.getfield 60, 3) := by decide +kernel
theorem md_T_tellIfOffTooLong_23 : decode mc_T_tellIfOffTooLong 23 = .ok (.if_icmp .ne 10, 3) := by decide +kernel
theorem md_T_tellIfOffTooLong_26 : decode mc_T_tellIfOffTooLong 26 = .ok (.aload_n 0, 1) := by decide +kernel
theorem md_T_tellIfOffTooLong_27 : decode mc_T_tellIfOffTooLong 27 = .ok (.bipush 9, 2) := by decide +kernel
theorem md_T_tellIfOffTooLong_29 : decode mc_T_tellIfOffTooLong 29 = .ok (.aload_n 1, 1) := by decide +kernel
theorem md_T_tellIfOffTooLong_30 : decode mc_T_tellIfOffTooLong 30 = .ok (.invokevirtual 319, 3) := by decide +kernel
theorem md_T_tellIfOffTooLong_33 : decode mc_T_tellIfOffTooLong 33 = .ok (.return_, 1) := by decide +kernel
theorem md_T_quietMicroseconds_0 : decode mc_T_quietMicroseconds 0 = .ok (.aload_n 0, 1) := by decide +kernel
theorem md_T_quietMicroseconds_1 : decode mc_T_quietMicroseconds 1 = .ok (.getfield 30, 3) := by decide +kernel
theorem md_T_quietMicroseconds_4 : decode mc_T_quietMicroseconds 4 = .ok (.aload_n 0, 1) := by decide +kernel
theorem md_T_quietMicroseconds_5 : decode mc_T_quietMicroseconds 5 = .ok (.getfield 60, 3) := by decide +kernel
theorem md_T_quietMicroseconds_8 : decode mc_T_quietMicroseconds 8 = .ok (.invokevirtual 241, 3) := by decide +kernel
theorem md_T_quietMicroseconds_11 : decode mc_T_quietMicroseconds 11 = .ok (.astore_n 2, 1) := by decide +kernel
theorem md_T_quietMicroseconds_12 : decode mc_T_quietMicroseconds 12 = .ok (.iload_n 1, 1) := by decide +kernel
theorem md_T_quietMicroseconds_13 : decode mc_T_quietMicroseconds 13 = .ok (.aload_n 0, 1) := by decide +kernel
theorem md_T_quietMicroseconds_14 : decode mc_T_quietMicroseconds 14 = .ok (.getfield 30, 3) := by decide +kernel
theorem md_T_quietMicroseconds_17 : decode mc_T_quietMicroseconds 17 = .ok (.aload_n 0, 1) := by decide +kernel
theorem md_T_quietMicroseconds_18 : decode mc_T_quietMicroseconds 18 = .ok (.getfield 60, 3) := by decide +kernel
theorem md_T_quietMicroseconds_21 : decode mc_T_quietMicroseconds 21 = .ok (.invokevirtual 374, 3) := by decide +kernel
theorem md_T_quietMicroseconds_24 : decode mc_T_quietMicroseconds 24 = .ok (.invokestatic 377, 3) := by decide +kernel
theorem md_T_quietMicroseconds_27 : decode mc_T_quietMicroseconds 27 = .ok (.istore_n 3, 1) := by decide +kernel
theorem md_T_quietMicroseconds_28 : decode mc_T_quietMicroseconds 28 = .ok (.aload_n 0, 1) := by decide +kernel
theorem md_T_quietMicroseconds_29 : decode mc_T_quietMicroseconds 29 = .ok (.getfield 220, 3) := by decide +kernel
theorem md_T_quietMicroseconds_32 : decode mc_T_quietMicroseconds 32 = .ok (.ifnull 15, 3) := by decide +kernel
theorem md_T_quietMicroseconds_35 : decode mc_T_quietMicroseconds 35 = .ok (.iload_n 3, 1) := by decide +kernel
theorem md_T_quietMicroseconds_36 : decode mc_T_quietMicroseconds 36 = .ok (.aload_n 0, 1) := by decide +kernel
theorem md_T_quietMicroseconds_37 : decode mc_T_quietMicroseconds 37 = .ok (.getfield 220, 3) := by decide +kernel
theorem md_T_quietMicroseconds_40 : decode mc_T_quietMicroseconds 40 = .ok (.getfield 224, 3) := by decide +kernel
theorem md_T_quietMicroseconds_43 : decode mc_T_quietMicroseconds 43 = .ok (.invokestatic 377, 3) := by decide +kernel
theorem md_T_quietMicroseconds_46 : decode mc_T_quietMicroseconds 46 = .ok (.istore_n 3, 1) := by decide +kernel
theorem md_T_quietMicroseconds_47 : decode mc_T_quietMicroseconds 47 = .ok (.aload_n 2, 1) := by decide +kernel
theorem md_T_quietMicroseconds_48 : decode mc_T_quietMicroseconds 48 = .ok (.ifnull 17, 3) := by decide +kernel
theorem md_T_quietMicroseconds_51 : decode mc_T_quietMicroseconds 51 = .ok (.iload_n 3, 1) := by decide +kernel
theorem md_T_quietMicroseconds_52 : decode mc_T_quietMicroseconds 52 = .ok (.aload_n 0, 1) := by decide +kernel
theorem md_T_quietMicroseconds_53 : decode mc_T_quietMicroseconds 53 = .ok (.getfield 60, 3) := by decide +kernel
theorem md_T_quietMicroseconds_56 : decode mc_T_quietMicroseconds 56 = .ok (.aload_n 2, 1) := by decide +kernel
theorem md_T_quietMicroseconds_57 : decode mc_T_quietMicroseconds 57 = .ok (.getfield 380, 3) := by decide +kernel
theorem md_T_quietMicroseconds_60 : decode mc_T_quietMicroseconds 60 = .ok (.iadd, 1) := by decide +kernel
theorem md_T_quietMicroseconds_61 : decode mc_T_quietMicroseconds 61 = .ok (.invokestatic 377, 3) := by decide +kernel
theorem md_T_quietMicroseconds_64 : decode mc_T_quietMicroseconds 64 = .ok (.istore_n 3, 1) := by decide +kernel
theorem md_T_quietMicroseconds_65 : decode mc_T_quietMicroseconds 65 = .ok (.aload_n 0, 1) := by decide +kernel
theorem md_T_quietMicroseconds_66 : decode mc_T_quietMicroseconds 66 = .ok (.getfield 45, 3) := by decide +kernel
theorem md_T_quietMicroseconds_69 : decode mc_T_quietMicroseconds 69 = .ok (.astore 4, 2) := by decide +kernel
theorem md_T_quietMicroseconds_71 : decode mc_T_quietMicroseconds 71 = .ok (.aload 4, 2) := by decide +kernel
theorem md_T_quietMicroseconds_73 : decode mc_T_quietMicroseconds 73 = .ok (.arraylength, 1) := by decide +kernel
theorem md_T_quietMicroseconds_74 : decode mc_T_quietMicroseconds 74 = .ok (.istore 5, 2) := by decide +kernel
theorem md_T_quietMicroseconds_76 : decode mc_T_quietMicroseconds 76 = .ok (.iconst 0, 1) := by decide +kernel
theorem md_T_quietMicroseconds_77 : decode mc_T_quietMicroseconds 77 = .ok (.istore 6, 2) := by decide +kernel
theorem md_T_quietMicroseconds_79 : decode mc_T_quietMicroseconds 79 = .ok (.iload 6, 2) := by decide +kernel
theorem md_T_quietMicroseconds_81 : decode mc_T_quietMicroseconds 81 = .ok (.iload 5, 2) := by decide +kernel
theorem md_T_quietMicroseconds_83 : decode mc_T_quietMicroseconds 83 = .ok (.if_icmp .ge 66, 3) := by decide +kernel
theorem md_T_quietMicroseconds_86 : decode mc_T_quietMicroseconds 86 = .ok (.aload 4, 2) := by decide +kernel
theorem md_T_quietMicroseconds_88 : decode mc_T_quietMicroseconds 88 = .ok (.iload 6, 2) := by decide +kernel
theorem md_T_quietMicroseconds_90 : decode mc_T_quietMicroseconds 90 = .ok (.aaload, 1) := by decide +kernel
theorem md_T_quietMicroseconds_91 : decode mc_T_quietMicroseconds 91 = .ok (.astore 7, 2) := by decide +kernel
theorem md_T_quietMicroseconds_93 : decode mc_T_quietMicroseconds 93 = .ok (.aload 7, 2) := by decide +kernel
theorem md_T_quietMicroseconds_95 : decode mc_T_quietMicroseconds 95 = .ok (.getfield 240, 3) := by decide +kernel
theorem md_T_quietMicroseconds_98 : decode mc_T_quietMicroseconds 98 = .ok (.ifCond .ne 11, 3) := by decide +kernel
theorem md_T_quietMicroseconds_101 : decode mc_T_quietMicroseconds 101 = .ok (.aload_n 2, 1) := by decide +kernel
theorem md_T_quietMicroseconds_102 : decode mc_T_quietMicroseconds 102 = .ok (.ifnull 7, 3) := by decide +kernel
theorem md_T_quietMicroseconds_105 : decode mc_T_quietMicroseconds 105 = .ok (.iconst 1, 1) := by decide +kernel
theorem md_T_quietMicroseconds_106 : decode mc_T_quietMicroseconds 106 = .ok (.goto 4, 3) := by decide +kernel
theorem md_T_quietMicroseconds_109 : decode mc_T_quietMicroseconds 109 = .ok (.iconst 0, 1) := by decide +kernel
theorem md_T_quietMicroseconds_110 : decode mc_T_quietMicroseconds 110 = .ok (.istore 8, 2) := by decide +kernel
theorem md_T_quietMicroseconds_112 : decode mc_T_quietMicroseconds 112 = .ok (.aload 7, 2) := by decide +kernel
theorem md_T_quietMicroseconds_114 : decode mc_T_quietMicroseconds 114 = .ok (.getfield 245, 3) := by decide +kernel
theorem md_T_quietMicroseconds_117 : decode mc_T_quietMicroseconds 117 = .ok (.ifnull 26, 3) := by decide +kernel
theorem md_T_quietMicroseconds_120 : decode mc_T_quietMicroseconds 120 = .ok (.iload 8, 2) := by decide +kernel
theorem md_T_quietMicroseconds_122 : decode mc_T_quietMicroseconds 122 = .ok (.ifCond .ne 21, 3) := by decide +kernel
theorem md_T_quietMicroseconds_125 : decode mc_T_quietMicroseconds 125 = .ok (.iload_n 3, 1) := by decide +kernel
theorem md_T_quietMicroseconds_126 : decode mc_T_quietMicroseconds 126 = .ok (.aload_n 0, 1) := by decide +kernel
theorem md_T_quietMicroseconds_127 : decode mc_T_quietMicroseconds 127 = .ok (.getfield 60, 3) := by decide +kernel
theorem md_T_quietMicroseconds_130 : decode mc_T_quietMicroseconds 130 = .ok (.aload 7, 2) := by decide +kernel
theorem md_T_quietMicroseconds_132 : decode mc_T_quietMicroseconds 132 = .ok (.getfield 245, 3) := by decide +kernel
theorem md_T_quietMicroseconds_135 : decode mc_T_quietMicroseconds 135 = .ok (.invokevirtual 383, 3) := by decide +kernel
theorem md_T_quietMicroseconds_138 : decode mc_T_quietMicroseconds 138 = .ok (.iadd, 1) := by decide +kernel
theorem md_T_quietMicroseconds_139 : decode mc_T_quietMicroseconds 139 = .ok (.invokestatic 377, 3) := by decide +kernel
theorem md_T_quietMicroseconds_142 : decode mc_T_quietMicroseconds 142 = .ok (.istore_n 3, 1) := by decide +kernel
theorem md_T_quietMicroseconds_143 : decode mc_T_quietMicroseconds 143 = .ok (.iinc 6 1, 3) := by decide +kernel
theorem md_T_quietMicroseconds_146 : decode mc_T_quietMicroseconds 146 = .ok (.goto (-67), 3) := by decide +kernel
theorem md_T_quietMicroseconds_149 : decode mc_T_quietMicroseconds 149 = .ok (.iconst 1, 1) := by decide +kernel
theorem md_T_quietMicroseconds_150 : decode mc_T_quietMicroseconds 150 = .ok (.iload_n 3, 1) := by decide +kernel
theorem md_T_quietMicroseconds_151 : decode mc_T_quietMicroseconds 151 = .ok (.aload_n 0, 1) := by decide +kernel
theorem md_T_quietMicroseconds_152 : decode mc_T_quietMicroseconds 152 = .ok (.getfield 60, 3) := by decide +kernel
theorem md_T_quietMicroseconds_155 : decode mc_T_quietMicroseconds 155 = .ok (.isub, 1) := by decide +kernel
theorem md_T_quietMicroseconds_156 : decode mc_T_quietMicroseconds 156 = .ok (.invokestatic 95, 3) := by decide +kernel
theorem md_T_quietMicroseconds_159 : decode mc_T_quietMicroseconds 159 = .ok (.ireturn, 1) := by decide +kernel
theorem md_T_passMicroseconds_0 : decode mc_T_passMicroseconds 0 = .ok (.aload_n 0, 1) := by decide +kernel
theorem md_T_passMicroseconds_1 : decode mc_T_passMicroseconds 1 = .ok (.getfield 30, 3) := by decide +kernel
theorem md_T_passMicroseconds_4 : decode mc_T_passMicroseconds 4 = .ok (.aload_n 0, 1) := by decide +kernel
theorem md_T_passMicroseconds_5 : decode mc_T_passMicroseconds 5 = .ok (.getfield 60, 3) := by decide +kernel
theorem md_T_passMicroseconds_8 : decode mc_T_passMicroseconds 8 = .ok (.invokevirtual 241, 3) := by decide +kernel
theorem md_T_passMicroseconds_11 : decode mc_T_passMicroseconds 11 = .ok (.astore_n 2, 1) := by decide +kernel
theorem md_T_passMicroseconds_12 : decode mc_T_passMicroseconds 12 = .ok (.iconst 0, 1) := by decide +kernel
theorem md_T_passMicroseconds_13 : decode mc_T_passMicroseconds 13 = .ok (.istore_n 3, 1) := by decide +kernel
theorem md_T_passMicroseconds_14 : decode mc_T_passMicroseconds 14 = .ok (.aload_n 0, 1) := by decide +kernel
theorem md_T_passMicroseconds_15 : decode mc_T_passMicroseconds 15 = .ok (.getfield 45, 3) := by decide +kernel
theorem md_T_passMicroseconds_18 : decode mc_T_passMicroseconds 18 = .ok (.astore 4, 2) := by decide +kernel
theorem md_T_passMicroseconds_20 : decode mc_T_passMicroseconds 20 = .ok (.aload 4, 2) := by decide +kernel
theorem md_T_passMicroseconds_22 : decode mc_T_passMicroseconds 22 = .ok (.arraylength, 1) := by decide +kernel
theorem md_T_passMicroseconds_23 : decode mc_T_passMicroseconds 23 = .ok (.istore 5, 2) := by decide +kernel
theorem md_T_passMicroseconds_25 : decode mc_T_passMicroseconds 25 = .ok (.iconst 0, 1) := by decide +kernel
theorem md_T_passMicroseconds_26 : decode mc_T_passMicroseconds 26 = .ok (.istore 6, 2) := by decide +kernel
theorem md_T_passMicroseconds_28 : decode mc_T_passMicroseconds 28 = .ok (.iload 6, 2) := by decide +kernel
theorem md_T_passMicroseconds_30 : decode mc_T_passMicroseconds 30 = .ok (.iload 5, 2) := by decide +kernel
theorem md_T_passMicroseconds_32 : decode mc_T_passMicroseconds 32 = .ok (.if_icmp .ge 117, 3) := by decide +kernel
theorem md_T_passMicroseconds_35 : decode mc_T_passMicroseconds 35 = .ok (.aload 4, 2) := by decide +kernel
theorem md_T_passMicroseconds_37 : decode mc_T_passMicroseconds 37 = .ok (.iload 6, 2) := by decide +kernel
theorem md_T_passMicroseconds_39 : decode mc_T_passMicroseconds 39 = .ok (.aaload, 1) := by decide +kernel
theorem md_T_passMicroseconds_40 : decode mc_T_passMicroseconds 40 = .ok (.astore 7, 2) := by decide +kernel
theorem md_T_passMicroseconds_42 : decode mc_T_passMicroseconds 42 = .ok (.aload 7, 2) := by decide +kernel
theorem md_T_passMicroseconds_44 : decode mc_T_passMicroseconds 44 = .ok (.getfield 245, 3) := by decide +kernel
theorem md_T_passMicroseconds_47 : decode mc_T_passMicroseconds 47 = .ok (.astore 8, 2) := by decide +kernel
theorem md_T_passMicroseconds_49 : decode mc_T_passMicroseconds 49 = .ok (.aload 8, 2) := by decide +kernel
theorem md_T_passMicroseconds_51 : decode mc_T_passMicroseconds 51 = .ok (.ifnonnull 7, 3) := by decide +kernel
theorem md_T_passMicroseconds_54 : decode mc_T_passMicroseconds 54 = .ok (.iconst 0, 1) := by decide +kernel
theorem md_T_passMicroseconds_55 : decode mc_T_passMicroseconds 55 = .ok (.goto 8, 3) := by decide +kernel
theorem md_T_passMicroseconds_58 : decode mc_T_passMicroseconds 58 = .ok (.aload 8, 2) := by decide +kernel
theorem md_T_passMicroseconds_60 : decode mc_T_passMicroseconds 60 = .ok (.getfield 201, 3) := by decide +kernel
theorem md_T_passMicroseconds_63 : decode mc_T_passMicroseconds 63 = .ok (.istore 9, 2) := by decide +kernel
theorem md_T_passMicroseconds_65 : decode mc_T_passMicroseconds 65 = .ok (.aload 7, 2) := by decide +kernel
theorem md_T_passMicroseconds_67 : decode mc_T_passMicroseconds 67 = .ok (.getfield 240, 3) := by decide +kernel
theorem md_T_passMicroseconds_70 : decode mc_T_passMicroseconds 70 = .ok (.ifCond .ne 20, 3) := by decide +kernel
theorem md_T_passMicroseconds_73 : decode mc_T_passMicroseconds 73 = .ok (.aload_n 2, 1) := by decide +kernel
theorem md_T_passMicroseconds_74 : decode mc_T_passMicroseconds 74 = .ok (.ifnull 16, 3) := by decide +kernel
theorem md_T_passMicroseconds_77 : decode mc_T_passMicroseconds 77 = .ok (.sipush 1000, 3) := by decide +kernel
theorem md_T_passMicroseconds_80 : decode mc_T_passMicroseconds 80 = .ok (.aload_n 2, 1) := by decide +kernel
theorem md_T_passMicroseconds_81 : decode mc_T_passMicroseconds 81 = .ok (.getfield 387, 3) := by decide +kernel
theorem md_T_passMicroseconds_84 : decode mc_T_passMicroseconds 84 = .ok (.iadd, 1) := by decide +kernel
theorem md_T_passMicroseconds_85 : decode mc_T_passMicroseconds 85 = .ok (.istore 9, 2) := by decide +kernel
theorem md_T_passMicroseconds_87 : decode mc_T_passMicroseconds 87 = .ok (.goto 14, 3) := by decide +kernel
theorem md_T_passMicroseconds_90 : decode mc_T_passMicroseconds 90 = .ok (.aload 8, 2) := by decide +kernel
theorem md_T_passMicroseconds_92 : decode mc_T_passMicroseconds 92 = .ok (.ifnull 9, 3) := by decide +kernel
theorem md_T_passMicroseconds_95 : decode mc_T_passMicroseconds 95 = .ok (.aload 8, 2) := by decide +kernel
theorem md_T_passMicroseconds_97 : decode mc_T_passMicroseconds 97 = .ok (.iload_n 1, 1) := by decide +kernel
theorem md_T_passMicroseconds_98 : decode mc_T_passMicroseconds 98 = .ok (.invokevirtual 390, 3) := by decide +kernel
theorem md_T_passMicroseconds_101 : decode mc_T_passMicroseconds 101 = .ok (.iload 9, 2) := by decide +kernel
theorem md_T_passMicroseconds_103 : decode mc_T_passMicroseconds 103 = .ok (.aload 7, 2) := by decide +kernel
theorem md_T_passMicroseconds_105 : decode mc_T_passMicroseconds 105 = .ok (.getfield 393, 3) := by decide +kernel
theorem md_T_passMicroseconds_108 : decode mc_T_passMicroseconds 108 = .ok (.if_icmp .eq 35, 3) := by decide +kernel
theorem md_T_passMicroseconds_111 : decode mc_T_passMicroseconds 111 = .ok (.aload 7, 2) := by decide +kernel
theorem md_T_passMicroseconds_113 : decode mc_T_passMicroseconds 113 = .ok (.aload_n 0, 1) := by decide +kernel
theorem md_T_passMicroseconds_114 : decode mc_T_passMicroseconds 114 = .ok (.getfield 60, 3) := by decide +kernel
theorem md_T_passMicroseconds_117 : decode mc_T_passMicroseconds 117 = .ok (.iload 9, 2) := by decide +kernel
theorem md_T_passMicroseconds_119 : decode mc_T_passMicroseconds 119 = .ok (.invokevirtual 396, 3) := by decide +kernel
theorem md_T_passMicroseconds_122 : decode mc_T_passMicroseconds 122 = .ok (.aload_n 0, 1) := by decide +kernel
theorem md_T_passMicroseconds_123 : decode mc_T_passMicroseconds 123 = .ok (.getfield 53, 3) := by decide +kernel
theorem md_T_passMicroseconds_126 : decode mc_T_passMicroseconds 126 = .ok (.aload_n 0, 1) := by decide +kernel
theorem md_T_passMicroseconds_127 : decode mc_T_passMicroseconds 127 = .ok (.getfield 60, 3) := by decide +kernel
theorem md_T_passMicroseconds_130 : decode mc_T_passMicroseconds 130 = .ok (.aload 7, 2) := by decide +kernel
theorem md_T_passMicroseconds_132 : decode mc_T_passMicroseconds 132 = .ok (.getfield 240, 3) := by decide +kernel
theorem md_T_passMicroseconds_135 : decode mc_T_passMicroseconds 135 = .ok (.iload 9, 2) := by decide +kernel
theorem md_T_passMicroseconds_137 : decode mc_T_passMicroseconds 137 = .ok (.invokevirtual 372, 3) := by decide +kernel
theorem md_T_passMicroseconds_140 : decode mc_T_passMicroseconds 140 = .ok (.iinc 3 1, 3) := by decide +kernel
theorem md_T_passMicroseconds_143 : decode mc_T_passMicroseconds 143 = .ok (.iinc 6 1, 3) := by decide +kernel
theorem md_T_passMicroseconds_146 : decode mc_T_passMicroseconds 146 = .ok (.goto (-118), 3) := by decide +kernel
theorem md_T_passMicroseconds_149 : decode mc_T_passMicroseconds 149 = .ok (.aload_n 2, 1) := by decide +kernel
theorem md_T_passMicroseconds_150 : decode mc_T_passMicroseconds 150 = .ok (.ifnull 12, 3) := by decide +kernel
theorem md_T_passMicroseconds_153 : decode mc_T_passMicroseconds 153 = .ok (.aload_n 0, 1) := by decide +kernel
theorem md_T_passMicroseconds_154 : decode mc_T_passMicroseconds 154 = .ok (.getfield 30, 3) := by decide +kernel
theorem md_T_passMicroseconds_157 : decode mc_T_passMicroseconds 157 = .ok (.aload_n 2, 1) := by decide +kernel
theorem md_T_passMicroseconds_158 : decode mc_T_passMicroseconds 158 = .ok (.iload_n 1, 1) := by decide +kernel
theorem md_T_passMicroseconds_159 : decode mc_T_passMicroseconds 159 = .ok (.invokevirtual 399, 3) := by decide +kernel
theorem md_T_passMicroseconds_162 : decode mc_T_passMicroseconds 162 = .ok (.aload_n 0, 1) := by decide +kernel
theorem md_T_passMicroseconds_163 : decode mc_T_passMicroseconds 163 = .ok (.dup, 1) := by decide +kernel
theorem md_T_passMicroseconds_164 : decode mc_T_passMicroseconds 164 = .ok (.getfield 60, 3) := by decide +kernel
theorem md_T_passMicroseconds_167 : decode mc_T_passMicroseconds 167 = .ok (.iload_n 1, 1) := by decide +kernel
theorem md_T_passMicroseconds_168 : decode mc_T_passMicroseconds 168 = .ok (.iadd, 1) := by decide +kernel
theorem md_T_passMicroseconds_169 : decode mc_T_passMicroseconds 169 = .ok (.putfield 60, 3) := by decide +kernel
theorem md_T_passMicroseconds_172 : decode mc_T_passMicroseconds 172 = .ok (.iload_n 3, 1) := by decide +kernel
theorem md_T_passMicroseconds_173 : decode mc_T_passMicroseconds 173 = .ok (.ireturn, 1) := by decide +kernel
theorem md_M_init_0 : decode mc_M_init 0 = .ok (.aload_n 0, 1) := by decide +kernel
theorem md_M_init_1 : decode mc_M_init 1 = .ok (.invokespecial 1, 3) := by decide +kernel
theorem md_M_init_4 : decode mc_M_init 4 = .ok (.aload_n 0, 1) := by decide +kernel
theorem md_M_init_5 : decode mc_M_init 5 = .ok (.bipush 101, 2) := by decide +kernel
theorem md_M_init_7 : decode mc_M_init 7 = .ok (.newarray .int, 2) := by decide +kernel
theorem md_M_init_9 : decode mc_M_init 9 = .ok (.putfield 7, 3) := by decide +kernel
theorem md_M_init_12 : decode mc_M_init 12 = .ok (.aload_n 0, 1) := by decide +kernel
theorem md_M_init_13 : decode mc_M_init 13 = .ok (.bipush 101, 2) := by decide +kernel
theorem md_M_init_15 : decode mc_M_init 15 = .ok (.newarray .int, 2) := by decide +kernel
theorem md_M_init_17 : decode mc_M_init 17 = .ok (.putfield 13, 3) := by decide +kernel
theorem md_M_init_20 : decode mc_M_init 20 = .ok (.aload_n 0, 1) := by decide +kernel
theorem md_M_init_21 : decode mc_M_init 21 = .ok (.bipush 101, 2) := by decide +kernel
theorem md_M_init_23 : decode mc_M_init 23 = .ok (.newarray .int, 2) := by decide +kernel
theorem md_M_init_25 : decode mc_M_init 25 = .ok (.putfield 16, 3) := by decide +kernel
theorem md_M_init_28 : decode mc_M_init 28 = .ok (.aload_n 0, 1) := by decide +kernel
theorem md_M_init_29 : decode mc_M_init 29 = .ok (.bipush 101, 2) := by decide +kernel
theorem md_M_init_31 : decode mc_M_init 31 = .ok (.newarray .boolean, 2) := by decide +kernel
theorem md_M_init_33 : decode mc_M_init 33 = .ok (.putfield 19, 3) := by decide +kernel
theorem md_M_init_36 : decode mc_M_init 36 = .ok (.aload_n 0, 1) := by decide +kernel
theorem md_M_init_37 : decode mc_M_init 37 = .ok (.bipush 101, 2) := by decide +kernel
theorem md_M_init_39 : decode mc_M_init 39 = .ok (.newarray .boolean, 2) := by decide +kernel
theorem md_M_init_41 : decode mc_M_init 41 = .ok (.putfield 23, 3) := by decide +kernel
theorem md_M_init_44 : decode mc_M_init 44 = .ok (.aload_n 0, 1) := by decide +kernel
theorem md_M_init_45 : decode mc_M_init 45 = .ok (.sipush 500, 3) := by decide +kernel
theorem md_M_init_48 : decode mc_M_init 48 = .ok (.newarray .int, 2) := by decide +kernel
theorem md_M_init_50 : decode mc_M_init 50 = .ok (.putfield 26, 3) := by decide +kernel
theorem md_M_init_53 : decode mc_M_init 53 = .ok (.aload_n 0, 1) := by decide +kernel
theorem md_M_init_54 : decode mc_M_init 54 = .ok (.sipush 500, 3) := by decide +kernel
theorem md_M_init_57 : decode mc_M_init 57 = .ok (.newarray .int, 2) := by decide +kernel
theorem md_M_init_59 : decode mc_M_init 59 = .ok (.putfield 29, 3) := by decide +kernel
theorem md_M_init_62 : decode mc_M_init 62 = .ok (.aload_n 0, 1) := by decide +kernel
theorem md_M_init_63 : decode mc_M_init 63 = .ok (.sipush 500, 3) := by decide +kernel
theorem md_M_init_66 : decode mc_M_init 66 = .ok (.newarray .long, 2) := by decide +kernel
theorem md_M_init_68 : decode mc_M_init 68 = .ok (.putfield 32, 3) := by decide +kernel
theorem md_M_init_71 : decode mc_M_init 71 = .ok (.aload_n 0, 1) := by decide +kernel
theorem md_M_init_72 : decode mc_M_init 72 = .ok (.bipush 101, 2) := by decide +kernel
theorem md_M_init_74 : decode mc_M_init 74 = .ok (.newarray .int, 2) := by decide +kernel
theorem md_M_init_76 : decode mc_M_init 76 = .ok (.putfield 36, 3) := by decide +kernel
theorem md_M_init_79 : decode mc_M_init 79 = .ok (.aload_n 0, 1) := by decide +kernel
theorem md_M_init_80 : decode mc_M_init 80 = .ok (.bipush 101, 2) := by decide +kernel
theorem md_M_init_82 : decode mc_M_init 82 = .ok (.newarray .long, 2) := by decide +kernel
theorem md_M_init_84 : decode mc_M_init 84 = .ok (.putfield 39, 3) := by decide +kernel
theorem md_M_init_87 : decode mc_M_init 87 = .ok (.aload_n 0, 1) := by decide +kernel
theorem md_M_init_88 : decode mc_M_init 88 = .ok (.bipush 101, 2) := by decide +kernel
theorem md_M_init_90 : decode mc_M_init 90 = .ok (.newarray .int, 2) := by decide +kernel
theorem md_M_init_92 : decode mc_M_init 92 = .ok (.putfield 42, 3) := by decide +kernel
theorem md_M_init_95 : decode mc_M_init 95 = .ok (.aload_n 0, 1) := by decide +kernel
theorem md_M_init_96 : decode mc_M_init 96 = .ok (.bipush 101, 2) := by decide +kernel
theorem md_M_init_98 : decode mc_M_init 98 = .ok (.newarray .int, 2) := by decide +kernel
theorem md_M_init_100 : decode mc_M_init 100 = .ok (.putfield 45, 3) := by decide +kernel
theorem md_M_init_103 : decode mc_M_init 103 = .ok (.aload_n 0, 1) := by decide +kernel
theorem md_M_init_104 : decode mc_M_init 104 = .ok (.bipush 101, 2) := by decide +kernel
theorem md_M_init_106 : decode mc_M_init 106 = .ok (.newarray .long, 2) := by decide +kernel
theorem md_M_init_108 : decode mc_M_init 108 = .ok (.putfield 48, 3) := by decide +kernel
theorem md_M_init_111 : decode mc_M_init 111 = .ok (.aload_n 0, 1) := by decide +kernel
theorem md_M_init_112 : decode mc_M_init 112 = .ok (.bipush 101, 2) := by decide +kernel
theorem md_M_init_114 : decode mc_M_init 114 = .ok (.newarray .boolean, 2) := by decide +kernel
theorem md_M_init_116 : decode mc_M_init 116 = .ok (.putfield 51, 3) := by decide +kernel
theorem md_M_init_119 : decode mc_M_init 119 = .ok (.aload_n 0, 1) := by decide +kernel
theorem md_M_init_120 : decode mc_M_init 120 = .ok (.bipush 101, 2) := by decide +kernel
theorem md_M_init_122 : decode mc_M_init 122 = .ok (.newarray .int, 2) := by decide +kernel
theorem md_M_init_124 : decode mc_M_init 124 = .ok (.putfield 54, 3) := by decide +kernel
theorem md_M_init_127 : decode mc_M_init 127 = .ok (.aload_n 0, 1) := by decide +kernel
theorem md_M_init_128 : decode mc_M_init 128 = .ok (.bipush 101, 2) := by decide +kernel
theorem md_M_init_130 : decode mc_M_init 130 = .ok (.newarray .int, 2) := by decide +kernel
theorem md_M_init_132 : decode mc_M_init 132 = .ok (.putfield 57, 3) := by decide +kernel
theorem md_M_init_135 : decode mc_M_init 135 = .ok (.aload_n 0, 1) := by decide +kernel
theorem md_M_init_136 : decode mc_M_init 136 = .ok (.bipush 101, 2) := by decide +kernel
theorem md_M_init_138 : decode mc_M_init 138 = .ok (.newarray .boolean, 2) := by decide +kernel
theorem md_M_init_140 : decode mc_M_init 140 = .ok (.putfield 60, 3) := by decide +kernel
theorem md_M_init_143 : decode mc_M_init 143 = .ok (.aload_n 0, 1) := by decide +kernel
theorem md_M_init_144 : decode mc_M_init 144 = .ok (.bipush 101, 2) := by decide +kernel
theorem md_M_init_146 : decode mc_M_init 146 = .ok (.newarray .long, 2) := by decide +kernel
theorem md_M_init_148 : decode mc_M_init 148 = .ok (.putfield 63, 3) := by decide +kernel
theorem md_M_init_151 : decode mc_M_init 151 = .ok (.aload_n 0, 1) := by decide +kernel
theorem md_M_init_152 : decode mc_M_init 152 = .ok (.bipush 33, 2) := by decide +kernel
theorem md_M_init_154 : decode mc_M_init 154 = .ok (.newarray .int, 2) := by decide +kernel
theorem md_M_init_156 : decode mc_M_init 156 = .ok (.putfield 66, 3) := by decide +kernel
theorem md_M_init_159 : decode mc_M_init 159 = .ok (.aload_n 0, 1) := by decide +kernel
theorem md_M_init_160 : decode mc_M_init 160 = .ok (.bipush 33, 2) := by decide +kernel
theorem md_M_init_162 : decode mc_M_init 162 = .ok (.newarray .long, 2) := by decide +kernel
theorem md_M_init_164 : decode mc_M_init 164 = .ok (.putfield 69, 3) := by decide +kernel
theorem md_M_init_167 : decode mc_M_init 167 = .ok (.aload_n 0, 1) := by decide +kernel
theorem md_M_init_168 : decode mc_M_init 168 = .ok (.bipush 33, 2) := by decide +kernel
theorem md_M_init_170 : decode mc_M_init 170 = .ok (.newarray .int, 2) := by decide +kernel
theorem md_M_init_172 : decode mc_M_init 172 = .ok (.putfield 72, 3) := by decide +kernel
theorem md_M_init_175 : decode mc_M_init 175 = .ok (.aload_n 0, 1) := by decide +kernel
theorem md_M_init_176 : decode mc_M_init 176 = .ok (.bipush 17, 2) := by decide +kernel
theorem md_M_init_178 : decode mc_M_init 178 = .ok (.newarray .int, 2) := by decide +kernel
theorem md_M_init_180 : decode mc_M_init 180 = .ok (.putfield 75, 3) := by decide +kernel
theorem md_M_init_183 : decode mc_M_init 183 = .ok (.aload_n 0, 1) := by decide +kernel
theorem md_M_init_184 : decode mc_M_init 184 = .ok (.bipush 101, 2) := by decide +kernel
theorem md_M_init_186 : decode mc_M_init 186 = .ok (.newarray .int, 2) := by decide +kernel
theorem md_M_init_188 : decode mc_M_init 188 = .ok (.putfield 78, 3) := by decide +kernel
theorem md_M_init_191 : decode mc_M_init 191 = .ok (.aload_n 0, 1) := by decide +kernel
theorem md_M_init_192 : decode mc_M_init 192 = .ok (.bipush 101, 2) := by decide +kernel
theorem md_M_init_194 : decode mc_M_init 194 = .ok (.newarray .long, 2) := by decide +kernel
theorem md_M_init_196 : decode mc_M_init 196 = .ok (.putfield 81, 3) := by decide +kernel
theorem md_M_init_199 : decode mc_M_init 199 = .ok (.aload_n 0, 1) := by decide +kernel
theorem md_M_init_200 : decode mc_M_init 200 = .ok (.sipush 500, 3) := by decide +kernel
theorem md_M_init_203 : decode mc_M_init 203 = .ok (.newarray .int, 2) := by decide +kernel
theorem md_M_init_205 : decode mc_M_init 205 = .ok (.putfield 84, 3) := by decide +kernel
theorem md_M_init_208 : decode mc_M_init 208 = .ok (.aload_n 0, 1) := by decide +kernel
theorem md_M_init_209 : decode mc_M_init 209 = .ok (.sipush 500, 3) := by decide +kernel
theorem md_M_init_212 : decode mc_M_init 212 = .ok (.newarray .long, 2) := by decide +kernel
theorem md_M_init_214 : decode mc_M_init 214 = .ok (.putfield 87, 3) := by decide +kernel
theorem md_M_init_217 : decode mc_M_init 217 = .ok (.aload_n 0, 1) := by decide +kernel
theorem md_M_init_218 : decode mc_M_init 218 = .ok (.sipush 500, 3) := by decide +kernel
theorem md_M_init_221 : decode mc_M_init 221 = .ok (.newarray .int, 2) := by decide +kernel
theorem md_M_init_223 : decode mc_M_init 223 = .ok (.putfield 90, 3) := by decide +kernel
theorem md_M_init_226 : decode mc_M_init 226 = .ok (.aload_n 0, 1) := by decide +kernel
theorem md_M_init_227 : decode mc_M_init 227 = .ok (.sipush 500, 3) := by decide +kernel
theorem md_M_init_230 : decode mc_M_init 230 = .ok (.newarray .long, 2) := by decide +kernel
theorem md_M_init_232 : decode mc_M_init 232 = .ok (.putfield 93, 3) := by decide +kernel
theorem md_M_init_235 : decode mc_M_init 235 = .ok (.aload_n 0, 1) := by decide +kernel
theorem md_M_init_236 : decode mc_M_init 236 = .ok (.sipush 500, 3) := by decide +kernel
theorem md_M_init_239 : decode mc_M_init 239 = .ok (.newarray .long, 2) := by decide +kernel
theorem md_M_init_241 : decode mc_M_init 241 = .ok (.putfield 96, 3) := by decide +kernel
theorem md_M_init_244 : decode mc_M_init 244 = .ok (.aload_n 0, 1) := by decide +kernel
theorem md_M_init_245 : decode mc_M_init 245 = .ok (.sipush 1000, 3) := by decide +kernel
theorem md_M_init_248 : decode mc_M_init 248 = .ok (.newarray .int, 2) := by decide +kernel
theorem md_M_init_250 : decode mc_M_init 250 = .ok (.putfield 99, 3) := by decide +kernel
theorem md_M_init_253 : decode mc_M_init 253 = .ok (.aload_n 0, 1) := by decide +kernel
theorem md_M_init_254 : decode mc_M_init 254 = .ok (.sipush 1000, 3) := by decide +kernel
theorem md_M_init_257 : decode mc_M_init 257 = .ok (.newarray .int, 2) := by decide +kernel
theorem md_M_init_259 : decode mc_M_init 259 = .ok (.putfield 102, 3) := by decide +kernel
theorem md_M_init_262 : decode mc_M_init 262 = .ok (.aload_n 0, 1) := by decide +kernel
theorem md_M_init_263 : decode mc_M_init 263 = .ok (.sipush 1000, 3) := by decide +kernel
theorem md_M_init_266 : decode mc_M_init 266 = .ok (.newarray .long, 2) := by decide +kernel
theorem md_M_init_268 : decode mc_M_init 268 = .ok (.putfield 105, 3) := by decide +kernel
theorem md_M_init_271 : decode mc_M_init 271 = .ok (.aload_n 0, 1) := by decide +kernel
theorem md_M_init_272 : decode mc_M_init 272 = .ok (.ldc 108, 2) := by decide +kernel
theorem md_M_init_274 : decode mc_M_init 274 = .ok (.newarray .short, 2) := by decide +kernel
theorem md_M_init_276 : decode mc_M_init 276 = .ok (.putfield 109, 3) := by decide +kernel
theorem md_M_init_279 : decode mc_M_init 279 = .ok (.aload_n 0, 1) := by decide +kernel
theorem md_M_init_280 : decode mc_M_init 280 = .ok (.iload_n 1, 1) := by decide +kernel
theorem md_M_init_281 : decode mc_M_init 281 = .ok (.iconst 1, 1) := by decide +kernel
theorem md_M_init_282 : decode mc_M_init 282 = .ok (.if_icmp .lt 9, 3) := by decide +kernel
theorem md_M_init_285 : decode mc_M_init 285 = .ok (.iload_n 1, 1) := by decide +kernel
theorem md_M_init_286 : decode mc_M_init 286 = .ok (.bipush 8, 2) := by decide +kernel
theorem md_M_init_288 : decode mc_M_init 288 = .ok (.if_icmp .le 7, 3) := by decide +kernel
theorem md_M_init_291 : decode mc_M_init 291 = .ok (.iconst 1, 1) := by decide +kernel
theorem md_M_init_292 : decode mc_M_init 292 = .ok (.goto 4, 3) := by decide +kernel
theorem md_M_init_295 : decode mc_M_init 295 = .ok (.iload_n 1, 1) := by decide +kernel
theorem md_M_init_296 : decode mc_M_init 296 = .ok (.putfield 113, 3) := by decide +kernel
theorem md_M_init_299 : decode mc_M_init 299 = .ok (.return_, 1) := by decide +kernel
theorem md_M_no_0 : decode mc_M_no 0 = .ok (.iload_n 1, 1) := by decide +kernel
theorem md_M_no_1 : decode mc_M_no 1 = .ok (.iconst 1, 1) := by decide +kernel
theorem md_M_no_2 : decode mc_M_no 2 = .ok (.if_icmp .lt 11, 3) := by decide +kernel
theorem md_M_no_5 : decode mc_M_no 5 = .ok (.iload_n 1, 1) := by decide +kernel
theorem md_M_no_6 : decode mc_M_no 6 = .ok (.aload_n 0, 1) := by decide +kernel
theorem md_M_no_7 : decode mc_M_no 7 = .ok (.getfield 117, 3) := by decide +kernel
theorem md_M_no_10 : decode mc_M_no 10 = .ok (.if_icmp .le 7, 3) := by decide +kernel
theorem md_M_no_13 : decode mc_M_no 13 = .ok (.iconst 1, 1) := by decide +kernel
theorem md_M_no_14 : decode mc_M_no 14 = .ok (.goto 4, 3) := by decide +kernel
theorem md_M_no_17 : decode mc_M_no 17 = .ok (.iconst 0, 1) := by decide +kernel
theorem md_M_no_18 : decode mc_M_no 18 = .ok (.ireturn, 1) := by decide +kernel
theorem md_M_task_0 : decode mc_M_task 0 = .ok (.iload_n 2, 1) := by decide +kernel
theorem md_M_task_1 : decode mc_M_task 1 = .ok (.ifCond .lt 11, 3) := by decide +kernel
theorem md_M_task_4 : decode mc_M_task 4 = .ok (.iload_n 2, 1) := by decide +kernel
theorem md_M_task_5 : decode mc_M_task 5 = .ok (.aload_n 0, 1) := by decide +kernel
theorem md_M_task_6 : decode mc_M_task 6 = .ok (.getfield 113, 3) := by decide +kernel
theorem md_M_task_9 : decode mc_M_task 9 = .ok (.if_icmp .lt 5, 3) := by decide +kernel
theorem md_M_task_12 : decode mc_M_task 12 = .ok (.iconst (-1), 1) := by decide +kernel
theorem md_M_task_13 : decode mc_M_task 13 = .ok (.ireturn, 1) := by decide +kernel
theorem md_M_task_14 : decode mc_M_task 14 = .ok (.iload_n 1, 1) := by decide +kernel
theorem md_M_task_15 : decode mc_M_task 15 = .ok (.ifCond .lt 31, 3) := by decide +kernel
theorem md_M_task_18 : decode mc_M_task 18 = .ok (.iload_n 1, 1) := by decide +kernel
theorem md_M_task_19 : decode mc_M_task 19 = .ok (.sipush 255, 3) := by decide +kernel
theorem md_M_task_22 : decode mc_M_task 22 = .ok (.if_icmp .gt 24, 3) := by decide +kernel
theorem md_M_task_25 : decode mc_M_task 25 = .ok (.iload_n 3, 1) := by decide +kernel
theorem md_M_task_26 : decode mc_M_task 26 = .ok (.iconst 1, 1) := by decide +kernel
theorem md_M_task_27 : decode mc_M_task 27 = .ok (.if_icmp .lt 19, 3) := by decide +kernel
theorem md_M_task_30 : decode mc_M_task 30 = .ok (.iload_n 3, 1) := by decide +kernel
theorem md_M_task_31 : decode mc_M_task 31 = .ok (.bipush 100, 2) := by decide +kernel
theorem md_M_task_33 : decode mc_M_task 33 = .ok (.if_icmp .gt 13, 3) := by decide +kernel
theorem md_M_task_36 : decode mc_M_task 36 = .ok (.iload 4, 2) := by decide +kernel
theorem md_M_task_38 : decode mc_M_task 38 = .ok (.ifCond .eq 11, 3) := by decide +kernel
theorem md_M_task_41 : decode mc_M_task 41 = .ok (.iload_n 3, 1) := by decide +kernel
theorem md_M_task_42 : decode mc_M_task 42 = .ok (.iconst 1, 1) := by decide +kernel
theorem md_M_task_43 : decode mc_M_task 43 = .ok (.if_icmp .le 6, 3) := by decide +kernel
theorem md_M_task_46 : decode mc_M_task 46 = .ok (.bipush (-2), 2) := by decide +kernel
theorem md_M_task_48 : decode mc_M_task 48 = .ok (.ireturn, 1) := by decide +kernel
theorem md_M_task_49 : decode mc_M_task 49 = .ok (.aload_n 0, 1) := by decide +kernel
theorem md_M_task_50 : decode mc_M_task 50 = .ok (.getfield 120, 3) := by decide +kernel
theorem md_M_task_53 : decode mc_M_task 53 = .ok (.lconst 0, 1) := by decide +kernel
theorem md_M_task_54 : decode mc_M_task 54 = .ok (.lcmp, 1) := by decide +kernel
theorem md_M_task_55 : decode mc_M_task 55 = .ok (.ifCond .le 6, 3) := by decide +kernel
theorem md_M_task_58 : decode mc_M_task 58 = .ok (.bipush (-3), 2) := by decide +kernel
theorem md_M_task_60 : decode mc_M_task 60 = .ok (.ireturn, 1) := by decide +kernel
theorem md_M_task_61 : decode mc_M_task 61 = .ok (.aload_n 0, 1) := by decide +kernel
theorem md_M_task_62 : decode mc_M_task 62 = .ok (.getfield 117, 3) := by decide +kernel
theorem md_M_task_65 : decode mc_M_task 65 = .ok (.bipush 100, 2) := by decide +kernel
theorem md_M_task_67 : decode mc_M_task 67 = .ok (.if_icmp .ne 6, 3) := by decide +kernel
theorem md_M_task_70 : decode mc_M_task 70 = .ok (.bipush (-4), 2) := by decide +kernel
theorem md_M_task_72 : decode mc_M_task 72 = .ok (.ireturn, 1) := by decide +kernel
theorem md_M_task_73 : decode mc_M_task 73 = .ok (.aload_n 0, 1) := by decide +kernel
theorem md_M_task_74 : decode mc_M_task 74 = .ok (.dup, 1) := by decide +kernel
theorem md_M_task_75 : decode mc_M_task 75 = .ok (.getfield 117, 3) := by decide +kernel
theorem md_M_task_78 : decode mc_M_task 78 = .ok (.iconst 1, 1) := by decide +kernel
theorem md_M_task_79 : decode mc_M_task 79 = .ok (.iadd, 1) := by decide +kernel
theorem md_M_task_80 : decode mc_M_task 80 = .ok (.putfield 117, 3) := by decide +kernel
theorem md_M_task_83 : decode mc_M_task 83 = .ok (.aload_n 0, 1) := by decide +kernel
theorem md_M_task_84 : decode mc_M_task 84 = .ok (.getfield 7, 3) := by decide +kernel
theorem md_M_task_87 : decode mc_M_task 87 = .ok (.aload_n 0, 1) := by decide +kernel
theorem md_M_task_88 : decode mc_M_task 88 = .ok (.getfield 117, 3) := by decide +kernel
theorem md_M_task_91 : decode mc_M_task 91 = .ok (.iload_n 1, 1) := by decide +kernel
theorem md_M_task_92 : decode mc_M_task 92 = .ok (.iastore, 1) := by decide +kernel
theorem md_M_task_93 : decode mc_M_task 93 = .ok (.aload_n 0, 1) := by decide +kernel
theorem md_M_task_94 : decode mc_M_task 94 = .ok (.getfield 13, 3) := by decide +kernel
theorem md_M_task_97 : decode mc_M_task 97 = .ok (.aload_n 0, 1) := by decide +kernel
theorem md_M_task_98 : decode mc_M_task 98 = .ok (.getfield 117, 3) := by decide +kernel
theorem md_M_task_101 : decode mc_M_task 101 = .ok (.iload_n 2, 1) := by decide +kernel
theorem md_M_task_102 : decode mc_M_task 102 = .ok (.iastore, 1) := by decide +kernel
theorem md_M_task_103 : decode mc_M_task 103 = .ok (.aload_n 0, 1) := by decide +kernel
theorem md_M_task_104 : decode mc_M_task 104 = .ok (.getfield 16, 3) := by decide +kernel
theorem md_M_task_107 : decode mc_M_task 107 = .ok (.aload_n 0, 1) := by decide +kernel
theorem md_M_task_108 : decode mc_M_task 108 = .ok (.getfield 117, 3) := by decide +kernel
theorem md_M_task_111 : decode mc_M_task 111 = .ok (.iload_n 3, 1) := by decide +kernel
theorem md_M_task_112 : decode mc_M_task 112 = .ok (.iastore, 1) := by decide +kernel
theorem md_M_task_113 : decode mc_M_task 113 = .ok (.aload_n 0, 1) := by decide +kernel
theorem md_M_task_114 : decode mc_M_task 114 = .ok (.getfield 19, 3) := by decide +kernel
theorem md_M_task_117 : decode mc_M_task 117 = .ok (.aload_n 0, 1) := by decide +kernel
theorem md_M_task_118 : decode mc_M_task 118 = .ok (.getfield 117, 3) := by decide +kernel
theorem md_M_task_121 : decode mc_M_task 121 = .ok (.iload 4, 2) := by decide +kernel
theorem md_M_task_123 : decode mc_M_task 123 = .ok (.bastore, 1) := by decide +kernel
theorem md_M_task_124 : decode mc_M_task 124 = .ok (.aload_n 0, 1) := by decide +kernel
theorem md_M_task_125 : decode mc_M_task 125 = .ok (.getfield 23, 3) := by decide +kernel
theorem md_M_task_128 : decode mc_M_task 128 = .ok (.aload_n 0, 1) := by decide +kernel
theorem md_M_task_129 : decode mc_M_task 129 = .ok (.getfield 117, 3) := by decide +kernel
theorem md_M_task_132 : decode mc_M_task 132 = .ok (.iconst 1, 1) := by decide +kernel
theorem md_M_task_133 : decode mc_M_task 133 = .ok (.bastore, 1) := by decide +kernel
theorem md_M_task_134 : decode mc_M_task 134 = .ok (.aload_n 0, 1) := by decide +kernel
theorem md_M_task_135 : decode mc_M_task 135 = .ok (.getfield 117, 3) := by decide +kernel
theorem md_M_task_138 : decode mc_M_task 138 = .ok (.ireturn, 1) := by decide +kernel
theorem md_M_good_0 : decode mc_M_good 0 = .ok (.iload_n 0, 1) := by decide +kernel
theorem md_M_good_1 : decode mc_M_good 1 = .ok (.ifCond .eq 9, 3) := by decide +kernel
theorem md_M_good_4 : decode mc_M_good 4 = .ok (.iload_n 0, 1) := by decide +kernel
theorem md_M_good_5 : decode mc_M_good 5 = .ok (.bipush 12, 2) := by decide +kernel
theorem md_M_good_7 : decode mc_M_good 7 = .ok (.if_icmp .ne 23, 3) := by decide +kernel
theorem md_M_good_10 : decode mc_M_good 10 = .ok (.lload_n 1, 1) := by decide +kernel
theorem md_M_good_11 : decode mc_M_good 11 = .ok (.lconst 1, 1) := by decide +kernel
theorem md_M_good_12 : decode mc_M_good 12 = .ok (.lcmp, 1) := by decide +kernel
theorem md_M_good_13 : decode mc_M_good 13 = .ok (.ifCond .lt 15, 3) := by decide +kernel
theorem md_M_good_16 : decode mc_M_good 16 = .ok (.lload_n 1, 1) := by decide +kernel
theorem md_M_good_17 : decode mc_M_good 17 = .ok (.ldc2_w 124, 3) := by decide +kernel
theorem md_M_good_20 : decode mc_M_good 20 = .ok (.lcmp, 1) := by decide +kernel
theorem md_M_good_21 : decode mc_M_good 21 = .ok (.ifCond .gt 7, 3) := by decide +kernel
theorem md_M_good_24 : decode mc_M_good 24 = .ok (.iconst 1, 1) := by decide +kernel
theorem md_M_good_25 : decode mc_M_good 25 = .ok (.goto 4, 3) := by decide +kernel
theorem md_M_good_28 : decode mc_M_good 28 = .ok (.iconst 0, 1) := by decide +kernel
theorem md_M_good_29 : decode mc_M_good 29 = .ok (.ireturn, 1) := by decide +kernel
theorem md_M_good_30 : decode mc_M_good 30 = .ok (.iload_n 0, 1) := by decide +kernel
theorem md_M_good_31 : decode mc_M_good 31 = .ok (.iconst 1, 1) := by decide +kernel
theorem md_M_good_32 : decode mc_M_good 32 = .ok (.if_icmp .eq 8, 3) := by decide +kernel
theorem md_M_good_35 : decode mc_M_good 35 = .ok (.iload_n 0, 1) := by decide +kernel
theorem md_M_good_36 : decode mc_M_good 36 = .ok (.iconst 2, 1) := by decide +kernel
theorem md_M_good_37 : decode mc_M_good 37 = .ok (.if_icmp .ne 23, 3) := by decide +kernel
theorem md_M_good_40 : decode mc_M_good 40 = .ok (.lload_n 1, 1) := by decide +kernel
theorem md_M_good_41 : decode mc_M_good 41 = .ok (.lconst 1, 1) := by decide +kernel
theorem md_M_good_42 : decode mc_M_good 42 = .ok (.lcmp, 1) := by decide +kernel
theorem md_M_good_43 : decode mc_M_good 43 = .ok (.ifCond .lt 15, 3) := by decide +kernel
theorem md_M_good_46 : decode mc_M_good 46 = .ok (.lload_n 1, 1) := by decide +kernel
theorem md_M_good_47 : decode mc_M_good 47 = .ok (.ldc2_w 126, 3) := by decide +kernel
theorem md_M_good_50 : decode mc_M_good 50 = .ok (.lcmp, 1) := by decide +kernel
theorem md_M_good_51 : decode mc_M_good 51 = .ok (.ifCond .gt 7, 3) := by decide +kernel
theorem md_M_good_54 : decode mc_M_good 54 = .ok (.iconst 1, 1) := by decide +kernel
theorem md_M_good_55 : decode mc_M_good 55 = .ok (.goto 4, 3) := by decide +kernel
theorem md_M_good_58 : decode mc_M_good 58 = .ok (.iconst 0, 1) := by decide +kernel
theorem md_M_good_59 : decode mc_M_good 59 = .ok (.ireturn, 1) := by decide +kernel
theorem md_M_good_60 : decode mc_M_good 60 = .ok (.iload_n 0, 1) := by decide +kernel
theorem md_M_good_61 : decode mc_M_good 61 = .ok (.iconst 3, 1) := by decide +kernel
theorem md_M_good_62 : decode mc_M_good 62 = .ok (.if_icmp .eq 8, 3) := by decide +kernel
theorem md_M_good_65 : decode mc_M_good 65 = .ok (.iload_n 0, 1) := by decide +kernel
theorem md_M_good_66 : decode mc_M_good 66 = .ok (.iconst 5, 1) := by decide +kernel
theorem md_M_good_67 : decode mc_M_good 67 = .ok (.if_icmp .ne 23, 3) := by decide +kernel
theorem md_M_good_70 : decode mc_M_good 70 = .ok (.lload_n 1, 1) := by decide +kernel
theorem md_M_good_71 : decode mc_M_good 71 = .ok (.lconst 1, 1) := by decide +kernel
theorem md_M_good_72 : decode mc_M_good 72 = .ok (.lcmp, 1) := by decide +kernel
theorem md_M_good_73 : decode mc_M_good 73 = .ok (.ifCond .lt 15, 3) := by decide +kernel
theorem md_M_good_76 : decode mc_M_good 76 = .ok (.lload_n 1, 1) := by decide +kernel
theorem md_M_good_77 : decode mc_M_good 77 = .ok (.ldc2_w 128, 3) := by decide +kernel
theorem md_M_good_80 : decode mc_M_good 80 = .ok (.lcmp, 1) := by decide +kernel
theorem md_M_good_81 : decode mc_M_good 81 = .ok (.ifCond .gt 7, 3) := by decide +kernel
theorem md_M_good_84 : decode mc_M_good 84 = .ok (.iconst 1, 1) := by decide +kernel
theorem md_M_good_85 : decode mc_M_good 85 = .ok (.goto 4, 3) := by decide +kernel
theorem md_M_good_88 : decode mc_M_good 88 = .ok (.iconst 0, 1) := by decide +kernel
theorem md_M_good_89 : decode mc_M_good 89 = .ok (.ireturn, 1) := by decide +kernel
theorem md_M_good_90 : decode mc_M_good 90 = .ok (.iload_n 0, 1) := by decide +kernel
theorem md_M_good_91 : decode mc_M_good 91 = .ok (.iconst 4, 1) := by decide +kernel
theorem md_M_good_92 : decode mc_M_good 92 = .ok (.if_icmp .ne 35, 3) := by decide +kernel
theorem md_M_good_95 : decode mc_M_good 95 = .ok (.lload_n 1, 1) := by decide +kernel
theorem md_M_good_96 : decode mc_M_good 96 = .ok (.ldc2_w 130, 3) := by decide +kernel
theorem md_M_good_99 : decode mc_M_good 99 = .ok (.lcmp, 1) := by decide +kernel
theorem md_M_good_100 : decode mc_M_good 100 = .ok (.ifCond .lt 25, 3) := by decide +kernel
theorem md_M_good_103 : decode mc_M_good 103 = .ok (.lload_n 1, 1) := by decide +kernel
theorem md_M_good_104 : decode mc_M_good 104 = .ok (.ldc2_w 132, 3) := by decide +kernel
theorem md_M_good_107 : decode mc_M_good 107 = .ok (.lcmp, 1) := by decide +kernel
theorem md_M_good_108 : decode mc_M_good 108 = .ok (.ifCond .gt 17, 3) := by decide +kernel
theorem md_M_good_111 : decode mc_M_good 111 = .ok (.lload_n 1, 1) := by decide +kernel
theorem md_M_good_112 : decode mc_M_good 112 = .ok (.ldc2_w 134, 3) := by decide +kernel
theorem md_M_good_115 : decode mc_M_good 115 = .ok (.lrem, 1) := by decide +kernel
theorem md_M_good_116 : decode mc_M_good 116 = .ok (.lconst 0, 1) := by decide +kernel
theorem md_M_good_117 : decode mc_M_good 117 = .ok (.lcmp, 1) := by decide +kernel
theorem md_M_good_118 : decode mc_M_good 118 = .ok (.ifCond .le 7, 3) := by decide +kernel
theorem md_M_good_121 : decode mc_M_good 121 = .ok (.iconst 1, 1) := by decide +kernel
theorem md_M_good_122 : decode mc_M_good 122 = .ok (.goto 4, 3) := by decide +kernel
theorem md_M_good_125 : decode mc_M_good 125 = .ok (.iconst 0, 1) := by decide +kernel
theorem md_M_good_126 : decode mc_M_good 126 = .ok (.ireturn, 1) := by decide +kernel
theorem md_M_good_127 : decode mc_M_good 127 = .ok (.iload_n 0, 1) := by decide +kernel
theorem md_M_good_128 : decode mc_M_good 128 = .ok (.bipush 6, 2) := by decide +kernel
theorem md_M_good_130 : decode mc_M_good 130 = .ok (.if_icmp .eq 9, 3) := by decide +kernel
theorem md_M_good_133 : decode mc_M_good 133 = .ok (.iload_n 0, 1) := by decide +kernel
theorem md_M_good_134 : decode mc_M_good 134 = .ok (.bipush 7, 2) := by decide +kernel
theorem md_M_good_136 : decode mc_M_good 136 = .ok (.if_icmp .ne 23, 3) := by decide +kernel
theorem md_M_good_139 : decode mc_M_good 139 = .ok (.lload_n 1, 1) := by decide +kernel
theorem md_M_good_140 : decode mc_M_good 140 = .ok (.lconst 1, 1) := by decide +kernel
theorem md_M_good_141 : decode mc_M_good 141 = .ok (.lcmp, 1) := by decide +kernel
theorem md_M_good_142 : decode mc_M_good 142 = .ok (.ifCond .lt 15, 3) := by decide +kernel
theorem md_M_good_145 : decode mc_M_good 145 = .ok (.lload_n 1, 1) := by decide +kernel
theorem md_M_good_146 : decode mc_M_good 146 = .ok (.ldc2_w 136, 3) := by decide +kernel
theorem md_M_good_149 : decode mc_M_good 149 = .ok (.lcmp, 1) := by decide +kernel
theorem md_M_good_150 : decode mc_M_good 150 = .ok (.ifCond .gt 7, 3) := by decide +kernel
theorem md_M_good_153 : decode mc_M_good 153 = .ok (.iconst 1, 1) := by decide +kernel
theorem md_M_good_154 : decode mc_M_good 154 = .ok (.goto 4, 3) := by decide +kernel
theorem md_M_good_157 : decode mc_M_good 157 = .ok (.iconst 0, 1) := by decide +kernel
theorem md_M_good_158 : decode mc_M_good 158 = .ok (.ireturn, 1) := by decide +kernel
theorem md_M_good_159 : decode mc_M_good 159 = .ok (.iload_n 0, 1) := by decide +kernel
theorem md_M_good_160 : decode mc_M_good 160 = .ok (.bipush 8, 2) := by decide +kernel
theorem md_M_good_162 : decode mc_M_good 162 = .ok (.if_icmp .eq 9, 3) := by decide +kernel
theorem md_M_good_165 : decode mc_M_good 165 = .ok (.iload_n 0, 1) := by decide +kernel
theorem md_M_good_166 : decode mc_M_good 166 = .ok (.bipush 9, 2) := by decide +kernel
theorem md_M_good_168 : decode mc_M_good 168 = .ok (.if_icmp .ne 23, 3) := by decide +kernel
theorem md_M_good_171 : decode mc_M_good 171 = .ok (.lload_n 1, 1) := by decide +kernel
theorem md_M_good_172 : decode mc_M_good 172 = .ok (.lconst 1, 1) := by decide +kernel
theorem md_M_good_173 : decode mc_M_good 173 = .ok (.lcmp, 1) := by decide +kernel
theorem md_M_good_174 : decode mc_M_good 174 = .ok (.ifCond .lt 15, 3) := by decide +kernel
theorem md_M_good_177 : decode mc_M_good 177 = .ok (.lload_n 1, 1) := by decide +kernel
theorem md_M_good_178 : decode mc_M_good 178 = .ok (.ldc2_w 138, 3) := by decide +kernel
theorem md_M_good_181 : decode mc_M_good 181 = .ok (.lcmp, 1) := by decide +kernel
theorem md_M_good_182 : decode mc_M_good 182 = .ok (.ifCond .gt 7, 3) := by decide +kernel
theorem md_M_good_185 : decode mc_M_good 185 = .ok (.iconst 1, 1) := by decide +kernel
theorem md_M_good_186 : decode mc_M_good 186 = .ok (.goto 4, 3) := by decide +kernel
theorem md_M_good_189 : decode mc_M_good 189 = .ok (.iconst 0, 1) := by decide +kernel
theorem md_M_good_190 : decode mc_M_good 190 = .ok (.ireturn, 1) := by decide +kernel
theorem md_M_good_191 : decode mc_M_good 191 = .ok (.lload_n 1, 1) := by decide +kernel
theorem md_M_good_192 : decode mc_M_good 192 = .ok (.lconst 0, 1) := by decide +kernel
theorem md_M_good_193 : decode mc_M_good 193 = .ok (.lcmp, 1) := by decide +kernel
theorem md_M_good_194 : decode mc_M_good 194 = .ok (.ifCond .ne 7, 3) := by decide +kernel
theorem md_M_good_197 : decode mc_M_good 197 = .ok (.iconst 1, 1) := by decide +kernel
theorem md_M_good_198 : decode mc_M_good 198 = .ok (.goto 4, 3) := by decide +kernel
theorem md_M_good_201 : decode mc_M_good 201 = .ok (.iconst 0, 1) := by decide +kernel
theorem md_M_good_202 : decode mc_M_good 202 = .ok (.ireturn, 1) := by decide +kernel
theorem md_M_part_0 : decode mc_M_part 0 = .ok (.aload_n 0, 1) := by decide +kernel
theorem md_M_part_1 : decode mc_M_part 1 = .ok (.iload_n 1, 1) := by decide +kernel
theorem md_M_part_2 : decode mc_M_part 2 = .ok (.invokevirtual 140, 3) := by decide +kernel
theorem md_M_part_5 : decode mc_M_part 5 = .ok (.ifCond .eq 5, 3) := by decide +kernel
theorem md_M_part_8 : decode mc_M_part 8 = .ok (.iconst (-1), 1) := by decide +kernel
theorem md_M_part_9 : decode mc_M_part 9 = .ok (.ireturn, 1) := by decide +kernel
theorem md_M_part_10 : decode mc_M_part 10 = .ok (.iload_n 2, 1) := by decide +kernel
theorem md_M_part_11 : decode mc_M_part 11 = .ok (.ifCond .lt 17, 3) := by decide +kernel
theorem md_M_part_14 : decode mc_M_part 14 = .ok (.iload_n 2, 1) := by decide +kernel
theorem md_M_part_15 : decode mc_M_part 15 = .ok (.bipush 13, 2) := by decide +kernel
theorem md_M_part_17 : decode mc_M_part 17 = .ok (.if_icmp .gt 11, 3) := by decide +kernel
theorem md_M_part_20 : decode mc_M_part 20 = .ok (.iload_n 2, 1) := by decide +kernel
theorem md_M_part_21 : decode mc_M_part 21 = .ok (.lload_n 3, 1) := by decide +kernel
theorem md_M_part_22 : decode mc_M_part 22 = .ok (.invokestatic 144, 3) := by decide +kernel
theorem md_M_part_25 : decode mc_M_part 25 = .ok (.ifCond .ne 6, 3) := by decide +kernel
theorem md_M_part_28 : decode mc_M_part 28 = .ok (.bipush (-2), 2) := by decide +kernel
theorem md_M_part_30 : decode mc_M_part 30 = .ok (.ireturn, 1) := by decide +kernel
theorem md_M_part_31 : decode mc_M_part 31 = .ok (.aload_n 0, 1) := by decide +kernel
theorem md_M_part_32 : decode mc_M_part 32 = .ok (.getfield 120, 3) := by decide +kernel
theorem md_M_part_35 : decode mc_M_part 35 = .ok (.lconst 0, 1) := by decide +kernel
theorem md_M_part_36 : decode mc_M_part 36 = .ok (.lcmp, 1) := by decide +kernel
theorem md_M_part_37 : decode mc_M_part 37 = .ok (.ifCond .le 6, 3) := by decide +kernel
theorem md_M_part_40 : decode mc_M_part 40 = .ok (.bipush (-3), 2) := by decide +kernel
theorem md_M_part_42 : decode mc_M_part 42 = .ok (.ireturn, 1) := by decide +kernel
theorem md_M_part_43 : decode mc_M_part 43 = .ok (.aload_n 0, 1) := by decide +kernel
theorem md_M_part_44 : decode mc_M_part 44 = .ok (.getfield 148, 3) := by decide +kernel
theorem md_M_part_47 : decode mc_M_part 47 = .ok (.sipush 500, 3) := by decide +kernel
theorem md_M_part_50 : decode mc_M_part 50 = .ok (.if_icmp .ne 6, 3) := by decide +kernel
theorem md_M_part_53 : decode mc_M_part 53 = .ok (.bipush (-4), 2) := by decide +kernel
theorem md_M_part_55 : decode mc_M_part 55 = .ok (.ireturn, 1) := by decide +kernel
theorem md_M_part_56 : decode mc_M_part 56 = .ok (.aload_n 0, 1) := by decide +kernel
theorem md_M_part_57 : decode mc_M_part 57 = .ok (.getfield 26, 3) := by decide +kernel
theorem md_M_part_60 : decode mc_M_part 60 = .ok (.aload_n 0, 1) := by decide +kernel
theorem md_M_part_61 : decode mc_M_part 61 = .ok (.getfield 148, 3) := by decide +kernel
theorem md_M_part_64 : decode mc_M_part 64 = .ok (.iload_n 1, 1) := by decide +kernel
theorem md_M_part_65 : decode mc_M_part 65 = .ok (.iastore, 1) := by decide +kernel
theorem md_M_part_66 : decode mc_M_part 66 = .ok (.aload_n 0, 1) := by decide +kernel
theorem md_M_part_67 : decode mc_M_part 67 = .ok (.getfield 29, 3) := by decide +kernel
theorem md_M_part_70 : decode mc_M_part 70 = .ok (.aload_n 0, 1) := by decide +kernel
theorem md_M_part_71 : decode mc_M_part 71 = .ok (.getfield 148, 3) := by decide +kernel
theorem md_M_part_74 : decode mc_M_part 74 = .ok (.iload_n 2, 1) := by decide +kernel
theorem md_M_part_75 : decode mc_M_part 75 = .ok (.iastore, 1) := by decide +kernel
theorem md_M_part_76 : decode mc_M_part 76 = .ok (.aload_n 0, 1) := by decide +kernel
theorem md_M_part_77 : decode mc_M_part 77 = .ok (.getfield 32, 3) := by decide +kernel
theorem md_M_part_80 : decode mc_M_part 80 = .ok (.aload_n 0, 1) := by decide +kernel
theorem md_M_part_81 : decode mc_M_part 81 = .ok (.getfield 148, 3) := by decide +kernel
theorem md_M_part_84 : decode mc_M_part 84 = .ok (.lload_n 3, 1) := by decide +kernel
theorem md_M_part_85 : decode mc_M_part 85 = .ok (.lastore, 1) := by decide +kernel
theorem md_M_part_86 : decode mc_M_part 86 = .ok (.aload_n 0, 1) := by decide +kernel
theorem md_M_part_87 : decode mc_M_part 87 = .ok (.dup, 1) := by decide +kernel
theorem md_M_part_88 : decode mc_M_part 88 = .ok (.getfield 148, 3) := by decide +kernel
theorem md_M_part_91 : decode mc_M_part 91 = .ok (.iconst 1, 1) := by decide +kernel
theorem md_M_part_92 : decode mc_M_part 92 = .ok (.iadd, 1) := by decide +kernel
theorem md_M_part_93 : decode mc_M_part 93 = .ok (.putfield 148, 3) := by decide +kernel
theorem md_M_part_96 : decode mc_M_part 96 = .ok (.iconst 0, 1) := by decide +kernel
theorem md_M_part_97 : decode mc_M_part 97 = .ok (.istore 5, 2) := by decide +kernel
theorem md_M_part_99 : decode mc_M_part 99 = .ok (.iconst 0, 1) := by decide +kernel
theorem md_M_part_100 : decode mc_M_part 100 = .ok (.istore 6, 2) := by decide +kernel
theorem md_M_part_102 : decode mc_M_part 102 = .ok (.iload 6, 2) := by decide +kernel
theorem md_M_part_104 : decode mc_M_part 104 = .ok (.aload_n 0, 1) := by decide +kernel
theorem md_M_part_105 : decode mc_M_part 105 = .ok (.getfield 148, 3) := by decide +kernel
theorem md_M_part_108 : decode mc_M_part 108 = .ok (.if_icmp .ge 31, 3) := by decide +kernel
theorem md_M_part_111 : decode mc_M_part 111 = .ok (.aload_n 0, 1) := by decide +kernel
theorem md_M_part_112 : decode mc_M_part 112 = .ok (.getfield 26, 3) := by decide +kernel
theorem md_M_part_115 : decode mc_M_part 115 = .ok (.iload 6, 2) := by decide +kernel
theorem md_M_part_117 : decode mc_M_part 117 = .ok (.iaload, 1) := by decide +kernel
theorem md_M_part_118 : decode mc_M_part 118 = .ok (.iload_n 1, 1) := by decide +kernel
theorem md_M_part_119 : decode mc_M_part 119 = .ok (.if_icmp .ne 10, 3) := by decide +kernel
theorem md_M_part_122 : decode mc_M_part 122 = .ok (.iload 5, 2) := by decide +kernel
theorem md_M_part_124 : decode mc_M_part 124 = .ok (.iconst 1, 1) := by decide +kernel
theorem md_M_part_125 : decode mc_M_part 125 = .ok (.iadd, 1) := by decide +kernel
theorem md_M_part_126 : decode mc_M_part 126 = .ok (.goto 5, 3) := by decide +kernel
theorem md_M_part_129 : decode mc_M_part 129 = .ok (.iload 5, 2) := by decide +kernel
theorem md_M_part_131 : decode mc_M_part 131 = .ok (.istore 5, 2) := by decide +kernel
theorem md_M_part_133 : decode mc_M_part 133 = .ok (.iinc 6 1, 3) := by decide +kernel
theorem md_M_part_136 : decode mc_M_part 136 = .ok (.goto (-34), 3) := by decide +kernel
theorem md_M_part_139 : decode mc_M_part 139 = .ok (.iload 5, 2) := by decide +kernel
theorem md_M_part_141 : decode mc_M_part 141 = .ok (.ireturn, 1) := by decide +kernel
theorem md_M_manner_0 : decode mc_M_manner 0 = .ok (.aload_n 0, 1) := by decide +kernel
theorem md_M_manner_1 : decode mc_M_manner 1 = .ok (.iload_n 1, 1) := by decide +kernel
theorem md_M_manner_2 : decode mc_M_manner 2 = .ok (.invokevirtual 140, 3) := by decide +kernel
theorem md_M_manner_5 : decode mc_M_manner 5 = .ok (.ifCond .eq 5, 3) := by decide +kernel
theorem md_M_manner_8 : decode mc_M_manner 8 = .ok (.iconst (-1), 1) := by decide +kernel
theorem md_M_manner_9 : decode mc_M_manner 9 = .ok (.ireturn, 1) := by decide +kernel
theorem md_M_manner_10 : decode mc_M_manner 10 = .ok (.aload_n 0, 1) := by decide +kernel
theorem md_M_manner_11 : decode mc_M_manner 11 = .ok (.getfield 120, 3) := by decide +kernel
theorem md_M_manner_14 : decode mc_M_manner 14 = .ok (.lconst 0, 1) := by decide +kernel
theorem md_M_manner_15 : decode mc_M_manner 15 = .ok (.lcmp, 1) := by decide +kernel
theorem md_M_manner_16 : decode mc_M_manner 16 = .ok (.ifCond .le 6, 3) := by decide +kernel
theorem md_M_manner_19 : decode mc_M_manner 19 = .ok (.bipush (-3), 2) := by decide +kernel
theorem md_M_manner_21 : decode mc_M_manner 21 = .ok (.ireturn, 1) := by decide +kernel
theorem md_M_manner_22 : decode mc_M_manner 22 = .ok (.aload_n 0, 1) := by decide +kernel
theorem md_M_manner_23 : decode mc_M_manner 23 = .ok (.getfield 23, 3) := by decide +kernel
theorem md_M_manner_26 : decode mc_M_manner 26 = .ok (.iload_n 1, 1) := by decide +kernel
theorem md_M_manner_27 : decode mc_M_manner 27 = .ok (.iload_n 2, 1) := by decide +kernel
theorem md_M_manner_28 : decode mc_M_manner 28 = .ok (.bastore, 1) := by decide +kernel
theorem md_M_manner_29 : decode mc_M_manner 29 = .ok (.iconst 1, 1) := by decide +kernel
theorem md_M_manner_30 : decode mc_M_manner 30 = .ok (.ireturn, 1) := by decide +kernel
theorem md_M_activate_0 : decode mc_M_activate 0 = .ok (.aload_n 0, 1) := by decide +kernel
theorem md_M_activate_1 : decode mc_M_activate 1 = .ok (.iload_n 1, 1) := by decide +kernel
theorem md_M_activate_2 : decode mc_M_activate 2 = .ok (.invokevirtual 140, 3) := by decide +kernel
theorem md_M_activate_5 : decode mc_M_activate 5 = .ok (.ifCond .eq 5, 3) := by decide +kernel
theorem md_M_activate_8 : decode mc_M_activate 8 = .ok (.iconst (-1), 1) := by decide +kernel
theorem md_M_activate_9 : decode mc_M_activate 9 = .ok (.ireturn, 1) := by decide +kernel
theorem md_M_activate_10 : decode mc_M_activate 10 = .ok (.lload_n 2, 1) := by decide +kernel
theorem md_M_activate_11 : decode mc_M_activate 11 = .ok (.aload_n 0, 1) := by decide +kernel
theorem md_M_activate_12 : decode mc_M_activate 12 = .ok (.getfield 120, 3) := by decide +kernel
theorem md_M_activate_15 : decode mc_M_activate 15 = .ok (.lcmp, 1) := by decide +kernel
theorem md_M_activate_16 : decode mc_M_activate 16 = .ok (.ifCond .lt 11, 3) := by decide +kernel
theorem md_M_activate_19 : decode mc_M_activate 19 = .ok (.lload_n 2, 1) := by decide +kernel
theorem md_M_activate_20 : decode mc_M_activate 20 = .ok (.ldc2_w 124, 3) := by decide +kernel
theorem md_M_activate_23 : decode mc_M_activate 23 = .ok (.lcmp, 1) := by decide +kernel
theorem md_M_activate_24 : decode mc_M_activate 24 = .ok (.ifCond .le 6, 3) := by decide +kernel
theorem md_M_activate_27 : decode mc_M_activate 27 = .ok (.bipush (-2), 2) := by decide +kernel
theorem md_M_activate_29 : decode mc_M_activate 29 = .ok (.ireturn, 1) := by decide +kernel
theorem md_M_activate_30 : decode mc_M_activate 30 = .ok (.aload_n 0, 1) := by decide +kernel
theorem md_M_activate_31 : decode mc_M_activate 31 = .ok (.getfield 151, 3) := by decide +kernel
theorem md_M_activate_34 : decode mc_M_activate 34 = .ok (.sipush 500, 3) := by decide +kernel
theorem md_M_activate_37 : decode mc_M_activate 37 = .ok (.if_icmp .ne 6, 3) := by decide +kernel
theorem md_M_activate_40 : decode mc_M_activate 40 = .ok (.bipush (-4), 2) := by decide +kernel
theorem md_M_activate_42 : decode mc_M_activate 42 = .ok (.ireturn, 1) := by decide +kernel
theorem md_M_activate_43 : decode mc_M_activate 43 = .ok (.aload_n 0, 1) := by decide +kernel
theorem md_M_activate_44 : decode mc_M_activate 44 = .ok (.getfield 84, 3) := by decide +kernel
theorem md_M_activate_47 : decode mc_M_activate 47 = .ok (.aload_n 0, 1) := by decide +kernel
theorem md_M_activate_48 : decode mc_M_activate 48 = .ok (.getfield 151, 3) := by decide +kernel
theorem md_M_activate_51 : decode mc_M_activate 51 = .ok (.iload_n 1, 1) := by decide +kernel
theorem md_M_activate_52 : decode mc_M_activate 52 = .ok (.iastore, 1) := by decide +kernel
theorem md_M_activate_53 : decode mc_M_activate 53 = .ok (.aload_n 0, 1) := by decide +kernel
theorem md_M_activate_54 : decode mc_M_activate 54 = .ok (.getfield 87, 3) := by decide +kernel
theorem md_M_activate_57 : decode mc_M_activate 57 = .ok (.aload_n 0, 1) := by decide +kernel
theorem md_M_activate_58 : decode mc_M_activate 58 = .ok (.getfield 151, 3) := by decide +kernel
theorem md_M_activate_61 : decode mc_M_activate 61 = .ok (.lload_n 2, 1) := by decide +kernel
theorem md_M_activate_62 : decode mc_M_activate 62 = .ok (.lastore, 1) := by decide +kernel
theorem md_M_activate_63 : decode mc_M_activate 63 = .ok (.aload_n 0, 1) := by decide +kernel
theorem md_M_activate_64 : decode mc_M_activate 64 = .ok (.dup, 1) := by decide +kernel
theorem md_M_activate_65 : decode mc_M_activate 65 = .ok (.getfield 151, 3) := by decide +kernel
theorem md_M_activate_68 : decode mc_M_activate 68 = .ok (.iconst 1, 1) := by decide +kernel
theorem md_M_activate_69 : decode mc_M_activate 69 = .ok (.iadd, 1) := by decide +kernel
theorem md_M_activate_70 : decode mc_M_activate 70 = .ok (.putfield 151, 3) := by decide +kernel
theorem md_M_activate_73 : decode mc_M_activate 73 = .ok (.iconst 1, 1) := by decide +kernel
theorem md_M_activate_74 : decode mc_M_activate 74 = .ok (.ireturn, 1) := by decide +kernel
theorem md_M_interrupt_0 : decode mc_M_interrupt 0 = .ok (.iload_n 1, 1) := by decide +kernel
theorem md_M_interrupt_1 : decode mc_M_interrupt 1 = .ok (.iconst 1, 1) := by decide +kernel
theorem md_M_interrupt_2 : decode mc_M_interrupt 2 = .ok (.if_icmp .lt 42, 3) := by decide +kernel
theorem md_M_interrupt_5 : decode mc_M_interrupt 5 = .ok (.iload_n 1, 1) := by decide +kernel
theorem md_M_interrupt_6 : decode mc_M_interrupt 6 = .ok (.bipush 15, 2) := by decide +kernel
theorem md_M_interrupt_8 : decode mc_M_interrupt 8 = .ok (.if_icmp .gt 36, 3) := by decide +kernel
theorem md_M_interrupt_11 : decode mc_M_interrupt 11 = .ok (.lload_n 2, 1) := by decide +kernel
theorem md_M_interrupt_12 : decode mc_M_interrupt 12 = .ok (.aload_n 0, 1) := by decide +kernel
theorem md_M_interrupt_13 : decode mc_M_interrupt 13 = .ok (.getfield 120, 3) := by decide +kernel
theorem md_M_interrupt_16 : decode mc_M_interrupt 16 = .ok (.lcmp, 1) := by decide +kernel
theorem md_M_interrupt_17 : decode mc_M_interrupt 17 = .ok (.ifCond .lt 27, 3) := by decide +kernel
theorem md_M_interrupt_20 : decode mc_M_interrupt 20 = .ok (.lload_n 2, 1) := by decide +kernel
theorem md_M_interrupt_21 : decode mc_M_interrupt 21 = .ok (.ldc2_w 124, 3) := by decide +kernel
theorem md_M_interrupt_24 : decode mc_M_interrupt 24 = .ok (.lcmp, 1) := by decide +kernel
theorem md_M_interrupt_25 : decode mc_M_interrupt 25 = .ok (.ifCond .gt 19, 3) := by decide +kernel
theorem md_M_interrupt_28 : decode mc_M_interrupt 28 = .ok (.lload 4, 2) := by decide +kernel
theorem md_M_interrupt_30 : decode mc_M_interrupt 30 = .ok (.lconst 1, 1) := by decide +kernel
theorem md_M_interrupt_31 : decode mc_M_interrupt 31 = .ok (.lcmp, 1) := by decide +kernel
theorem md_M_interrupt_32 : decode mc_M_interrupt 32 = .ok (.ifCond .lt 12, 3) := by decide +kernel
theorem md_M_interrupt_35 : decode mc_M_interrupt 35 = .ok (.lload 4, 2) := by decide +kernel
theorem md_M_interrupt_37 : decode mc_M_interrupt 37 = .ok (.ldc2_w 154, 3) := by decide +kernel
theorem md_M_interrupt_40 : decode mc_M_interrupt 40 = .ok (.lcmp, 1) := by decide +kernel
theorem md_M_interrupt_41 : decode mc_M_interrupt 41 = .ok (.ifCond .le 6, 3) := by decide +kernel
theorem md_M_interrupt_44 : decode mc_M_interrupt 44 = .ok (.bipush (-2), 2) := by decide +kernel
theorem md_M_interrupt_46 : decode mc_M_interrupt 46 = .ok (.ireturn, 1) := by decide +kernel
theorem md_M_interrupt_47 : decode mc_M_interrupt 47 = .ok (.aload_n 0, 1) := by decide +kernel
theorem md_M_interrupt_48 : decode mc_M_interrupt 48 = .ok (.getfield 156, 3) := by decide +kernel
theorem md_M_interrupt_51 : decode mc_M_interrupt 51 = .ok (.sipush 500, 3) := by decide +kernel
theorem md_M_interrupt_54 : decode mc_M_interrupt 54 = .ok (.if_icmp .ne 6, 3) := by decide +kernel
theorem md_M_interrupt_57 : decode mc_M_interrupt 57 = .ok (.bipush (-4), 2) := by decide +kernel
theorem md_M_interrupt_59 : decode mc_M_interrupt 59 = .ok (.ireturn, 1) := by decide +kernel
theorem md_M_interrupt_60 : decode mc_M_interrupt 60 = .ok (.aload_n 0, 1) := by decide +kernel
theorem md_M_interrupt_61 : decode mc_M_interrupt 61 = .ok (.getfield 90, 3) := by decide +kernel
theorem md_M_interrupt_64 : decode mc_M_interrupt 64 = .ok (.aload_n 0, 1) := by decide +kernel
theorem md_M_interrupt_65 : decode mc_M_interrupt 65 = .ok (.getfield 156, 3) := by decide +kernel
theorem md_M_interrupt_68 : decode mc_M_interrupt 68 = .ok (.iload_n 1, 1) := by decide +kernel
theorem md_M_interrupt_69 : decode mc_M_interrupt 69 = .ok (.iastore, 1) := by decide +kernel
theorem md_M_interrupt_70 : decode mc_M_interrupt 70 = .ok (.aload_n 0, 1) := by decide +kernel
theorem md_M_interrupt_71 : decode mc_M_interrupt 71 = .ok (.getfield 93, 3) := by decide +kernel
theorem md_M_interrupt_74 : decode mc_M_interrupt 74 = .ok (.aload_n 0, 1) := by decide +kernel
theorem md_M_interrupt_75 : decode mc_M_interrupt 75 = .ok (.getfield 156, 3) := by decide +kernel
theorem md_M_interrupt_78 : decode mc_M_interrupt 78 = .ok (.lload_n 2, 1) := by decide +kernel
theorem md_M_interrupt_79 : decode mc_M_interrupt 79 = .ok (.lastore, 1) := by decide +kernel
theorem md_M_interrupt_80 : decode mc_M_interrupt 80 = .ok (.aload_n 0, 1) := by decide +kernel
theorem md_M_interrupt_81 : decode mc_M_interrupt 81 = .ok (.getfield 96, 3) := by decide +kernel
theorem md_M_interrupt_84 : decode mc_M_interrupt 84 = .ok (.aload_n 0, 1) := by decide +kernel
theorem md_M_interrupt_85 : decode mc_M_interrupt 85 = .ok (.getfield 156, 3) := by decide +kernel
theorem md_M_interrupt_88 : decode mc_M_interrupt 88 = .ok (.lload 4, 2) := by decide +kernel
theorem md_M_interrupt_90 : decode mc_M_interrupt 90 = .ok (.lastore, 1) := by decide +kernel
theorem md_M_interrupt_91 : decode mc_M_interrupt 91 = .ok (.aload_n 0, 1) := by decide +kernel
theorem md_M_interrupt_92 : decode mc_M_interrupt 92 = .ok (.dup, 1) := by decide +kernel
theorem md_M_interrupt_93 : decode mc_M_interrupt 93 = .ok (.getfield 156, 3) := by decide +kernel
theorem md_M_interrupt_96 : decode mc_M_interrupt 96 = .ok (.iconst 1, 1) := by decide +kernel
theorem md_M_interrupt_97 : decode mc_M_interrupt 97 = .ok (.iadd, 1) := by decide +kernel
theorem md_M_interrupt_98 : decode mc_M_interrupt 98 = .ok (.putfield 156, 3) := by decide +kernel
theorem md_M_interrupt_101 : decode mc_M_interrupt 101 = .ok (.aload_n 0, 1) := by decide +kernel
theorem md_M_interrupt_102 : decode mc_M_interrupt 102 = .ok (.getfield 156, 3) := by decide +kernel
theorem md_M_interrupt_105 : decode mc_M_interrupt 105 = .ok (.ireturn, 1) := by decide +kernel
theorem md_M_tell_0 : decode mc_M_tell 0 = .ok (.aload_n 0, 1) := by decide +kernel
theorem md_M_tell_1 : decode mc_M_tell 1 = .ok (.getfield 159, 3) := by decide +kernel
theorem md_M_tell_4 : decode mc_M_tell 4 = .ok (.sipush 1000, 3) := by decide +kernel
theorem md_M_tell_7 : decode mc_M_tell 7 = .ok (.if_icmp .ge 36, 3) := by decide +kernel
theorem md_M_tell_10 : decode mc_M_tell 10 = .ok (.aload_n 0, 1) := by decide +kernel
theorem md_M_tell_11 : decode mc_M_tell 11 = .ok (.getfield 99, 3) := by decide +kernel
theorem md_M_tell_14 : decode mc_M_tell 14 = .ok (.aload_n 0, 1) := by decide +kernel
theorem md_M_tell_15 : decode mc_M_tell 15 = .ok (.getfield 159, 3) := by decide +kernel
theorem md_M_tell_18 : decode mc_M_tell 18 = .ok (.iload_n 1, 1) := by decide +kernel
theorem md_M_tell_19 : decode mc_M_tell 19 = .ok (.iastore, 1) := by decide +kernel
theorem md_M_tell_20 : decode mc_M_tell 20 = .ok (.aload_n 0, 1) := by decide +kernel
theorem md_M_tell_21 : decode mc_M_tell 21 = .ok (.getfield 102, 3) := by decide +kernel
theorem md_M_tell_24 : decode mc_M_tell 24 = .ok (.aload_n 0, 1) := by decide +kernel
theorem md_M_tell_25 : decode mc_M_tell 25 = .ok (.getfield 159, 3) := by decide +kernel
theorem md_M_tell_28 : decode mc_M_tell 28 = .ok (.iload_n 2, 1) := by decide +kernel
theorem md_M_tell_29 : decode mc_M_tell 29 = .ok (.iastore, 1) := by decide +kernel
theorem md_M_tell_30 : decode mc_M_tell 30 = .ok (.aload_n 0, 1) := by decide +kernel
theorem md_M_tell_31 : decode mc_M_tell 31 = .ok (.getfield 105, 3) := by decide +kernel
theorem md_M_tell_34 : decode mc_M_tell 34 = .ok (.aload_n 0, 1) := by decide +kernel
theorem md_M_tell_35 : decode mc_M_tell 35 = .ok (.getfield 159, 3) := by decide +kernel
theorem md_M_tell_38 : decode mc_M_tell 38 = .ok (.aload_n 0, 1) := by decide +kernel
theorem md_M_tell_39 : decode mc_M_tell 39 = .ok (.getfield 120, 3) := by decide +kernel
theorem md_M_tell_42 : decode mc_M_tell 42 = .ok (.lastore, 1) := by decide +kernel
theorem md_M_tell_43 : decode mc_M_tell 43 = .ok (.aload_n 0, 1) := by decide +kernel
theorem md_M_tell_44 : decode mc_M_tell 44 = .ok (.dup, 1) := by decide +kernel
theorem md_M_tell_45 : decode mc_M_tell 45 = .ok (.getfield 159, 3) := by decide +kernel
theorem md_M_tell_48 : decode mc_M_tell 48 = .ok (.iconst 1, 1) := by decide +kernel
theorem md_M_tell_49 : decode mc_M_tell 49 = .ok (.iadd, 1) := by decide +kernel
theorem md_M_tell_50 : decode mc_M_tell 50 = .ok (.putfield 159, 3) := by decide +kernel
theorem md_M_tell_53 : decode mc_M_tell 53 = .ok (.return_, 1) := by decide +kernel
theorem md_M_ready_0 : decode mc_M_ready 0 = .ok (.aload_n 0, 1) := by decide +kernel
theorem md_M_ready_1 : decode mc_M_ready 1 = .ok (.dup, 1) := by decide +kernel
theorem md_M_ready_2 : decode mc_M_ready 2 = .ok (.getfield 162, 3) := by decide +kernel
theorem md_M_ready_5 : decode mc_M_ready 5 = .ok (.lconst 1, 1) := by decide +kernel
theorem md_M_ready_6 : decode mc_M_ready 6 = .ok (.ladd, 1) := by decide +kernel
theorem md_M_ready_7 : decode mc_M_ready 7 = .ok (.putfield 162, 3) := by decide +kernel
theorem md_M_ready_10 : decode mc_M_ready 10 = .ok (.aload_n 0, 1) := by decide +kernel
theorem md_M_ready_11 : decode mc_M_ready 11 = .ok (.getfield 39, 3) := by decide +kernel
theorem md_M_ready_14 : decode mc_M_ready 14 = .ok (.iload_n 1, 1) := by decide +kernel
theorem md_M_ready_15 : decode mc_M_ready 15 = .ok (.aload_n 0, 1) := by decide +kernel
theorem md_M_ready_16 : decode mc_M_ready 16 = .ok (.getfield 162, 3) := by decide +kernel
theorem md_M_ready_19 : decode mc_M_ready 19 = .ok (.lastore, 1) := by decide +kernel
theorem md_M_ready_20 : decode mc_M_ready 20 = .ok (.aload_n 0, 1) := by decide +kernel
theorem md_M_ready_21 : decode mc_M_ready 21 = .ok (.getfield 36, 3) := by decide +kernel
theorem md_M_ready_24 : decode mc_M_ready 24 = .ok (.iload_n 1, 1) := by decide +kernel
theorem md_M_ready_25 : decode mc_M_ready 25 = .ok (.iconst 1, 1) := by decide +kernel
theorem md_M_ready_26 : decode mc_M_ready 26 = .ok (.iastore, 1) := by decide +kernel
theorem md_M_ready_27 : decode mc_M_ready 27 = .ok (.return_, 1) := by decide +kernel
theorem md_M_begin_0 : decode mc_M_begin 0 = .ok (.aload_n 0, 1) := by decide +kernel
theorem md_M_begin_1 : decode mc_M_begin 1 = .ok (.getfield 36, 3) := by decide +kernel
theorem md_M_begin_4 : decode mc_M_begin 4 = .ok (.iload_n 1, 1) := by decide +kernel
theorem md_M_begin_5 : decode mc_M_begin 5 = .ok (.iaload, 1) := by decide +kernel
theorem md_M_begin_6 : decode mc_M_begin 6 = .ok (.ifCond .eq 40, 3) := by decide +kernel
theorem md_M_begin_9 : decode mc_M_begin 9 = .ok (.iconst 1, 1) := by decide +kernel
theorem md_M_begin_10 : decode mc_M_begin 10 = .ok (.aload_n 0, 1) := by decide +kernel
theorem md_M_begin_11 : decode mc_M_begin 11 = .ok (.getfield 42, 3) := by decide +kernel
theorem md_M_begin_14 : decode mc_M_begin 14 = .ok (.iload_n 1, 1) := by decide +kernel
theorem md_M_begin_15 : decode mc_M_begin 15 = .ok (.iaload, 1) := by decide +kernel
theorem md_M_begin_16 : decode mc_M_begin 16 = .ok (.iadd, 1) := by decide +kernel
theorem md_M_begin_17 : decode mc_M_begin 17 = .ok (.aload_n 0, 1) := by decide +kernel
theorem md_M_begin_18 : decode mc_M_begin 18 = .ok (.getfield 16, 3) := by decide +kernel
theorem md_M_begin_21 : decode mc_M_begin 21 = .ok (.iload_n 1, 1) := by decide +kernel
theorem md_M_begin_22 : decode mc_M_begin 22 = .ok (.iaload, 1) := by decide +kernel
theorem md_M_begin_23 : decode mc_M_begin 23 = .ok (.if_icmp .lt 12, 3) := by decide +kernel
theorem md_M_begin_26 : decode mc_M_begin 26 = .ok (.aload_n 0, 1) := by decide +kernel
theorem md_M_begin_27 : decode mc_M_begin 27 = .ok (.iconst 1, 1) := by decide +kernel
theorem md_M_begin_28 : decode mc_M_begin 28 = .ok (.iload_n 1, 1) := by decide +kernel
theorem md_M_begin_29 : decode mc_M_begin 29 = .ok (.invokevirtual 165, 3) := by decide +kernel
theorem md_M_begin_32 : decode mc_M_begin 32 = .ok (.goto 13, 3) := by decide +kernel
theorem md_M_begin_35 : decode mc_M_begin 35 = .ok (.aload_n 0, 1) := by decide +kernel
theorem md_M_begin_36 : decode mc_M_begin 36 = .ok (.getfield 42, 3) := by decide +kernel
theorem md_M_begin_39 : decode mc_M_begin 39 = .ok (.iload_n 1, 1) := by decide +kernel
theorem md_M_begin_40 : decode mc_M_begin 40 = .ok (.dup2, 1) := by decide +kernel
theorem md_M_begin_41 : decode mc_M_begin 41 = .ok (.iaload, 1) := by decide +kernel
theorem md_M_begin_42 : decode mc_M_begin 42 = .ok (.iconst 1, 1) := by decide +kernel
theorem md_M_begin_43 : decode mc_M_begin 43 = .ok (.iadd, 1) := by decide +kernel
theorem md_M_begin_44 : decode mc_M_begin 44 = .ok (.iastore, 1) := by decide +kernel
theorem md_M_begin_45 : decode mc_M_begin 45 = .ok (.return_, 1) := by decide +kernel
theorem md_M_begin_46 : decode mc_M_begin 46 = .ok (.aload_n 0, 1) := by decide +kernel
theorem md_M_begin_47 : decode mc_M_begin 47 = .ok (.iload_n 1, 1) := by decide +kernel
theorem md_M_begin_48 : decode mc_M_begin 48 = .ok (.invokevirtual 169, 3) := by decide +kernel
theorem md_M_begin_51 : decode mc_M_begin 51 = .ok (.aload_n 0, 1) := by decide +kernel
theorem md_M_begin_52 : decode mc_M_begin 52 = .ok (.getfield 54, 3) := by decide +kernel
theorem md_M_begin_55 : decode mc_M_begin 55 = .ok (.iload_n 1, 1) := by decide +kernel
theorem md_M_begin_56 : decode mc_M_begin 56 = .ok (.iconst 0, 1) := by decide +kernel
theorem md_M_begin_57 : decode mc_M_begin 57 = .ok (.iastore, 1) := by decide +kernel
theorem md_M_begin_58 : decode mc_M_begin 58 = .ok (.aload_n 0, 1) := by decide +kernel
theorem md_M_begin_59 : decode mc_M_begin 59 = .ok (.getfield 45, 3) := by decide +kernel
theorem md_M_begin_62 : decode mc_M_begin 62 = .ok (.iload_n 1, 1) := by decide +kernel
theorem md_M_begin_63 : decode mc_M_begin 63 = .ok (.iconst 0, 1) := by decide +kernel
theorem md_M_begin_64 : decode mc_M_begin 64 = .ok (.iastore, 1) := by decide +kernel
theorem md_M_begin_65 : decode mc_M_begin 65 = .ok (.aload_n 0, 1) := by decide +kernel
theorem md_M_begin_66 : decode mc_M_begin 66 = .ok (.getfield 48, 3) := by decide +kernel
theorem md_M_begin_69 : decode mc_M_begin 69 = .ok (.iload_n 1, 1) := by decide +kernel
theorem md_M_begin_70 : decode mc_M_begin 70 = .ok (.lconst 1, 1) := by decide +kernel
theorem md_M_begin_71 : decode mc_M_begin 71 = .ok (.lastore, 1) := by decide +kernel
theorem md_M_begin_72 : decode mc_M_begin 72 = .ok (.aload_n 0, 1) := by decide +kernel
theorem md_M_begin_73 : decode mc_M_begin 73 = .ok (.getfield 51, 3) := by decide +kernel
theorem md_M_begin_76 : decode mc_M_begin 76 = .ok (.iload_n 1, 1) := by decide +kernel
theorem md_M_begin_77 : decode mc_M_begin 77 = .ok (.iconst 1, 1) := by decide +kernel
theorem md_M_begin_78 : decode mc_M_begin 78 = .ok (.bastore, 1) := by decide +kernel
theorem md_M_begin_79 : decode mc_M_begin 79 = .ok (.return_, 1) := by decide +kernel
theorem md_M_set_0 : decode mc_M_set 0 = .ok (.aload_n 0, 1) := by decide +kernel
theorem md_M_set_1 : decode mc_M_set 1 = .ok (.getfield 19, 3) := by decide +kernel
theorem md_M_set_4 : decode mc_M_set 4 = .ok (.iload_n 1, 1) := by decide +kernel
theorem md_M_set_5 : decode mc_M_set 5 = .ok (.baload, 1) := by decide +kernel
theorem md_M_set_6 : decode mc_M_set 6 = .ok (.ifCond .eq 12, 3) := by decide +kernel
theorem md_M_set_9 : decode mc_M_set 9 = .ok (.aload_n 0, 1) := by decide +kernel
theorem md_M_set_10 : decode mc_M_set 10 = .ok (.getfield 36, 3) := by decide +kernel
theorem md_M_set_13 : decode mc_M_set 13 = .ok (.iload_n 1, 1) := by decide +kernel
theorem md_M_set_14 : decode mc_M_set 14 = .ok (.iaload, 1) := by decide +kernel
theorem md_M_set_15 : decode mc_M_set 15 = .ok (.ifCond .ne 5, 3) := by decide +kernel
theorem md_M_set_18 : decode mc_M_set 18 = .ok (.iconst 0, 1) := by decide +kernel
theorem md_M_set_19 : decode mc_M_set 19 = .ok (.ireturn, 1) := by decide +kernel
theorem md_M_set_20 : decode mc_M_set 20 = .ok (.aload_n 0, 1) := by decide +kernel
theorem md_M_set_21 : decode mc_M_set 21 = .ok (.getfield 54, 3) := by decide +kernel
theorem md_M_set_24 : decode mc_M_set 24 = .ok (.iload_n 1, 1) := by decide +kernel
theorem md_M_set_25 : decode mc_M_set 25 = .ok (.aload_n 0, 1) := by decide +kernel
theorem md_M_set_26 : decode mc_M_set 26 = .ok (.getfield 54, 3) := by decide +kernel
theorem md_M_set_29 : decode mc_M_set 29 = .ok (.iload_n 1, 1) := by decide +kernel
theorem md_M_set_30 : decode mc_M_set 30 = .ok (.iaload, 1) := by decide +kernel
theorem md_M_set_31 : decode mc_M_set 31 = .ok (.iload_n 2, 1) := by decide +kernel
theorem md_M_set_32 : decode mc_M_set 32 = .ok (.ior, 1) := by decide +kernel
theorem md_M_set_33 : decode mc_M_set 33 = .ok (.iastore, 1) := by decide +kernel
theorem md_M_set_34 : decode mc_M_set 34 = .ok (.aload_n 0, 1) := by decide +kernel
theorem md_M_set_35 : decode mc_M_set 35 = .ok (.getfield 36, 3) := by decide +kernel
theorem md_M_set_38 : decode mc_M_set 38 = .ok (.iload_n 1, 1) := by decide +kernel
theorem md_M_set_39 : decode mc_M_set 39 = .ok (.iaload, 1) := by decide +kernel
theorem md_M_set_40 : decode mc_M_set 40 = .ok (.iconst 3, 1) := by decide +kernel
theorem md_M_set_41 : decode mc_M_set 41 = .ok (.if_icmp .ne 24, 3) := by decide +kernel
theorem md_M_set_44 : decode mc_M_set 44 = .ok (.aload_n 0, 1) := by decide +kernel
theorem md_M_set_45 : decode mc_M_set 45 = .ok (.getfield 54, 3) := by decide +kernel
theorem md_M_set_48 : decode mc_M_set 48 = .ok (.iload_n 1, 1) := by decide +kernel
theorem md_M_set_49 : decode mc_M_set 49 = .ok (.iaload, 1) := by decide +kernel
theorem md_M_set_50 : decode mc_M_set 50 = .ok (.aload_n 0, 1) := by decide +kernel
theorem md_M_set_51 : decode mc_M_set 51 = .ok (.getfield 57, 3) := by decide +kernel
theorem md_M_set_54 : decode mc_M_set 54 = .ok (.iload_n 1, 1) := by decide +kernel
theorem md_M_set_55 : decode mc_M_set 55 = .ok (.iaload, 1) := by decide +kernel
theorem md_M_set_56 : decode mc_M_set 56 = .ok (.iand, 1) := by decide +kernel
theorem md_M_set_57 : decode mc_M_set 57 = .ok (.ifCond .eq 8, 3) := by decide +kernel
theorem md_M_set_60 : decode mc_M_set 60 = .ok (.aload_n 0, 1) := by decide +kernel
theorem md_M_set_61 : decode mc_M_set 61 = .ok (.iload_n 1, 1) := by decide +kernel
theorem md_M_set_62 : decode mc_M_set 62 = .ok (.invokevirtual 169, 3) := by decide +kernel
theorem md_M_set_65 : decode mc_M_set 65 = .ok (.iconst 1, 1) := by decide +kernel
theorem md_M_set_66 : decode mc_M_set 66 = .ok (.ireturn, 1) := by decide +kernel
theorem md_M_unlock_0 : decode mc_M_unlock 0 = .ok (.aload_n 0, 1) := by decide +kernel
theorem md_M_unlock_1 : decode mc_M_unlock 1 = .ok (.getfield 75, 3) := by decide +kernel
theorem md_M_unlock_4 : decode mc_M_unlock 4 = .ok (.iload_n 1, 1) := by decide +kernel
theorem md_M_unlock_5 : decode mc_M_unlock 5 = .ok (.iconst 0, 1) := by decide +kernel
theorem md_M_unlock_6 : decode mc_M_unlock 6 = .ok (.iastore, 1) := by decide +kernel
theorem md_M_unlock_7 : decode mc_M_unlock 7 = .ok (.iconst 0, 1) := by decide +kernel
theorem md_M_unlock_8 : decode mc_M_unlock 8 = .ok (.istore_n 2, 1) := by decide +kernel
theorem md_M_unlock_9 : decode mc_M_unlock 9 = .ok (.iconst 1, 1) := by decide +kernel
theorem md_M_unlock_10 : decode mc_M_unlock 10 = .ok (.istore_n 3, 1) := by decide +kernel
theorem md_M_unlock_11 : decode mc_M_unlock 11 = .ok (.iload_n 3, 1) := by decide +kernel
theorem md_M_unlock_12 : decode mc_M_unlock 12 = .ok (.aload_n 0, 1) := by decide +kernel
theorem md_M_unlock_13 : decode mc_M_unlock 13 = .ok (.getfield 117, 3) := by decide +kernel
theorem md_M_unlock_16 : decode mc_M_unlock 16 = .ok (.if_icmp .gt 41, 3) := by decide +kernel
theorem md_M_unlock_19 : decode mc_M_unlock 19 = .ok (.aload_n 0, 1) := by decide +kernel
theorem md_M_unlock_20 : decode mc_M_unlock 20 = .ok (.getfield 78, 3) := by decide +kernel
theorem md_M_unlock_23 : decode mc_M_unlock 23 = .ok (.iload_n 3, 1) := by decide +kernel
theorem md_M_unlock_24 : decode mc_M_unlock 24 = .ok (.iaload, 1) := by decide +kernel
theorem md_M_unlock_25 : decode mc_M_unlock 25 = .ok (.iload_n 1, 1) := by decide +kernel
theorem md_M_unlock_26 : decode mc_M_unlock 26 = .ok (.if_icmp .ne 25, 3) := by decide +kernel
theorem md_M_unlock_29 : decode mc_M_unlock 29 = .ok (.iload_n 2, 1) := by decide +kernel
theorem md_M_unlock_30 : decode mc_M_unlock 30 = .ok (.ifCond .eq 19, 3) := by decide +kernel
theorem md_M_unlock_33 : decode mc_M_unlock 33 = .ok (.aload_n 0, 1) := by decide +kernel
theorem md_M_unlock_34 : decode mc_M_unlock 34 = .ok (.getfield 81, 3) := by decide +kernel
theorem md_M_unlock_37 : decode mc_M_unlock 37 = .ok (.iload_n 3, 1) := by decide +kernel
theorem md_M_unlock_38 : decode mc_M_unlock 38 = .ok (.laload, 1) := by decide +kernel
theorem md_M_unlock_39 : decode mc_M_unlock 39 = .ok (.aload_n 0, 1) := by decide +kernel
theorem md_M_unlock_40 : decode mc_M_unlock 40 = .ok (.getfield 81, 3) := by decide +kernel
theorem md_M_unlock_43 : decode mc_M_unlock 43 = .ok (.iload_n 2, 1) := by decide +kernel
theorem md_M_unlock_44 : decode mc_M_unlock 44 = .ok (.laload, 1) := by decide +kernel
theorem md_M_unlock_45 : decode mc_M_unlock 45 = .ok (.lcmp, 1) := by decide +kernel
theorem md_M_unlock_46 : decode mc_M_unlock 46 = .ok (.ifCond .ge 5, 3) := by decide +kernel
theorem md_M_unlock_49 : decode mc_M_unlock 49 = .ok (.iload_n 3, 1) := by decide +kernel
theorem md_M_unlock_50 : decode mc_M_unlock 50 = .ok (.istore_n 2, 1) := by decide +kernel
theorem md_M_unlock_51 : decode mc_M_unlock 51 = .ok (.iinc 3 1, 3) := by decide +kernel
theorem md_M_unlock_54 : decode mc_M_unlock 54 = .ok (.goto (-43), 3) := by decide +kernel
theorem md_M_unlock_57 : decode mc_M_unlock 57 = .ok (.iload_n 2, 1) := by decide +kernel
theorem md_M_unlock_58 : decode mc_M_unlock 58 = .ok (.ifCond .ne 4, 3) := by decide +kernel
theorem md_M_unlock_61 : decode mc_M_unlock 61 = .ok (.return_, 1) := by decide +kernel
theorem md_M_unlock_62 : decode mc_M_unlock 62 = .ok (.aload_n 0, 1) := by decide +kernel
theorem md_M_unlock_63 : decode mc_M_unlock 63 = .ok (.getfield 75, 3) := by decide +kernel
theorem md_M_unlock_66 : decode mc_M_unlock 66 = .ok (.iload_n 1, 1) := by decide +kernel
theorem md_M_unlock_67 : decode mc_M_unlock 67 = .ok (.iload_n 2, 1) := by decide +kernel
theorem md_M_unlock_68 : decode mc_M_unlock 68 = .ok (.iastore, 1) := by decide +kernel
theorem md_M_unlock_69 : decode mc_M_unlock 69 = .ok (.aload_n 0, 1) := by decide +kernel
theorem md_M_unlock_70 : decode mc_M_unlock 70 = .ok (.getfield 78, 3) := by decide +kernel
theorem md_M_unlock_73 : decode mc_M_unlock 73 = .ok (.iload_n 2, 1) := by decide +kernel
theorem md_M_unlock_74 : decode mc_M_unlock 74 = .ok (.iconst 0, 1) := by decide +kernel
theorem md_M_unlock_75 : decode mc_M_unlock 75 = .ok (.iastore, 1) := by decide +kernel
theorem md_M_unlock_76 : decode mc_M_unlock 76 = .ok (.aload_n 0, 1) := by decide +kernel
theorem md_M_unlock_77 : decode mc_M_unlock 77 = .ok (.getfield 45, 3) := by decide +kernel
theorem md_M_unlock_80 : decode mc_M_unlock 80 = .ok (.iload_n 2, 1) := by decide +kernel
theorem md_M_unlock_81 : decode mc_M_unlock 81 = .ok (.dup2, 1) := by decide +kernel
theorem md_M_unlock_82 : decode mc_M_unlock 82 = .ok (.iaload, 1) := by decide +kernel
theorem md_M_unlock_83 : decode mc_M_unlock 83 = .ok (.iconst 1, 1) := by decide +kernel
theorem md_M_unlock_84 : decode mc_M_unlock 84 = .ok (.iadd, 1) := by decide +kernel
theorem md_M_unlock_85 : decode mc_M_unlock 85 = .ok (.iastore, 1) := by decide +kernel
theorem md_M_unlock_86 : decode mc_M_unlock 86 = .ok (.return_, 1) := by decide +kernel
theorem md_M_holdsSome_0 : decode mc_M_holdsSome 0 = .ok (.iconst 0, 1) := by decide +kernel
theorem md_M_holdsSome_1 : decode mc_M_holdsSome 1 = .ok (.istore_n 2, 1) := by decide +kernel
theorem md_M_holdsSome_2 : decode mc_M_holdsSome 2 = .ok (.iconst 1, 1) := by decide +kernel
theorem md_M_holdsSome_3 : decode mc_M_holdsSome 3 = .ok (.istore_n 3, 1) := by decide +kernel
theorem md_M_holdsSome_4 : decode mc_M_holdsSome 4 = .ok (.iload_n 3, 1) := by decide +kernel
theorem md_M_holdsSome_5 : decode mc_M_holdsSome 5 = .ok (.bipush 32, 2) := by decide +kernel
theorem md_M_holdsSome_7 : decode mc_M_holdsSome 7 = .ok (.if_icmp .gt 29, 3) := by decide +kernel
theorem md_M_holdsSome_10 : decode mc_M_holdsSome 10 = .ok (.iload_n 2, 1) := by decide +kernel
theorem md_M_holdsSome_11 : decode mc_M_holdsSome 11 = .ok (.ifCond .ne 13, 3) := by decide +kernel
theorem md_M_holdsSome_14 : decode mc_M_holdsSome 14 = .ok (.aload_n 0, 1) := by decide +kernel
theorem md_M_holdsSome_15 : decode mc_M_holdsSome 15 = .ok (.getfield 66, 3) := by decide +kernel
theorem md_M_holdsSome_18 : decode mc_M_holdsSome 18 = .ok (.iload_n 3, 1) := by decide +kernel
theorem md_M_holdsSome_19 : decode mc_M_holdsSome 19 = .ok (.iaload, 1) := by decide +kernel
theorem md_M_holdsSome_20 : decode mc_M_holdsSome 20 = .ok (.iload_n 1, 1) := by decide +kernel
theorem md_M_holdsSome_21 : decode mc_M_holdsSome 21 = .ok (.if_icmp .ne 7, 3) := by decide +kernel
theorem md_M_holdsSome_24 : decode mc_M_holdsSome 24 = .ok (.iconst 1, 1) := by decide +kernel
theorem md_M_holdsSome_25 : decode mc_M_holdsSome 25 = .ok (.goto 4, 3) := by decide +kernel
theorem md_M_holdsSome_28 : decode mc_M_holdsSome 28 = .ok (.iconst 0, 1) := by decide +kernel
theorem md_M_holdsSome_29 : decode mc_M_holdsSome 29 = .ok (.istore_n 2, 1) := by decide +kernel
theorem md_M_holdsSome_30 : decode mc_M_holdsSome 30 = .ok (.iinc 3 1, 3) := by decide +kernel
theorem md_M_holdsSome_33 : decode mc_M_holdsSome 33 = .ok (.goto (-29), 3) := by decide +kernel
theorem md_M_holdsSome_36 : decode mc_M_holdsSome 36 = .ok (.iconst 1, 1) := by decide +kernel
theorem md_M_holdsSome_37 : decode mc_M_holdsSome 37 = .ok (.istore_n 3, 1) := by decide +kernel
theorem md_M_holdsSome_38 : decode mc_M_holdsSome 38 = .ok (.iload_n 3, 1) := by decide +kernel
theorem md_M_holdsSome_39 : decode mc_M_holdsSome 39 = .ok (.bipush 16, 2) := by decide +kernel
theorem md_M_holdsSome_41 : decode mc_M_holdsSome 41 = .ok (.if_icmp .gt 29, 3) := by decide +kernel
theorem md_M_holdsSome_44 : decode mc_M_holdsSome 44 = .ok (.iload_n 2, 1) := by decide +kernel
theorem md_M_holdsSome_45 : decode mc_M_holdsSome 45 = .ok (.ifCond .ne 13, 3) := by decide +kernel
theorem md_M_holdsSome_48 : decode mc_M_holdsSome 48 = .ok (.aload_n 0, 1) := by decide +kernel
theorem md_M_holdsSome_49 : decode mc_M_holdsSome 49 = .ok (.getfield 75, 3) := by decide +kernel
theorem md_M_holdsSome_52 : decode mc_M_holdsSome 52 = .ok (.iload_n 3, 1) := by decide +kernel
theorem md_M_holdsSome_53 : decode mc_M_holdsSome 53 = .ok (.iaload, 1) := by decide +kernel
theorem md_M_holdsSome_54 : decode mc_M_holdsSome 54 = .ok (.iload_n 1, 1) := by decide +kernel
theorem md_M_holdsSome_55 : decode mc_M_holdsSome 55 = .ok (.if_icmp .ne 7, 3) := by decide +kernel
theorem md_M_holdsSome_58 : decode mc_M_holdsSome 58 = .ok (.iconst 1, 1) := by decide +kernel
theorem md_M_holdsSome_59 : decode mc_M_holdsSome 59 = .ok (.goto 4, 3) := by decide +kernel
theorem md_M_holdsSome_62 : decode mc_M_holdsSome 62 = .ok (.iconst 0, 1) := by decide +kernel
theorem md_M_holdsSome_63 : decode mc_M_holdsSome 63 = .ok (.istore_n 2, 1) := by decide +kernel
theorem md_M_holdsSome_64 : decode mc_M_holdsSome 64 = .ok (.iinc 3 1, 3) := by decide +kernel
theorem md_M_holdsSome_67 : decode mc_M_holdsSome 67 = .ok (.goto (-29), 3) := by decide +kernel
theorem md_M_holdsSome_70 : decode mc_M_holdsSome 70 = .ok (.iload_n 2, 1) := by decide +kernel
theorem md_M_holdsSome_71 : decode mc_M_holdsSome 71 = .ok (.ireturn, 1) := by decide +kernel
theorem md_M_free_0 : decode mc_M_free 0 = .ok (.aload_n 0, 1) := by decide +kernel
theorem md_M_free_1 : decode mc_M_free 1 = .ok (.iload_n 1, 1) := by decide +kernel
theorem md_M_free_2 : decode mc_M_free 2 = .ok (.invokevirtual 173, 3) := by decide +kernel
theorem md_M_free_5 : decode mc_M_free 5 = .ok (.ifCond .ne 11, 3) := by decide +kernel
theorem md_M_free_8 : decode mc_M_free 8 = .ok (.aload_n 0, 1) := by decide +kernel
theorem md_M_free_9 : decode mc_M_free 9 = .ok (.getfield 176, 3) := by decide +kernel
theorem md_M_free_12 : decode mc_M_free 12 = .ok (.iload_n 1, 1) := by decide +kernel
theorem md_M_free_13 : decode mc_M_free 13 = .ok (.if_icmp .ne 7, 3) := by decide +kernel
theorem md_M_free_16 : decode mc_M_free 16 = .ok (.iconst 1, 1) := by decide +kernel
theorem md_M_free_17 : decode mc_M_free 17 = .ok (.goto 4, 3) := by decide +kernel
theorem md_M_free_20 : decode mc_M_free 20 = .ok (.iconst 0, 1) := by decide +kernel
theorem md_M_free_21 : decode mc_M_free 21 = .ok (.istore_n 2, 1) := by decide +kernel
theorem md_M_free_22 : decode mc_M_free 22 = .ok (.iconst 1, 1) := by decide +kernel
theorem md_M_free_23 : decode mc_M_free 23 = .ok (.istore_n 3, 1) := by decide +kernel
theorem md_M_free_24 : decode mc_M_free 24 = .ok (.iload_n 3, 1) := by decide +kernel
theorem md_M_free_25 : decode mc_M_free 25 = .ok (.bipush 32, 2) := by decide +kernel
theorem md_M_free_27 : decode mc_M_free 27 = .ok (.if_icmp .gt 35, 3) := by decide +kernel
theorem md_M_free_30 : decode mc_M_free 30 = .ok (.aload_n 0, 1) := by decide +kernel
theorem md_M_free_31 : decode mc_M_free 31 = .ok (.getfield 66, 3) := by decide +kernel
theorem md_M_free_34 : decode mc_M_free 34 = .ok (.iload_n 3, 1) := by decide +kernel
theorem md_M_free_35 : decode mc_M_free 35 = .ok (.aload_n 0, 1) := by decide +kernel
theorem md_M_free_36 : decode mc_M_free 36 = .ok (.getfield 66, 3) := by decide +kernel
theorem md_M_free_39 : decode mc_M_free 39 = .ok (.iload_n 3, 1) := by decide +kernel
theorem md_M_free_40 : decode mc_M_free 40 = .ok (.iaload, 1) := by decide +kernel
theorem md_M_free_41 : decode mc_M_free 41 = .ok (.iload_n 1, 1) := by decide +kernel
theorem md_M_free_42 : decode mc_M_free 42 = .ok (.if_icmp .ne 7, 3) := by decide +kernel
theorem md_M_free_45 : decode mc_M_free 45 = .ok (.iconst 0, 1) := by decide +kernel
theorem md_M_free_46 : decode mc_M_free 46 = .ok (.goto 9, 3) := by decide +kernel
theorem md_M_free_49 : decode mc_M_free 49 = .ok (.aload_n 0, 1) := by decide +kernel
theorem md_M_free_50 : decode mc_M_free 50 = .ok (.getfield 66, 3) := by decide +kernel
theorem md_M_free_53 : decode mc_M_free 53 = .ok (.iload_n 3, 1) := by decide +kernel
theorem md_M_free_54 : decode mc_M_free 54 = .ok (.iaload, 1) := by decide +kernel
theorem md_M_free_55 : decode mc_M_free 55 = .ok (.iastore, 1) := by decide +kernel
theorem md_M_free_56 : decode mc_M_free 56 = .ok (.iinc 3 1, 3) := by decide +kernel
theorem md_M_free_59 : decode mc_M_free 59 = .ok (.goto (-35), 3) := by decide +kernel
theorem md_M_free_62 : decode mc_M_free 62 = .ok (.iconst 1, 1) := by decide +kernel
theorem md_M_free_63 : decode mc_M_free 63 = .ok (.istore_n 3, 1) := by decide +kernel
theorem md_M_free_64 : decode mc_M_free 64 = .ok (.iload_n 3, 1) := by decide +kernel
theorem md_M_free_65 : decode mc_M_free 65 = .ok (.bipush 16, 2) := by decide +kernel
theorem md_M_free_67 : decode mc_M_free 67 = .ok (.if_icmp .gt 24, 3) := by decide +kernel
theorem md_M_free_70 : decode mc_M_free 70 = .ok (.aload_n 0, 1) := by decide +kernel
theorem md_M_free_71 : decode mc_M_free 71 = .ok (.getfield 75, 3) := by decide +kernel
theorem md_M_free_74 : decode mc_M_free 74 = .ok (.iload_n 3, 1) := by decide +kernel
theorem md_M_free_75 : decode mc_M_free 75 = .ok (.iaload, 1) := by decide +kernel
theorem md_M_free_76 : decode mc_M_free 76 = .ok (.iload_n 1, 1) := by decide +kernel
theorem md_M_free_77 : decode mc_M_free 77 = .ok (.if_icmp .ne 8, 3) := by decide +kernel
theorem md_M_free_80 : decode mc_M_free 80 = .ok (.aload_n 0, 1) := by decide +kernel
theorem md_M_free_81 : decode mc_M_free 81 = .ok (.iload_n 3, 1) := by decide +kernel
theorem md_M_free_82 : decode mc_M_free 82 = .ok (.invokevirtual 179, 3) := by decide +kernel
theorem md_M_free_85 : decode mc_M_free 85 = .ok (.iinc 3 1, 3) := by decide +kernel
theorem md_M_free_88 : decode mc_M_free 88 = .ok (.goto (-24), 3) := by decide +kernel
theorem md_M_free_91 : decode mc_M_free 91 = .ok (.aload_n 0, 1) := by decide +kernel
theorem md_M_free_92 : decode mc_M_free 92 = .ok (.aload_n 0, 1) := by decide +kernel
theorem md_M_free_93 : decode mc_M_free 93 = .ok (.getfield 176, 3) := by decide +kernel
theorem md_M_free_96 : decode mc_M_free 96 = .ok (.iload_n 1, 1) := by decide +kernel
theorem md_M_free_97 : decode mc_M_free 97 = .ok (.if_icmp .ne 7, 3) := by decide +kernel
theorem md_M_free_100 : decode mc_M_free 100 = .ok (.iconst 0, 1) := by decide +kernel
theorem md_M_free_101 : decode mc_M_free 101 = .ok (.goto 7, 3) := by decide +kernel
theorem md_M_free_104 : decode mc_M_free 104 = .ok (.aload_n 0, 1) := by decide +kernel
theorem md_M_free_105 : decode mc_M_free 105 = .ok (.getfield 176, 3) := by decide +kernel
theorem md_M_free_108 : decode mc_M_free 108 = .ok (.putfield 176, 3) := by decide +kernel
theorem md_M_free_111 : decode mc_M_free 111 = .ok (.iload_n 2, 1) := by decide +kernel
theorem md_M_free_112 : decode mc_M_free 112 = .ok (.ifCond .eq 9, 3) := by decide +kernel
theorem md_M_free_115 : decode mc_M_free 115 = .ok (.aload_n 0, 1) := by decide +kernel
theorem md_M_free_116 : decode mc_M_free 116 = .ok (.iconst 3, 1) := by decide +kernel
theorem md_M_free_117 : decode mc_M_free 117 = .ok (.iload_n 1, 1) := by decide +kernel
theorem md_M_free_118 : decode mc_M_free 118 = .ok (.invokevirtual 165, 3) := by decide +kernel
theorem md_M_free_121 : decode mc_M_free 121 = .ok (.aload_n 0, 1) := by decide +kernel
theorem md_M_free_122 : decode mc_M_free 122 = .ok (.getfield 36, 3) := by decide +kernel
theorem md_M_free_125 : decode mc_M_free 125 = .ok (.iload_n 1, 1) := by decide +kernel
theorem md_M_free_126 : decode mc_M_free 126 = .ok (.iconst 0, 1) := by decide +kernel
theorem md_M_free_127 : decode mc_M_free 127 = .ok (.iastore, 1) := by decide +kernel
theorem md_M_free_128 : decode mc_M_free 128 = .ok (.aload_n 0, 1) := by decide +kernel
theorem md_M_free_129 : decode mc_M_free 129 = .ok (.getfield 60, 3) := by decide +kernel
theorem md_M_free_132 : decode mc_M_free 132 = .ok (.iload_n 1, 1) := by decide +kernel
theorem md_M_free_133 : decode mc_M_free 133 = .ok (.iconst 0, 1) := by decide +kernel
theorem md_M_free_134 : decode mc_M_free 134 = .ok (.bastore, 1) := by decide +kernel
theorem md_M_free_135 : decode mc_M_free 135 = .ok (.return_, 1) := by decide +kernel
theorem md_M_ends_0 : decode mc_M_ends 0 = .ok (.aload_n 0, 1) := by decide +kernel
theorem md_M_ends_1 : decode mc_M_ends 1 = .ok (.iload_n 1, 1) := by decide +kernel
theorem md_M_ends_2 : decode mc_M_ends 2 = .ok (.invokevirtual 182, 3) := by decide +kernel
theorem md_M_ends_5 : decode mc_M_ends 5 = .ok (.aload_n 0, 1) := by decide +kernel
theorem md_M_ends_6 : decode mc_M_ends 6 = .ok (.getfield 42, 3) := by decide +kernel
theorem md_M_ends_9 : decode mc_M_ends 9 = .ok (.iload_n 1, 1) := by decide +kernel
theorem md_M_ends_10 : decode mc_M_ends 10 = .ok (.iaload, 1) := by decide +kernel
theorem md_M_ends_11 : decode mc_M_ends 11 = .ok (.ifCond .ne 4, 3) := by decide +kernel
theorem md_M_ends_14 : decode mc_M_ends 14 = .ok (.return_, 1) := by decide +kernel
theorem md_M_ends_15 : decode mc_M_ends 15 = .ok (.aload_n 0, 1) := by decide +kernel
theorem md_M_ends_16 : decode mc_M_ends 16 = .ok (.getfield 42, 3) := by decide +kernel
theorem md_M_ends_19 : decode mc_M_ends 19 = .ok (.iload_n 1, 1) := by decide +kernel
theorem md_M_ends_20 : decode mc_M_ends 20 = .ok (.dup2, 1) := by decide +kernel
theorem md_M_ends_21 : decode mc_M_ends 21 = .ok (.iaload, 1) := by decide +kernel
theorem md_M_ends_22 : decode mc_M_ends 22 = .ok (.iconst 1, 1) := by decide +kernel
theorem md_M_ends_23 : decode mc_M_ends 23 = .ok (.isub, 1) := by decide +kernel
theorem md_M_ends_24 : decode mc_M_ends 24 = .ok (.iastore, 1) := by decide +kernel
theorem md_M_ends_25 : decode mc_M_ends 25 = .ok (.aload_n 0, 1) := by decide +kernel
theorem md_M_ends_26 : decode mc_M_ends 26 = .ok (.iload_n 1, 1) := by decide +kernel
theorem md_M_ends_27 : decode mc_M_ends 27 = .ok (.invokevirtual 185, 3) := by decide +kernel
theorem md_M_ends_30 : decode mc_M_ends 30 = .ok (.return_, 1) := by decide +kernel
theorem md_M_nextPart_0 : decode mc_M_nextPart 0 = .ok (.iconst 0, 1) := by decide +kernel
theorem md_M_nextPart_1 : decode mc_M_nextPart 1 = .ok (.istore_n 2, 1) := by decide +kernel
theorem md_M_nextPart_2 : decode mc_M_nextPart 2 = .ok (.iconst 0, 1) := by decide +kernel
theorem md_M_nextPart_3 : decode mc_M_nextPart 3 = .ok (.istore_n 3, 1) := by decide +kernel
theorem md_M_nextPart_4 : decode mc_M_nextPart 4 = .ok (.iload_n 3, 1) := by decide +kernel
theorem md_M_nextPart_5 : decode mc_M_nextPart 5 = .ok (.aload_n 0, 1) := by decide +kernel
theorem md_M_nextPart_6 : decode mc_M_nextPart 6 = .ok (.getfield 148, 3) := by decide +kernel
theorem md_M_nextPart_9 : decode mc_M_nextPart 9 = .ok (.if_icmp .ge 34, 3) := by decide +kernel
theorem md_M_nextPart_12 : decode mc_M_nextPart 12 = .ok (.aload_n 0, 1) := by decide +kernel
theorem md_M_nextPart_13 : decode mc_M_nextPart 13 = .ok (.getfield 26, 3) := by decide +kernel
theorem md_M_nextPart_16 : decode mc_M_nextPart 16 = .ok (.iload_n 3, 1) := by decide +kernel
theorem md_M_nextPart_17 : decode mc_M_nextPart 17 = .ok (.iaload, 1) := by decide +kernel
theorem md_M_nextPart_18 : decode mc_M_nextPart 18 = .ok (.iload_n 1, 1) := by decide +kernel
theorem md_M_nextPart_19 : decode mc_M_nextPart 19 = .ok (.if_icmp .ne 18, 3) := by decide +kernel
theorem md_M_nextPart_22 : decode mc_M_nextPart 22 = .ok (.iload_n 2, 1) := by decide +kernel
theorem md_M_nextPart_23 : decode mc_M_nextPart 23 = .ok (.aload_n 0, 1) := by decide +kernel
theorem md_M_nextPart_24 : decode mc_M_nextPart 24 = .ok (.getfield 45, 3) := by decide +kernel
theorem md_M_nextPart_27 : decode mc_M_nextPart 27 = .ok (.iload_n 1, 1) := by decide +kernel
theorem md_M_nextPart_28 : decode mc_M_nextPart 28 = .ok (.iaload, 1) := by decide +kernel
theorem md_M_nextPart_29 : decode mc_M_nextPart 29 = .ok (.if_icmp .ne 5, 3) := by decide +kernel
theorem md_M_nextPart_32 : decode mc_M_nextPart 32 = .ok (.iload_n 3, 1) := by decide +kernel
theorem md_M_nextPart_33 : decode mc_M_nextPart 33 = .ok (.ireturn, 1) := by decide +kernel
theorem md_M_nextPart_34 : decode mc_M_nextPart 34 = .ok (.iinc 2 1, 3) := by decide +kernel
theorem md_M_nextPart_37 : decode mc_M_nextPart 37 = .ok (.iinc 3 1, 3) := by decide +kernel
theorem md_M_nextPart_40 : decode mc_M_nextPart 40 = .ok (.goto (-36), 3) := by decide +kernel
theorem md_M_nextPart_43 : decode mc_M_nextPart 43 = .ok (.iconst (-1), 1) := by decide +kernel
theorem md_M_nextPart_44 : decode mc_M_nextPart 44 = .ok (.ireturn, 1) := by decide +kernel
theorem md_M_act_0 : decode mc_M_act 0 = .ok (.lload_n 3, 1) := by decide +kernel
theorem md_M_act_1 : decode mc_M_act 1 = .ok (.l2i, 1) := by decide +kernel
theorem md_M_act_2 : decode mc_M_act 2 = .ok (.istore 5, 2) := by decide +kernel
theorem md_M_act_4 : decode mc_M_act 4 = .ok (.iconst 0, 1) := by decide +kernel
theorem md_M_act_5 : decode mc_M_act 5 = .ok (.istore 6, 2) := by decide +kernel
theorem md_M_act_7 : decode mc_M_act 7 = .ok (.iload_n 2, 1) := by decide +kernel
theorem md_M_act_8 : decode mc_M_act 8 = .ok (.iconst 2, 1) := by decide +kernel
theorem md_M_act_9 : decode mc_M_act 9 = .ok (.if_icmp .ne 11, 3) := by decide +kernel
theorem md_M_act_12 : decode mc_M_act 12 = .ok (.aload_n 0, 1) := by decide +kernel
theorem md_M_act_13 : decode mc_M_act 13 = .ok (.iload_n 1, 1) := by decide +kernel
theorem md_M_act_14 : decode mc_M_act 14 = .ok (.iload 5, 2) := by decide +kernel
theorem md_M_act_16 : decode mc_M_act 16 = .ok (.invokevirtual 188, 3) := by decide +kernel
theorem md_M_act_19 : decode mc_M_act 19 = .ok (.return_, 1) := by decide +kernel
theorem md_M_act_20 : decode mc_M_act 20 = .ok (.iload_n 2, 1) := by decide +kernel
theorem md_M_act_21 : decode mc_M_act 21 = .ok (.bipush 11, 2) := by decide +kernel
theorem md_M_act_23 : decode mc_M_act 23 = .ok (.if_icmp .ne 9, 3) := by decide +kernel
theorem md_M_act_26 : decode mc_M_act 26 = .ok (.aload_n 0, 1) := by decide +kernel
theorem md_M_act_27 : decode mc_M_act 27 = .ok (.iload_n 1, 1) := by decide +kernel
theorem md_M_act_28 : decode mc_M_act 28 = .ok (.invokevirtual 191, 3) := by decide +kernel
theorem md_M_act_31 : decode mc_M_act 31 = .ok (.return_, 1) := by decide +kernel
theorem md_M_act_32 : decode mc_M_act 32 = .ok (.iload_n 2, 1) := by decide +kernel
theorem md_M_act_33 : decode mc_M_act 33 = .ok (.bipush 8, 2) := by decide +kernel
theorem md_M_act_35 : decode mc_M_act 35 = .ok (.if_icmp .ne 53, 3) := by decide +kernel
theorem md_M_act_38 : decode mc_M_act 38 = .ok (.aload_n 0, 1) := by decide +kernel
theorem md_M_act_39 : decode mc_M_act 39 = .ok (.getfield 75, 3) := by decide +kernel
theorem md_M_act_42 : decode mc_M_act 42 = .ok (.iload 5, 2) := by decide +kernel
theorem md_M_act_44 : decode mc_M_act 44 = .ok (.iaload, 1) := by decide +kernel
theorem md_M_act_45 : decode mc_M_act 45 = .ok (.ifCond .eq 43, 3) := by decide +kernel
theorem md_M_act_48 : decode mc_M_act 48 = .ok (.aload_n 0, 1) := by decide +kernel
theorem md_M_act_49 : decode mc_M_act 49 = .ok (.getfield 75, 3) := by decide +kernel
theorem md_M_act_52 : decode mc_M_act 52 = .ok (.iload 5, 2) := by decide +kernel
theorem md_M_act_54 : decode mc_M_act 54 = .ok (.iaload, 1) := by decide +kernel
theorem md_M_act_55 : decode mc_M_act 55 = .ok (.iload_n 1, 1) := by decide +kernel
theorem md_M_act_56 : decode mc_M_act 56 = .ok (.if_icmp .eq 32, 3) := by decide +kernel
theorem md_M_act_59 : decode mc_M_act 59 = .ok (.aload_n 0, 1) := by decide +kernel
theorem md_M_act_60 : decode mc_M_act 60 = .ok (.dup, 1) := by decide +kernel
theorem md_M_act_61 : decode mc_M_act 61 = .ok (.getfield 194, 3) := by decide +kernel
theorem md_M_act_64 : decode mc_M_act 64 = .ok (.lconst 1, 1) := by decide +kernel
theorem md_M_act_65 : decode mc_M_act 65 = .ok (.ladd, 1) := by decide +kernel
theorem md_M_act_66 : decode mc_M_act 66 = .ok (.putfield 194, 3) := by decide +kernel
theorem md_M_act_69 : decode mc_M_act 69 = .ok (.aload_n 0, 1) := by decide +kernel
theorem md_M_act_70 : decode mc_M_act 70 = .ok (.getfield 78, 3) := by decide +kernel
theorem md_M_act_73 : decode mc_M_act 73 = .ok (.iload_n 1, 1) := by decide +kernel
theorem md_M_act_74 : decode mc_M_act 74 = .ok (.iload 5, 2) := by decide +kernel
theorem md_M_act_76 : decode mc_M_act 76 = .ok (.iastore, 1) := by decide +kernel
theorem md_M_act_77 : decode mc_M_act 77 = .ok (.aload_n 0, 1) := by decide +kernel
theorem md_M_act_78 : decode mc_M_act 78 = .ok (.getfield 81, 3) := by decide +kernel
theorem md_M_act_81 : decode mc_M_act 81 = .ok (.iload_n 1, 1) := by decide +kernel
theorem md_M_act_82 : decode mc_M_act 82 = .ok (.aload_n 0, 1) := by decide +kernel
theorem md_M_act_83 : decode mc_M_act 83 = .ok (.getfield 194, 3) := by decide +kernel
theorem md_M_act_86 : decode mc_M_act 86 = .ok (.lastore, 1) := by decide +kernel
theorem md_M_act_87 : decode mc_M_act 87 = .ok (.return_, 1) := by decide +kernel
theorem md_M_act_88 : decode mc_M_act 88 = .ok (.aload_n 0, 1) := by decide +kernel
theorem md_M_act_89 : decode mc_M_act 89 = .ok (.getfield 45, 3) := by decide +kernel
theorem md_M_act_92 : decode mc_M_act 92 = .ok (.iload_n 1, 1) := by decide +kernel
theorem md_M_act_93 : decode mc_M_act 93 = .ok (.dup2, 1) := by decide +kernel
theorem md_M_act_94 : decode mc_M_act 94 = .ok (.iaload, 1) := by decide +kernel
theorem md_M_act_95 : decode mc_M_act 95 = .ok (.iconst 1, 1) := by decide +kernel
theorem md_M_act_96 : decode mc_M_act 96 = .ok (.iadd, 1) := by decide +kernel
theorem md_M_act_97 : decode mc_M_act 97 = .ok (.iastore, 1) := by decide +kernel
theorem md_M_act_98 : decode mc_M_act 98 = .ok (.iload_n 2, 1) := by decide +kernel
theorem md_M_act_99 : decode mc_M_act 99 = .ok (.iconst 1, 1) := by decide +kernel
theorem md_M_act_100 : decode mc_M_act 100 = .ok (.if_icmp .ne 28, 3) := by decide +kernel
theorem md_M_act_103 : decode mc_M_act 103 = .ok (.aload_n 0, 1) := by decide +kernel
theorem md_M_act_104 : decode mc_M_act 104 = .ok (.iload 5, 2) := by decide +kernel
theorem md_M_act_106 : decode mc_M_act 106 = .ok (.invokevirtual 140, 3) := by decide +kernel
theorem md_M_act_109 : decode mc_M_act 109 = .ok (.ifCond .eq 10, 3) := by decide +kernel
theorem md_M_act_112 : decode mc_M_act 112 = .ok (.bipush 8, 2) := by decide +kernel
theorem md_M_act_114 : decode mc_M_act 114 = .ok (.istore 6, 2) := by decide +kernel
theorem md_M_act_116 : decode mc_M_act 116 = .ok (.goto 538, 3) := by decide +kernel
theorem md_M_act_119 : decode mc_M_act 119 = .ok (.aload_n 0, 1) := by decide +kernel
theorem md_M_act_120 : decode mc_M_act 120 = .ok (.iload 5, 2) := by decide +kernel
theorem md_M_act_122 : decode mc_M_act 122 = .ok (.invokevirtual 185, 3) := by decide +kernel
theorem md_M_act_125 : decode mc_M_act 125 = .ok (.goto 529, 3) := by decide +kernel
theorem md_M_act_128 : decode mc_M_act 128 = .ok (.iload_n 2, 1) := by decide +kernel
theorem md_M_act_129 : decode mc_M_act 129 = .ok (.iconst 3, 1) := by decide +kernel
theorem md_M_act_130 : decode mc_M_act 130 = .ok (.if_icmp .ne 66, 3) := by decide +kernel
theorem md_M_act_133 : decode mc_M_act 133 = .ok (.aload_n 0, 1) := by decide +kernel
theorem md_M_act_134 : decode mc_M_act 134 = .ok (.getfield 19, 3) := by decide +kernel
theorem md_M_act_137 : decode mc_M_act 137 = .ok (.iload_n 1, 1) := by decide +kernel
theorem md_M_act_138 : decode mc_M_act 138 = .ok (.baload, 1) := by decide +kernel
theorem md_M_act_139 : decode mc_M_act 139 = .ok (.ifCond .ne 7, 3) := by decide +kernel
theorem md_M_act_142 : decode mc_M_act 142 = .ok (.iconst 2, 1) := by decide +kernel
theorem md_M_act_143 : decode mc_M_act 143 = .ok (.goto 16, 3) := by decide +kernel
theorem md_M_act_146 : decode mc_M_act 146 = .ok (.aload_n 0, 1) := by decide +kernel
theorem md_M_act_147 : decode mc_M_act 147 = .ok (.iload_n 1, 1) := by decide +kernel
theorem md_M_act_148 : decode mc_M_act 148 = .ok (.invokevirtual 173, 3) := by decide +kernel
theorem md_M_act_151 : decode mc_M_act 151 = .ok (.ifCond .eq 7, 3) := by decide +kernel
theorem md_M_act_154 : decode mc_M_act 154 = .ok (.iconst 4, 1) := by decide +kernel
theorem md_M_act_155 : decode mc_M_act 155 = .ok (.goto 4, 3) := by decide +kernel
theorem md_M_act_158 : decode mc_M_act 158 = .ok (.iconst 0, 1) := by decide +kernel
theorem md_M_act_159 : decode mc_M_act 159 = .ok (.istore 6, 2) := by decide +kernel
theorem md_M_act_161 : decode mc_M_act 161 = .ok (.iload 6, 2) := by decide +kernel
theorem md_M_act_163 : decode mc_M_act 163 = .ok (.ifCond .ne 491, 3) := by decide +kernel
theorem md_M_act_166 : decode mc_M_act 166 = .ok (.aload_n 0, 1) := by decide +kernel
theorem md_M_act_167 : decode mc_M_act 167 = .ok (.getfield 54, 3) := by decide +kernel
theorem md_M_act_170 : decode mc_M_act 170 = .ok (.iload_n 1, 1) := by decide +kernel
theorem md_M_act_171 : decode mc_M_act 171 = .ok (.iaload, 1) := by decide +kernel
theorem md_M_act_172 : decode mc_M_act 172 = .ok (.iload 5, 2) := by decide +kernel
theorem md_M_act_174 : decode mc_M_act 174 = .ok (.iand, 1) := by decide +kernel
theorem md_M_act_175 : decode mc_M_act 175 = .ok (.ifCond .ne 479, 3) := by decide +kernel
theorem md_M_act_178 : decode mc_M_act 178 = .ok (.aload_n 0, 1) := by decide +kernel
theorem md_M_act_179 : decode mc_M_act 179 = .ok (.getfield 36, 3) := by decide +kernel
theorem md_M_act_182 : decode mc_M_act 182 = .ok (.iload_n 1, 1) := by decide +kernel
