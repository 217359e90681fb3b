theorem md_I_init_5 : decode mc_I_init 5 = .ok (.iload_n 1, 1) := by decide +kernel
theorem md_I_init_6 : decode mc_I_init 6 = .ok (.putfield 7, 3) := by decide +kernel
theorem md_I_init_9 : decode mc_I_init 9 = .ok (.aload_n 0, 1) := by decide +kernel
theorem md_I_init_10 : decode mc_I_init 10 = .ok (.iload_n 2, 1) := by decide +kernel
theorem md_I_init_11 : decode mc_I_init 11 = .ok (.putfield 13, 3) := by decide +kernel
theorem md_I_init_14 : decode mc_I_init 14 = .ok (.aload_n 0, 1) := by decide +kernel
theorem md_I_init_15 : decode mc_I_init 15 = .ok (.iload_n 3, 1) := by decide +kernel
theorem md_I_init_16 : decode mc_I_init 16 = .ok (.putfield 16, 3) := by decide +kernel
theorem md_I_init_19 : decode mc_I_init 19 = .ok (.return_, 1) := by decide +kernel
theorem md_U_init_0 : decode mc_U_init 0 = .ok (.aload_n 0, 1) := by decide +kernel
theorem md_U_init_1 : decode mc_U_init 1 = .ok (.invokespecial 3, 3) := by decide +kernel
theorem md_U_init_4 : decode mc_U_init 4 = .ok (.return_, 1) := by decide +kernel
theorem md_U_add_0 : decode mc_U_add 0 = .ok (.aload_n 0, 1) := by decide +kernel
theorem md_U_add_1 : decode mc_U_add 1 = .ok (.dup, 1) := by decide +kernel
theorem md_U_add_2 : decode mc_U_add 2 = .ok (.getfield 9, 3) := by decide +kernel
theorem md_U_add_5 : decode mc_U_add 5 = .ok (.iconst 1, 1) := by decide +kernel
theorem md_U_add_6 : decode mc_U_add 6 = .ok (.iadd, 1) := by decide +kernel
theorem md_U_add_7 : decode mc_U_add 7 = .ok (.putfield 9, 3) := by decide +kernel
theorem md_U_add_10 : decode mc_U_add 10 = .ok (.aconst_null, 1) := by decide +kernel
theorem md_U_add_11 : decode mc_U_add 11 = .ok (.astore_n 2, 1) := by decide +kernel
theorem md_U_add_12 : decode mc_U_add 12 = .ok (.aload_n 0, 1) := by decide +kernel
theorem md_U_add_13 : decode mc_U_add 13 = .ok (.getfield 15, 3) := by decide +kernel
theorem md_U_add_16 : decode mc_U_add 16 = .ok (.astore_n 3, 1) := by decide +kernel
theorem md_U_add_17 : decode mc_U_add 17 = .ok (.aload_n 3, 1) := by decide +kernel
theorem md_U_add_18 : decode mc_U_add 18 = .ok (.ifnull 24, 3) := by decide +kernel
theorem md_U_add_21 : decode mc_U_add 21 = .ok (.aload_n 3, 1) := by decide +kernel
theorem md_U_add_22 : decode mc_U_add 22 = .ok (.getfield 19, 3) := by decide +kernel
theorem md_U_add_25 : decode mc_U_add 25 = .ok (.aload_n 1, 1) := by decide +kernel
theorem md_U_add_26 : decode mc_U_add 26 = .ok (.getfield 19, 3) := by decide +kernel
theorem md_U_add_29 : decode mc_U_add 29 = .ok (.if_icmp .lt 13, 3) := by decide +kernel
theorem md_U_add_32 : decode mc_U_add 32 = .ok (.aload_n 3, 1) := by decide +kernel
theorem md_U_add_33 : decode mc_U_add 33 = .ok (.astore_n 2, 1) := by decide +kernel
theorem md_U_add_34 : decode mc_U_add 34 = .ok (.aload_n 3, 1) := by decide +kernel
theorem md_U_add_35 : decode mc_U_add 35 = .ok (.getfield 24, 3) := by decide +kernel
theorem md_U_add_38 : decode mc_U_add 38 = .ok (.astore_n 3, 1) := by decide +kernel
theorem md_U_add_39 : decode mc_U_add 39 = .ok (.goto (-22), 3) := by decide +kernel
theorem md_U_add_42 : decode mc_U_add 42 = .ok (.aload_n 2, 1) := by decide +kernel
theorem md_U_add_43 : decode mc_U_add 43 = .ok (.ifnonnull 19, 3) := by decide +kernel
theorem md_U_add_46 : decode mc_U_add 46 = .ok (.aload_n 1, 1) := by decide +kernel
theorem md_U_add_47 : decode mc_U_add 47 = .ok (.aload_n 0, 1) := by decide +kernel
theorem md_U_add_48 : decode mc_U_add 48 = .ok (.getfield 15, 3) := by decide +kernel
theorem md_U_add_51 : decode mc_U_add 51 = .ok (.putfield 24, 3) := by decide +kernel
theorem md_U_add_54 : decode mc_U_add 54 = .ok (.aload_n 0, 1) := by decide +kernel
theorem md_U_add_55 : decode mc_U_add 55 = .ok (.aload_n 1, 1) := by decide +kernel
theorem md_U_add_56 : decode mc_U_add 56 = .ok (.putfield 15, 3) := by decide +kernel
theorem md_U_add_59 : decode mc_U_add 59 = .ok (.goto 16, 3) := by decide +kernel
theorem md_U_add_62 : decode mc_U_add 62 = .ok (.aload_n 1, 1) := by decide +kernel
theorem md_U_add_63 : decode mc_U_add 63 = .ok (.aload_n 2, 1) := by decide +kernel
theorem md_U_add_64 : decode mc_U_add 64 = .ok (.getfield 24, 3) := by decide +kernel
theorem md_U_add_67 : decode mc_U_add 67 = .ok (.putfield 24, 3) := by decide +kernel
theorem md_U_add_70 : decode mc_U_add 70 = .ok (.aload_n 2, 1) := by decide +kernel
theorem md_U_add_71 : decode mc_U_add 71 = .ok (.aload_n 1, 1) := by decide +kernel
theorem md_U_add_72 : decode mc_U_add 72 = .ok (.putfield 24, 3) := by decide +kernel
theorem md_U_add_75 : decode mc_U_add 75 = .ok (.return_, 1) := by decide +kernel
theorem md_U_atHand_0 : decode mc_U_atHand 0 = .ok (.aload_n 0, 1) := by decide +kernel
theorem md_U_atHand_1 : decode mc_U_atHand 1 = .ok (.getfield 15, 3) := by decide +kernel
theorem md_U_atHand_4 : decode mc_U_atHand 4 = .ok (.astore_n 2, 1) := by decide +kernel
theorem md_U_atHand_5 : decode mc_U_atHand 5 = .ok (.aload_n 2, 1) := by decide +kernel
theorem md_U_atHand_6 : decode mc_U_atHand 6 = .ok (.ifnull 37, 3) := by decide +kernel
theorem md_U_atHand_9 : decode mc_U_atHand 9 = .ok (.aload_n 2, 1) := by decide +kernel
theorem md_U_atHand_10 : decode mc_U_atHand 10 = .ok (.getfield 27, 3) := by decide +kernel
theorem md_U_atHand_13 : decode mc_U_atHand 13 = .ok (.iload_n 1, 1) := by decide +kernel
theorem md_U_atHand_14 : decode mc_U_atHand 14 = .ok (.if_icmp .gt 21, 3) := by decide +kernel
theorem md_U_atHand_17 : decode mc_U_atHand 17 = .ok (.aload_n 0, 1) := by decide +kernel
theorem md_U_atHand_18 : decode mc_U_atHand 18 = .ok (.getfield 30, 3) := by decide +kernel
theorem md_U_atHand_21 : decode mc_U_atHand 21 = .ok (.ifnull 12, 3) := by decide +kernel
theorem md_U_atHand_24 : decode mc_U_atHand 24 = .ok (.aload_n 2, 1) := by decide +kernel
theorem md_U_atHand_25 : decode mc_U_atHand 25 = .ok (.getfield 19, 3) := by decide +kernel
theorem md_U_atHand_28 : decode mc_U_atHand 28 = .ok (.bipush 7, 2) := by decide +kernel
theorem md_U_atHand_30 : decode mc_U_atHand 30 = .ok (.if_icmp .le 5, 3) := by decide +kernel
theorem md_U_atHand_33 : decode mc_U_atHand 33 = .ok (.aload_n 2, 1) := by decide +kernel
theorem md_U_atHand_34 : decode mc_U_atHand 34 = .ok (.areturn, 1) := by decide +kernel
theorem md_U_atHand_35 : decode mc_U_atHand 35 = .ok (.aload_n 2, 1) := by decide +kernel
theorem md_U_atHand_36 : decode mc_U_atHand 36 = .ok (.getfield 24, 3) := by decide +kernel
theorem md_U_atHand_39 : decode mc_U_atHand 39 = .ok (.astore_n 2, 1) := by decide +kernel
theorem md_U_atHand_40 : decode mc_U_atHand 40 = .ok (.goto (-35), 3) := by decide +kernel
theorem md_U_atHand_43 : decode mc_U_atHand 43 = .ok (.aconst_null, 1) := by decide +kernel
theorem md_U_atHand_44 : decode mc_U_atHand 44 = .ok (.areturn, 1) := by decide +kernel
theorem md_U_nextChange_0 : decode mc_U_nextChange 0 = .ok (.aload_n 0, 1) := by decide +kernel
theorem md_U_nextChange_1 : decode mc_U_nextChange 1 = .ok (.getfield 30, 3) := by decide +kernel
theorem md_U_nextChange_4 : decode mc_U_nextChange 4 = .ok (.ifnull 18, 3) := by decide +kernel
theorem md_U_nextChange_7 : decode mc_U_nextChange 7 = .ok (.aload_n 0, 1) := by decide +kernel
theorem md_U_nextChange_8 : decode mc_U_nextChange 8 = .ok (.getfield 34, 3) := by decide +kernel
theorem md_U_nextChange_11 : decode mc_U_nextChange 11 = .ok (.iload_n 1, 1) := by decide +kernel
theorem md_U_nextChange_12 : decode mc_U_nextChange 12 = .ok (.if_icmp .le 10, 3) := by decide +kernel
theorem md_U_nextChange_15 : decode mc_U_nextChange 15 = .ok (.aload_n 0, 1) := by decide +kernel
theorem md_U_nextChange_16 : decode mc_U_nextChange 16 = .ok (.getfield 34, 3) := by decide +kernel
theorem md_U_nextChange_19 : decode mc_U_nextChange 19 = .ok (.goto 5, 3) := by decide +kernel
theorem md_U_nextChange_22 : decode mc_U_nextChange 22 = .ok (.ldc 37, 2) := by decide +kernel
theorem md_U_nextChange_24 : decode mc_U_nextChange 24 = .ok (.istore_n 2, 1) := by decide +kernel
theorem md_U_nextChange_25 : decode mc_U_nextChange 25 = .ok (.aload_n 0, 1) := by decide +kernel
theorem md_U_nextChange_26 : decode mc_U_nextChange 26 = .ok (.getfield 15, 3) := by decide +kernel
theorem md_U_nextChange_29 : decode mc_U_nextChange 29 = .ok (.astore_n 3, 1) := by decide +kernel
theorem md_U_nextChange_30 : decode mc_U_nextChange 30 = .ok (.aload_n 3, 1) := by decide +kernel
theorem md_U_nextChange_31 : decode mc_U_nextChange 31 = .ok (.ifnull 28, 3) := by decide +kernel
theorem md_U_nextChange_34 : decode mc_U_nextChange 34 = .ok (.aload_n 3, 1) := by decide +kernel
theorem md_U_nextChange_35 : decode mc_U_nextChange 35 = .ok (.getfield 27, 3) := by decide +kernel
theorem md_U_nextChange_38 : decode mc_U_nextChange 38 = .ok (.iload_n 1, 1) := by decide +kernel
theorem md_U_nextChange_39 : decode mc_U_nextChange 39 = .ok (.if_icmp .le 12, 3) := by decide +kernel
theorem md_U_nextChange_42 : decode mc_U_nextChange 42 = .ok (.iload_n 2, 1) := by decide +kernel
theorem md_U_nextChange_43 : decode mc_U_nextChange 43 = .ok (.aload_n 3, 1) := by decide +kernel
theorem md_U_nextChange_44 : decode mc_U_nextChange 44 = .ok (.getfield 27, 3) := by decide +kernel
theorem md_U_nextChange_47 : decode mc_U_nextChange 47 = .ok (.invokestatic 38, 3) := by decide +kernel
theorem md_U_nextChange_50 : decode mc_U_nextChange 50 = .ok (.istore_n 2, 1) := by decide +kernel
theorem md_U_nextChange_51 : decode mc_U_nextChange 51 = .ok (.aload_n 3, 1) := by decide +kernel
theorem md_U_nextChange_52 : decode mc_U_nextChange 52 = .ok (.getfield 24, 3) := by decide +kernel
theorem md_U_nextChange_55 : decode mc_U_nextChange 55 = .ok (.astore_n 3, 1) := by decide +kernel
theorem md_U_nextChange_56 : decode mc_U_nextChange 56 = .ok (.goto (-26), 3) := by decide +kernel
theorem md_U_nextChange_59 : decode mc_U_nextChange 59 = .ok (.iload_n 2, 1) := by decide +kernel
theorem md_U_nextChange_60 : decode mc_U_nextChange 60 = .ok (.ireturn, 1) := by decide +kernel
theorem md_U_serve_0 : decode mc_U_serve 0 = .ok (.aload_n 1, 1) := by decide +kernel
theorem md_U_serve_1 : decode mc_U_serve 1 = .ok (.dup, 1) := by decide +kernel
theorem md_U_serve_2 : decode mc_U_serve 2 = .ok (.getfield 44, 3) := by decide +kernel
theorem md_U_serve_5 : decode mc_U_serve 5 = .ok (.iload_n 2, 1) := by decide +kernel
theorem md_U_serve_6 : decode mc_U_serve 6 = .ok (.isub, 1) := by decide +kernel
theorem md_U_serve_7 : decode mc_U_serve 7 = .ok (.putfield 44, 3) := by decide +kernel
theorem md_U_serve_10 : decode mc_U_serve 10 = .ok (.aload_n 1, 1) := by decide +kernel
theorem md_U_serve_11 : decode mc_U_serve 11 = .ok (.getfield 44, 3) := by decide +kernel
theorem md_U_serve_14 : decode mc_U_serve 14 = .ok (.ifCond .le 4, 3) := by decide +kernel
theorem md_U_serve_17 : decode mc_U_serve 17 = .ok (.return_, 1) := by decide +kernel
theorem md_U_serve_18 : decode mc_U_serve 18 = .ok (.aload_n 0, 1) := by decide +kernel
theorem md_U_serve_19 : decode mc_U_serve 19 = .ok (.getfield 15, 3) := by decide +kernel
theorem md_U_serve_22 : decode mc_U_serve 22 = .ok (.aload_n 1, 1) := by decide +kernel
theorem md_U_serve_23 : decode mc_U_serve 23 = .ok (.if_acmp .ne 12, 3) := by decide +kernel
theorem md_U_serve_26 : decode mc_U_serve 26 = .ok (.aload_n 0, 1) := by decide +kernel
theorem md_U_serve_27 : decode mc_U_serve 27 = .ok (.aload_n 1, 1) := by decide +kernel
theorem md_U_serve_28 : decode mc_U_serve 28 = .ok (.getfield 24, 3) := by decide +kernel
theorem md_U_serve_31 : decode mc_U_serve 31 = .ok (.putfield 15, 3) := by decide +kernel
theorem md_U_serve_34 : decode mc_U_serve 34 = .ok (.return_, 1) := by decide +kernel
theorem md_U_serve_35 : decode mc_U_serve 35 = .ok (.aload_n 0, 1) := by decide +kernel
theorem md_U_serve_36 : decode mc_U_serve 36 = .ok (.getfield 15, 3) := by decide +kernel
theorem md_U_serve_39 : decode mc_U_serve 39 = .ok (.astore_n 3, 1) := by decide +kernel
theorem md_U_serve_40 : decode mc_U_serve 40 = .ok (.aload_n 3, 1) := by decide +kernel
theorem md_U_serve_41 : decode mc_U_serve 41 = .ok (.ifnull 28, 3) := by decide +kernel
theorem md_U_serve_44 : decode mc_U_serve 44 = .ok (.aload_n 3, 1) := by decide +kernel
theorem md_U_serve_45 : decode mc_U_serve 45 = .ok (.getfield 24, 3) := by decide +kernel
theorem md_U_serve_48 : decode mc_U_serve 48 = .ok (.aload_n 1, 1) := by decide +kernel
theorem md_U_serve_49 : decode mc_U_serve 49 = .ok (.if_acmp .ne 12, 3) := by decide +kernel
theorem md_U_serve_52 : decode mc_U_serve 52 = .ok (.aload_n 3, 1) := by decide +kernel
theorem md_U_serve_53 : decode mc_U_serve 53 = .ok (.aload_n 1, 1) := by decide +kernel
theorem md_U_serve_54 : decode mc_U_serve 54 = .ok (.getfield 24, 3) := by decide +kernel
theorem md_U_serve_57 : decode mc_U_serve 57 = .ok (.putfield 24, 3) := by decide +kernel
theorem md_U_serve_60 : decode mc_U_serve 60 = .ok (.return_, 1) := by decide +kernel
theorem md_U_serve_61 : decode mc_U_serve 61 = .ok (.aload_n 3, 1) := by decide +kernel
theorem md_U_serve_62 : decode mc_U_serve 62 = .ok (.getfield 24, 3) := by decide +kernel
theorem md_U_serve_65 : decode mc_U_serve 65 = .ok (.astore_n 3, 1) := by decide +kernel
theorem md_U_serve_66 : decode mc_U_serve 66 = .ok (.goto (-26), 3) := by decide +kernel
theorem md_U_serve_69 : decode mc_U_serve 69 = .ok (.return_, 1) := by decide +kernel
theorem md_L_init_0 : decode mc_L_init 0 = .ok (.aload_n 0, 1) := by decide +kernel
theorem md_L_init_1 : decode mc_L_init 1 = .ok (.invokespecial 1, 3) := by decide +kernel
theorem md_L_init_4 : decode mc_L_init 4 = .ok (.return_, 1) := by decide +kernel
theorem md_L_addToQueue_0 : decode mc_L_addToQueue 0 = .ok (.aconst_null, 1) := by decide +kernel
theorem md_L_addToQueue_1 : decode mc_L_addToQueue 1 = .ok (.astore_n 2, 1) := by decide +kernel
theorem md_L_addToQueue_2 : decode mc_L_addToQueue 2 = .ok (.aload_n 0, 1) := by decide +kernel
theorem md_L_addToQueue_3 : decode mc_L_addToQueue 3 = .ok (.getfield 7, 3) := by decide +kernel
theorem md_L_addToQueue_6 : decode mc_L_addToQueue 6 = .ok (.astore_n 3, 1) := by decide +kernel
theorem md_L_addToQueue_7 : decode mc_L_addToQueue 7 = .ok (.aload_n 3, 1) := by decide +kernel
theorem md_L_addToQueue_8 : decode mc_L_addToQueue 8 = .ok (.ifnull 19, 3) := by decide +kernel
theorem md_L_addToQueue_11 : decode mc_L_addToQueue 11 = .ok (.aload_n 3, 1) := by decide +kernel
theorem md_L_addToQueue_12 : decode mc_L_addToQueue 12 = .ok (.aload_n 1, 1) := by decide +kernel
theorem md_L_addToQueue_13 : decode mc_L_addToQueue 13 = .ok (.if_acmp .ne 4, 3) := by decide +kernel
theorem md_L_addToQueue_16 : decode mc_L_addToQueue 16 = .ok (.return_, 1) := by decide +kernel
theorem md_L_addToQueue_17 : decode mc_L_addToQueue 17 = .ok (.aload_n 3, 1) := by decide +kernel
theorem md_L_addToQueue_18 : decode mc_L_addToQueue 18 = .ok (.astore_n 2, 1) := by decide +kernel
theorem md_L_addToQueue_19 : decode mc_L_addToQueue 19 = .ok (.aload_n 3, 1) := by decide +kernel
theorem md_L_addToQueue_20 : decode mc_L_addToQueue 20 = .ok (.getfield 13, 3) := by decide +kernel
theorem md_L_addToQueue_23 : decode mc_L_addToQueue 23 = .ok (.astore_n 3, 1) := by decide +kernel
theorem md_L_addToQueue_24 : decode mc_L_addToQueue 24 = .ok (.goto (-17), 3) := by decide +kernel
theorem md_L_addToQueue_27 : decode mc_L_addToQueue 27 = .ok (.aload_n 2, 1) := by decide +kernel
theorem md_L_addToQueue_28 : decode mc_L_addToQueue 28 = .ok (.ifnonnull 11, 3) := by decide +kernel
theorem md_L_addToQueue_31 : decode mc_L_addToQueue 31 = .ok (.aload_n 0, 1) := by decide +kernel
theorem md_L_addToQueue_32 : decode mc_L_addToQueue 32 = .ok (.aload_n 1, 1) := by decide +kernel
theorem md_L_addToQueue_33 : decode mc_L_addToQueue 33 = .ok (.putfield 7, 3) := by decide +kernel
theorem md_L_addToQueue_36 : decode mc_L_addToQueue 36 = .ok (.goto 8, 3) := by decide +kernel
theorem md_L_addToQueue_39 : decode mc_L_addToQueue 39 = .ok (.aload_n 2, 1) := by decide +kernel
theorem md_L_addToQueue_40 : decode mc_L_addToQueue 40 = .ok (.aload_n 1, 1) := by decide +kernel
theorem md_L_addToQueue_41 : decode mc_L_addToQueue 41 = .ok (.putfield 13, 3) := by decide +kernel
theorem md_L_addToQueue_44 : decode mc_L_addToQueue 44 = .ok (.return_, 1) := by decide +kernel
theorem md_L_firstInQueueOf_0 : decode mc_L_firstInQueueOf 0 = .ok (.aload_n 0, 1) := by decide +kernel
theorem md_L_firstInQueueOf_1 : decode mc_L_firstInQueueOf 1 = .ok (.getfield 7, 3) := by decide +kernel
theorem md_L_firstInQueueOf_4 : decode mc_L_firstInQueueOf 4 = .ok (.astore_n 2, 1) := by decide +kernel
theorem md_L_firstInQueueOf_5 : decode mc_L_firstInQueueOf 5 = .ok (.aload_n 2, 1) := by decide +kernel
theorem md_L_firstInQueueOf_6 : decode mc_L_firstInQueueOf 6 = .ok (.ifnull 21, 3) := by decide +kernel
theorem md_L_firstInQueueOf_9 : decode mc_L_firstInQueueOf 9 = .ok (.aload_n 2, 1) := by decide +kernel
theorem md_L_firstInQueueOf_10 : decode mc_L_firstInQueueOf 10 = .ok (.getfield 18, 3) := by decide +kernel
theorem md_L_firstInQueueOf_13 : decode mc_L_firstInQueueOf 13 = .ok (.aload_n 1, 1) := by decide +kernel
theorem md_L_firstInQueueOf_14 : decode mc_L_firstInQueueOf 14 = .ok (.if_acmp .ne 5, 3) := by decide +kernel
theorem md_L_firstInQueueOf_17 : decode mc_L_firstInQueueOf 17 = .ok (.aload_n 2, 1) := by decide +kernel
theorem md_L_firstInQueueOf_18 : decode mc_L_firstInQueueOf 18 = .ok (.areturn, 1) := by decide +kernel
theorem md_L_firstInQueueOf_19 : decode mc_L_firstInQueueOf 19 = .ok (.aload_n 2, 1) := by decide +kernel
theorem md_L_firstInQueueOf_20 : decode mc_L_firstInQueueOf 20 = .ok (.getfield 13, 3) := by decide +kernel
theorem md_L_firstInQueueOf_23 : decode mc_L_firstInQueueOf 23 = .ok (.astore_n 2, 1) := by decide +kernel
theorem md_L_firstInQueueOf_24 : decode mc_L_firstInQueueOf 24 = .ok (.goto (-19), 3) := by decide +kernel
theorem md_L_firstInQueueOf_27 : decode mc_L_firstInQueueOf 27 = .ok (.aconst_null, 1) := by decide +kernel
theorem md_L_firstInQueueOf_28 : decode mc_L_firstInQueueOf 28 = .ok (.areturn, 1) := by decide +kernel
theorem md_L_handOn_0 : decode mc_L_handOn 0 = .ok (.aload_n 0, 1) := by decide +kernel
theorem md_L_handOn_1 : decode mc_L_handOn 1 = .ok (.getfield 7, 3) := by decide +kernel
theorem md_L_handOn_4 : decode mc_L_handOn 4 = .ok (.astore_n 1, 1) := by decide +kernel
theorem md_L_handOn_5 : decode mc_L_handOn 5 = .ok (.aload_n 0, 1) := by decide +kernel
theorem md_L_handOn_6 : decode mc_L_handOn 6 = .ok (.aload_n 1, 1) := by decide +kernel
theorem md_L_handOn_7 : decode mc_L_handOn 7 = .ok (.putfield 22, 3) := by decide +kernel
theorem md_L_handOn_10 : decode mc_L_handOn 10 = .ok (.aload_n 1, 1) := by decide +kernel
theorem md_L_handOn_11 : decode mc_L_handOn 11 = .ok (.ifnonnull 4, 3) := by decide +kernel
theorem md_L_handOn_14 : decode mc_L_handOn 14 = .ok (.return_, 1) := by decide +kernel
theorem md_L_handOn_15 : decode mc_L_handOn 15 = .ok (.aload_n 0, 1) := by decide +kernel
theorem md_L_handOn_16 : decode mc_L_handOn 16 = .ok (.aload_n 1, 1) := by decide +kernel
theorem md_L_handOn_17 : decode mc_L_handOn 17 = .ok (.getfield 13, 3) := by decide +kernel
theorem md_L_handOn_20 : decode mc_L_handOn 20 = .ok (.putfield 7, 3) := by decide +kernel
theorem md_L_handOn_23 : decode mc_L_handOn 23 = .ok (.aload_n 1, 1) := by decide +kernel
theorem md_L_handOn_24 : decode mc_L_handOn 24 = .ok (.aconst_null, 1) := by decide +kernel
theorem md_L_handOn_25 : decode mc_L_handOn 25 = .ok (.putfield 13, 3) := by decide +kernel
theorem md_L_handOn_28 : decode mc_L_handOn 28 = .ok (.aload_n 1, 1) := by decide +kernel
theorem md_L_handOn_29 : decode mc_L_handOn 29 = .ok (.dup, 1) := by decide +kernel
theorem md_L_handOn_30 : decode mc_L_handOn 30 = .ok (.getfield 25, 3) := by decide +kernel
theorem md_L_handOn_33 : decode mc_L_handOn 33 = .ok (.iconst 1, 1) := by decide +kernel
theorem md_L_handOn_34 : decode mc_L_handOn 34 = .ok (.iadd, 1) := by decide +kernel
theorem md_L_handOn_35 : decode mc_L_handOn 35 = .ok (.putfield 25, 3) := by decide +kernel
theorem md_L_handOn_38 : decode mc_L_handOn 38 = .ok (.aload_n 1, 1) := by decide +kernel
theorem md_L_handOn_39 : decode mc_L_handOn 39 = .ok (.getfield 29, 3) := by decide +kernel
theorem md_L_handOn_42 : decode mc_L_handOn 42 = .ok (.ifnull 14, 3) := by decide +kernel
theorem md_L_handOn_45 : decode mc_L_handOn 45 = .ok (.aload_n 1, 1) := by decide +kernel
theorem md_L_handOn_46 : decode mc_L_handOn 46 = .ok (.aload_n 1, 1) := by decide +kernel
theorem md_L_handOn_47 : decode mc_L_handOn 47 = .ok (.getfield 29, 3) := by decide +kernel
theorem md_L_handOn_50 : decode mc_L_handOn 50 = .ok (.getfield 33, 3) := by decide +kernel
theorem md_L_handOn_53 : decode mc_L_handOn 53 = .ok (.putfield 29, 3) := by decide +kernel
theorem md_L_handOn_56 : decode mc_L_handOn 56 = .ok (.return_, 1) := by decide +kernel
theorem md_G_init_0 : decode mc_G_init 0 = .ok (.aload_n 0, 1) := by decide +kernel
theorem md_G_init_1 : decode mc_G_init 1 = .ok (.invokespecial 3, 3) := by decide +kernel
theorem md_G_init_4 : decode mc_G_init 4 = .ok (.aload_n 0, 1) := by decide +kernel
theorem md_G_init_5 : decode mc_G_init 5 = .ok (.iconst 0, 1) := by decide +kernel
theorem md_G_init_6 : decode mc_G_init 6 = .ok (.iload_n 1, 1) := by decide +kernel
theorem md_G_init_7 : decode mc_G_init 7 = .ok (.invokestatic 9, 3) := by decide +kernel
theorem md_G_init_10 : decode mc_G_init 10 = .ok (.putfield 15, 3) := by decide +kernel
theorem md_G_init_13 : decode mc_G_init 13 = .ok (.aload_n 0, 1) := by decide +kernel
theorem md_G_init_14 : decode mc_G_init 14 = .ok (.aload_n 0, 1) := by decide +kernel
theorem md_G_init_15 : decode mc_G_init 15 = .ok (.getfield 15, 3) := by decide +kernel
theorem md_G_init_18 : decode mc_G_init 18 = .ok (.sipush 512, 3) := by decide +kernel
theorem md_G_init_21 : decode mc_G_init 21 = .ok (.idiv, 1) := by decide +kernel
theorem md_G_init_22 : decode mc_G_init 22 = .ok (.iconst 1, 1) := by decide +kernel
theorem md_G_init_23 : decode mc_G_init 23 = .ok (.iadd, 1) := by decide +kernel
theorem md_G_init_24 : decode mc_G_init 24 = .ok (.anewarray 21, 3) := by decide +kernel
theorem md_G_init_27 : decode mc_G_init 27 = .ok (.putfield 23, 3) := by decide +kernel
theorem md_G_init_30 : decode mc_G_init 30 = .ok (.return_, 1) := by decide +kernel
theorem md_G_add_0 : decode mc_G_add 0 = .ok (.aload_n 0, 1) := by decide +kernel
theorem md_G_add_1 : decode mc_G_add 1 = .ok (.getfield 27, 3) := by decide +kernel
theorem md_G_add_4 : decode mc_G_add 4 = .ok (.istore 4, 2) := by decide +kernel
theorem md_G_add_6 : decode mc_G_add 6 = .ok (.aload_n 0, 1) := by decide +kernel
theorem md_G_add_7 : decode mc_G_add 7 = .ok (.dup, 1) := by decide +kernel
theorem md_G_add_8 : decode mc_G_add 8 = .ok (.getfield 27, 3) := by decide +kernel
theorem md_G_add_11 : decode mc_G_add 11 = .ok (.iconst 1, 1) := by decide +kernel
theorem md_G_add_12 : decode mc_G_add 12 = .ok (.iadd, 1) := by decide +kernel
theorem md_G_add_13 : decode mc_G_add 13 = .ok (.putfield 27, 3) := by decide +kernel
theorem md_G_add_16 : decode mc_G_add 16 = .ok (.iload 4, 2) := by decide +kernel
theorem md_G_add_18 : decode mc_G_add 18 = .ok (.sipush 512, 3) := by decide +kernel
theorem md_G_add_21 : decode mc_G_add 21 = .ok (.idiv, 1) := by decide +kernel
theorem md_G_add_22 : decode mc_G_add 22 = .ok (.istore 5, 2) := by decide +kernel
theorem md_G_add_24 : decode mc_G_add 24 = .ok (.iload 4, 2) := by decide +kernel
theorem md_G_add_26 : decode mc_G_add 26 = .ok (.ifCond .lt 22, 3) := by decide +kernel
theorem md_G_add_29 : decode mc_G_add 29 = .ok (.iload 4, 2) := by decide +kernel
theorem md_G_add_31 : decode mc_G_add 31 = .ok (.aload_n 0, 1) := by decide +kernel
theorem md_G_add_32 : decode mc_G_add 32 = .ok (.getfield 15, 3) := by decide +kernel
theorem md_G_add_35 : decode mc_G_add 35 = .ok (.if_icmp .ge 13, 3) := by decide +kernel
theorem md_G_add_38 : decode mc_G_add 38 = .ok (.iload 5, 2) := by decide +kernel
theorem md_G_add_40 : decode mc_G_add 40 = .ok (.aload_n 0, 1) := by decide +kernel
theorem md_G_add_41 : decode mc_G_add 41 = .ok (.getfield 23, 3) := by decide +kernel
theorem md_G_add_44 : decode mc_G_add 44 = .ok (.arraylength, 1) := by decide +kernel
theorem md_G_add_45 : decode mc_G_add 45 = .ok (.if_icmp .lt 4, 3) := by decide +kernel
theorem md_G_add_48 : decode mc_G_add 48 = .ok (.return_, 1) := by decide +kernel
theorem md_G_add_49 : decode mc_G_add 49 = .ok (.aload_n 0, 1) := by decide +kernel
theorem md_G_add_50 : decode mc_G_add 50 = .ok (.getfield 23, 3) := by decide +kernel
theorem md_G_add_53 : decode mc_G_add 53 = .ok (.iload 5, 2) := by decide +kernel
theorem md_G_add_55 : decode mc_G_add 55 = .ok (.aaload, 1) := by decide +kernel
theorem md_G_add_56 : decode mc_G_add 56 = .ok (.ifnonnull 15, 3) := by decide +kernel
theorem md_G_add_59 : decode mc_G_add 59 = .ok (.aload_n 0, 1) := by decide +kernel
theorem md_G_add_60 : decode mc_G_add 60 = .ok (.getfield 23, 3) := by decide +kernel
theorem md_G_add_63 : decode mc_G_add 63 = .ok (.iload 5, 2) := by decide +kernel
theorem md_G_add_65 : decode mc_G_add 65 = .ok (.sipush 512, 3) := by decide +kernel
theorem md_G_add_68 : decode mc_G_add 68 = .ok (.newarray .long, 2) := by decide +kernel
theorem md_G_add_70 : decode mc_G_add 70 = .ok (.aastore, 1) := by decide +kernel
theorem md_G_add_71 : decode mc_G_add 71 = .ok (.aload_n 0, 1) := by decide +kernel
theorem md_G_add_72 : decode mc_G_add 72 = .ok (.getfield 23, 3) := by decide +kernel
theorem md_G_add_75 : decode mc_G_add 75 = .ok (.iload 5, 2) := by decide +kernel
theorem md_G_add_77 : decode mc_G_add 77 = .ok (.aaload, 1) := by decide +kernel
theorem md_G_add_78 : decode mc_G_add 78 = .ok (.iload 4, 2) := by decide +kernel
theorem md_G_add_80 : decode mc_G_add 80 = .ok (.sipush 512, 3) := by decide +kernel
theorem md_G_add_83 : decode mc_G_add 83 = .ok (.irem, 1) := by decide +kernel
theorem md_G_add_84 : decode mc_G_add 84 = .ok (.iload_n 1, 1) := by decide +kernel
theorem md_G_add_85 : decode mc_G_add 85 = .ok (.i2l, 1) := by decide +kernel
theorem md_G_add_86 : decode mc_G_add 86 = .ok (.bipush 40, 2) := by decide +kernel
theorem md_G_add_88 : decode mc_G_add 88 = .ok (.lshl, 1) := by decide +kernel
theorem md_G_add_89 : decode mc_G_add 89 = .ok (.iload_n 2, 1) := by decide +kernel
theorem md_G_add_90 : decode mc_G_add 90 = .ok (.i2l, 1) := by decide +kernel
theorem md_G_add_91 : decode mc_G_add 91 = .ok (.bipush 20, 2) := by decide +kernel
theorem md_G_add_93 : decode mc_G_add 93 = .ok (.lshl, 1) := by decide +kernel
theorem md_G_add_94 : decode mc_G_add 94 = .ok (.lor, 1) := by decide +kernel
theorem md_G_add_95 : decode mc_G_add 95 = .ok (.iload_n 3, 1) := by decide +kernel
theorem md_G_add_96 : decode mc_G_add 96 = .ok (.i2l, 1) := by decide +kernel
theorem md_G_add_97 : decode mc_G_add 97 = .ok (.lor, 1) := by decide +kernel
theorem md_G_add_98 : decode mc_G_add 98 = .ok (.lastore, 1) := by decide +kernel
theorem md_G_add_99 : decode mc_G_add 99 = .ok (.return_, 1) := by decide +kernel
theorem md_G_answer_0 : decode mc_G_answer 0 = .ok (.iload_n 1, 1) := by decide +kernel
theorem md_G_answer_1 : decode mc_G_answer 1 = .ok (.iconst (-1), 1) := by decide +kernel
theorem md_G_answer_2 : decode mc_G_answer 2 = .ok (.if_icmp .ne 12, 3) := by decide +kernel
theorem md_G_answer_5 : decode mc_G_answer 5 = .ok (.iload_n 2, 1) := by decide +kernel
theorem md_G_answer_6 : decode mc_G_answer 6 = .ok (.ifCond .ne 8, 3) := by decide +kernel
theorem md_G_answer_9 : decode mc_G_answer 9 = .ok (.aload_n 0, 1) := by decide +kernel
theorem md_G_answer_10 : decode mc_G_answer 10 = .ok (.getfield 27, 3) := by decide +kernel
theorem md_G_answer_13 : decode mc_G_answer 13 = .ok (.ireturn, 1) := by decide +kernel
theorem md_G_answer_14 : decode mc_G_answer 14 = .ok (.iload_n 1, 1) := by decide +kernel
theorem md_G_answer_15 : decode mc_G_answer 15 = .ok (.ifCond .lt 32, 3) := by decide +kernel
theorem md_G_answer_18 : decode mc_G_answer 18 = .ok (.iload_n 1, 1) := by decide +kernel
theorem md_G_answer_19 : decode mc_G_answer 19 = .ok (.aload_n 0, 1) := by decide +kernel
theorem md_G_answer_20 : decode mc_G_answer 20 = .ok (.getfield 27, 3) := by decide +kernel
theorem md_G_answer_23 : decode mc_G_answer 23 = .ok (.if_icmp .ge 24, 3) := by decide +kernel
theorem md_G_answer_26 : decode mc_G_answer 26 = .ok (.iload_n 1, 1) := by decide +kernel
theorem md_G_answer_27 : decode mc_G_answer 27 = .ok (.aload_n 0, 1) := by decide +kernel
theorem md_G_answer_28 : decode mc_G_answer 28 = .ok (.getfield 15, 3) := by decide +kernel
theorem md_G_answer_31 : decode mc_G_answer 31 = .ok (.if_icmp .ge 16, 3) := by decide +kernel
theorem md_G_answer_34 : decode mc_G_answer 34 = .ok (.iload_n 1, 1) := by decide +kernel
theorem md_G_answer_35 : decode mc_G_answer 35 = .ok (.sipush 512, 3) := by decide +kernel
theorem md_G_answer_38 : decode mc_G_answer 38 = .ok (.idiv, 1) := by decide +kernel
theorem md_G_answer_39 : decode mc_G_answer 39 = .ok (.aload_n 0, 1) := by decide +kernel
theorem md_G_answer_40 : decode mc_G_answer 40 = .ok (.getfield 23, 3) := by decide +kernel
theorem md_G_answer_43 : decode mc_G_answer 43 = .ok (.arraylength, 1) := by decide +kernel
theorem md_G_answer_44 : decode mc_G_answer 44 = .ok (.if_icmp .lt 5, 3) := by decide +kernel
theorem md_G_answer_47 : decode mc_G_answer 47 = .ok (.iconst (-1), 1) := by decide +kernel
theorem md_G_answer_48 : decode mc_G_answer 48 = .ok (.ireturn, 1) := by decide +kernel
theorem md_G_answer_49 : decode mc_G_answer 49 = .ok (.iload_n 2, 1) := by decide +kernel
theorem md_G_answer_50 : decode mc_G_answer 50 = .ok (.ifCond .lt 8, 3) := by decide +kernel
theorem md_G_answer_53 : decode mc_G_answer 53 = .ok (.iload_n 2, 1) := by decide +kernel
theorem md_G_answer_54 : decode mc_G_answer 54 = .ok (.iconst 2, 1) := by decide +kernel
theorem md_G_answer_55 : decode mc_G_answer 55 = .ok (.if_icmp .le 6, 3) := by decide +kernel
theorem md_G_answer_58 : decode mc_G_answer 58 = .ok (.bipush (-2), 2) := by decide +kernel
theorem md_G_answer_60 : decode mc_G_answer 60 = .ok (.ireturn, 1) := by decide +kernel
theorem md_G_answer_61 : decode mc_G_answer 61 = .ok (.aload_n 0, 1) := by decide +kernel
theorem md_G_answer_62 : decode mc_G_answer 62 = .ok (.getfield 23, 3) := by decide +kernel
theorem md_G_answer_65 : decode mc_G_answer 65 = .ok (.iload_n 1, 1) := by decide +kernel
theorem md_G_answer_66 : decode mc_G_answer 66 = .ok (.sipush 512, 3) := by decide +kernel
theorem md_G_answer_69 : decode mc_G_answer 69 = .ok (.idiv, 1) := by decide +kernel
theorem md_G_answer_70 : decode mc_G_answer 70 = .ok (.aaload, 1) := by decide +kernel
theorem md_G_answer_71 : decode mc_G_answer 71 = .ok (.astore_n 3, 1) := by decide +kernel
theorem md_G_answer_72 : decode mc_G_answer 72 = .ok (.aload_n 3, 1) := by decide +kernel
theorem md_G_answer_73 : decode mc_G_answer 73 = .ok (.ifnonnull 7, 3) := by decide +kernel
theorem md_G_answer_76 : decode mc_G_answer 76 = .ok (.iconst (-1), 1) := by decide +kernel
theorem md_G_answer_77 : decode mc_G_answer 77 = .ok (.goto 22, 3) := by decide +kernel
theorem md_G_answer_80 : decode mc_G_answer 80 = .ok (.aload_n 3, 1) := by decide +kernel
theorem md_G_answer_81 : decode mc_G_answer 81 = .ok (.iload_n 1, 1) := by decide +kernel
theorem md_G_answer_82 : decode mc_G_answer 82 = .ok (.sipush 512, 3) := by decide +kernel
theorem md_G_answer_85 : decode mc_G_answer 85 = .ok (.irem, 1) := by decide +kernel
theorem md_G_answer_86 : decode mc_G_answer 86 = .ok (.laload, 1) := by decide +kernel
theorem md_G_answer_87 : decode mc_G_answer 87 = .ok (.iconst 2, 1) := by decide +kernel
theorem md_G_answer_88 : decode mc_G_answer 88 = .ok (.iload_n 2, 1) := by decide +kernel
theorem md_G_answer_89 : decode mc_G_answer 89 = .ok (.isub, 1) := by decide +kernel
theorem md_G_answer_90 : decode mc_G_answer 90 = .ok (.bipush 20, 2) := by decide +kernel
theorem md_G_answer_92 : decode mc_G_answer 92 = .ok (.imul, 1) := by decide +kernel
theorem md_G_answer_93 : decode mc_G_answer 93 = .ok (.lshr, 1) := by decide +kernel
theorem md_G_answer_94 : decode mc_G_answer 94 = .ok (.ldc2_w 30, 3) := by decide +kernel
theorem md_G_answer_97 : decode mc_G_answer 97 = .ok (.land, 1) := by decide +kernel
theorem md_G_answer_98 : decode mc_G_answer 98 = .ok (.l2i, 1) := by decide +kernel
theorem md_G_answer_99 : decode mc_G_answer 99 = .ok (.ireturn, 1) := by decide +kernel
theorem md_P_init_0 : decode mc_P_init 0 = .ok (.aload_n 0, 1) := by decide +kernel
theorem md_P_init_1 : decode mc_P_init 1 = .ok (.invokespecial 1, 3) := by decide +kernel
theorem md_P_init_4 : decode mc_P_init 4 = .ok (.aload_n 0, 1) := by decide +kernel
theorem md_P_init_5 : decode mc_P_init 5 = .ok (.iload_n 1, 1) := by decide +kernel
theorem md_P_init_6 : decode mc_P_init 6 = .ok (.putfield 7, 3) := by decide +kernel
theorem md_P_init_9 : decode mc_P_init 9 = .ok (.aload_n 0, 1) := by decide +kernel
theorem md_P_init_10 : decode mc_P_init 10 = .ok (.iload_n 2, 1) := by decide +kernel
theorem md_P_init_11 : decode mc_P_init 11 = .ok (.putfield 13, 3) := by decide +kernel
theorem md_P_init_14 : decode mc_P_init 14 = .ok (.return_, 1) := by decide +kernel
theorem md_R_init_0 : decode mc_R_init 0 = .ok (.aload_n 0, 1) := by decide +kernel
theorem md_R_init_1 : decode mc_R_init 1 = .ok (.invokespecial 1, 3) := by decide +kernel
theorem md_R_init_4 : decode mc_R_init 4 = .ok (.return_, 1) := by decide +kernel
theorem md_K_init_0 : decode mc_K_init 0 = .ok (.aload_n 0, 1) := by decide +kernel
theorem md_K_init_1 : decode mc_K_init 1 = .ok (.invokespecial 3, 3) := by decide +kernel
theorem md_K_init_4 : decode mc_K_init 4 = .ok (.aload_n 0, 1) := by decide +kernel
theorem md_K_init_5 : decode mc_K_init 5 = .ok (.iconst 1, 1) := by decide +kernel
theorem md_K_init_6 : decode mc_K_init 6 = .ok (.putfield 9, 3) := by decide +kernel
theorem md_K_init_9 : decode mc_K_init 9 = .ok (.aload_n 0, 1) := by decide +kernel
theorem md_K_init_10 : decode mc_K_init 10 = .ok (.new 15, 3) := by decide +kernel
theorem md_K_init_13 : decode mc_K_init 13 = .ok (.dup, 1) := by decide +kernel
theorem md_K_init_14 : decode mc_K_init 14 = .ok (.iconst 0, 1) := by decide +kernel
theorem md_K_init_15 : decode mc_K_init 15 = .ok (.iconst 1, 1) := by decide +kernel
theorem md_K_init_16 : decode mc_K_init 16 = .ok (.invokespecial 17, 3) := by decide +kernel
theorem md_K_init_19 : decode mc_K_init 19 = .ok (.putfield 20, 3) := by decide +kernel
theorem md_K_init_22 : decode mc_K_init 22 = .ok (.aload_n 0, 1) := by decide +kernel
theorem md_K_init_23 : decode mc_K_init 23 = .ok (.iconst 0, 1) := by decide +kernel
theorem md_K_init_24 : decode mc_K_init 24 = .ok (.putfield 24, 3) := by decide +kernel
theorem md_K_init_27 : decode mc_K_init 27 = .ok (.aload_n 0, 1) := by decide +kernel
theorem md_K_init_28 : decode mc_K_init 28 = .ok (.iload_n 1, 1) := by decide +kernel
theorem md_K_init_29 : decode mc_K_init 29 = .ok (.putfield 28, 3) := by decide +kernel
theorem md_K_init_32 : decode mc_K_init 32 = .ok (.aload_n 0, 1) := by decide +kernel
theorem md_K_init_33 : decode mc_K_init 33 = .ok (.iload_n 2, 1) := by decide +kernel
theorem md_K_init_34 : decode mc_K_init 34 = .ok (.putfield 31, 3) := by decide +kernel
theorem md_K_init_37 : decode mc_K_init 37 = .ok (.aload_n 0, 1) := by decide +kernel
theorem md_K_init_38 : decode mc_K_init 38 = .ok (.aload_n 3, 1) := by decide +kernel
theorem md_K_init_39 : decode mc_K_init 39 = .ok (.putfield 34, 3) := by decide +kernel
theorem md_K_init_42 : decode mc_K_init 42 = .ok (.aload_n 0, 1) := by decide +kernel
theorem md_K_init_43 : decode mc_K_init 43 = .ok (.iload 4, 2) := by decide +kernel
theorem md_K_init_45 : decode mc_K_init 45 = .ok (.putfield 38, 3) := by decide +kernel
theorem md_K_init_48 : decode mc_K_init 48 = .ok (.aload_n 0, 1) := by decide +kernel
theorem md_K_init_49 : decode mc_K_init 49 = .ok (.iload 5, 2) := by decide +kernel
theorem md_K_init_51 : decode mc_K_init 51 = .ok (.putfield 41, 3) := by decide +kernel
theorem md_K_init_54 : decode mc_K_init 54 = .ok (.return_, 1) := by decide +kernel
theorem md_K_addPart_0 : decode mc_K_addPart 0 = .ok (.iconst 1, 1) := by decide +kernel
theorem md_K_addPart_1 : decode mc_K_addPart 1 = .ok (.istore_n 2, 1) := by decide +kernel
theorem md_K_addPart_2 : decode mc_K_addPart 2 = .ok (.aload_n 0, 1) := by decide +kernel
theorem md_K_addPart_3 : decode mc_K_addPart 3 = .ok (.getfield 20, 3) := by decide +kernel
theorem md_K_addPart_6 : decode mc_K_addPart 6 = .ok (.astore_n 3, 1) := by decide +kernel
theorem md_K_addPart_7 : decode mc_K_addPart 7 = .ok (.aload_n 0, 1) := by decide +kernel
theorem md_K_addPart_8 : decode mc_K_addPart 8 = .ok (.getfield 20, 3) := by decide +kernel
theorem md_K_addPart_11 : decode mc_K_addPart 11 = .ok (.getfield 44, 3) := by decide +kernel
theorem md_K_addPart_14 : decode mc_K_addPart 14 = .ok (.astore 4, 2) := by decide +kernel
theorem md_K_addPart_16 : decode mc_K_addPart 16 = .ok (.aload 4, 2) := by decide +kernel
theorem md_K_addPart_18 : decode mc_K_addPart 18 = .ok (.ifnull 19, 3) := by decide +kernel
theorem md_K_addPart_21 : decode mc_K_addPart 21 = .ok (.aload 4, 2) := by decide +kernel
theorem md_K_addPart_23 : decode mc_K_addPart 23 = .ok (.astore_n 3, 1) := by decide +kernel
theorem md_K_addPart_24 : decode mc_K_addPart 24 = .ok (.iinc 2 1, 3) := by decide +kernel
theorem md_K_addPart_27 : decode mc_K_addPart 27 = .ok (.aload 4, 2) := by decide +kernel
theorem md_K_addPart_29 : decode mc_K_addPart 29 = .ok (.getfield 44, 3) := by decide +kernel
theorem md_K_addPart_32 : decode mc_K_addPart 32 = .ok (.astore 4, 2) := by decide +kernel
theorem md_K_addPart_34 : decode mc_K_addPart 34 = .ok (.goto (-18), 3) := by decide +kernel
theorem md_K_addPart_37 : decode mc_K_addPart 37 = .ok (.aload_n 3, 1) := by decide +kernel
theorem md_K_addPart_38 : decode mc_K_addPart 38 = .ok (.aload_n 1, 1) := by decide +kernel
theorem md_K_addPart_39 : decode mc_K_addPart 39 = .ok (.putfield 44, 3) := by decide +kernel
theorem md_K_addPart_42 : decode mc_K_addPart 42 = .ok (.iload_n 2, 1) := by decide +kernel
theorem md_K_addPart_43 : decode mc_K_addPart 43 = .ok (.ireturn, 1) := by decide +kernel
theorem md_K_mayBeSet_0 : decode mc_K_mayBeSet 0 = .ok (.aload_n 0, 1) := by decide +kernel
theorem md_K_mayBeSet_1 : decode mc_K_mayBeSet 1 = .ok (.getfield 41, 3) := by decide +kernel
theorem md_K_mayBeSet_4 : decode mc_K_mayBeSet 4 = .ok (.ifCond .eq 14, 3) := by decide +kernel
theorem md_K_mayBeSet_7 : decode mc_K_mayBeSet 7 = .ok (.aload_n 0, 1) := by decide +kernel
theorem md_K_mayBeSet_8 : decode mc_K_mayBeSet 8 = .ok (.getfield 24, 3) := by decide +kernel
theorem md_K_mayBeSet_11 : decode mc_K_mayBeSet 11 = .ok (.ifCond .eq 7, 3) := by decide +kernel
theorem md_K_mayBeSet_14 : decode mc_K_mayBeSet 14 = .ok (.iconst 1, 1) := by decide +kernel
theorem md_K_mayBeSet_15 : decode mc_K_mayBeSet 15 = .ok (.goto 4, 3) := by decide +kernel
theorem md_K_mayBeSet_18 : decode mc_K_mayBeSet 18 = .ok (.iconst 0, 1) := by decide +kernel
theorem md_K_mayBeSet_19 : decode mc_K_mayBeSet 19 = .ok (.ireturn, 1) := by decide +kernel
theorem md_K_height_0 : decode mc_K_height 0 = .ok (.aload_n 0, 1) := by decide +kernel
theorem md_K_height_1 : decode mc_K_height 1 = .ok (.getfield 31, 3) := by decide +kernel
theorem md_K_height_4 : decode mc_K_height 4 = .ok (.istore_n 1, 1) := by decide +kernel
theorem md_K_height_5 : decode mc_K_height 5 = .ok (.aload_n 0, 1) := by decide +kernel
theorem md_K_height_6 : decode mc_K_height 6 = .ok (.getfield 47, 3) := by decide +kernel
theorem md_K_height_9 : decode mc_K_height 9 = .ok (.astore_n 2, 1) := by decide +kernel
theorem md_K_height_10 : decode mc_K_height 10 = .ok (.aload_n 2, 1) := by decide +kernel
theorem md_K_height_11 : decode mc_K_height 11 = .ok (.ifnull 20, 3) := by decide +kernel
theorem md_K_height_14 : decode mc_K_height 14 = .ok (.iload_n 1, 1) := by decide +kernel
theorem md_K_height_15 : decode mc_K_height 15 = .ok (.aload_n 2, 1) := by decide +kernel
theorem md_K_height_16 : decode mc_K_height 16 = .ok (.getfield 51, 3) := by decide +kernel
theorem md_K_height_19 : decode mc_K_height 19 = .ok (.invokestatic 56, 3) := by decide +kernel
theorem md_K_height_22 : decode mc_K_height 22 = .ok (.istore_n 1, 1) := by decide +kernel
theorem md_K_height_23 : decode mc_K_height 23 = .ok (.aload_n 2, 1) := by decide +kernel
theorem md_K_height_24 : decode mc_K_height 24 = .ok (.getfield 62, 3) := by decide +kernel
theorem md_K_height_27 : decode mc_K_height 27 = .ok (.astore_n 2, 1) := by decide +kernel
theorem md_K_height_28 : decode mc_K_height 28 = .ok (.goto (-18), 3) := by decide +kernel
theorem md_K_height_31 : decode mc_K_height 31 = .ok (.iload_n 1, 1) := by decide +kernel
theorem md_K_height_32 : decode mc_K_height 32 = .ok (.ireturn, 1) := by decide +kernel
theorem md_K_comesBefore_0 : decode mc_K_comesBefore 0 = .ok (.aload_n 0, 1) := by decide +kernel
theorem md_K_comesBefore_1 : decode mc_K_comesBefore 1 = .ok (.invokevirtual 65, 3) := by decide +kernel
theorem md_K_comesBefore_4 : decode mc_K_comesBefore 4 = .ok (.istore_n 2, 1) := by decide +kernel
theorem md_K_comesBefore_5 : decode mc_K_comesBefore 5 = .ok (.aload_n 1, 1) := by decide +kernel
theorem md_K_comesBefore_6 : decode mc_K_comesBefore 6 = .ok (.invokevirtual 65, 3) := by decide +kernel
theorem md_K_comesBefore_9 : decode mc_K_comesBefore 9 = .ok (.istore_n 3, 1) := by decide +kernel
theorem md_K_comesBefore_10 : decode mc_K_comesBefore 10 = .ok (.iload_n 2, 1) := by decide +kernel
theorem md_K_comesBefore_11 : decode mc_K_comesBefore 11 = .ok (.iload_n 3, 1) := by decide +kernel
theorem md_K_comesBefore_12 : decode mc_K_comesBefore 12 = .ok (.if_icmp .gt 27, 3) := by decide +kernel
theorem md_K_comesBefore_15 : decode mc_K_comesBefore 15 = .ok (.iload_n 2, 1) := by decide +kernel
theorem md_K_comesBefore_16 : decode mc_K_comesBefore 16 = .ok (.iload_n 3, 1) := by decide +kernel
theorem md_K_comesBefore_17 : decode mc_K_comesBefore 17 = .ok (.if_icmp .ne 26, 3) := by decide +kernel
theorem md_K_comesBefore_20 : decode mc_K_comesBefore 20 = .ok (.aload_n 1, 1) := by decide +kernel
theorem md_K_comesBefore_21 : decode mc_K_comesBefore 21 = .ok (.getfield 24, 3) := by decide +kernel
theorem md_K_comesBefore_24 : decode mc_K_comesBefore 24 = .ok (.iconst 2, 1) := by decide +kernel
theorem md_K_comesBefore_25 : decode mc_K_comesBefore 25 = .ok (.if_icmp .eq 18, 3) := by decide +kernel
theorem md_K_comesBefore_28 : decode mc_K_comesBefore 28 = .ok (.aload_n 0, 1) := by decide +kernel
theorem md_K_comesBefore_29 : decode mc_K_comesBefore 29 = .ok (.getfield 69, 3) := by decide +kernel
theorem md_K_comesBefore_32 : decode mc_K_comesBefore 32 = .ok (.aload_n 1, 1) := by decide +kernel
theorem md_K_comesBefore_33 : decode mc_K_comesBefore 33 = .ok (.getfield 69, 3) := by decide +kernel
theorem md_K_comesBefore_36 : decode mc_K_comesBefore 36 = .ok (.if_icmp .ge 7, 3) := by decide +kernel
theorem md_K_comesBefore_39 : decode mc_K_comesBefore 39 = .ok (.iconst 1, 1) := by decide +kernel
theorem md_K_comesBefore_40 : decode mc_K_comesBefore 40 = .ok (.goto 4, 3) := by decide +kernel
theorem md_K_comesBefore_43 : decode mc_K_comesBefore 43 = .ok (.iconst 0, 1) := by decide +kernel
theorem md_K_comesBefore_44 : decode mc_K_comesBefore 44 = .ok (.ireturn, 1) := by decide +kernel
theorem md_K_leftOfPart_0 : decode mc_K_leftOfPart 0 = .ok (.aload_n 0, 1) := by decide +kernel
theorem md_K_leftOfPart_1 : decode mc_K_leftOfPart 1 = .ok (.getfield 72, 3) := by decide +kernel
theorem md_K_leftOfPart_4 : decode mc_K_leftOfPart 4 = .ok (.ifnull 28, 3) := by decide +kernel
theorem md_K_leftOfPart_7 : decode mc_K_leftOfPart 7 = .ok (.aload_n 0, 1) := by decide +kernel
theorem md_K_leftOfPart_8 : decode mc_K_leftOfPart 8 = .ok (.getfield 72, 3) := by decide +kernel
theorem md_K_leftOfPart_11 : decode mc_K_leftOfPart 11 = .ok (.getfield 75, 3) := by decide +kernel
theorem md_K_leftOfPart_14 : decode mc_K_leftOfPart 14 = .ok (.ifCond .ne 18, 3) := by decide +kernel
theorem md_K_leftOfPart_17 : decode mc_K_leftOfPart 17 = .ok (.aload_n 0, 1) := by decide +kernel
theorem md_K_leftOfPart_18 : decode mc_K_leftOfPart 18 = .ok (.getfield 72, 3) := by decide +kernel
theorem md_K_leftOfPart_21 : decode mc_K_leftOfPart 21 = .ok (.getfield 78, 3) := by decide +kernel
theorem md_K_leftOfPart_24 : decode mc_K_leftOfPart 24 = .ok (.aload_n 0, 1) := by decide +kernel
theorem md_K_leftOfPart_25 : decode mc_K_leftOfPart 25 = .ok (.getfield 81, 3) := by decide +kernel
theorem md_K_leftOfPart_28 : decode mc_K_leftOfPart 28 = .ok (.isub, 1) := by decide +kernel
theorem md_K_leftOfPart_29 : decode mc_K_leftOfPart 29 = .ok (.goto 5, 3) := by decide +kernel
theorem md_K_leftOfPart_32 : decode mc_K_leftOfPart 32 = .ok (.ldc 84, 2) := by decide +kernel
theorem md_K_leftOfPart_34 : decode mc_K_leftOfPart 34 = .ok (.ireturn, 1) := by decide +kernel
theorem md_K_spend_0 : decode mc_K_spend 0 = .ok (.aload_n 0, 1) := by decide +kernel
theorem md_K_spend_1 : decode mc_K_spend 1 = .ok (.dup, 1) := by decide +kernel
theorem md_K_spend_2 : decode mc_K_spend 2 = .ok (.getfield 85, 3) := by decide +kernel
theorem md_K_spend_5 : decode mc_K_spend 5 = .ok (.iload_n 1, 1) := by decide +kernel
theorem md_K_spend_6 : decode mc_K_spend 6 = .ok (.iadd, 1) := by decide +kernel
theorem md_K_spend_7 : decode mc_K_spend 7 = .ok (.putfield 85, 3) := by decide +kernel
theorem md_K_spend_10 : decode mc_K_spend 10 = .ok (.aload_n 0, 1) := by decide +kernel
theorem md_K_spend_11 : decode mc_K_spend 11 = .ok (.getfield 72, 3) := by decide +kernel
theorem md_K_spend_14 : decode mc_K_spend 14 = .ok (.ifnull 13, 3) := by decide +kernel
theorem md_K_spend_17 : decode mc_K_spend 17 = .ok (.aload_n 0, 1) := by decide +kernel
theorem md_K_spend_18 : decode mc_K_spend 18 = .ok (.getfield 72, 3) := by decide +kernel
theorem md_K_spend_21 : decode mc_K_spend 21 = .ok (.getfield 75, 3) := by decide +kernel
theorem md_K_spend_24 : decode mc_K_spend 24 = .ok (.ifCond .eq 4, 3) := by decide +kernel
theorem md_K_spend_27 : decode mc_K_spend 27 = .ok (.return_, 1) := by decide +kernel
theorem md_K_spend_28 : decode mc_K_spend 28 = .ok (.aload_n 0, 1) := by decide +kernel
theorem md_K_spend_29 : decode mc_K_spend 29 = .ok (.dup, 1) := by decide +kernel
theorem md_K_spend_30 : decode mc_K_spend 30 = .ok (.getfield 81, 3) := by decide +kernel
theorem md_K_spend_33 : decode mc_K_spend 33 = .ok (.iload_n 1, 1) := by decide +kernel
theorem md_K_spend_34 : decode mc_K_spend 34 = .ok (.iadd, 1) := by decide +kernel
theorem md_K_spend_35 : decode mc_K_spend 35 = .ok (.putfield 81, 3) := by decide +kernel
theorem md_K_spend_38 : decode mc_K_spend 38 = .ok (.aload_n 0, 1) := by decide +kernel
theorem md_K_spend_39 : decode mc_K_spend 39 = .ok (.getfield 81, 3) := by decide +kernel
theorem md_K_spend_42 : decode mc_K_spend 42 = .ok (.aload_n 0, 1) := by decide +kernel
theorem md_K_spend_43 : decode mc_K_spend 43 = .ok (.getfield 72, 3) := by decide +kernel
theorem md_K_spend_46 : decode mc_K_spend 46 = .ok (.getfield 78, 3) := by decide +kernel
theorem md_K_spend_49 : decode mc_K_spend 49 = .ok (.if_icmp .lt 19, 3) := by decide +kernel
theorem md_K_spend_52 : decode mc_K_spend 52 = .ok (.aload_n 0, 1) := by decide +kernel
theorem md_K_spend_53 : decode mc_K_spend 53 = .ok (.aload_n 0, 1) := by decide +kernel
theorem md_K_spend_54 : decode mc_K_spend 54 = .ok (.getfield 72, 3) := by decide +kernel
theorem md_K_spend_57 : decode mc_K_spend 57 = .ok (.getfield 44, 3) := by decide +kernel
theorem md_K_spend_60 : decode mc_K_spend 60 = .ok (.putfield 72, 3) := by decide +kernel
theorem md_K_spend_63 : decode mc_K_spend 63 = .ok (.aload_n 0, 1) := by decide +kernel
theorem md_K_spend_64 : decode mc_K_spend 64 = .ok (.iconst 0, 1) := by decide +kernel
theorem md_K_spend_65 : decode mc_K_spend 65 = .ok (.putfield 81, 3) := by decide +kernel
theorem md_K_spend_68 : decode mc_K_spend 68 = .ok (.return_, 1) := by decide +kernel
theorem md_E_init_0 : decode mc_E_init 0 = .ok (.aload_n 0, 1) := by decide +kernel
theorem md_E_init_1 : decode mc_E_init 1 = .ok (.invokespecial 1, 3) := by decide +kernel
theorem md_E_init_4 : decode mc_E_init 4 = .ok (.aload_n 0, 1) := by decide +kernel
theorem md_E_init_5 : decode mc_E_init 5 = .ok (.aload_n 1, 1) := by decide +kernel
theorem md_E_init_6 : decode mc_E_init 6 = .ok (.putfield 7, 3) := by decide +kernel
theorem md_E_init_9 : decode mc_E_init 9 = .ok (.aload_n 0, 1) := by decide +kernel
theorem md_E_init_10 : decode mc_E_init 10 = .ok (.iload_n 2, 1) := by decide +kernel
theorem md_E_init_11 : decode mc_E_init 11 = .ok (.putfield 13, 3) := by decide +kernel
theorem md_E_init_14 : decode mc_E_init 14 = .ok (.return_, 1) := by decide +kernel
theorem md_W_cell_0 : decode mc_W_cell 0 = .ok (.iload_n 1, 1) := by decide +kernel
theorem md_W_cell_1 : decode mc_W_cell 1 = .ok (.aload_n 0, 1) := by decide +kernel
theorem md_W_cell_2 : decode mc_W_cell 2 = .ok (.arraylength, 1) := by decide +kernel
theorem md_W_cell_3 : decode mc_W_cell 3 = .ok (.if_icmp .ge 9, 3) := by decide +kernel
theorem md_W_cell_6 : decode mc_W_cell 6 = .ok (.aload_n 0, 1) := by decide +kernel
theorem md_W_cell_7 : decode mc_W_cell 7 = .ok (.iload_n 1, 1) := by decide +kernel
theorem md_W_cell_8 : decode mc_W_cell 8 = .ok (.iaload, 1) := by decide +kernel
theorem md_W_cell_9 : decode mc_W_cell 9 = .ok (.goto 4, 3) := by decide +kernel
theorem md_W_cell_12 : decode mc_W_cell 12 = .ok (.iconst 0, 1) := by decide +kernel
theorem md_W_cell_13 : decode mc_W_cell 13 = .ok (.ireturn, 1) := by decide +kernel
theorem md_W_law_0 : decode mc_W_law 0 = .ok (.new 7, 3) := by decide +kernel
theorem md_W_law_3 : decode mc_W_law 3 = .ok (.dup, 1) := by decide +kernel
theorem md_W_law_4 : decode mc_W_law 4 = .ok (.aload_n 0, 1) := by decide +kernel
theorem md_W_law_5 : decode mc_W_law 5 = .ok (.iconst 0, 1) := by decide +kernel
theorem md_W_law_6 : decode mc_W_law 6 = .ok (.invokestatic 9, 3) := by decide +kernel
theorem md_W_law_9 : decode mc_W_law 9 = .ok (.invokespecial 15, 3) := by decide +kernel
theorem md_W_law_12 : decode mc_W_law 12 = .ok (.astore_n 1, 1) := by decide +kernel
theorem md_W_law_13 : decode mc_W_law 13 = .ok (.new 18, 3) := by decide +kernel
theorem md_W_law_16 : decode mc_W_law 16 = .ok (.dup, 1) := by decide +kernel
theorem md_W_law_17 : decode mc_W_law 17 = .ok (.aload_n 0, 1) := by decide +kernel
theorem md_W_law_18 : decode mc_W_law 18 = .ok (.iconst 0, 1) := by decide +kernel
theorem md_W_law_19 : decode mc_W_law 19 = .ok (.invokestatic 9, 3) := by decide +kernel
theorem md_W_law_22 : decode mc_W_law 22 = .ok (.invokespecial 20, 3) := by decide +kernel
theorem md_W_law_25 : decode mc_W_law 25 = .ok (.astore_n 2, 1) := by decide +kernel
theorem md_W_law_26 : decode mc_W_law 26 = .ok (.iconst 1, 1) := by decide +kernel
theorem md_W_law_27 : decode mc_W_law 27 = .ok (.istore_n 3, 1) := by decide +kernel
theorem md_W_law_28 : decode mc_W_law 28 = .ok (.iload_n 3, 1) := by decide +kernel
theorem md_W_law_29 : decode mc_W_law 29 = .ok (.aload_n 0, 1) := by decide +kernel
theorem md_W_law_30 : decode mc_W_law 30 = .ok (.arraylength, 1) := by decide +kernel
theorem md_W_law_31 : decode mc_W_law 31 = .ok (.bipush 6, 2) := by decide +kernel
theorem md_W_law_33 : decode mc_W_law 33 = .ok (.isub, 1) := by decide +kernel
theorem md_W_law_34 : decode mc_W_law 34 = .ok (.if_icmp .gt 804, 3) := by decide +kernel
theorem md_W_law_37 : decode mc_W_law 37 = .ok (.aload_n 0, 1) := by decide +kernel
theorem md_W_law_38 : decode mc_W_law 38 = .ok (.iload_n 3, 1) := by decide +kernel
theorem md_W_law_39 : decode mc_W_law 39 = .ok (.iaload, 1) := by decide +kernel
theorem md_W_law_40 : decode mc_W_law 40 = .ok (.bipush 15, 2) := by decide +kernel
theorem md_W_law_42 : decode mc_W_law 42 = .ok (.iand, 1) := by decide +kernel
theorem md_W_law_43 : decode mc_W_law 43 = .ok (.tableswitch 789 0 15 #[77, 146, 219, 268, 331, 434, 487, 501, 564, 588, 611, 644, 667, 700, 733, 766], 77) := by decide +kernel
theorem md_W_law_120 : decode mc_W_law 120 = .ok (.aload_n 1, 1) := by decide +kernel
theorem md_W_law_121 : decode mc_W_law 121 = .ok (.aload_n 0, 1) := by decide +kernel
theorem md_W_law_122 : decode mc_W_law 122 = .ok (.iload_n 3, 1) := by decide +kernel
theorem md_W_law_123 : decode mc_W_law 123 = .ok (.iconst 1, 1) := by decide +kernel
theorem md_W_law_124 : decode mc_W_law 124 = .ok (.iadd, 1) := by decide +kernel
theorem md_W_law_125 : decode mc_W_law 125 = .ok (.iaload, 1) := by decide +kernel
theorem md_W_law_126 : decode mc_W_law 126 = .ok (.aload_n 0, 1) := by decide +kernel
theorem md_W_law_127 : decode mc_W_law 127 = .ok (.iload_n 3, 1) := by decide +kernel
theorem md_W_law_128 : decode mc_W_law 128 = .ok (.iconst 2, 1) := by decide +kernel
theorem md_W_law_129 : decode mc_W_law 129 = .ok (.iadd, 1) := by decide +kernel
theorem md_W_law_130 : decode mc_W_law 130 = .ok (.iaload, 1) := by decide +kernel
theorem md_W_law_131 : decode mc_W_law 131 = .ok (.aload_n 0, 1) := by decide +kernel
theorem md_W_law_132 : decode mc_W_law 132 = .ok (.iload_n 3, 1) := by decide +kernel
theorem md_W_law_133 : decode mc_W_law 133 = .ok (.iconst 3, 1) := by decide +kernel
theorem md_W_law_134 : decode mc_W_law 134 = .ok (.iadd, 1) := by decide +kernel
theorem md_W_law_135 : decode mc_W_law 135 = .ok (.iaload, 1) := by decide +kernel
theorem md_W_law_136 : decode mc_W_law 136 = .ok (.aload_n 0, 1) := by decide +kernel
theorem md_W_law_137 : decode mc_W_law 137 = .ok (.iload_n 3, 1) := by decide +kernel
theorem md_W_law_138 : decode mc_W_law 138 = .ok (.iconst 4, 1) := by decide +kernel
theorem md_W_law_139 : decode mc_W_law 139 = .ok (.iadd, 1) := by decide +kernel
theorem md_W_law_140 : decode mc_W_law 140 = .ok (.iaload, 1) := by decide +kernel
theorem md_W_law_141 : decode mc_W_law 141 = .ok (.ifCond .eq 7, 3) := by decide +kernel
theorem md_W_law_144 : decode mc_W_law 144 = .ok (.iconst 1, 1) := by decide +kernel
theorem md_W_law_145 : decode mc_W_law 145 = .ok (.goto 4, 3) := by decide +kernel
theorem md_W_law_148 : decode mc_W_law 148 = .ok (.iconst 0, 1) := by decide +kernel
theorem md_W_law_149 : decode mc_W_law 149 = .ok (.invokevirtual 21, 3) := by decide +kernel
theorem md_W_law_152 : decode mc_W_law 152 = .ok (.aload_n 2, 1) := by decide +kernel
theorem md_W_law_153 : decode mc_W_law 153 = .ok (.aload_n 0, 1) := by decide +kernel
theorem md_W_law_154 : decode mc_W_law 154 = .ok (.iload_n 3, 1) := by decide +kernel
theorem md_W_law_155 : decode mc_W_law 155 = .ok (.iconst 1, 1) := by decide +kernel
theorem md_W_law_156 : decode mc_W_law 156 = .ok (.iadd, 1) := by decide +kernel
theorem md_W_law_157 : decode mc_W_law 157 = .ok (.iaload, 1) := by decide +kernel
theorem md_W_law_158 : decode mc_W_law 158 = .ok (.aload_n 0, 1) := by decide +kernel
theorem md_W_law_159 : decode mc_W_law 159 = .ok (.iload_n 3, 1) := by decide +kernel
theorem md_W_law_160 : decode mc_W_law 160 = .ok (.iconst 2, 1) := by decide +kernel
theorem md_W_law_161 : decode mc_W_law 161 = .ok (.iadd, 1) := by decide +kernel
theorem md_W_law_162 : decode mc_W_law 162 = .ok (.iaload, 1) := by decide +kernel
theorem md_W_law_163 : decode mc_W_law 163 = .ok (.aload_n 0, 1) := by decide +kernel
theorem md_W_law_164 : decode mc_W_law 164 = .ok (.iload_n 3, 1) := by decide +kernel
theorem md_W_law_165 : decode mc_W_law 165 = .ok (.iconst 3, 1) := by decide +kernel
theorem md_W_law_166 : decode mc_W_law 166 = .ok (.iadd, 1) := by decide +kernel
theorem md_W_law_167 : decode mc_W_law 167 = .ok (.iaload, 1) := by decide +kernel
theorem md_W_law_168 : decode mc_W_law 168 = .ok (.aload_n 0, 1) := by decide +kernel
theorem md_W_law_169 : decode mc_W_law 169 = .ok (.iload_n 3, 1) := by decide +kernel
theorem md_W_law_170 : decode mc_W_law 170 = .ok (.iconst 4, 1) := by decide +kernel
theorem md_W_law_171 : decode mc_W_law 171 = .ok (.iadd, 1) := by decide +kernel
theorem md_W_law_172 : decode mc_W_law 172 = .ok (.iaload, 1) := by decide +kernel
theorem md_W_law_173 : decode mc_W_law 173 = .ok (.ifCond .eq 7, 3) := by decide +kernel
theorem md_W_law_176 : decode mc_W_law 176 = .ok (.iconst 1, 1) := by decide +kernel
theorem md_W_law_177 : decode mc_W_law 177 = .ok (.goto 4, 3) := by decide +kernel
theorem md_W_law_180 : decode mc_W_law 180 = .ok (.iconst 0, 1) := by decide +kernel
theorem md_W_law_181 : decode mc_W_law 181 = .ok (.invokevirtual 25, 3) := by decide +kernel
theorem md_W_law_184 : decode mc_W_law 184 = .ok (.if_icmp .eq 648, 3) := by decide +kernel
theorem md_W_law_187 : decode mc_W_law 187 = .ok (.iconst 0, 1) := by decide +kernel
theorem md_W_law_188 : decode mc_W_law 188 = .ok (.ireturn, 1) := by decide +kernel
theorem md_W_law_189 : decode mc_W_law 189 = .ok (.aload_n 1, 1) := by decide +kernel
theorem md_W_law_190 : decode mc_W_law 190 = .ok (.aload_n 0, 1) := by decide +kernel
theorem md_W_law_191 : decode mc_W_law 191 = .ok (.iload_n 3, 1) := by decide +kernel
theorem md_W_law_192 : decode mc_W_law 192 = .ok (.iconst 1, 1) := by decide +kernel
theorem md_W_law_193 : decode mc_W_law 193 = .ok (.iadd, 1) := by decide +kernel
theorem md_W_law_194 : decode mc_W_law 194 = .ok (.iaload, 1) := by decide +kernel
theorem md_W_law_195 : decode mc_W_law 195 = .ok (.aload_n 0, 1) := by decide +kernel
theorem md_W_law_196 : decode mc_W_law 196 = .ok (.iload_n 3, 1) := by decide +kernel
theorem md_W_law_197 : decode mc_W_law 197 = .ok (.iconst 2, 1) := by decide +kernel
theorem md_W_law_198 : decode mc_W_law 198 = .ok (.iadd, 1) := by decide +kernel
theorem md_W_law_199 : decode mc_W_law 199 = .ok (.iaload, 1) := by decide +kernel
theorem md_W_law_200 : decode mc_W_law 200 = .ok (.aload_n 0, 1) := by decide +kernel
theorem md_W_law_201 : decode mc_W_law 201 = .ok (.iload_n 3, 1) := by decide +kernel
theorem md_W_law_202 : decode mc_W_law 202 = .ok (.iconst 3, 1) := by decide +kernel
theorem md_W_law_203 : decode mc_W_law 203 = .ok (.iadd, 1) := by decide +kernel
theorem md_W_law_204 : decode mc_W_law 204 = .ok (.iaload, 1) := by decide +kernel
theorem md_W_law_205 : decode mc_W_law 205 = .ok (.i2l, 1) := by decide +kernel
theorem md_W_law_206 : decode mc_W_law 206 = .ok (.bipush 32, 2) := by decide +kernel
theorem md_W_law_208 : decode mc_W_law 208 = .ok (.lshl, 1) := by decide +kernel
theorem md_W_law_209 : decode mc_W_law 209 = .ok (.aload_n 0, 1) := by decide +kernel
theorem md_W_law_210 : decode mc_W_law 210 = .ok (.iload_n 3, 1) := by decide +kernel
theorem md_W_law_211 : decode mc_W_law 211 = .ok (.iconst 4, 1) := by decide +kernel
theorem md_W_law_212 : decode mc_W_law 212 = .ok (.iadd, 1) := by decide +kernel
theorem md_W_law_213 : decode mc_W_law 213 = .ok (.iaload, 1) := by decide +kernel
theorem md_W_law_214 : decode mc_W_law 214 = .ok (.i2l, 1) := by decide +kernel
theorem md_W_law_215 : decode mc_W_law 215 = .ok (.ldc2_w 26, 3) := by decide +kernel
theorem md_W_law_218 : decode mc_W_law 218 = .ok (.land, 1) := by decide +kernel
theorem md_W_law_219 : decode mc_W_law 219 = .ok (.lor, 1) := by decide +kernel
theorem md_W_law_220 : decode mc_W_law 220 = .ok (.invokevirtual 28, 3) := by decide +kernel
theorem md_W_law_223 : decode mc_W_law 223 = .ok (.aload_n 2, 1) := by decide +kernel
theorem md_W_law_224 : decode mc_W_law 224 = .ok (.aload_n 0, 1) := by decide +kernel
theorem md_W_law_225 : decode mc_W_law 225 = .ok (.iload_n 3, 1) := by decide +kernel
theorem md_W_law_226 : decode mc_W_law 226 = .ok (.iconst 1, 1) := by decide +kernel
theorem md_W_law_227 : decode mc_W_law 227 = .ok (.iadd, 1) := by decide +kernel
theorem md_W_law_228 : decode mc_W_law 228 = .ok (.iaload, 1) := by decide +kernel
theorem md_W_law_229 : decode mc_W_law 229 = .ok (.aload_n 0, 1) := by decide +kernel
theorem md_W_law_230 : decode mc_W_law 230 = .ok (.iload_n 3, 1) := by decide +kernel
theorem md_W_law_231 : decode mc_W_law 231 = .ok (.iconst 2, 1) := by decide +kernel
theorem md_W_law_232 : decode mc_W_law 232 = .ok (.iadd, 1) := by decide +kernel
theorem md_W_law_233 : decode mc_W_law 233 = .ok (.iaload, 1) := by decide +kernel
theorem md_W_law_234 : decode mc_W_law 234 = .ok (.aload_n 0, 1) := by decide +kernel
theorem md_W_law_235 : decode mc_W_law 235 = .ok (.iload_n 3, 1) := by decide +kernel
theorem md_W_law_236 : decode mc_W_law 236 = .ok (.iconst 3, 1) := by decide +kernel
theorem md_W_law_237 : decode mc_W_law 237 = .ok (.iadd, 1) := by decide +kernel
theorem md_W_law_238 : decode mc_W_law 238 = .ok (.iaload, 1) := by decide +kernel
theorem md_W_law_239 : decode mc_W_law 239 = .ok (.i2l, 1) := by decide +kernel
theorem md_W_law_240 : decode mc_W_law 240 = .ok (.bipush 32, 2) := by decide +kernel
theorem md_W_law_242 : decode mc_W_law 242 = .ok (.lshl, 1) := by decide +kernel
theorem md_W_law_243 : decode mc_W_law 243 = .ok (.aload_n 0, 1) := by decide +kernel
theorem md_W_law_244 : decode mc_W_law 244 = .ok (.iload_n 3, 1) := by decide +kernel
theorem md_W_law_245 : decode mc_W_law 245 = .ok (.iconst 4, 1) := by decide +kernel
theorem md_W_law_246 : decode mc_W_law 246 = .ok (.iadd, 1) := by decide +kernel
theorem md_W_law_247 : decode mc_W_law 247 = .ok (.iaload, 1) := by decide +kernel
theorem md_W_law_248 : decode mc_W_law 248 = .ok (.i2l, 1) := by decide +kernel
theorem md_W_law_249 : decode mc_W_law 249 = .ok (.ldc2_w 26, 3) := by decide +kernel
theorem md_W_law_252 : decode mc_W_law 252 = .ok (.land, 1) := by decide +kernel
theorem md_W_law_253 : decode mc_W_law 253 = .ok (.lor, 1) := by decide +kernel
theorem md_W_law_254 : decode mc_W_law 254 = .ok (.invokevirtual 32, 3) := by decide +kernel
theorem md_W_law_257 : decode mc_W_law 257 = .ok (.if_icmp .eq 575, 3) := by decide +kernel
theorem md_W_law_260 : decode mc_W_law 260 = .ok (.iconst 0, 1) := by decide +kernel
theorem md_W_law_261 : decode mc_W_law 261 = .ok (.ireturn, 1) := by decide +kernel
theorem md_W_law_262 : decode mc_W_law 262 = .ok (.aload_n 1, 1) := by decide +kernel
theorem md_W_law_263 : decode mc_W_law 263 = .ok (.aload_n 0, 1) := by decide +kernel
theorem md_W_law_264 : decode mc_W_law 264 = .ok (.iload_n 3, 1) := by decide +kernel
theorem md_W_law_265 : decode mc_W_law 265 = .ok (.iconst 1, 1) := by decide +kernel
theorem md_W_law_266 : decode mc_W_law 266 = .ok (.iadd, 1) := by decide +kernel
theorem md_W_law_267 : decode mc_W_law 267 = .ok (.iaload, 1) := by decide +kernel
theorem md_W_law_268 : decode mc_W_law 268 = .ok (.aload_n 0, 1) := by decide +kernel
theorem md_W_law_269 : decode mc_W_law 269 = .ok (.iload_n 3, 1) := by decide +kernel
theorem md_W_law_270 : decode mc_W_law 270 = .ok (.iconst 2, 1) := by decide +kernel
theorem md_W_law_271 : decode mc_W_law 271 = .ok (.iadd, 1) := by decide +kernel
theorem md_W_law_272 : decode mc_W_law 272 = .ok (.iaload, 1) := by decide +kernel
theorem md_W_law_273 : decode mc_W_law 273 = .ok (.ifCond .eq 7, 3) := by decide +kernel
theorem md_W_law_276 : decode mc_W_law 276 = .ok (.iconst 1, 1) := by decide +kernel
theorem md_W_law_277 : decode mc_W_law 277 = .ok (.goto 4, 3) := by decide +kernel
theorem md_W_law_280 : decode mc_W_law 280 = .ok (.iconst 0, 1) := by decide +kernel
theorem md_W_law_281 : decode mc_W_law 281 = .ok (.invokevirtual 33, 3) := by decide +kernel
theorem md_W_law_284 : decode mc_W_law 284 = .ok (.aload_n 2, 1) := by decide +kernel
theorem md_W_law_285 : decode mc_W_law 285 = .ok (.aload_n 0, 1) := by decide +kernel
theorem md_W_law_286 : decode mc_W_law 286 = .ok (.iload_n 3, 1) := by decide +kernel
theorem md_W_law_287 : decode mc_W_law 287 = .ok (.iconst 1, 1) := by decide +kernel
theorem md_W_law_288 : decode mc_W_law 288 = .ok (.iadd, 1) := by decide +kernel
theorem md_W_law_289 : decode mc_W_law 289 = .ok (.iaload, 1) := by decide +kernel
theorem md_W_law_290 : decode mc_W_law 290 = .ok (.aload_n 0, 1) := by decide +kernel
theorem md_W_law_291 : decode mc_W_law 291 = .ok (.iload_n 3, 1) := by decide +kernel
theorem md_W_law_292 : decode mc_W_law 292 = .ok (.iconst 2, 1) := by decide +kernel
theorem md_W_law_293 : decode mc_W_law 293 = .ok (.iadd, 1) := by decide +kernel
theorem md_W_law_294 : decode mc_W_law 294 = .ok (.iaload, 1) := by decide +kernel
theorem md_W_law_295 : decode mc_W_law 295 = .ok (.ifCond .eq 7, 3) := by decide +kernel
theorem md_W_law_298 : decode mc_W_law 298 = .ok (.iconst 1, 1) := by decide +kernel
theorem md_W_law_299 : decode mc_W_law 299 = .ok (.goto 4, 3) := by decide +kernel
theorem md_W_law_302 : decode mc_W_law 302 = .ok (.iconst 0, 1) := by decide +kernel
theorem md_W_law_303 : decode mc_W_law 303 = .ok (.invokevirtual 37, 3) := by decide +kernel
theorem md_W_law_306 : decode mc_W_law 306 = .ok (.if_icmp .eq 526, 3) := by decide +kernel
theorem md_W_law_309 : decode mc_W_law 309 = .ok (.iconst 0, 1) := by decide +kernel
theorem md_W_law_310 : decode mc_W_law 310 = .ok (.ireturn, 1) := by decide +kernel
theorem md_W_law_311 : decode mc_W_law 311 = .ok (.aload_n 1, 1) := by decide +kernel
theorem md_W_law_312 : decode mc_W_law 312 = .ok (.aload_n 0, 1) := by decide +kernel
theorem md_W_law_313 : decode mc_W_law 313 = .ok (.iload_n 3, 1) := by decide +kernel
theorem md_W_law_314 : decode mc_W_law 314 = .ok (.iconst 1, 1) := by decide +kernel
theorem md_W_law_315 : decode mc_W_law 315 = .ok (.iadd, 1) := by decide +kernel
theorem md_W_law_316 : decode mc_W_law 316 = .ok (.iaload, 1) := by decide +kernel
theorem md_W_law_317 : decode mc_W_law 317 = .ok (.aload_n 0, 1) := by decide +kernel
theorem md_W_law_318 : decode mc_W_law 318 = .ok (.iload_n 3, 1) := by decide +kernel
theorem md_W_law_319 : decode mc_W_law 319 = .ok (.iconst 2, 1) := by decide +kernel
theorem md_W_law_320 : decode mc_W_law 320 = .ok (.iadd, 1) := by decide +kernel
theorem md_W_law_321 : decode mc_W_law 321 = .ok (.iaload, 1) := by decide +kernel
theorem md_W_law_322 : decode mc_W_law 322 = .ok (.i2l, 1) := by decide +kernel
theorem md_W_law_323 : decode mc_W_law 323 = .ok (.bipush 32, 2) := by decide +kernel
theorem md_W_law_325 : decode mc_W_law 325 = .ok (.lshl, 1) := by decide +kernel
theorem md_W_law_326 : decode mc_W_law 326 = .ok (.aload_n 0, 1) := by decide +kernel
theorem md_W_law_327 : decode mc_W_law 327 = .ok (.iload_n 3, 1) := by decide +kernel
theorem md_W_law_328 : decode mc_W_law 328 = .ok (.iconst 3, 1) := by decide +kernel
theorem md_W_law_329 : decode mc_W_law 329 = .ok (.iadd, 1) := by decide +kernel
theorem md_W_law_330 : decode mc_W_law 330 = .ok (.iaload, 1) := by decide +kernel
theorem md_W_law_331 : decode mc_W_law 331 = .ok (.i2l, 1) := by decide +kernel
theorem md_W_law_332 : decode mc_W_law 332 = .ok (.ldc2_w 26, 3) := by decide +kernel
theorem md_W_law_335 : decode mc_W_law 335 = .ok (.land, 1) := by decide +kernel
theorem md_W_law_336 : decode mc_W_law 336 = .ok (.lor, 1) := by decide +kernel
theorem md_W_law_337 : decode mc_W_law 337 = .ok (.invokevirtual 38, 3) := by decide +kernel
theorem md_W_law_340 : decode mc_W_law 340 = .ok (.aload_n 2, 1) := by decide +kernel
theorem md_W_law_341 : decode mc_W_law 341 = .ok (.aload_n 0, 1) := by decide +kernel
theorem md_W_law_342 : decode mc_W_law 342 = .ok (.iload_n 3, 1) := by decide +kernel
theorem md_W_law_343 : decode mc_W_law 343 = .ok (.iconst 1, 1) := by decide +kernel
theorem md_W_law_344 : decode mc_W_law 344 = .ok (.iadd, 1) := by decide +kernel
theorem md_W_law_345 : decode mc_W_law 345 = .ok (.iaload, 1) := by decide +kernel
theorem md_W_law_346 : decode mc_W_law 346 = .ok (.aload_n 0, 1) := by decide +kernel
theorem md_W_law_347 : decode mc_W_law 347 = .ok (.iload_n 3, 1) := by decide +kernel
theorem md_W_law_348 : decode mc_W_law 348 = .ok (.iconst 2, 1) := by decide +kernel
theorem md_W_law_349 : decode mc_W_law 349 = .ok (.iadd, 1) := by decide +kernel
theorem md_W_law_350 : decode mc_W_law 350 = .ok (.iaload, 1) := by decide +kernel
theorem md_W_law_351 : decode mc_W_law 351 = .ok (.i2l, 1) := by decide +kernel
theorem md_W_law_352 : decode mc_W_law 352 = .ok (.bipush 32, 2) := by decide +kernel
theorem md_W_law_354 : decode mc_W_law 354 = .ok (.lshl, 1) := by decide +kernel
theorem md_W_law_355 : decode mc_W_law 355 = .ok (.aload_n 0, 1) := by decide +kernel
theorem md_W_law_356 : decode mc_W_law 356 = .ok (.iload_n 3, 1) := by decide +kernel
theorem md_W_law_357 : decode mc_W_law 357 = .ok (.iconst 3, 1) := by decide +kernel
theorem md_W_law_358 : decode mc_W_law 358 = .ok (.iadd, 1) := by decide +kernel
theorem md_W_law_359 : decode mc_W_law 359 = .ok (.iaload, 1) := by decide +kernel
theorem md_W_law_360 : decode mc_W_law 360 = .ok (.i2l, 1) := by decide +kernel
theorem md_W_law_361 : decode mc_W_law 361 = .ok (.ldc2_w 26, 3) := by decide +kernel
theorem md_W_law_364 : decode mc_W_law 364 = .ok (.land, 1) := by decide +kernel
theorem md_W_law_365 : decode mc_W_law 365 = .ok (.lor, 1) := by decide +kernel
theorem md_W_law_366 : decode mc_W_law 366 = .ok (.invokevirtual 42, 3) := by decide +kernel
theorem md_W_law_369 : decode mc_W_law 369 = .ok (.if_icmp .eq 463, 3) := by decide +kernel
theorem md_W_law_372 : decode mc_W_law 372 = .ok (.iconst 0, 1) := by decide +kernel
theorem md_W_law_373 : decode mc_W_law 373 = .ok (.ireturn, 1) := by decide +kernel
theorem md_W_law_374 : decode mc_W_law 374 = .ok (.aload_n 1, 1) := by decide +kernel
theorem md_W_law_375 : decode mc_W_law 375 = .ok (.aload_n 0, 1) := by decide +kernel
theorem md_W_law_376 : decode mc_W_law 376 = .ok (.iload_n 3, 1) := by decide +kernel
theorem md_W_law_377 : decode mc_W_law 377 = .ok (.iconst 1, 1) := by decide +kernel
theorem md_W_law_378 : decode mc_W_law 378 = .ok (.iadd, 1) := by decide +kernel
theorem md_W_law_379 : decode mc_W_law 379 = .ok (.iaload, 1) := by decide +kernel
theorem md_W_law_380 : decode mc_W_law 380 = .ok (.aload_n 0, 1) := by decide +kernel
theorem md_W_law_381 : decode mc_W_law 381 = .ok (.iload_n 3, 1) := by decide +kernel
theorem md_W_law_382 : decode mc_W_law 382 = .ok (.iconst 2, 1) := by decide +kernel
theorem md_W_law_383 : decode mc_W_law 383 = .ok (.iadd, 1) := by decide +kernel
theorem md_W_law_384 : decode mc_W_law 384 = .ok (.iaload, 1) := by decide +kernel
theorem md_W_law_385 : decode mc_W_law 385 = .ok (.i2l, 1) := by decide +kernel
theorem md_W_law_386 : decode mc_W_law 386 = .ok (.bipush 32, 2) := by decide +kernel
theorem md_W_law_388 : decode mc_W_law 388 = .ok (.lshl, 1) := by decide +kernel
theorem md_W_law_389 : decode mc_W_law 389 = .ok (.aload_n 0, 1) := by decide +kernel
theorem md_W_law_390 : decode mc_W_law 390 = .ok (.iload_n 3, 1) := by decide +kernel
theorem md_W_law_391 : decode mc_W_law 391 = .ok (.iconst 3, 1) := by decide +kernel
theorem md_W_law_392 : decode mc_W_law 392 = .ok (.iadd, 1) := by decide +kernel
theorem md_W_law_393 : decode mc_W_law 393 = .ok (.iaload, 1) := by decide +kernel
theorem md_W_law_394 : decode mc_W_law 394 = .ok (.i2l, 1) := by decide +kernel
theorem md_W_law_395 : decode mc_W_law 395 = .ok (.ldc2_w 26, 3) := by decide +kernel
theorem md_W_law_398 : decode mc_W_law 398 = .ok (.land, 1) := by decide +kernel
theorem md_W_law_399 : decode mc_W_law 399 = .ok (.lor, 1) := by decide +kernel
theorem md_W_law_400 : decode mc_W_law 400 = .ok (.aload_n 0, 1) := by decide +kernel
theorem md_W_law_401 : decode mc_W_law 401 = .ok (.iload_n 3, 1) := by decide +kernel
theorem md_W_law_402 : decode mc_W_law 402 = .ok (.iconst 4, 1) := by decide +kernel
theorem md_W_law_403 : decode mc_W_law 403 = .ok (.iadd, 1) := by decide +kernel
theorem md_W_law_404 : decode mc_W_law 404 = .ok (.iaload, 1) := by decide +kernel
theorem md_W_law_405 : decode mc_W_law 405 = .ok (.i2l, 1) := by decide +kernel
theorem md_W_law_406 : decode mc_W_law 406 = .ok (.bipush 32, 2) := by decide +kernel
theorem md_W_law_408 : decode mc_W_law 408 = .ok (.lshl, 1) := by decide +kernel
theorem md_W_law_409 : decode mc_W_law 409 = .ok (.aload_n 0, 1) := by decide +kernel
theorem md_W_law_410 : decode mc_W_law 410 = .ok (.iload_n 3, 1) := by decide +kernel
theorem md_W_law_411 : decode mc_W_law 411 = .ok (.iconst 5, 1) := by decide +kernel
theorem md_W_law_412 : decode mc_W_law 412 = .ok (.iadd, 1) := by decide +kernel
theorem md_W_law_413 : decode mc_W_law 413 = .ok (.iaload, 1) := by decide +kernel
theorem md_W_law_414 : decode mc_W_law 414 = .ok (.i2l, 1) := by decide +kernel
theorem md_W_law_415 : decode mc_W_law 415 = .ok (.ldc2_w 26, 3) := by decide +kernel
theorem md_W_law_418 : decode mc_W_law 418 = .ok (.land, 1) := by decide +kernel
theorem md_W_law_419 : decode mc_W_law 419 = .ok (.lor, 1) := by decide +kernel
theorem md_W_law_420 : decode mc_W_law 420 = .ok (.invokevirtual 43, 3) := by decide +kernel
theorem md_W_law_423 : decode mc_W_law 423 = .ok (.aload_n 2, 1) := by decide +kernel
theorem md_W_law_424 : decode mc_W_law 424 = .ok (.aload_n 0, 1) := by decide +kernel
theorem md_W_law_425 : decode mc_W_law 425 = .ok (.iload_n 3, 1) := by decide +kernel
theorem md_W_law_426 : decode mc_W_law 426 = .ok (.iconst 1, 1) := by decide +kernel
theorem md_W_law_427 : decode mc_W_law 427 = .ok (.iadd, 1) := by decide +kernel
theorem md_W_law_428 : decode mc_W_law 428 = .ok (.iaload, 1) := by decide +kernel
theorem md_W_law_429 : decode mc_W_law 429 = .ok (.aload_n 0, 1) := by decide +kernel
theorem md_W_law_430 : decode mc_W_law 430 = .ok (.iload_n 3, 1) := by decide +kernel
theorem md_W_law_431 : decode mc_W_law 431 = .ok (.iconst 2, 1) := by decide +kernel
theorem md_W_law_432 : decode mc_W_law 432 = .ok (.iadd, 1) := by decide +kernel
theorem md_W_law_433 : decode mc_W_law 433 = .ok (.iaload, 1) := by decide +kernel
theorem md_W_law_434 : decode mc_W_law 434 = .ok (.i2l, 1) := by decide +kernel
theorem md_W_law_435 : decode mc_W_law 435 = .ok (.bipush 32, 2) := by decide +kernel
theorem md_W_law_437 : decode mc_W_law 437 = .ok (.lshl, 1) := by decide +kernel
theorem md_W_law_438 : decode mc_W_law 438 = .ok (.aload_n 0, 1) := by decide +kernel
theorem md_W_law_439 : decode mc_W_law 439 = .ok (.iload_n 3, 1) := by decide +kernel
theorem md_W_law_440 : decode mc_W_law 440 = .ok (.iconst 3, 1) := by decide +kernel
theorem md_W_law_441 : decode mc_W_law 441 = .ok (.iadd, 1) := by decide +kernel
theorem md_W_law_442 : decode mc_W_law 442 = .ok (.iaload, 1) := by decide +kernel
theorem md_W_law_443 : decode mc_W_law 443 = .ok (.i2l, 1) := by decide +kernel
theorem md_W_law_444 : decode mc_W_law 444 = .ok (.ldc2_w 26, 3) := by decide +kernel
theorem md_W_law_447 : decode mc_W_law 447 = .ok (.land, 1) := by decide +kernel
theorem md_W_law_448 : decode mc_W_law 448 = .ok (.lor, 1) := by decide +kernel
theorem md_W_law_449 : decode mc_W_law 449 = .ok (.aload_n 0, 1) := by decide +kernel
theorem md_W_law_450 : decode mc_W_law 450 = .ok (.iload_n 3, 1) := by decide +kernel
theorem md_W_law_451 : decode mc_W_law 451 = .ok (.iconst 4, 1) := by decide +kernel
theorem md_W_law_452 : decode mc_W_law 452 = .ok (.iadd, 1) := by decide +kernel
theorem md_W_law_453 : decode mc_W_law 453 = .ok (.iaload, 1) := by decide +kernel
theorem md_W_law_454 : decode mc_W_law 454 = .ok (.i2l, 1) := by decide +kernel
theorem md_W_law_455 : decode mc_W_law 455 = .ok (.bipush 32, 2) := by decide +kernel
theorem md_W_law_457 : decode mc_W_law 457 = .ok (.lshl, 1) := by decide +kernel
theorem md_W_law_458 : decode mc_W_law 458 = .ok (.aload_n 0, 1) := by decide +kernel
theorem md_W_law_459 : decode mc_W_law 459 = .ok (.iload_n 3, 1) := by decide +kernel
theorem md_W_law_460 : decode mc_W_law 460 = .ok (.iconst 5, 1) := by decide +kernel
theorem md_W_law_461 : decode mc_W_law 461 = .ok (.iadd, 1) := by decide +kernel
theorem md_W_law_462 : decode mc_W_law 462 = .ok (.iaload, 1) := by decide +kernel
theorem md_W_law_463 : decode mc_W_law 463 = .ok (.i2l, 1) := by decide +kernel
theorem md_W_law_464 : decode mc_W_law 464 = .ok (.ldc2_w 26, 3) := by decide +kernel
theorem md_W_law_467 : decode mc_W_law 467 = .ok (.land, 1) := by decide +kernel
theorem md_W_law_468 : decode mc_W_law 468 = .ok (.lor, 1) := by decide +kernel
theorem md_W_law_469 : decode mc_W_law 469 = .ok (.invokevirtual 47, 3) := by decide +kernel
theorem md_W_law_472 : decode mc_W_law 472 = .ok (.if_icmp .eq 360, 3) := by decide +kernel
theorem md_W_law_475 : decode mc_W_law 475 = .ok (.iconst 0, 1) := by decide +kernel
theorem md_W_law_476 : decode mc_W_law 476 = .ok (.ireturn, 1) := by decide +kernel
theorem md_W_law_477 : decode mc_W_law 477 = .ok (.aload_n 1, 1) := by decide +kernel
theorem md_W_law_478 : decode mc_W_law 478 = .ok (.aload_n 0, 1) := by decide +kernel
theorem md_W_law_479 : decode mc_W_law 479 = .ok (.iload_n 3, 1) := by decide +kernel
theorem md_W_law_480 : decode mc_W_law 480 = .ok (.iconst 1, 1) := by decide +kernel
theorem md_W_law_481 : decode mc_W_law 481 = .ok (.iadd, 1) := by decide +kernel
theorem md_W_law_482 : decode mc_W_law 482 = .ok (.iaload, 1) := by decide +kernel
theorem md_W_law_483 : decode mc_W_law 483 = .ok (.i2l, 1) := by decide +kernel
theorem md_W_law_484 : decode mc_W_law 484 = .ok (.bipush 32, 2) := by decide +kernel
theorem md_W_law_486 : decode mc_W_law 486 = .ok (.lshl, 1) := by decide +kernel
theorem md_W_law_487 : decode mc_W_law 487 = .ok (.aload_n 0, 1) := by decide +kernel
theorem md_W_law_488 : decode mc_W_law 488 = .ok (.iload_n 3, 1) := by decide +kernel
theorem md_W_law_489 : decode mc_W_law 489 = .ok (.iconst 2, 1) := by decide +kernel
theorem md_W_law_490 : decode mc_W_law 490 = .ok (.iadd, 1) := by decide +kernel
theorem md_W_law_491 : decode mc_W_law 491 = .ok (.iaload, 1) := by decide +kernel
theorem md_W_law_492 : decode mc_W_law 492 = .ok (.i2l, 1) := by decide +kernel
theorem md_W_law_493 : decode mc_W_law 493 = .ok (.ldc2_w 26, 3) := by decide +kernel
theorem md_W_law_496 : decode mc_W_law 496 = .ok (.land, 1) := by decide +kernel
theorem md_W_law_497 : decode mc_W_law 497 = .ok (.lor, 1) := by decide +kernel
theorem md_W_law_498 : decode mc_W_law 498 = .ok (.invokevirtual 48, 3) := by decide +kernel
theorem md_W_law_501 : decode mc_W_law 501 = .ok (.aload_n 2, 1) := by decide +kernel
theorem md_W_law_502 : decode mc_W_law 502 = .ok (.aload_n 0, 1) := by decide +kernel
theorem md_W_law_503 : decode mc_W_law 503 = .ok (.iload_n 3, 1) := by decide +kernel
theorem md_W_law_504 : decode mc_W_law 504 = .ok (.iconst 1, 1) := by decide +kernel
theorem md_W_law_505 : decode mc_W_law 505 = .ok (.iadd, 1) := by decide +kernel
theorem md_W_law_506 : decode mc_W_law 506 = .ok (.iaload, 1) := by decide +kernel
theorem md_W_law_507 : decode mc_W_law 507 = .ok (.i2l, 1) := by decide +kernel
theorem md_W_law_508 : decode mc_W_law 508 = .ok (.bipush 32, 2) := by decide +kernel
theorem md_W_law_510 : decode mc_W_law 510 = .ok (.lshl, 1) := by decide +kernel
theorem md_W_law_511 : decode mc_W_law 511 = .ok (.aload_n 0, 1) := by decide +kernel
theorem md_W_law_512 : decode mc_W_law 512 = .ok (.iload_n 3, 1) := by decide +kernel
theorem md_W_law_513 : decode mc_W_law 513 = .ok (.iconst 2, 1) := by decide +kernel
theorem md_W_law_514 : decode mc_W_law 514 = .ok (.iadd, 1) := by decide +kernel
theorem md_W_law_515 : decode mc_W_law 515 = .ok (.iaload, 1) := by decide +kernel
theorem md_W_law_516 : decode mc_W_law 516 = .ok (.i2l, 1) := by decide +kernel
theorem md_W_law_517 : decode mc_W_law 517 = .ok (.ldc2_w 26, 3) := by decide +kernel
theorem md_W_law_520 : decode mc_W_law 520 = .ok (.land, 1) := by decide +kernel
theorem md_W_law_521 : decode mc_W_law 521 = .ok (.lor, 1) := by decide +kernel
theorem md_W_law_522 : decode mc_W_law 522 = .ok (.invokevirtual 52, 3) := by decide +kernel
theorem md_W_law_525 : decode mc_W_law 525 = .ok (.if_icmp .eq 307, 3) := by decide +kernel
theorem md_W_law_528 : decode mc_W_law 528 = .ok (.iconst 0, 1) := by decide +kernel
theorem md_W_law_529 : decode mc_W_law 529 = .ok (.ireturn, 1) := by decide +kernel
theorem md_W_law_530 : decode mc_W_law 530 = .ok (.aload_n 1, 1) := by decide +kernel
theorem md_W_law_531 : decode mc_W_law 531 = .ok (.invokevirtual 53, 3) := by decide +kernel
theorem md_W_law_534 : decode mc_W_law 534 = .ok (.aload_n 2, 1) := by decide +kernel
theorem md_W_law_535 : decode mc_W_law 535 = .ok (.invokevirtual 57, 3) := by decide +kernel
theorem md_W_law_538 : decode mc_W_law 538 = .ok (.lcmp, 1) := by decide +kernel
theorem md_W_law_539 : decode mc_W_law 539 = .ok (.ifCond .eq 293, 3) := by decide +kernel
theorem md_W_law_542 : decode mc_W_law 542 = .ok (.iconst 0, 1) := by decide +kernel
theorem md_W_law_543 : decode mc_W_law 543 = .ok (.ireturn, 1) := by decide +kernel
theorem md_W_law_544 : decode mc_W_law 544 = .ok (.aload_n 1, 1) := by decide +kernel
theorem md_W_law_545 : decode mc_W_law 545 = .ok (.aload_n 0, 1) := by decide +kernel
theorem md_W_law_546 : decode mc_W_law 546 = .ok (.iload_n 3, 1) := by decide +kernel
theorem md_W_law_547 : decode mc_W_law 547 = .ok (.iconst 1, 1) := by decide +kernel
theorem md_W_law_548 : decode mc_W_law 548 = .ok (.iadd, 1) := by decide +kernel
theorem md_W_law_549 : decode mc_W_law 549 = .ok (.iaload, 1) := by decide +kernel
theorem md_W_law_550 : decode mc_W_law 550 = .ok (.aload_n 0, 1) := by decide +kernel
theorem md_W_law_551 : decode mc_W_law 551 = .ok (.iload_n 3, 1) := by decide +kernel
theorem md_W_law_552 : decode mc_W_law 552 = .ok (.iconst 2, 1) := by decide +kernel
theorem md_W_law_553 : decode mc_W_law 553 = .ok (.iadd, 1) := by decide +kernel
theorem md_W_law_554 : decode mc_W_law 554 = .ok (.iaload, 1) := by decide +kernel
theorem md_W_law_555 : decode mc_W_law 555 = .ok (.i2l, 1) := by decide +kernel
theorem md_W_law_556 : decode mc_W_law 556 = .ok (.bipush 32, 2) := by decide +kernel
theorem md_W_law_558 : decode mc_W_law 558 = .ok (.lshl, 1) := by decide +kernel
theorem md_W_law_559 : decode mc_W_law 559 = .ok (.aload_n 0, 1) := by decide +kernel
theorem md_W_law_560 : decode mc_W_law 560 = .ok (.iload_n 3, 1) := by decide +kernel
theorem md_W_law_561 : decode mc_W_law 561 = .ok (.iconst 3, 1) := by decide +kernel
theorem md_W_law_562 : decode mc_W_law 562 = .ok (.iadd, 1) := by decide +kernel
theorem md_W_law_563 : decode mc_W_law 563 = .ok (.iaload, 1) := by decide +kernel
theorem md_W_law_564 : decode mc_W_law 564 = .ok (.i2l, 1) := by decide +kernel
theorem md_W_law_565 : decode mc_W_law 565 = .ok (.ldc2_w 26, 3) := by decide +kernel
theorem md_W_law_568 : decode mc_W_law 568 = .ok (.land, 1) := by decide +kernel
theorem md_W_law_569 : decode mc_W_law 569 = .ok (.lor, 1) := by decide +kernel
theorem md_W_law_570 : decode mc_W_law 570 = .ok (.invokevirtual 58, 3) := by decide +kernel
theorem md_W_law_573 : decode mc_W_law 573 = .ok (.aload_n 2, 1) := by decide +kernel
theorem md_W_law_574 : decode mc_W_law 574 = .ok (.aload_n 0, 1) := by decide +kernel
theorem md_W_law_575 : decode mc_W_law 575 = .ok (.iload_n 3, 1) := by decide +kernel
theorem md_W_law_576 : decode mc_W_law 576 = .ok (.iconst 1, 1) := by decide +kernel
theorem md_W_law_577 : decode mc_W_law 577 = .ok (.iadd, 1) := by decide +kernel
theorem md_W_law_578 : decode mc_W_law 578 = .ok (.iaload, 1) := by decide +kernel
theorem md_W_law_579 : decode mc_W_law 579 = .ok (.aload_n 0, 1) := by decide +kernel
theorem md_W_law_580 : decode mc_W_law 580 = .ok (.iload_n 3, 1) := by decide +kernel
theorem md_W_law_581 : decode mc_W_law 581 = .ok (.iconst 2, 1) := by decide +kernel
theorem md_W_law_582 : decode mc_W_law 582 = .ok (.iadd, 1) := by decide +kernel
theorem md_W_law_583 : decode mc_W_law 583 = .ok (.iaload, 1) := by decide +kernel
theorem md_W_law_584 : decode mc_W_law 584 = .ok (.i2l, 1) := by decide +kernel
theorem md_W_law_585 : decode mc_W_law 585 = .ok (.bipush 32, 2) := by decide +kernel
theorem md_W_law_587 : decode mc_W_law 587 = .ok (.lshl, 1) := by decide +kernel
theorem md_W_law_588 : decode mc_W_law 588 = .ok (.aload_n 0, 1) := by decide +kernel
theorem md_W_law_589 : decode mc_W_law 589 = .ok (.iload_n 3, 1) := by decide +kernel
theorem md_W_law_590 : decode mc_W_law 590 = .ok (.iconst 3, 1) := by decide +kernel
theorem md_W_law_591 : decode mc_W_law 591 = .ok (.iadd, 1) := by decide +kernel
theorem md_W_law_592 : decode mc_W_law 592 = .ok (.iaload, 1) := by decide +kernel
theorem md_W_law_593 : decode mc_W_law 593 = .ok (.i2l, 1) := by decide +kernel
theorem md_W_law_594 : decode mc_W_law 594 = .ok (.ldc2_w 26, 3) := by decide +kernel
theorem md_W_law_597 : decode mc_W_law 597 = .ok (.land, 1) := by decide +kernel
theorem md_W_law_598 : decode mc_W_law 598 = .ok (.lor, 1) := by decide +kernel
theorem md_W_law_599 : decode mc_W_law 599 = .ok (.invokevirtual 61, 3) := by decide +kernel
theorem md_W_law_602 : decode mc_W_law 602 = .ok (.if_icmp .eq 230, 3) := by decide +kernel
theorem md_W_law_605 : decode mc_W_law 605 = .ok (.iconst 0, 1) := by decide +kernel
theorem md_W_law_606 : decode mc_W_law 606 = .ok (.ireturn, 1) := by decide +kernel
theorem md_W_law_607 : decode mc_W_law 607 = .ok (.aload_n 1, 1) := by decide +kernel
theorem md_W_law_608 : decode mc_W_law 608 = .ok (.aload_n 0, 1) := by decide +kernel
theorem md_W_law_609 : decode mc_W_law 609 = .ok (.iload_n 3, 1) := by decide +kernel
theorem md_W_law_610 : decode mc_W_law 610 = .ok (.iconst 1, 1) := by decide +kernel
theorem md_W_law_611 : decode mc_W_law 611 = .ok (.iadd, 1) := by decide +kernel
theorem md_W_law_612 : decode mc_W_law 612 = .ok (.iaload, 1) := by decide +kernel
theorem md_W_law_613 : decode mc_W_law 613 = .ok (.invokevirtual 62, 3) := by decide +kernel
theorem md_W_law_616 : decode mc_W_law 616 = .ok (.aload_n 2, 1) := by decide +kernel
theorem md_W_law_617 : decode mc_W_law 617 = .ok (.aload_n 0, 1) := by decide +kernel
theorem md_W_law_618 : decode mc_W_law 618 = .ok (.iload_n 3, 1) := by decide +kernel
theorem md_W_law_619 : decode mc_W_law 619 = .ok (.iconst 1, 1) := by decide +kernel
theorem md_W_law_620 : decode mc_W_law 620 = .ok (.iadd, 1) := by decide +kernel
theorem md_W_law_621 : decode mc_W_law 621 = .ok (.iaload, 1) := by decide +kernel
theorem md_W_law_622 : decode mc_W_law 622 = .ok (.invokevirtual 66, 3) := by decide +kernel
theorem md_W_law_625 : decode mc_W_law 625 = .ok (.lcmp, 1) := by decide +kernel
theorem md_W_law_626 : decode mc_W_law 626 = .ok (.ifCond .eq 206, 3) := by decide +kernel
theorem md_W_law_629 : decode mc_W_law 629 = .ok (.iconst 0, 1) := by decide +kernel
theorem md_W_law_630 : decode mc_W_law 630 = .ok (.ireturn, 1) := by decide +kernel
theorem md_W_law_631 : decode mc_W_law 631 = .ok (.aload_n 1, 1) := by decide +kernel
theorem md_W_law_632 : decode mc_W_law 632 = .ok (.aload_n 0, 1) := by decide +kernel
theorem md_W_law_633 : decode mc_W_law 633 = .ok (.iload_n 3, 1) := by decide +kernel
theorem md_W_law_634 : decode mc_W_law 634 = .ok (.iconst 1, 1) := by decide +kernel
theorem md_W_law_635 : decode mc_W_law 635 = .ok (.iadd, 1) := by decide +kernel
theorem md_W_law_636 : decode mc_W_law 636 = .ok (.iaload, 1) := by decide +kernel
theorem md_W_law_637 : decode mc_W_law 637 = .ok (.invokevirtual 67, 3) := by decide +kernel
theorem md_W_law_640 : decode mc_W_law 640 = .ok (.aload_n 2, 1) := by decide +kernel
theorem md_W_law_641 : decode mc_W_law 641 = .ok (.aload_n 0, 1) := by decide +kernel
theorem md_W_law_642 : decode mc_W_law 642 = .ok (.iload_n 3, 1) := by decide +kernel
theorem md_W_law_643 : decode mc_W_law 643 = .ok (.iconst 1, 1) := by decide +kernel
theorem md_W_law_644 : decode mc_W_law 644 = .ok (.iadd, 1) := by decide +kernel
theorem md_W_law_645 : decode mc_W_law 645 = .ok (.iaload, 1) := by decide +kernel
theorem md_W_law_646 : decode mc_W_law 646 = .ok (.invokevirtual 71, 3) := by decide +kernel
theorem md_W_law_649 : decode mc_W_law 649 = .ok (.if_icmp .eq 183, 3) := by decide +kernel
theorem md_W_law_652 : decode mc_W_law 652 = .ok (.iconst 0, 1) := by decide +kernel
theorem md_W_law_653 : decode mc_W_law 653 = .ok (.ireturn, 1) := by decide +kernel
theorem md_W_law_654 : decode mc_W_law 654 = .ok (.aload_n 1, 1) := by decide +kernel
theorem md_W_law_655 : decode mc_W_law 655 = .ok (.aload_n 0, 1) := by decide +kernel
theorem md_W_law_656 : decode mc_W_law 656 = .ok (.iload_n 3, 1) := by decide +kernel
theorem md_W_law_657 : decode mc_W_law 657 = .ok (.iconst 1, 1) := by decide +kernel
theorem md_W_law_658 : decode mc_W_law 658 = .ok (.iadd, 1) := by decide +kernel
theorem md_W_law_659 : decode mc_W_law 659 = .ok (.iaload, 1) := by decide +kernel
theorem md_W_law_660 : decode mc_W_law 660 = .ok (.aload_n 0, 1) := by decide +kernel
theorem md_W_law_661 : decode mc_W_law 661 = .ok (.iload_n 3, 1) := by decide +kernel
theorem md_W_law_662 : decode mc_W_law 662 = .ok (.iconst 2, 1) := by decide +kernel
theorem md_W_law_663 : decode mc_W_law 663 = .ok (.iadd, 1) := by decide +kernel
theorem md_W_law_664 : decode mc_W_law 664 = .ok (.iaload, 1) := by decide +kernel
theorem md_W_law_665 : decode mc_W_law 665 = .ok (.invokevirtual 72, 3) := by decide +kernel
theorem md_W_law_668 : decode mc_W_law 668 = .ok (.aload_n 2, 1) := by decide +kernel
theorem md_W_law_669 : decode mc_W_law 669 = .ok (.aload_n 0, 1) := by decide +kernel
theorem md_W_law_670 : decode mc_W_law 670 = .ok (.iload_n 3, 1) := by decide +kernel
theorem md_W_law_671 : decode mc_W_law 671 = .ok (.iconst 1, 1) := by decide +kernel
theorem md_W_law_672 : decode mc_W_law 672 = .ok (.iadd, 1) := by decide +kernel
theorem md_W_law_673 : decode mc_W_law 673 = .ok (.iaload, 1) := by decide +kernel
theorem md_W_law_674 : decode mc_W_law 674 = .ok (.aload_n 0, 1) := by decide +kernel
theorem md_W_law_675 : decode mc_W_law 675 = .ok (.iload_n 3, 1) := by decide +kernel
theorem md_W_law_676 : decode mc_W_law 676 = .ok (.iconst 2, 1) := by decide +kernel
theorem md_W_law_677 : decode mc_W_law 677 = .ok (.iadd, 1) := by decide +kernel
theorem md_W_law_678 : decode mc_W_law 678 = .ok (.iaload, 1) := by decide +kernel
theorem md_W_law_679 : decode mc_W_law 679 = .ok (.invokevirtual 76, 3) := by decide +kernel
theorem md_W_law_682 : decode mc_W_law 682 = .ok (.if_icmp .eq 150, 3) := by decide +kernel
theorem md_W_law_685 : decode mc_W_law 685 = .ok (.iconst 0, 1) := by decide +kernel
theorem md_W_law_686 : decode mc_W_law 686 = .ok (.ireturn, 1) := by decide +kernel
theorem md_W_law_687 : decode mc_W_law 687 = .ok (.aload_n 1, 1) := by decide +kernel
theorem md_W_law_688 : decode mc_W_law 688 = .ok (.aload_n 0, 1) := by decide +kernel
theorem md_W_law_689 : decode mc_W_law 689 = .ok (.iload_n 3, 1) := by decide +kernel
theorem md_W_law_690 : decode mc_W_law 690 = .ok (.iconst 1, 1) := by decide +kernel
theorem md_W_law_691 : decode mc_W_law 691 = .ok (.iadd, 1) := by decide +kernel
theorem md_W_law_692 : decode mc_W_law 692 = .ok (.iaload, 1) := by decide +kernel
theorem md_W_law_693 : decode mc_W_law 693 = .ok (.invokevirtual 77, 3) := by decide +kernel
theorem md_W_law_696 : decode mc_W_law 696 = .ok (.aload_n 2, 1) := by decide +kernel
theorem md_W_law_697 : decode mc_W_law 697 = .ok (.aload_n 0, 1) := by decide +kernel
theorem md_W_law_698 : decode mc_W_law 698 = .ok (.iload_n 3, 1) := by decide +kernel
theorem md_W_law_699 : decode mc_W_law 699 = .ok (.iconst 1, 1) := by decide +kernel
theorem md_W_law_700 : decode mc_W_law 700 = .ok (.iadd, 1) := by decide +kernel
theorem md_W_law_701 : decode mc_W_law 701 = .ok (.iaload, 1) := by decide +kernel
theorem md_W_law_702 : decode mc_W_law 702 = .ok (.invokevirtual 80, 3) := by decide +kernel
theorem md_W_law_705 : decode mc_W_law 705 = .ok (.if_icmp .eq 127, 3) := by decide +kernel
theorem md_W_law_708 : decode mc_W_law 708 = .ok (.iconst 0, 1) := by decide +kernel
theorem md_W_law_709 : decode mc_W_law 709 = .ok (.ireturn, 1) := by decide +kernel
theorem md_W_law_710 : decode mc_W_law 710 = .ok (.aload_n 1, 1) := by decide +kernel
theorem md_W_law_711 : decode mc_W_law 711 = .ok (.aload_n 0, 1) := by decide +kernel
theorem md_W_law_712 : decode mc_W_law 712 = .ok (.iload_n 3, 1) := by decide +kernel
theorem md_W_law_713 : decode mc_W_law 713 = .ok (.iconst 1, 1) := by decide +kernel
theorem md_W_law_714 : decode mc_W_law 714 = .ok (.iadd, 1) := by decide +kernel
theorem md_W_law_715 : decode mc_W_law 715 = .ok (.iaload, 1) := by decide +kernel
theorem md_W_law_716 : decode mc_W_law 716 = .ok (.aload_n 0, 1) := by decide +kernel
theorem md_W_law_717 : decode mc_W_law 717 = .ok (.iload_n 3, 1) := by decide +kernel
theorem md_W_law_718 : decode mc_W_law 718 = .ok (.iconst 2, 1) := by decide +kernel
theorem md_W_law_719 : decode mc_W_law 719 = .ok (.iadd, 1) := by decide +kernel
theorem md_W_law_720 : decode mc_W_law 720 = .ok (.iaload, 1) := by decide +kernel
theorem md_W_law_721 : decode mc_W_law 721 = .ok (.invokevirtual 81, 3) := by decide +kernel
theorem md_W_law_724 : decode mc_W_law 724 = .ok (.aload_n 2, 1) := by decide +kernel
theorem md_W_law_725 : decode mc_W_law 725 = .ok (.aload_n 0, 1) := by decide +kernel
theorem md_W_law_726 : decode mc_W_law 726 = .ok (.iload_n 3, 1) := by decide +kernel
theorem md_W_law_727 : decode mc_W_law 727 = .ok (.iconst 1, 1) := by decide +kernel
theorem md_W_law_728 : decode mc_W_law 728 = .ok (.iadd, 1) := by decide +kernel
theorem md_W_law_729 : decode mc_W_law 729 = .ok (.iaload, 1) := by decide +kernel
theorem md_W_law_730 : decode mc_W_law 730 = .ok (.aload_n 0, 1) := by decide +kernel
theorem md_W_law_731 : decode mc_W_law 731 = .ok (.iload_n 3, 1) := by decide +kernel
theorem md_W_law_732 : decode mc_W_law 732 = .ok (.iconst 2, 1) := by decide +kernel
theorem md_W_law_733 : decode mc_W_law 733 = .ok (.iadd, 1) := by decide +kernel
theorem md_W_law_734 : decode mc_W_law 734 = .ok (.iaload, 1) := by decide +kernel
theorem md_W_law_735 : decode mc_W_law 735 = .ok (.invokevirtual 84, 3) := by decide +kernel
theorem md_W_law_738 : decode mc_W_law 738 = .ok (.if_icmp .eq 94, 3) := by decide +kernel
theorem md_W_law_741 : decode mc_W_law 741 = .ok (.iconst 0, 1) := by decide +kernel
theorem md_W_law_742 : decode mc_W_law 742 = .ok (.ireturn, 1) := by decide +kernel
theorem md_W_law_743 : decode mc_W_law 743 = .ok (.aload_n 1, 1) := by decide +kernel
theorem md_W_law_744 : decode mc_W_law 744 = .ok (.aload_n 0, 1) := by decide +kernel
theorem md_W_law_745 : decode mc_W_law 745 = .ok (.iload_n 3, 1) := by decide +kernel
theorem md_W_law_746 : decode mc_W_law 746 = .ok (.iconst 1, 1) := by decide +kernel
theorem md_W_law_747 : decode mc_W_law 747 = .ok (.iadd, 1) := by decide +kernel
theorem md_W_law_748 : decode mc_W_law 748 = .ok (.iaload, 1) := by decide +kernel
theorem md_W_law_749 : decode mc_W_law 749 = .ok (.aload_n 0, 1) := by decide +kernel
theorem md_W_law_750 : decode mc_W_law 750 = .ok (.iload_n 3, 1) := by decide +kernel
theorem md_W_law_751 : decode mc_W_law 751 = .ok (.iconst 2, 1) := by decide +kernel
theorem md_W_law_752 : decode mc_W_law 752 = .ok (.iadd, 1) := by decide +kernel
theorem md_W_law_753 : decode mc_W_law 753 = .ok (.iaload, 1) := by decide +kernel
theorem md_W_law_754 : decode mc_W_law 754 = .ok (.invokevirtual 85, 3) := by decide +kernel
theorem md_W_law_757 : decode mc_W_law 757 = .ok (.aload_n 2, 1) := by decide +kernel
theorem md_W_law_758 : decode mc_W_law 758 = .ok (.aload_n 0, 1) := by decide +kernel
theorem md_W_law_759 : decode mc_W_law 759 = .ok (.iload_n 3, 1) := by decide +kernel
theorem md_W_law_760 : decode mc_W_law 760 = .ok (.iconst 1, 1) := by decide +kernel
theorem md_W_law_761 : decode mc_W_law 761 = .ok (.iadd, 1) := by decide +kernel
theorem md_W_law_762 : decode mc_W_law 762 = .ok (.iaload, 1) := by decide +kernel
theorem md_W_law_763 : decode mc_W_law 763 = .ok (.aload_n 0, 1) := by decide +kernel
theorem md_W_law_764 : decode mc_W_law 764 = .ok (.iload_n 3, 1) := by decide +kernel
theorem md_W_law_765 : decode mc_W_law 765 = .ok (.iconst 2, 1) := by decide +kernel
theorem md_W_law_766 : decode mc_W_law 766 = .ok (.iadd, 1) := by decide +kernel
theorem md_W_law_767 : decode mc_W_law 767 = .ok (.iaload, 1) := by decide +kernel
theorem md_W_law_768 : decode mc_W_law 768 = .ok (.invokevirtual 88, 3) := by decide +kernel
theorem md_W_law_771 : decode mc_W_law 771 = .ok (.if_icmp .eq 61, 3) := by decide +kernel
theorem md_W_law_774 : decode mc_W_law 774 = .ok (.iconst 0, 1) := by decide +kernel
theorem md_W_law_775 : decode mc_W_law 775 = .ok (.ireturn, 1) := by decide +kernel
theorem md_W_law_776 : decode mc_W_law 776 = .ok (.aload_n 1, 1) := by decide +kernel
theorem md_W_law_777 : decode mc_W_law 777 = .ok (.aload_n 0, 1) := by decide +kernel
theorem md_W_law_778 : decode mc_W_law 778 = .ok (.iload_n 3, 1) := by decide +kernel
theorem md_W_law_779 : decode mc_W_law 779 = .ok (.iconst 1, 1) := by decide +kernel
theorem md_W_law_780 : decode mc_W_law 780 = .ok (.iadd, 1) := by decide +kernel
theorem md_W_law_781 : decode mc_W_law 781 = .ok (.iaload, 1) := by decide +kernel
theorem md_W_law_782 : decode mc_W_law 782 = .ok (.aload_n 0, 1) := by decide +kernel
theorem md_W_law_783 : decode mc_W_law 783 = .ok (.iload_n 3, 1) := by decide +kernel
theorem md_W_law_784 : decode mc_W_law 784 = .ok (.iconst 2, 1) := by decide +kernel
theorem md_W_law_785 : decode mc_W_law 785 = .ok (.iadd, 1) := by decide +kernel
theorem md_W_law_786 : decode mc_W_law 786 = .ok (.iaload, 1) := by decide +kernel
theorem md_W_law_787 : decode mc_W_law 787 = .ok (.invokevirtual 89, 3) := by decide +kernel
theorem md_W_law_790 : decode mc_W_law 790 = .ok (.aload_n 2, 1) := by decide +kernel
theorem md_W_law_791 : decode mc_W_law 791 = .ok (.aload_n 0, 1) := by decide +kernel
theorem md_W_law_792 : decode mc_W_law 792 = .ok (.iload_n 3, 1) := by decide +kernel
theorem md_W_law_793 : decode mc_W_law 793 = .ok (.iconst 1, 1) := by decide +kernel
theorem md_W_law_794 : decode mc_W_law 794 = .ok (.iadd, 1) := by decide +kernel
theorem md_W_law_795 : decode mc_W_law 795 = .ok (.iaload, 1) := by decide +kernel
theorem md_W_law_796 : decode mc_W_law 796 = .ok (.aload_n 0, 1) := by decide +kernel
theorem md_W_law_797 : decode mc_W_law 797 = .ok (.iload_n 3, 1) := by decide +kernel
theorem md_W_law_798 : decode mc_W_law 798 = .ok (.iconst 2, 1) := by decide +kernel
theorem md_W_law_799 : decode mc_W_law 799 = .ok (.iadd, 1) := by decide +kernel
theorem md_W_law_800 : decode mc_W_law 800 = .ok (.iaload, 1) := by decide +kernel
theorem md_W_law_801 : decode mc_W_law 801 = .ok (.invokevirtual 92, 3) := by decide +kernel
theorem md_W_law_804 : decode mc_W_law 804 = .ok (.if_icmp .eq 28, 3) := by decide +kernel
theorem md_W_law_807 : decode mc_W_law 807 = .ok (.iconst 0, 1) := by decide +kernel
theorem md_W_law_808 : decode mc_W_law 808 = .ok (.ireturn, 1) := by decide +kernel
theorem md_W_law_809 : decode mc_W_law 809 = .ok (.aload_n 1, 1) := by decide +kernel
theorem md_W_law_810 : decode mc_W_law 810 = .ok (.aload_n 0, 1) := by decide +kernel
theorem md_W_law_811 : decode mc_W_law 811 = .ok (.iload_n 3, 1) := by decide +kernel
theorem md_W_law_812 : decode mc_W_law 812 = .ok (.iconst 1, 1) := by decide +kernel
theorem md_W_law_813 : decode mc_W_law 813 = .ok (.iadd, 1) := by decide +kernel
theorem md_W_law_814 : decode mc_W_law 814 = .ok (.iaload, 1) := by decide +kernel
theorem md_W_law_815 : decode mc_W_law 815 = .ok (.invokevirtual 93, 3) := by decide +kernel
theorem md_W_law_818 : decode mc_W_law 818 = .ok (.aload_n 2, 1) := by decide +kernel
theorem md_W_law_819 : decode mc_W_law 819 = .ok (.aload_n 0, 1) := by decide +kernel
theorem md_W_law_820 : decode mc_W_law 820 = .ok (.iload_n 3, 1) := by decide +kernel
theorem md_W_law_821 : decode mc_W_law 821 = .ok (.iconst 1, 1) := by decide +kernel
theorem md_W_law_822 : decode mc_W_law 822 = .ok (.iadd, 1) := by decide +kernel
theorem md_W_law_823 : decode mc_W_law 823 = .ok (.iaload, 1) := by decide +kernel
theorem md_W_law_824 : decode mc_W_law 824 = .ok (.invokevirtual 96, 3) := by decide +kernel
theorem md_W_law_827 : decode mc_W_law 827 = .ok (.if_icmp .eq 5, 3) := by decide +kernel
theorem md_W_law_830 : decode mc_W_law 830 = .ok (.iconst 0, 1) := by decide +kernel
theorem md_W_law_831 : decode mc_W_law 831 = .ok (.ireturn, 1) := by decide +kernel
theorem md_W_law_832 : decode mc_W_law 832 = .ok (.iinc 3 6, 3) := by decide +kernel
theorem md_W_law_835 : decode mc_W_law 835 = .ok (.goto (-807), 3) := by decide +kernel
theorem md_W_law_838 : decode mc_W_law 838 = .ok (.iconst 1, 1) := by decide +kernel
theorem md_W_law_839 : decode mc_W_law 839 = .ok (.ireturn, 1) := by decide +kernel
