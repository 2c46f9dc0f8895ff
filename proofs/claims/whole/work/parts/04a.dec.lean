/-! Decode rows. -/
theorem dF_init_0 : decode b_F_init 0 = .ok (.aload_n 0, 1) := by decide +kernel
theorem dF_init_1 : decode b_F_init 1 = .ok (.invokespecial 1, 3) := by decide +kernel
theorem dF_init_4 : decode b_F_init 4 = .ok (.aload_n 0, 1) := by decide +kernel
theorem dF_init_5 : decode b_F_init 5 = .ok (.iload_n 1, 1) := by decide +kernel
theorem dF_init_6 : decode b_F_init 6 = .ok (.invokestatic 7, 3) := by decide +kernel
theorem dF_init_9 : decode b_F_init 9 = .ok (.putfield 13, 3) := by decide +kernel
theorem dF_init_12 : decode b_F_init 12 = .ok (.return_, 1) := by decide +kernel
theorem dF_leastPrime_0 : decode b_F_leastPrime 0 = .ok (.iload_n 0, 1) := by decide +kernel
theorem dF_leastPrime_1 : decode b_F_leastPrime 1 = .ok (.iconst 2, 1) := by decide +kernel
theorem dF_leastPrime_2 : decode b_F_leastPrime 2 = .ok (.invokestatic 17, 3) := by decide +kernel
theorem dF_leastPrime_5 : decode b_F_leastPrime 5 = .ok (.istore_n 1, 1) := by decide +kernel
theorem dF_leastPrime_6 : decode b_F_leastPrime 6 = .ok (.iload_n 1, 1) := by decide +kernel
theorem dF_leastPrime_7 : decode b_F_leastPrime 7 = .ok (.ldc 23, 2) := by decide +kernel
theorem dF_leastPrime_9 : decode b_F_leastPrime 9 = .ok (.if_icmp .ge 18, 3) := by decide +kernel
theorem dF_leastPrime_12 : decode b_F_leastPrime 12 = .ok (.iload_n 1, 1) := by decide +kernel
theorem dF_leastPrime_13 : decode b_F_leastPrime 13 = .ok (.invokestatic 24, 3) := by decide +kernel
theorem dF_leastPrime_16 : decode b_F_leastPrime 16 = .ok (.ifCond .eq 5, 3) := by decide +kernel
theorem dF_leastPrime_19 : decode b_F_leastPrime 19 = .ok (.iload_n 1, 1) := by decide +kernel
theorem dF_leastPrime_20 : decode b_F_leastPrime 20 = .ok (.ireturn, 1) := by decide +kernel
theorem dF_leastPrime_21 : decode b_F_leastPrime 21 = .ok (.iinc 1 1, 3) := by decide +kernel
theorem dF_leastPrime_24 : decode b_F_leastPrime 24 = .ok (.goto (-18), 3) := by decide +kernel
theorem dF_leastPrime_27 : decode b_F_leastPrime 27 = .ok (.ldc 23, 2) := by decide +kernel
theorem dF_leastPrime_29 : decode b_F_leastPrime 29 = .ok (.ireturn, 1) := by decide +kernel
theorem dJm_max_0 : decode b_Jm_max 0 = .ok (.iload_n 0, 1) := by decide +kernel
theorem dJm_max_1 : decode b_Jm_max 1 = .ok (.iload_n 1, 1) := by decide +kernel
theorem dJm_max_2 : decode b_Jm_max 2 = .ok (.if_icmp .lt 7, 3) := by decide +kernel
theorem dJm_max_5 : decode b_Jm_max 5 = .ok (.iload_n 0, 1) := by decide +kernel
theorem dJm_max_6 : decode b_Jm_max 6 = .ok (.goto 4, 3) := by decide +kernel
theorem dJm_max_9 : decode b_Jm_max 9 = .ok (.iload_n 1, 1) := by decide +kernel
theorem dJm_max_10 : decode b_Jm_max 10 = .ok (.ireturn, 1) := by decide +kernel
theorem dF_isPrime_0 : decode b_F_isPrime 0 = .ok (.iconst 2, 1) := by decide +kernel
theorem dF_isPrime_1 : decode b_F_isPrime 1 = .ok (.istore_n 1, 1) := by decide +kernel
theorem dF_isPrime_2 : decode b_F_isPrime 2 = .ok (.iload_n 1, 1) := by decide +kernel
theorem dF_isPrime_3 : decode b_F_isPrime 3 = .ok (.iload_n 1, 1) := by decide +kernel
theorem dF_isPrime_4 : decode b_F_isPrime 4 = .ok (.imul, 1) := by decide +kernel
theorem dF_isPrime_5 : decode b_F_isPrime 5 = .ok (.iload_n 0, 1) := by decide +kernel
theorem dF_isPrime_6 : decode b_F_isPrime 6 = .ok (.if_icmp .gt 17, 3) := by decide +kernel
theorem dF_isPrime_9 : decode b_F_isPrime 9 = .ok (.iload_n 0, 1) := by decide +kernel
theorem dF_isPrime_10 : decode b_F_isPrime 10 = .ok (.iload_n 1, 1) := by decide +kernel
theorem dF_isPrime_11 : decode b_F_isPrime 11 = .ok (.irem, 1) := by decide +kernel
theorem dF_isPrime_12 : decode b_F_isPrime 12 = .ok (.ifCond .ne 5, 3) := by decide +kernel
theorem dF_isPrime_15 : decode b_F_isPrime 15 = .ok (.iconst 0, 1) := by decide +kernel
theorem dF_isPrime_16 : decode b_F_isPrime 16 = .ok (.ireturn, 1) := by decide +kernel
theorem dF_isPrime_17 : decode b_F_isPrime 17 = .ok (.iinc 1 1, 3) := by decide +kernel
theorem dF_isPrime_20 : decode b_F_isPrime 20 = .ok (.goto (-18), 3) := by decide +kernel
theorem dF_isPrime_23 : decode b_F_isPrime 23 = .ok (.iconst 1, 1) := by decide +kernel
theorem dF_isPrime_24 : decode b_F_isPrime 24 = .ok (.ireturn, 1) := by decide +kernel
theorem dS_init_0 : decode b_S_init 0 = .ok (.aload_n 0, 1) := by decide +kernel
theorem dS_init_1 : decode b_S_init 1 = .ok (.invokespecial 1, 3) := by decide +kernel
theorem dS_init_4 : decode b_S_init 4 = .ok (.aload_n 0, 1) := by decide +kernel
theorem dS_init_5 : decode b_S_init 5 = .ok (.sipush 9139, 3) := by decide +kernel
theorem dS_init_8 : decode b_S_init 8 = .ok (.newarray .int, 2) := by decide +kernel
theorem dS_init_10 : decode b_S_init 10 = .ok (.putfield 9, 3) := by decide +kernel
theorem dS_init_13 : decode b_S_init 13 = .ok (.aload_n 0, 1) := by decide +kernel
theorem dS_init_14 : decode b_S_init 14 = .ok (.sipush 2368, 3) := by decide +kernel
theorem dS_init_17 : decode b_S_init 17 = .ok (.newarray .int, 2) := by decide +kernel
theorem dS_init_19 : decode b_S_init 19 = .ok (.putfield 15, 3) := by decide +kernel
theorem dS_init_22 : decode b_S_init 22 = .ok (.aload_n 0, 1) := by decide +kernel
theorem dS_init_23 : decode b_S_init 23 = .ok (.sipush 9139, 3) := by decide +kernel
theorem dS_init_26 : decode b_S_init 26 = .ok (.newarray .int, 2) := by decide +kernel
theorem dS_init_28 : decode b_S_init 28 = .ok (.putfield 18, 3) := by decide +kernel
theorem dS_init_31 : decode b_S_init 31 = .ok (.aload_n 0, 1) := by decide +kernel
theorem dS_init_32 : decode b_S_init 32 = .ok (.aload_n 1, 1) := by decide +kernel
theorem dS_init_33 : decode b_S_init 33 = .ok (.putfield 21, 3) := by decide +kernel
theorem dS_init_36 : decode b_S_init 36 = .ok (.iconst 0, 1) := by decide +kernel
theorem dS_init_37 : decode b_S_init 37 = .ok (.istore_n 2, 1) := by decide +kernel
theorem dS_init_38 : decode b_S_init 38 = .ok (.iconst 0, 1) := by decide +kernel
theorem dS_init_39 : decode b_S_init 39 = .ok (.istore_n 3, 1) := by decide +kernel
theorem dS_init_40 : decode b_S_init 40 = .ok (.iload_n 3, 1) := by decide +kernel
theorem dS_init_41 : decode b_S_init 41 = .ok (.bipush 36, 2) := by decide +kernel
theorem dS_init_43 : decode b_S_init 43 = .ok (.if_icmp .gt 78, 3) := by decide +kernel
theorem dS_init_46 : decode b_S_init 46 = .ok (.iconst 0, 1) := by decide +kernel
theorem dS_init_47 : decode b_S_init 47 = .ok (.istore 4, 2) := by decide +kernel
theorem dS_init_49 : decode b_S_init 49 = .ok (.iload 4, 2) := by decide +kernel
theorem dS_init_51 : decode b_S_init 51 = .ok (.iload_n 3, 1) := by decide +kernel
theorem dS_init_52 : decode b_S_init 52 = .ok (.if_icmp .gt 63, 3) := by decide +kernel
theorem dS_init_55 : decode b_S_init 55 = .ok (.aload_n 0, 1) := by decide +kernel
theorem dS_init_56 : decode b_S_init 56 = .ok (.getfield 15, 3) := by decide +kernel
theorem dS_init_59 : decode b_S_init 59 = .ok (.iload_n 3, 1) := by decide +kernel
theorem dS_init_60 : decode b_S_init 60 = .ok (.bipush 6, 2) := by decide +kernel
theorem dS_init_62 : decode b_S_init 62 = .ok (.ishl, 1) := by decide +kernel
theorem dS_init_63 : decode b_S_init 63 = .ok (.iload 4, 2) := by decide +kernel
theorem dS_init_65 : decode b_S_init 65 = .ok (.ior, 1) := by decide +kernel
theorem dS_init_66 : decode b_S_init 66 = .ok (.iload_n 2, 1) := by decide +kernel
theorem dS_init_67 : decode b_S_init 67 = .ok (.iastore, 1) := by decide +kernel
theorem dS_init_68 : decode b_S_init 68 = .ok (.iconst 0, 1) := by decide +kernel
theorem dS_init_69 : decode b_S_init 69 = .ok (.istore 5, 2) := by decide +kernel
theorem dS_init_71 : decode b_S_init 71 = .ok (.iload 5, 2) := by decide +kernel
theorem dS_init_73 : decode b_S_init 73 = .ok (.iload_n 3, 1) := by decide +kernel
theorem dS_init_74 : decode b_S_init 74 = .ok (.iload 4, 2) := by decide +kernel
theorem dS_init_76 : decode b_S_init 76 = .ok (.isub, 1) := by decide +kernel
theorem dS_init_77 : decode b_S_init 77 = .ok (.if_icmp .gt 32, 3) := by decide +kernel
theorem dS_init_80 : decode b_S_init 80 = .ok (.aload_n 0, 1) := by decide +kernel
theorem dS_init_81 : decode b_S_init 81 = .ok (.getfield 9, 3) := by decide +kernel
theorem dS_init_84 : decode b_S_init 84 = .ok (.iload_n 2, 1) := by decide +kernel
theorem dS_init_85 : decode b_S_init 85 = .ok (.iload 4, 2) := by decide +kernel
theorem dS_init_87 : decode b_S_init 87 = .ok (.iload 5, 2) := by decide +kernel
theorem dS_init_89 : decode b_S_init 89 = .ok (.iload_n 3, 1) := by decide +kernel
theorem dS_init_90 : decode b_S_init 90 = .ok (.iload 4, 2) := by decide +kernel
theorem dS_init_92 : decode b_S_init 92 = .ok (.isub, 1) := by decide +kernel
theorem dS_init_93 : decode b_S_init 93 = .ok (.iload 5, 2) := by decide +kernel
theorem dS_init_95 : decode b_S_init 95 = .ok (.isub, 1) := by decide +kernel
theorem dS_init_96 : decode b_S_init 96 = .ok (.invokestatic 25, 3) := by decide +kernel
theorem dS_init_99 : decode b_S_init 99 = .ok (.iastore, 1) := by decide +kernel
theorem dS_init_100 : decode b_S_init 100 = .ok (.iinc 2 1, 3) := by decide +kernel
theorem dS_init_103 : decode b_S_init 103 = .ok (.iinc 5 1, 3) := by decide +kernel
theorem dS_init_106 : decode b_S_init 106 = .ok (.goto (-35), 3) := by decide +kernel
theorem dS_init_109 : decode b_S_init 109 = .ok (.iinc 4 1, 3) := by decide +kernel
theorem dS_init_112 : decode b_S_init 112 = .ok (.goto (-63), 3) := by decide +kernel
theorem dS_init_115 : decode b_S_init 115 = .ok (.iinc 3 1, 3) := by decide +kernel
theorem dS_init_118 : decode b_S_init 118 = .ok (.goto (-78), 3) := by decide +kernel
theorem dS_init_121 : decode b_S_init 121 = .ok (.return_, 1) := by decide +kernel
theorem dQ_of_0 : decode b_Q_of 0 = .ok (.iload_n 0, 1) := by decide +kernel
theorem dQ_of_1 : decode b_Q_of 1 = .ok (.iload_n 1, 1) := by decide +kernel
theorem dQ_of_2 : decode b_Q_of 2 = .ok (.iadd, 1) := by decide +kernel
theorem dQ_of_3 : decode b_Q_of 3 = .ok (.iload_n 2, 1) := by decide +kernel
theorem dQ_of_4 : decode b_Q_of 4 = .ok (.iadd, 1) := by decide +kernel
theorem dQ_of_5 : decode b_Q_of 5 = .ok (.bipush 6, 2) := by decide +kernel
theorem dQ_of_7 : decode b_Q_of 7 = .ok (.ishl, 1) := by decide +kernel
theorem dQ_of_8 : decode b_Q_of 8 = .ok (.iload_n 0, 1) := by decide +kernel
theorem dQ_of_9 : decode b_Q_of 9 = .ok (.ior, 1) := by decide +kernel
theorem dQ_of_10 : decode b_Q_of 10 = .ok (.bipush 6, 2) := by decide +kernel
theorem dQ_of_12 : decode b_Q_of 12 = .ok (.ishl, 1) := by decide +kernel
theorem dQ_of_13 : decode b_Q_of 13 = .ok (.iload_n 1, 1) := by decide +kernel
theorem dQ_of_14 : decode b_Q_of 14 = .ok (.ior, 1) := by decide +kernel
theorem dQ_of_15 : decode b_Q_of 15 = .ok (.bipush 6, 2) := by decide +kernel
theorem dQ_of_17 : decode b_Q_of 17 = .ok (.ishl, 1) := by decide +kernel
theorem dQ_of_18 : decode b_Q_of 18 = .ok (.iload_n 2, 1) := by decide +kernel
theorem dQ_of_19 : decode b_Q_of 19 = .ok (.ior, 1) := by decide +kernel
theorem dQ_of_20 : decode b_Q_of 20 = .ok (.ireturn, 1) := by decide +kernel
theorem dT_init_0 : decode b_T_init 0 = .ok (.aload_n 0, 1) := by decide +kernel
theorem dT_init_1 : decode b_T_init 1 = .ok (.invokespecial 3, 3) := by decide +kernel
theorem dT_init_4 : decode b_T_init 4 = .ok (.aload_n 0, 1) := by decide +kernel
theorem dT_init_5 : decode b_T_init 5 = .ok (.iconst 3, 1) := by decide +kernel
theorem dT_init_6 : decode b_T_init 6 = .ok (.bipush 37, 2) := by decide +kernel
theorem dT_init_8 : decode b_T_init 8 = .ok (.multianewarray 11 2, 4) := by decide +kernel
theorem dT_init_12 : decode b_T_init 12 = .ok (.putfield 13, 3) := by decide +kernel
theorem dT_init_15 : decode b_T_init 15 = .ok (.aload_n 0, 1) := by decide +kernel
theorem dT_init_16 : decode b_T_init 16 = .ok (.aload_n 1, 1) := by decide +kernel
theorem dT_init_17 : decode b_T_init 17 = .ok (.putfield 18, 3) := by decide +kernel
theorem dT_init_20 : decode b_T_init 20 = .ok (.return_, 1) := by decide +kernel
theorem dP_init_0 : decode b_P_init 0 = .ok (.aload_n 0, 1) := by decide +kernel
theorem dP_init_1 : decode b_P_init 1 = .ok (.invokespecial 1, 3) := by decide +kernel
theorem dP_init_4 : decode b_P_init 4 = .ok (.aload_n 0, 1) := by decide +kernel
theorem dP_init_5 : decode b_P_init 5 = .ok (.bipush 16, 2) := by decide +kernel
theorem dP_init_7 : decode b_P_init 7 = .ok (.newarray .int, 2) := by decide +kernel
theorem dP_init_9 : decode b_P_init 9 = .ok (.putfield 9, 3) := by decide +kernel
theorem dP_init_12 : decode b_P_init 12 = .ok (.aload_n 0, 1) := by decide +kernel
theorem dP_init_13 : decode b_P_init 13 = .ok (.bipush 16, 2) := by decide +kernel
theorem dP_init_15 : decode b_P_init 15 = .ok (.newarray .int, 2) := by decide +kernel
theorem dP_init_17 : decode b_P_init 17 = .ok (.putfield 13, 3) := by decide +kernel
theorem dP_init_20 : decode b_P_init 20 = .ok (.return_, 1) := by decide +kernel
theorem dP_isZero_0 : decode b_P_isZero 0 = .ok (.aload_n 0, 1) := by decide +kernel
theorem dP_isZero_1 : decode b_P_isZero 1 = .ok (.getfield 16, 3) := by decide +kernel
theorem dP_isZero_4 : decode b_P_isZero 4 = .ok (.ifCond .ne 7, 3) := by decide +kernel
theorem dP_isZero_7 : decode b_P_isZero 7 = .ok (.iconst 1, 1) := by decide +kernel
theorem dP_isZero_8 : decode b_P_isZero 8 = .ok (.goto 4, 3) := by decide +kernel
theorem dP_isZero_11 : decode b_P_isZero 11 = .ok (.iconst 0, 1) := by decide +kernel
theorem dP_isZero_12 : decode b_P_isZero 12 = .ok (.ireturn, 1) := by decide +kernel
theorem dP_degreeIn_0 : decode b_P_degreeIn 0 = .ok (.iconst 0, 1) := by decide +kernel
theorem dP_degreeIn_1 : decode b_P_degreeIn 1 = .ok (.istore_n 2, 1) := by decide +kernel
theorem dP_degreeIn_2 : decode b_P_degreeIn 2 = .ok (.iconst 0, 1) := by decide +kernel
theorem dP_degreeIn_3 : decode b_P_degreeIn 3 = .ok (.istore_n 3, 1) := by decide +kernel
theorem dP_degreeIn_4 : decode b_P_degreeIn 4 = .ok (.iload_n 3, 1) := by decide +kernel
theorem dP_degreeIn_5 : decode b_P_degreeIn 5 = .ok (.aload_n 0, 1) := by decide +kernel
theorem dP_degreeIn_6 : decode b_P_degreeIn 6 = .ok (.getfield 16, 3) := by decide +kernel
theorem dP_degreeIn_9 : decode b_P_degreeIn 9 = .ok (.if_icmp .ge 24, 3) := by decide +kernel
theorem dP_degreeIn_12 : decode b_P_degreeIn 12 = .ok (.iload_n 2, 1) := by decide +kernel
theorem dP_degreeIn_13 : decode b_P_degreeIn 13 = .ok (.aload_n 0, 1) := by decide +kernel
theorem dP_degreeIn_14 : decode b_P_degreeIn 14 = .ok (.getfield 9, 3) := by decide +kernel
theorem dP_degreeIn_17 : decode b_P_degreeIn 17 = .ok (.iload_n 3, 1) := by decide +kernel
theorem dP_degreeIn_18 : decode b_P_degreeIn 18 = .ok (.iaload, 1) := by decide +kernel
theorem dP_degreeIn_19 : decode b_P_degreeIn 19 = .ok (.iload_n 1, 1) := by decide +kernel
theorem dP_degreeIn_20 : decode b_P_degreeIn 20 = .ok (.invokestatic 35, 3) := by decide +kernel
theorem dP_degreeIn_23 : decode b_P_degreeIn 23 = .ok (.invokestatic 39, 3) := by decide +kernel
theorem dP_degreeIn_26 : decode b_P_degreeIn 26 = .ok (.istore_n 2, 1) := by decide +kernel
theorem dP_degreeIn_27 : decode b_P_degreeIn 27 = .ok (.iinc 3 1, 3) := by decide +kernel
theorem dP_degreeIn_30 : decode b_P_degreeIn 30 = .ok (.goto (-26), 3) := by decide +kernel
theorem dP_degreeIn_33 : decode b_P_degreeIn 33 = .ok (.iload_n 2, 1) := by decide +kernel
theorem dP_degreeIn_34 : decode b_P_degreeIn 34 = .ok (.ireturn, 1) := by decide +kernel
theorem dQ_exponent_0 : decode b_Q_exponent 0 = .ok (.iload_n 0, 1) := by decide +kernel
theorem dQ_exponent_1 : decode b_Q_exponent 1 = .ok (.iconst 2, 1) := by decide +kernel
theorem dQ_exponent_2 : decode b_Q_exponent 2 = .ok (.iload_n 1, 1) := by decide +kernel
theorem dQ_exponent_3 : decode b_Q_exponent 3 = .ok (.isub, 1) := by decide +kernel
theorem dQ_exponent_4 : decode b_Q_exponent 4 = .ok (.bipush 6, 2) := by decide +kernel
theorem dQ_exponent_6 : decode b_Q_exponent 6 = .ok (.imul, 1) := by decide +kernel
theorem dQ_exponent_7 : decode b_Q_exponent 7 = .ok (.ishr, 1) := by decide +kernel
theorem dQ_exponent_8 : decode b_Q_exponent 8 = .ok (.bipush 63, 2) := by decide +kernel
theorem dQ_exponent_10 : decode b_Q_exponent 10 = .ok (.iand, 1) := by decide +kernel
theorem dQ_exponent_11 : decode b_Q_exponent 11 = .ok (.ireturn, 1) := by decide +kernel
theorem dF_reduced_0 : decode b_F_reduced 0 = .ok (.iload_n 1, 1) := by decide +kernel
theorem dF_reduced_1 : decode b_F_reduced 1 = .ok (.aload_n 0, 1) := by decide +kernel
theorem dF_reduced_2 : decode b_F_reduced 2 = .ok (.getfield 13, 3) := by decide +kernel
theorem dF_reduced_5 : decode b_F_reduced 5 = .ok (.invokestatic 28, 3) := by decide +kernel
theorem dF_reduced_8 : decode b_F_reduced 8 = .ok (.ireturn, 1) := by decide +kernel
theorem dJm_floorMod_0 : decode b_Jm_floorMod 0 = .ok (.iload_n 0, 1) := by decide +kernel
theorem dJm_floorMod_1 : decode b_Jm_floorMod 1 = .ok (.iload_n 1, 1) := by decide +kernel
theorem dJm_floorMod_2 : decode b_Jm_floorMod 2 = .ok (.irem, 1) := by decide +kernel
theorem dJm_floorMod_3 : decode b_Jm_floorMod 3 = .ok (.istore_n 2, 1) := by decide +kernel
theorem dJm_floorMod_4 : decode b_Jm_floorMod 4 = .ok (.iload_n 0, 1) := by decide +kernel
theorem dJm_floorMod_5 : decode b_Jm_floorMod 5 = .ok (.iload_n 1, 1) := by decide +kernel
theorem dJm_floorMod_6 : decode b_Jm_floorMod 6 = .ok (.ixor, 1) := by decide +kernel
theorem dJm_floorMod_7 : decode b_Jm_floorMod 7 = .ok (.ifCond .ge 11, 3) := by decide +kernel
theorem dJm_floorMod_10 : decode b_Jm_floorMod 10 = .ok (.iload_n 2, 1) := by decide +kernel
theorem dJm_floorMod_11 : decode b_Jm_floorMod 11 = .ok (.ifCond .eq 7, 3) := by decide +kernel
theorem dJm_floorMod_14 : decode b_Jm_floorMod 14 = .ok (.iload_n 2, 1) := by decide +kernel
theorem dJm_floorMod_15 : decode b_Jm_floorMod 15 = .ok (.iload_n 1, 1) := by decide +kernel
theorem dJm_floorMod_16 : decode b_Jm_floorMod 16 = .ok (.iadd, 1) := by decide +kernel
theorem dJm_floorMod_17 : decode b_Jm_floorMod 17 = .ok (.ireturn, 1) := by decide +kernel
theorem dJm_floorMod_18 : decode b_Jm_floorMod 18 = .ok (.iload_n 2, 1) := by decide +kernel
theorem dJm_floorMod_19 : decode b_Jm_floorMod 19 = .ok (.ireturn, 1) := by decide +kernel
theorem dP_becomeNumber_0 : decode b_P_becomeNumber 0 = .ok (.aload_n 0, 1) := by decide +kernel
theorem dP_becomeNumber_1 : decode b_P_becomeNumber 1 = .ok (.invokevirtual 26, 3) := by decide +kernel
theorem dP_becomeNumber_4 : decode b_P_becomeNumber 4 = .ok (.iload_n 1, 1) := by decide +kernel
theorem dP_becomeNumber_5 : decode b_P_becomeNumber 5 = .ok (.ifCond .eq 9, 3) := by decide +kernel
theorem dP_becomeNumber_8 : decode b_P_becomeNumber 8 = .ok (.aload_n 0, 1) := by decide +kernel
theorem dP_becomeNumber_9 : decode b_P_becomeNumber 9 = .ok (.iconst 0, 1) := by decide +kernel
theorem dP_becomeNumber_10 : decode b_P_becomeNumber 10 = .ok (.iload_n 1, 1) := by decide +kernel
theorem dP_becomeNumber_11 : decode b_P_becomeNumber 11 = .ok (.invokevirtual 31, 3) := by decide +kernel
theorem dP_becomeNumber_14 : decode b_P_becomeNumber 14 = .ok (.return_, 1) := by decide +kernel
theorem dP_clear_0 : decode b_P_clear 0 = .ok (.aload_n 0, 1) := by decide +kernel
theorem dP_clear_1 : decode b_P_clear 1 = .ok (.iconst 0, 1) := by decide +kernel
theorem dP_clear_2 : decode b_P_clear 2 = .ok (.putfield 16, 3) := by decide +kernel
theorem dP_clear_5 : decode b_P_clear 5 = .ok (.return_, 1) := by decide +kernel
theorem dP_append_0 : decode b_P_append 0 = .ok (.aload_n 0, 1) := by decide +kernel
theorem dP_append_1 : decode b_P_append 1 = .ok (.getfield 16, 3) := by decide +kernel
theorem dP_append_4 : decode b_P_append 4 = .ok (.aload_n 0, 1) := by decide +kernel
theorem dP_append_5 : decode b_P_append 5 = .ok (.getfield 9, 3) := by decide +kernel
theorem dP_append_8 : decode b_P_append 8 = .ok (.arraylength, 1) := by decide +kernel
theorem dP_append_9 : decode b_P_append 9 = .ok (.if_icmp .ne 37, 3) := by decide +kernel
theorem dP_append_12 : decode b_P_append 12 = .ok (.aload_n 0, 1) := by decide +kernel
theorem dP_append_13 : decode b_P_append 13 = .ok (.aload_n 0, 1) := by decide +kernel
theorem dP_append_14 : decode b_P_append 14 = .ok (.getfield 9, 3) := by decide +kernel
theorem dP_append_17 : decode b_P_append 17 = .ok (.iconst 2, 1) := by decide +kernel
theorem dP_append_18 : decode b_P_append 18 = .ok (.aload_n 0, 1) := by decide +kernel
theorem dP_append_19 : decode b_P_append 19 = .ok (.getfield 16, 3) := by decide +kernel
theorem dP_append_22 : decode b_P_append 22 = .ok (.imul, 1) := by decide +kernel
theorem dP_append_23 : decode b_P_append 23 = .ok (.invokestatic 20, 3) := by decide +kernel
theorem dP_append_26 : decode b_P_append 26 = .ok (.putfield 9, 3) := by decide +kernel
theorem dP_append_29 : decode b_P_append 29 = .ok (.aload_n 0, 1) := by decide +kernel
theorem dP_append_30 : decode b_P_append 30 = .ok (.aload_n 0, 1) := by decide +kernel
theorem dP_append_31 : decode b_P_append 31 = .ok (.getfield 13, 3) := by decide +kernel
theorem dP_append_34 : decode b_P_append 34 = .ok (.iconst 2, 1) := by decide +kernel
theorem dP_append_35 : decode b_P_append 35 = .ok (.aload_n 0, 1) := by decide +kernel
theorem dP_append_36 : decode b_P_append 36 = .ok (.getfield 16, 3) := by decide +kernel
theorem dP_append_39 : decode b_P_append 39 = .ok (.imul, 1) := by decide +kernel
theorem dP_append_40 : decode b_P_append 40 = .ok (.invokestatic 20, 3) := by decide +kernel
theorem dP_append_43 : decode b_P_append 43 = .ok (.putfield 13, 3) := by decide +kernel
theorem dP_append_46 : decode b_P_append 46 = .ok (.aload_n 0, 1) := by decide +kernel
theorem dP_append_47 : decode b_P_append 47 = .ok (.getfield 9, 3) := by decide +kernel
theorem dP_append_50 : decode b_P_append 50 = .ok (.aload_n 0, 1) := by decide +kernel
theorem dP_append_51 : decode b_P_append 51 = .ok (.getfield 16, 3) := by decide +kernel
theorem dP_append_54 : decode b_P_append 54 = .ok (.iload_n 1, 1) := by decide +kernel
theorem dP_append_55 : decode b_P_append 55 = .ok (.iastore, 1) := by decide +kernel
theorem dP_append_56 : decode b_P_append 56 = .ok (.aload_n 0, 1) := by decide +kernel
theorem dP_append_57 : decode b_P_append 57 = .ok (.getfield 13, 3) := by decide +kernel
theorem dP_append_60 : decode b_P_append 60 = .ok (.aload_n 0, 1) := by decide +kernel
theorem dP_append_61 : decode b_P_append 61 = .ok (.getfield 16, 3) := by decide +kernel
theorem dP_append_64 : decode b_P_append 64 = .ok (.iload_n 2, 1) := by decide +kernel
theorem dP_append_65 : decode b_P_append 65 = .ok (.iastore, 1) := by decide +kernel
theorem dP_append_66 : decode b_P_append 66 = .ok (.aload_n 0, 1) := by decide +kernel
theorem dP_append_67 : decode b_P_append 67 = .ok (.dup, 1) := by decide +kernel
theorem dP_append_68 : decode b_P_append 68 = .ok (.getfield 16, 3) := by decide +kernel
theorem dP_append_71 : decode b_P_append 71 = .ok (.iconst 1, 1) := by decide +kernel
theorem dP_append_72 : decode b_P_append 72 = .ok (.iadd, 1) := by decide +kernel
theorem dP_append_73 : decode b_P_append 73 = .ok (.putfield 16, 3) := by decide +kernel
theorem dP_append_76 : decode b_P_append 76 = .ok (.return_, 1) := by decide +kernel
theorem dJa_copyOf_0 : decode b_Ja_copyOf 0 = .ok (.iload_n 1, 1) := by decide +kernel
theorem dJa_copyOf_1 : decode b_Ja_copyOf 1 = .ok (.aload_n 0, 1) := by decide +kernel
theorem dJa_copyOf_2 : decode b_Ja_copyOf 2 = .ok (.arraylength, 1) := by decide +kernel
theorem dJa_copyOf_3 : decode b_Ja_copyOf 3 = .ok (.if_icmp .ne 11, 3) := by decide +kernel
theorem dJa_copyOf_6 : decode b_Ja_copyOf 6 = .ok (.aload_n 0, 1) := by decide +kernel
theorem dJa_copyOf_7 : decode b_Ja_copyOf 7 = .ok (.invokevirtual 316, 3) := by decide +kernel
theorem dJa_copyOf_10 : decode b_Ja_copyOf 10 = .ok (.checkcast 317, 3) := by decide +kernel
theorem dJa_copyOf_13 : decode b_Ja_copyOf 13 = .ok (.areturn, 1) := by decide +kernel
theorem dJa_copyOf_14 : decode b_Ja_copyOf 14 = .ok (.iload_n 1, 1) := by decide +kernel
theorem dJa_copyOf_15 : decode b_Ja_copyOf 15 = .ok (.newarray .int, 2) := by decide +kernel
theorem dJa_copyOf_17 : decode b_Ja_copyOf 17 = .ok (.astore_n 2, 1) := by decide +kernel
theorem dJa_copyOf_18 : decode b_Ja_copyOf 18 = .ok (.aload_n 0, 1) := by decide +kernel
theorem dJa_copyOf_19 : decode b_Ja_copyOf 19 = .ok (.iconst 0, 1) := by decide +kernel
theorem dJa_copyOf_20 : decode b_Ja_copyOf 20 = .ok (.aload_n 2, 1) := by decide +kernel
theorem dJa_copyOf_21 : decode b_Ja_copyOf 21 = .ok (.iconst 0, 1) := by decide +kernel
theorem dJa_copyOf_22 : decode b_Ja_copyOf 22 = .ok (.aload_n 0, 1) := by decide +kernel
theorem dJa_copyOf_23 : decode b_Ja_copyOf 23 = .ok (.arraylength, 1) := by decide +kernel
theorem dJa_copyOf_24 : decode b_Ja_copyOf 24 = .ok (.iload_n 1, 1) := by decide +kernel
theorem dJa_copyOf_25 : decode b_Ja_copyOf 25 = .ok (.invokestatic 304, 3) := by decide +kernel
theorem dJa_copyOf_28 : decode b_Ja_copyOf 28 = .ok (.invokestatic 150, 3) := by decide +kernel
theorem dJa_copyOf_31 : decode b_Ja_copyOf 31 = .ok (.aload_n 2, 1) := by decide +kernel
theorem dJa_copyOf_32 : decode b_Ja_copyOf 32 = .ok (.areturn, 1) := by decide +kernel
theorem dJm_min_0 : decode b_Jm_min 0 = .ok (.iload_n 0, 1) := by decide +kernel
theorem dJm_min_1 : decode b_Jm_min 1 = .ok (.iload_n 1, 1) := by decide +kernel
theorem dJm_min_2 : decode b_Jm_min 2 = .ok (.if_icmp .gt 7, 3) := by decide +kernel
theorem dJm_min_5 : decode b_Jm_min 5 = .ok (.iload_n 0, 1) := by decide +kernel
theorem dJm_min_6 : decode b_Jm_min 6 = .ok (.goto 4, 3) := by decide +kernel
theorem dJm_min_9 : decode b_Jm_min 9 = .ok (.iload_n 1, 1) := by decide +kernel
theorem dJm_min_10 : decode b_Jm_min 10 = .ok (.ireturn, 1) := by decide +kernel
theorem dQ_ofVariable_0 : decode b_Q_ofVariable 0 = .ok (.ldc 9, 2) := by decide +kernel
theorem dQ_ofVariable_2 : decode b_Q_ofVariable 2 = .ok (.iconst 1, 1) := by decide +kernel
theorem dQ_ofVariable_3 : decode b_Q_ofVariable 3 = .ok (.iconst 2, 1) := by decide +kernel
theorem dQ_ofVariable_4 : decode b_Q_ofVariable 4 = .ok (.iload_n 0, 1) := by decide +kernel
theorem dQ_ofVariable_5 : decode b_Q_ofVariable 5 = .ok (.isub, 1) := by decide +kernel
theorem dQ_ofVariable_6 : decode b_Q_ofVariable 6 = .ok (.bipush 6, 2) := by decide +kernel
theorem dQ_ofVariable_8 : decode b_Q_ofVariable 8 = .ok (.imul, 1) := by decide +kernel
theorem dQ_ofVariable_9 : decode b_Q_ofVariable 9 = .ok (.ishl, 1) := by decide +kernel
theorem dQ_ofVariable_10 : decode b_Q_ofVariable 10 = .ok (.ior, 1) := by decide +kernel
theorem dQ_ofVariable_11 : decode b_Q_ofVariable 11 = .ok (.ireturn, 1) := by decide +kernel
theorem dS_addMultiple_0 : decode b_S_addMultiple 0 = .ok (.iconst 0, 1) := by decide +kernel
theorem dS_addMultiple_1 : decode b_S_addMultiple 1 = .ok (.istore 4, 2) := by decide +kernel
theorem dS_addMultiple_3 : decode b_S_addMultiple 3 = .ok (.iload 4, 2) := by decide +kernel
theorem dS_addMultiple_5 : decode b_S_addMultiple 5 = .ok (.aload_n 1, 1) := by decide +kernel
theorem dS_addMultiple_6 : decode b_S_addMultiple 6 = .ok (.getfield 54, 3) := by decide +kernel
theorem dS_addMultiple_9 : decode b_S_addMultiple 9 = .ok (.if_icmp .ge 30, 3) := by decide +kernel
theorem dS_addMultiple_12 : decode b_S_addMultiple 12 = .ok (.aload_n 0, 1) := by decide +kernel
theorem dS_addMultiple_13 : decode b_S_addMultiple 13 = .ok (.aload_n 1, 1) := by decide +kernel
theorem dS_addMultiple_14 : decode b_S_addMultiple 14 = .ok (.getfield 59, 3) := by decide +kernel
theorem dS_addMultiple_17 : decode b_S_addMultiple 17 = .ok (.iload 4, 2) := by decide +kernel
theorem dS_addMultiple_19 : decode b_S_addMultiple 19 = .ok (.iaload, 1) := by decide +kernel
theorem dS_addMultiple_20 : decode b_S_addMultiple 20 = .ok (.iload_n 3, 1) := by decide +kernel
theorem dS_addMultiple_21 : decode b_S_addMultiple 21 = .ok (.iadd, 1) := by decide +kernel
theorem dS_addMultiple_22 : decode b_S_addMultiple 22 = .ok (.iload_n 2, 1) := by decide +kernel
theorem dS_addMultiple_23 : decode b_S_addMultiple 23 = .ok (.aload_n 1, 1) := by decide +kernel
theorem dS_addMultiple_24 : decode b_S_addMultiple 24 = .ok (.getfield 60, 3) := by decide +kernel
theorem dS_addMultiple_27 : decode b_S_addMultiple 27 = .ok (.iload 4, 2) := by decide +kernel
theorem dS_addMultiple_29 : decode b_S_addMultiple 29 = .ok (.iaload, 1) := by decide +kernel
theorem dS_addMultiple_30 : decode b_S_addMultiple 30 = .ok (.invokevirtual 63, 3) := by decide +kernel
theorem dS_addMultiple_33 : decode b_S_addMultiple 33 = .ok (.iinc 4 1, 3) := by decide +kernel
theorem dS_addMultiple_36 : decode b_S_addMultiple 36 = .ok (.goto (-33), 3) := by decide +kernel
theorem dS_addMultiple_39 : decode b_S_addMultiple 39 = .ok (.return_, 1) := by decide +kernel
theorem dS_addTerm_0 : decode b_S_addTerm 0 = .ok (.aload_n 0, 1) := by decide +kernel
theorem dS_addTerm_1 : decode b_S_addTerm 1 = .ok (.iload_n 1, 1) := by decide +kernel
theorem dS_addTerm_2 : decode b_S_addTerm 2 = .ok (.invokevirtual 37, 3) := by decide +kernel
theorem dS_addTerm_5 : decode b_S_addTerm 5 = .ok (.istore 4, 2) := by decide +kernel
theorem dS_addTerm_7 : decode b_S_addTerm 7 = .ok (.aload_n 0, 1) := by decide +kernel
theorem dS_addTerm_8 : decode b_S_addTerm 8 = .ok (.getfield 18, 3) := by decide +kernel
theorem dS_addTerm_11 : decode b_S_addTerm 11 = .ok (.iload 4, 2) := by decide +kernel
theorem dS_addTerm_13 : decode b_S_addTerm 13 = .ok (.aload_n 0, 1) := by decide +kernel
theorem dS_addTerm_14 : decode b_S_addTerm 14 = .ok (.getfield 21, 3) := by decide +kernel
theorem dS_addTerm_17 : decode b_S_addTerm 17 = .ok (.aload_n 0, 1) := by decide +kernel
theorem dS_addTerm_18 : decode b_S_addTerm 18 = .ok (.getfield 18, 3) := by decide +kernel
theorem dS_addTerm_21 : decode b_S_addTerm 21 = .ok (.iload 4, 2) := by decide +kernel
theorem dS_addTerm_23 : decode b_S_addTerm 23 = .ok (.iaload, 1) := by decide +kernel
theorem dS_addTerm_24 : decode b_S_addTerm 24 = .ok (.iload_n 2, 1) := by decide +kernel
theorem dS_addTerm_25 : decode b_S_addTerm 25 = .ok (.iload_n 3, 1) := by decide +kernel
theorem dS_addTerm_26 : decode b_S_addTerm 26 = .ok (.invokevirtual 40, 3) := by decide +kernel
theorem dS_addTerm_29 : decode b_S_addTerm 29 = .ok (.iastore, 1) := by decide +kernel
theorem dS_addTerm_30 : decode b_S_addTerm 30 = .ok (.aload_n 0, 1) := by decide +kernel
theorem dS_addTerm_31 : decode b_S_addTerm 31 = .ok (.aload_n 0, 1) := by decide +kernel
theorem dS_addTerm_32 : decode b_S_addTerm 32 = .ok (.getfield 45, 3) := by decide +kernel
theorem dS_addTerm_35 : decode b_S_addTerm 35 = .ok (.iload 4, 2) := by decide +kernel
theorem dS_addTerm_37 : decode b_S_addTerm 37 = .ok (.iconst 1, 1) := by decide +kernel
theorem dS_addTerm_38 : decode b_S_addTerm 38 = .ok (.iadd, 1) := by decide +kernel
theorem dS_addTerm_39 : decode b_S_addTerm 39 = .ok (.invokestatic 49, 3) := by decide +kernel
theorem dS_addTerm_42 : decode b_S_addTerm 42 = .ok (.putfield 45, 3) := by decide +kernel
theorem dS_addTerm_45 : decode b_S_addTerm 45 = .ok (.return_, 1) := by decide +kernel
theorem dS_rankOf_0 : decode b_S_rankOf 0 = .ok (.aload_n 0, 1) := by decide +kernel
theorem dS_rankOf_1 : decode b_S_rankOf 1 = .ok (.getfield 15, 3) := by decide +kernel
theorem dS_rankOf_4 : decode b_S_rankOf 4 = .ok (.iload_n 1, 1) := by decide +kernel
theorem dS_rankOf_5 : decode b_S_rankOf 5 = .ok (.invokestatic 29, 3) := by decide +kernel
theorem dS_rankOf_8 : decode b_S_rankOf 8 = .ok (.iaload, 1) := by decide +kernel
theorem dS_rankOf_9 : decode b_S_rankOf 9 = .ok (.iload_n 1, 1) := by decide +kernel
theorem dS_rankOf_10 : decode b_S_rankOf 10 = .ok (.iconst 1, 1) := by decide +kernel
theorem dS_rankOf_11 : decode b_S_rankOf 11 = .ok (.invokestatic 33, 3) := by decide +kernel
theorem dS_rankOf_14 : decode b_S_rankOf 14 = .ok (.iadd, 1) := by decide +kernel
theorem dS_rankOf_15 : decode b_S_rankOf 15 = .ok (.ireturn, 1) := by decide +kernel
theorem dQ_sumAndFirst_0 : decode b_Q_sumAndFirst 0 = .ok (.iload_n 0, 1) := by decide +kernel
theorem dQ_sumAndFirst_1 : decode b_Q_sumAndFirst 1 = .ok (.bipush 12, 2) := by decide +kernel
theorem dQ_sumAndFirst_3 : decode b_Q_sumAndFirst 3 = .ok (.ishr, 1) := by decide +kernel
theorem dQ_sumAndFirst_4 : decode b_Q_sumAndFirst 4 = .ok (.ireturn, 1) := by decide +kernel
theorem dF_sumWithProduct_0 : decode b_F_sumWithProduct 0 = .ok (.iload_n 1, 1) := by decide +kernel
theorem dF_sumWithProduct_1 : decode b_F_sumWithProduct 1 = .ok (.iload_n 2, 1) := by decide +kernel
theorem dF_sumWithProduct_2 : decode b_F_sumWithProduct 2 = .ok (.iload_n 3, 1) := by decide +kernel
theorem dF_sumWithProduct_3 : decode b_F_sumWithProduct 3 = .ok (.imul, 1) := by decide +kernel
theorem dF_sumWithProduct_4 : decode b_F_sumWithProduct 4 = .ok (.iadd, 1) := by decide +kernel
theorem dF_sumWithProduct_5 : decode b_F_sumWithProduct 5 = .ok (.aload_n 0, 1) := by decide +kernel
theorem dF_sumWithProduct_6 : decode b_F_sumWithProduct 6 = .ok (.getfield 13, 3) := by decide +kernel
theorem dF_sumWithProduct_9 : decode b_F_sumWithProduct 9 = .ok (.irem, 1) := by decide +kernel
theorem dF_sumWithProduct_10 : decode b_F_sumWithProduct 10 = .ok (.ireturn, 1) := by decide +kernel
theorem dS_moveTo_0 : decode b_S_moveTo 0 = .ok (.aload_n 1, 1) := by decide +kernel
theorem dS_moveTo_1 : decode b_S_moveTo 1 = .ok (.invokevirtual 74, 3) := by decide +kernel
theorem dS_moveTo_4 : decode b_S_moveTo 4 = .ok (.aload_n 0, 1) := by decide +kernel
theorem dS_moveTo_5 : decode b_S_moveTo 5 = .ok (.getfield 45, 3) := by decide +kernel
theorem dS_moveTo_8 : decode b_S_moveTo 8 = .ok (.iconst 1, 1) := by decide +kernel
theorem dS_moveTo_9 : decode b_S_moveTo 9 = .ok (.isub, 1) := by decide +kernel
theorem dS_moveTo_10 : decode b_S_moveTo 10 = .ok (.istore_n 2, 1) := by decide +kernel
theorem dS_moveTo_11 : decode b_S_moveTo 11 = .ok (.iload_n 2, 1) := by decide +kernel
theorem dS_moveTo_12 : decode b_S_moveTo 12 = .ok (.ifCond .lt 34, 3) := by decide +kernel
theorem dS_moveTo_15 : decode b_S_moveTo 15 = .ok (.aload_n 0, 1) := by decide +kernel
theorem dS_moveTo_16 : decode b_S_moveTo 16 = .ok (.getfield 18, 3) := by decide +kernel
theorem dS_moveTo_19 : decode b_S_moveTo 19 = .ok (.iload_n 2, 1) := by decide +kernel
theorem dS_moveTo_20 : decode b_S_moveTo 20 = .ok (.iaload, 1) := by decide +kernel
theorem dS_moveTo_21 : decode b_S_moveTo 21 = .ok (.ifCond .eq 19, 3) := by decide +kernel
theorem dS_moveTo_24 : decode b_S_moveTo 24 = .ok (.aload_n 1, 1) := by decide +kernel
theorem dS_moveTo_25 : decode b_S_moveTo 25 = .ok (.aload_n 0, 1) := by decide +kernel
theorem dS_moveTo_26 : decode b_S_moveTo 26 = .ok (.getfield 9, 3) := by decide +kernel
theorem dS_moveTo_29 : decode b_S_moveTo 29 = .ok (.iload_n 2, 1) := by decide +kernel
theorem dS_moveTo_30 : decode b_S_moveTo 30 = .ok (.iaload, 1) := by decide +kernel
theorem dS_moveTo_31 : decode b_S_moveTo 31 = .ok (.aload_n 0, 1) := by decide +kernel
theorem dS_moveTo_32 : decode b_S_moveTo 32 = .ok (.getfield 18, 3) := by decide +kernel
theorem dS_moveTo_35 : decode b_S_moveTo 35 = .ok (.iload_n 2, 1) := by decide +kernel
theorem dS_moveTo_36 : decode b_S_moveTo 36 = .ok (.iaload, 1) := by decide +kernel
theorem dS_moveTo_37 : decode b_S_moveTo 37 = .ok (.invokevirtual 87, 3) := by decide +kernel
theorem dS_moveTo_40 : decode b_S_moveTo 40 = .ok (.iinc 2 (-1), 3) := by decide +kernel
theorem dS_moveTo_43 : decode b_S_moveTo 43 = .ok (.goto (-32), 3) := by decide +kernel
theorem dS_moveTo_46 : decode b_S_moveTo 46 = .ok (.aload_n 0, 1) := by decide +kernel
theorem dS_moveTo_47 : decode b_S_moveTo 47 = .ok (.invokevirtual 94, 3) := by decide +kernel
theorem dS_moveTo_50 : decode b_S_moveTo 50 = .ok (.return_, 1) := by decide +kernel
theorem dS_clear_0 : decode b_S_clear 0 = .ok (.aload_n 0, 1) := by decide +kernel
theorem dS_clear_1 : decode b_S_clear 1 = .ok (.getfield 18, 3) := by decide +kernel
theorem dS_clear_4 : decode b_S_clear 4 = .ok (.iconst 0, 1) := by decide +kernel
theorem dS_clear_5 : decode b_S_clear 5 = .ok (.aload_n 0, 1) := by decide +kernel
theorem dS_clear_6 : decode b_S_clear 6 = .ok (.getfield 45, 3) := by decide +kernel
theorem dS_clear_9 : decode b_S_clear 9 = .ok (.iconst 0, 1) := by decide +kernel
theorem dS_clear_10 : decode b_S_clear 10 = .ok (.invokestatic 95, 3) := by decide +kernel
theorem dS_clear_13 : decode b_S_clear 13 = .ok (.aload_n 0, 1) := by decide +kernel
theorem dS_clear_14 : decode b_S_clear 14 = .ok (.iconst 0, 1) := by decide +kernel
theorem dS_clear_15 : decode b_S_clear 15 = .ok (.putfield 45, 3) := by decide +kernel
theorem dS_clear_18 : decode b_S_clear 18 = .ok (.return_, 1) := by decide +kernel
theorem dJa_fill_0 : decode b_Ja_fill 0 = .ok (.aload_n 0, 1) := by decide +kernel
theorem dJa_fill_1 : decode b_Ja_fill 1 = .ok (.arraylength, 1) := by decide +kernel
theorem dJa_fill_2 : decode b_Ja_fill 2 = .ok (.iload_n 1, 1) := by decide +kernel
theorem dJa_fill_3 : decode b_Ja_fill 3 = .ok (.iload_n 2, 1) := by decide +kernel
theorem dJa_fill_4 : decode b_Ja_fill 4 = .ok (.invokestatic 13, 3) := by decide +kernel
theorem dJa_fill_7 : decode b_Ja_fill 7 = .ok (.iload_n 1, 1) := by decide +kernel
theorem dJa_fill_8 : decode b_Ja_fill 8 = .ok (.istore 4, 2) := by decide +kernel
theorem dJa_fill_10 : decode b_Ja_fill 10 = .ok (.iload 4, 2) := by decide +kernel
theorem dJa_fill_12 : decode b_Ja_fill 12 = .ok (.iload_n 2, 1) := by decide +kernel
theorem dJa_fill_13 : decode b_Ja_fill 13 = .ok (.if_icmp .ge 14, 3) := by decide +kernel
theorem dJa_fill_16 : decode b_Ja_fill 16 = .ok (.aload_n 0, 1) := by decide +kernel
theorem dJa_fill_17 : decode b_Ja_fill 17 = .ok (.iload 4, 2) := by decide +kernel
theorem dJa_fill_19 : decode b_Ja_fill 19 = .ok (.iload_n 3, 1) := by decide +kernel
theorem dJa_fill_20 : decode b_Ja_fill 20 = .ok (.iastore, 1) := by decide +kernel
theorem dJa_fill_21 : decode b_Ja_fill 21 = .ok (.iinc 4 1, 3) := by decide +kernel
theorem dJa_fill_24 : decode b_Ja_fill 24 = .ok (.goto (-14), 3) := by decide +kernel
theorem dJa_fill_27 : decode b_Ja_fill 27 = .ok (.return_, 1) := by decide +kernel
theorem dJa_rangeCheck_0 : decode b_Ja_rangeCheck 0 = .ok (.iload_n 1, 1) := by decide +kernel
theorem dJa_rangeCheck_1 : decode b_Ja_rangeCheck 1 = .ok (.iload_n 2, 1) := by decide +kernel
theorem dJa_rangeCheck_2 : decode b_Ja_rangeCheck 2 = .ok (.if_icmp .le 44, 3) := by decide +kernel
theorem dJa_rangeCheck_5 : decode b_Ja_rangeCheck 5 = .ok (.new 43, 3) := by decide +kernel
theorem dJa_rangeCheck_8 : decode b_Ja_rangeCheck 8 = .ok (.dup, 1) := by decide +kernel
theorem dJa_rangeCheck_9 : decode b_Ja_rangeCheck 9 = .ok (.new 45, 3) := by decide +kernel
theorem dJa_rangeCheck_12 : decode b_Ja_rangeCheck 12 = .ok (.dup, 1) := by decide +kernel
theorem dJa_rangeCheck_13 : decode b_Ja_rangeCheck 13 = .ok (.invokespecial 47, 3) := by decide +kernel
theorem dJa_rangeCheck_16 : decode b_Ja_rangeCheck 16 = .ok (.ldc 48, 2) := by decide +kernel
theorem dJa_rangeCheck_18 : decode b_Ja_rangeCheck 18 = .ok (.invokevirtual 50, 3) := by decide +kernel
theorem dJa_rangeCheck_21 : decode b_Ja_rangeCheck 21 = .ok (.iload_n 1, 1) := by decide +kernel
theorem dJa_rangeCheck_22 : decode b_Ja_rangeCheck 22 = .ok (.invokevirtual 54, 3) := by decide +kernel
theorem dJa_rangeCheck_25 : decode b_Ja_rangeCheck 25 = .ok (.ldc 57, 2) := by decide +kernel
theorem dJa_rangeCheck_27 : decode b_Ja_rangeCheck 27 = .ok (.invokevirtual 50, 3) := by decide +kernel
theorem dJa_rangeCheck_30 : decode b_Ja_rangeCheck 30 = .ok (.iload_n 2, 1) := by decide +kernel
theorem dJa_rangeCheck_31 : decode b_Ja_rangeCheck 31 = .ok (.invokevirtual 54, 3) := by decide +kernel
theorem dJa_rangeCheck_34 : decode b_Ja_rangeCheck 34 = .ok (.ldc 59, 2) := by decide +kernel
theorem dJa_rangeCheck_36 : decode b_Ja_rangeCheck 36 = .ok (.invokevirtual 50, 3) := by decide +kernel
theorem dJa_rangeCheck_39 : decode b_Ja_rangeCheck 39 = .ok (.invokevirtual 61, 3) := by decide +kernel
theorem dJa_rangeCheck_42 : decode b_Ja_rangeCheck 42 = .ok (.invokespecial 65, 3) := by decide +kernel
theorem dJa_rangeCheck_45 : decode b_Ja_rangeCheck 45 = .ok (.athrow, 1) := by decide +kernel
theorem dJa_rangeCheck_46 : decode b_Ja_rangeCheck 46 = .ok (.iload_n 1, 1) := by decide +kernel
theorem dJa_rangeCheck_47 : decode b_Ja_rangeCheck 47 = .ok (.ifCond .ge 12, 3) := by decide +kernel
theorem dJa_rangeCheck_50 : decode b_Ja_rangeCheck 50 = .ok (.new 68, 3) := by decide +kernel
theorem dJa_rangeCheck_53 : decode b_Ja_rangeCheck 53 = .ok (.dup, 1) := by decide +kernel
theorem dJa_rangeCheck_54 : decode b_Ja_rangeCheck 54 = .ok (.iload_n 1, 1) := by decide +kernel
theorem dJa_rangeCheck_55 : decode b_Ja_rangeCheck 55 = .ok (.invokespecial 70, 3) := by decide +kernel
theorem dJa_rangeCheck_58 : decode b_Ja_rangeCheck 58 = .ok (.athrow, 1) := by decide +kernel
theorem dJa_rangeCheck_59 : decode b_Ja_rangeCheck 59 = .ok (.iload_n 2, 1) := by decide +kernel
theorem dJa_rangeCheck_60 : decode b_Ja_rangeCheck 60 = .ok (.iload_n 0, 1) := by decide +kernel
theorem dJa_rangeCheck_61 : decode b_Ja_rangeCheck 61 = .ok (.if_icmp .le 12, 3) := by decide +kernel
theorem dJa_rangeCheck_64 : decode b_Ja_rangeCheck 64 = .ok (.new 68, 3) := by decide +kernel
theorem dJa_rangeCheck_67 : decode b_Ja_rangeCheck 67 = .ok (.dup, 1) := by decide +kernel
theorem dJa_rangeCheck_68 : decode b_Ja_rangeCheck 68 = .ok (.iload_n 2, 1) := by decide +kernel
theorem dJa_rangeCheck_69 : decode b_Ja_rangeCheck 69 = .ok (.invokespecial 70, 3) := by decide +kernel
theorem dJa_rangeCheck_72 : decode b_Ja_rangeCheck 72 = .ok (.athrow, 1) := by decide +kernel
theorem dJa_rangeCheck_73 : decode b_Ja_rangeCheck 73 = .ok (.return_, 1) := by decide +kernel
theorem dS_addProduct_0 : decode b_S_addProduct 0 = .ok (.iconst 0, 1) := by decide +kernel
theorem dS_addProduct_1 : decode b_S_addProduct 1 = .ok (.istore_n 3, 1) := by decide +kernel
theorem dS_addProduct_2 : decode b_S_addProduct 2 = .ok (.iload_n 3, 1) := by decide +kernel
theorem dS_addProduct_3 : decode b_S_addProduct 3 = .ok (.aload_n 1, 1) := by decide +kernel
theorem dS_addProduct_4 : decode b_S_addProduct 4 = .ok (.getfield 54, 3) := by decide +kernel
theorem dS_addProduct_7 : decode b_S_addProduct 7 = .ok (.if_icmp .ge 26, 3) := by decide +kernel
theorem dS_addProduct_10 : decode b_S_addProduct 10 = .ok (.aload_n 0, 1) := by decide +kernel
theorem dS_addProduct_11 : decode b_S_addProduct 11 = .ok (.aload_n 2, 1) := by decide +kernel
theorem dS_addProduct_12 : decode b_S_addProduct 12 = .ok (.aload_n 1, 1) := by decide +kernel
theorem dS_addProduct_13 : decode b_S_addProduct 13 = .ok (.getfield 60, 3) := by decide +kernel
theorem dS_addProduct_16 : decode b_S_addProduct 16 = .ok (.iload_n 3, 1) := by decide +kernel
theorem dS_addProduct_17 : decode b_S_addProduct 17 = .ok (.iaload, 1) := by decide +kernel
theorem dS_addProduct_18 : decode b_S_addProduct 18 = .ok (.aload_n 1, 1) := by decide +kernel
theorem dS_addProduct_19 : decode b_S_addProduct 19 = .ok (.getfield 59, 3) := by decide +kernel
theorem dS_addProduct_22 : decode b_S_addProduct 22 = .ok (.iload_n 3, 1) := by decide +kernel
theorem dS_addProduct_23 : decode b_S_addProduct 23 = .ok (.iaload, 1) := by decide +kernel
theorem dS_addProduct_24 : decode b_S_addProduct 24 = .ok (.invokevirtual 67, 3) := by decide +kernel
theorem dS_addProduct_27 : decode b_S_addProduct 27 = .ok (.iinc 3 1, 3) := by decide +kernel
theorem dS_addProduct_30 : decode b_S_addProduct 30 = .ok (.goto (-28), 3) := by decide +kernel
theorem dS_addProduct_33 : decode b_S_addProduct 33 = .ok (.return_, 1) := by decide +kernel
theorem dS_divideBy_0 : decode b_S_divideBy 0 = .ok (.aload_n 2, 1) := by decide +kernel
theorem dS_divideBy_1 : decode b_S_divideBy 1 = .ok (.invokevirtual 74, 3) := by decide +kernel
theorem dS_divideBy_4 : decode b_S_divideBy 4 = .ok (.aload_n 1, 1) := by decide +kernel
theorem dS_divideBy_5 : decode b_S_divideBy 5 = .ok (.getfield 59, 3) := by decide +kernel
theorem dS_divideBy_8 : decode b_S_divideBy 8 = .ok (.iconst 0, 1) := by decide +kernel
theorem dS_divideBy_9 : decode b_S_divideBy 9 = .ok (.iaload, 1) := by decide +kernel
theorem dS_divideBy_10 : decode b_S_divideBy 10 = .ok (.istore_n 3, 1) := by decide +kernel
theorem dS_divideBy_11 : decode b_S_divideBy 11 = .ok (.aload_n 0, 1) := by decide +kernel
theorem dS_divideBy_12 : decode b_S_divideBy 12 = .ok (.getfield 21, 3) := by decide +kernel
theorem dS_divideBy_15 : decode b_S_divideBy 15 = .ok (.aload_n 1, 1) := by decide +kernel
theorem dS_divideBy_16 : decode b_S_divideBy 16 = .ok (.getfield 60, 3) := by decide +kernel
theorem dS_divideBy_19 : decode b_S_divideBy 19 = .ok (.iconst 0, 1) := by decide +kernel
theorem dS_divideBy_20 : decode b_S_divideBy 20 = .ok (.iaload, 1) := by decide +kernel
theorem dS_divideBy_21 : decode b_S_divideBy 21 = .ok (.invokevirtual 77, 3) := by decide +kernel
theorem dS_divideBy_24 : decode b_S_divideBy 24 = .ok (.istore 4, 2) := by decide +kernel
theorem dS_divideBy_26 : decode b_S_divideBy 26 = .ok (.aload_n 0, 1) := by decide +kernel
theorem dS_divideBy_27 : decode b_S_divideBy 27 = .ok (.getfield 45, 3) := by decide +kernel
theorem dS_divideBy_30 : decode b_S_divideBy 30 = .ok (.iconst 1, 1) := by decide +kernel
theorem dS_divideBy_31 : decode b_S_divideBy 31 = .ok (.isub, 1) := by decide +kernel
theorem dS_divideBy_32 : decode b_S_divideBy 32 = .ok (.istore 5, 2) := by decide +kernel
theorem dS_divideBy_34 : decode b_S_divideBy 34 = .ok (.iload 5, 2) := by decide +kernel
theorem dS_divideBy_36 : decode b_S_divideBy 36 = .ok (.ifCond .lt 86, 3) := by decide +kernel
theorem dS_divideBy_39 : decode b_S_divideBy 39 = .ok (.aload_n 0, 1) := by decide +kernel
theorem dS_divideBy_40 : decode b_S_divideBy 40 = .ok (.getfield 18, 3) := by decide +kernel
theorem dS_divideBy_43 : decode b_S_divideBy 43 = .ok (.iload 5, 2) := by decide +kernel
theorem dS_divideBy_45 : decode b_S_divideBy 45 = .ok (.iaload, 1) := by decide +kernel
theorem dS_divideBy_46 : decode b_S_divideBy 46 = .ok (.ifCond .eq 70, 3) := by decide +kernel
theorem dS_divideBy_49 : decode b_S_divideBy 49 = .ok (.aload_n 0, 1) := by decide +kernel
theorem dS_divideBy_50 : decode b_S_divideBy 50 = .ok (.getfield 9, 3) := by decide +kernel
theorem dS_divideBy_53 : decode b_S_divideBy 53 = .ok (.iload 5, 2) := by decide +kernel
theorem dS_divideBy_55 : decode b_S_divideBy 55 = .ok (.iaload, 1) := by decide +kernel
theorem dS_divideBy_56 : decode b_S_divideBy 56 = .ok (.iload_n 3, 1) := by decide +kernel
theorem dS_divideBy_57 : decode b_S_divideBy 57 = .ok (.invokestatic 80, 3) := by decide +kernel
theorem dS_divideBy_60 : decode b_S_divideBy 60 = .ok (.ifCond .eq 56, 3) := by decide +kernel
theorem dS_divideBy_63 : decode b_S_divideBy 63 = .ok (.aload_n 0, 1) := by decide +kernel
theorem dS_divideBy_64 : decode b_S_divideBy 64 = .ok (.getfield 9, 3) := by decide +kernel
theorem dS_divideBy_67 : decode b_S_divideBy 67 = .ok (.iload 5, 2) := by decide +kernel
theorem dS_divideBy_69 : decode b_S_divideBy 69 = .ok (.iaload, 1) := by decide +kernel
theorem dS_divideBy_70 : decode b_S_divideBy 70 = .ok (.iload_n 3, 1) := by decide +kernel
theorem dS_divideBy_71 : decode b_S_divideBy 71 = .ok (.isub, 1) := by decide +kernel
theorem dS_divideBy_72 : decode b_S_divideBy 72 = .ok (.istore 6, 2) := by decide +kernel
theorem dS_divideBy_74 : decode b_S_divideBy 74 = .ok (.aload_n 0, 1) := by decide +kernel
theorem dS_divideBy_75 : decode b_S_divideBy 75 = .ok (.getfield 21, 3) := by decide +kernel
theorem dS_divideBy_78 : decode b_S_divideBy 78 = .ok (.aload_n 0, 1) := by decide +kernel
theorem dS_divideBy_79 : decode b_S_divideBy 79 = .ok (.getfield 18, 3) := by decide +kernel
theorem dS_divideBy_82 : decode b_S_divideBy 82 = .ok (.iload 5, 2) := by decide +kernel
theorem dS_divideBy_84 : decode b_S_divideBy 84 = .ok (.iaload, 1) := by decide +kernel
theorem dS_divideBy_85 : decode b_S_divideBy 85 = .ok (.iload 4, 2) := by decide +kernel
theorem dS_divideBy_87 : decode b_S_divideBy 87 = .ok (.invokevirtual 84, 3) := by decide +kernel
theorem dS_divideBy_90 : decode b_S_divideBy 90 = .ok (.istore 7, 2) := by decide +kernel
theorem dS_divideBy_92 : decode b_S_divideBy 92 = .ok (.aload_n 2, 1) := by decide +kernel
theorem dS_divideBy_93 : decode b_S_divideBy 93 = .ok (.iload 6, 2) := by decide +kernel
theorem dS_divideBy_95 : decode b_S_divideBy 95 = .ok (.iload 7, 2) := by decide +kernel
theorem dS_divideBy_97 : decode b_S_divideBy 97 = .ok (.invokevirtual 87, 3) := by decide +kernel
theorem dS_divideBy_100 : decode b_S_divideBy 100 = .ok (.aload_n 0, 1) := by decide +kernel
theorem dS_divideBy_101 : decode b_S_divideBy 101 = .ok (.aload_n 1, 1) := by decide +kernel
theorem dS_divideBy_102 : decode b_S_divideBy 102 = .ok (.aload_n 0, 1) := by decide +kernel
theorem dS_divideBy_103 : decode b_S_divideBy 103 = .ok (.getfield 21, 3) := by decide +kernel
theorem dS_divideBy_106 : decode b_S_divideBy 106 = .ok (.iload 7, 2) := by decide +kernel
theorem dS_divideBy_108 : decode b_S_divideBy 108 = .ok (.invokevirtual 91, 3) := by decide +kernel
theorem dS_divideBy_111 : decode b_S_divideBy 111 = .ok (.iload 6, 2) := by decide +kernel
theorem dS_divideBy_113 : decode b_S_divideBy 113 = .ok (.invokevirtual 67, 3) := by decide +kernel
theorem dS_divideBy_116 : decode b_S_divideBy 116 = .ok (.iinc 5 (-1), 3) := by decide +kernel
theorem dS_divideBy_119 : decode b_S_divideBy 119 = .ok (.goto (-85), 3) := by decide +kernel
theorem dS_divideBy_122 : decode b_S_divideBy 122 = .ok (.return_, 1) := by decide +kernel
theorem dF_inverse_0 : decode b_F_inverse 0 = .ok (.iconst 1, 1) := by decide +kernel
theorem dF_inverse_1 : decode b_F_inverse 1 = .ok (.istore_n 2, 1) := by decide +kernel
theorem dF_inverse_2 : decode b_F_inverse 2 = .ok (.iload_n 1, 1) := by decide +kernel
theorem dF_inverse_3 : decode b_F_inverse 3 = .ok (.istore_n 3, 1) := by decide +kernel
theorem dF_inverse_4 : decode b_F_inverse 4 = .ok (.aload_n 0, 1) := by decide +kernel
theorem dF_inverse_5 : decode b_F_inverse 5 = .ok (.getfield 13, 3) := by decide +kernel
theorem dF_inverse_8 : decode b_F_inverse 8 = .ok (.iconst 2, 1) := by decide +kernel
theorem dF_inverse_9 : decode b_F_inverse 9 = .ok (.isub, 1) := by decide +kernel
theorem dF_inverse_10 : decode b_F_inverse 10 = .ok (.istore 4, 2) := by decide +kernel
theorem dF_inverse_12 : decode b_F_inverse 12 = .ok (.iload 4, 2) := by decide +kernel
theorem dF_inverse_14 : decode b_F_inverse 14 = .ok (.ifCond .le 33, 3) := by decide +kernel
theorem dF_inverse_17 : decode b_F_inverse 17 = .ok (.iload 4, 2) := by decide +kernel
theorem dF_inverse_19 : decode b_F_inverse 19 = .ok (.iconst 1, 1) := by decide +kernel
theorem dF_inverse_20 : decode b_F_inverse 20 = .ok (.iand, 1) := by decide +kernel
theorem dF_inverse_21 : decode b_F_inverse 21 = .ok (.ifCond .eq 10, 3) := by decide +kernel
theorem dF_inverse_24 : decode b_F_inverse 24 = .ok (.aload_n 0, 1) := by decide +kernel
theorem dF_inverse_25 : decode b_F_inverse 25 = .ok (.iload_n 2, 1) := by decide +kernel
theorem dF_inverse_26 : decode b_F_inverse 26 = .ok (.iload_n 3, 1) := by decide +kernel
theorem dF_inverse_27 : decode b_F_inverse 27 = .ok (.invokevirtual 31, 3) := by decide +kernel
theorem dF_inverse_30 : decode b_F_inverse 30 = .ok (.istore_n 2, 1) := by decide +kernel
theorem dF_inverse_31 : decode b_F_inverse 31 = .ok (.aload_n 0, 1) := by decide +kernel
theorem dF_inverse_32 : decode b_F_inverse 32 = .ok (.iload_n 3, 1) := by decide +kernel
theorem dF_inverse_33 : decode b_F_inverse 33 = .ok (.iload_n 3, 1) := by decide +kernel
theorem dF_inverse_34 : decode b_F_inverse 34 = .ok (.invokevirtual 31, 3) := by decide +kernel
theorem dF_inverse_37 : decode b_F_inverse 37 = .ok (.istore_n 3, 1) := by decide +kernel
theorem dF_inverse_38 : decode b_F_inverse 38 = .ok (.iload 4, 2) := by decide +kernel
theorem dF_inverse_40 : decode b_F_inverse 40 = .ok (.iconst 1, 1) := by decide +kernel
theorem dF_inverse_41 : decode b_F_inverse 41 = .ok (.ishr, 1) := by decide +kernel
theorem dF_inverse_42 : decode b_F_inverse 42 = .ok (.istore 4, 2) := by decide +kernel
theorem dF_inverse_44 : decode b_F_inverse 44 = .ok (.goto (-32), 3) := by decide +kernel
theorem dF_inverse_47 : decode b_F_inverse 47 = .ok (.iload_n 2, 1) := by decide +kernel
theorem dF_inverse_48 : decode b_F_inverse 48 = .ok (.ireturn, 1) := by decide +kernel
theorem dF_product_0 : decode b_F_product 0 = .ok (.iload_n 1, 1) := by decide +kernel
theorem dF_product_1 : decode b_F_product 1 = .ok (.iload_n 2, 1) := by decide +kernel
theorem dF_product_2 : decode b_F_product 2 = .ok (.imul, 1) := by decide +kernel
theorem dF_product_3 : decode b_F_product 3 = .ok (.aload_n 0, 1) := by decide +kernel
theorem dF_product_4 : decode b_F_product 4 = .ok (.getfield 13, 3) := by decide +kernel
theorem dF_product_7 : decode b_F_product 7 = .ok (.irem, 1) := by decide +kernel
theorem dF_product_8 : decode b_F_product 8 = .ok (.ireturn, 1) := by decide +kernel
theorem dQ_isMultiple_0 : decode b_Q_isMultiple 0 = .ok (.iload_n 0, 1) := by decide +kernel
theorem dQ_isMultiple_1 : decode b_Q_isMultiple 1 = .ok (.iconst 0, 1) := by decide +kernel
theorem dQ_isMultiple_2 : decode b_Q_isMultiple 2 = .ok (.invokestatic 10, 3) := by decide +kernel
theorem dQ_isMultiple_5 : decode b_Q_isMultiple 5 = .ok (.iload_n 1, 1) := by decide +kernel
theorem dQ_isMultiple_6 : decode b_Q_isMultiple 6 = .ok (.iconst 0, 1) := by decide +kernel
theorem dQ_isMultiple_7 : decode b_Q_isMultiple 7 = .ok (.invokestatic 10, 3) := by decide +kernel
theorem dQ_isMultiple_10 : decode b_Q_isMultiple 10 = .ok (.if_icmp .lt 33, 3) := by decide +kernel
theorem dQ_isMultiple_13 : decode b_Q_isMultiple 13 = .ok (.iload_n 0, 1) := by decide +kernel
theorem dQ_isMultiple_14 : decode b_Q_isMultiple 14 = .ok (.iconst 1, 1) := by decide +kernel
theorem dQ_isMultiple_15 : decode b_Q_isMultiple 15 = .ok (.invokestatic 10, 3) := by decide +kernel
theorem dQ_isMultiple_18 : decode b_Q_isMultiple 18 = .ok (.iload_n 1, 1) := by decide +kernel
theorem dQ_isMultiple_19 : decode b_Q_isMultiple 19 = .ok (.iconst 1, 1) := by decide +kernel
theorem dQ_isMultiple_20 : decode b_Q_isMultiple 20 = .ok (.invokestatic 10, 3) := by decide +kernel
theorem dQ_isMultiple_23 : decode b_Q_isMultiple 23 = .ok (.if_icmp .lt 20, 3) := by decide +kernel
theorem dQ_isMultiple_26 : decode b_Q_isMultiple 26 = .ok (.iload_n 0, 1) := by decide +kernel
theorem dQ_isMultiple_27 : decode b_Q_isMultiple 27 = .ok (.iconst 2, 1) := by decide +kernel
theorem dQ_isMultiple_28 : decode b_Q_isMultiple 28 = .ok (.invokestatic 10, 3) := by decide +kernel
theorem dQ_isMultiple_31 : decode b_Q_isMultiple 31 = .ok (.iload_n 1, 1) := by decide +kernel
theorem dQ_isMultiple_32 : decode b_Q_isMultiple 32 = .ok (.iconst 2, 1) := by decide +kernel
theorem dQ_isMultiple_33 : decode b_Q_isMultiple 33 = .ok (.invokestatic 10, 3) := by decide +kernel
theorem dQ_isMultiple_36 : decode b_Q_isMultiple 36 = .ok (.if_icmp .lt 7, 3) := by decide +kernel
theorem dQ_isMultiple_39 : decode b_Q_isMultiple 39 = .ok (.iconst 1, 1) := by decide +kernel
theorem dQ_isMultiple_40 : decode b_Q_isMultiple 40 = .ok (.goto 4, 3) := by decide +kernel
theorem dQ_isMultiple_43 : decode b_Q_isMultiple 43 = .ok (.iconst 0, 1) := by decide +kernel
theorem dQ_isMultiple_44 : decode b_Q_isMultiple 44 = .ok (.ireturn, 1) := by decide +kernel
theorem dF_negative_0 : decode b_F_negative 0 = .ok (.iload_n 1, 1) := by decide +kernel
theorem dF_negative_1 : decode b_F_negative 1 = .ok (.ifCond .ne 7, 3) := by decide +kernel
theorem dF_negative_4 : decode b_F_negative 4 = .ok (.iconst 0, 1) := by decide +kernel
theorem dF_negative_5 : decode b_F_negative 5 = .ok (.goto 9, 3) := by decide +kernel
theorem dF_negative_8 : decode b_F_negative 8 = .ok (.aload_n 0, 1) := by decide +kernel
theorem dF_negative_9 : decode b_F_negative 9 = .ok (.getfield 13, 3) := by decide +kernel
theorem dF_negative_12 : decode b_F_negative 12 = .ok (.iload_n 1, 1) := by decide +kernel
theorem dF_negative_13 : decode b_F_negative 13 = .ok (.isub, 1) := by decide +kernel
theorem dF_negative_14 : decode b_F_negative 14 = .ok (.ireturn, 1) := by decide +kernel
theorem dS_addCoefficientOf_0 : decode b_S_addCoefficientOf 0 = .ok (.iconst 0, 1) := by decide +kernel
theorem dS_addCoefficientOf_1 : decode b_S_addCoefficientOf 1 = .ok (.istore 4, 2) := by decide +kernel
theorem dS_addCoefficientOf_3 : decode b_S_addCoefficientOf 3 = .ok (.iload 4, 2) := by decide +kernel
theorem dS_addCoefficientOf_5 : decode b_S_addCoefficientOf 5 = .ok (.aload_n 1, 1) := by decide +kernel
theorem dS_addCoefficientOf_6 : decode b_S_addCoefficientOf 6 = .ok (.getfield 54, 3) := by decide +kernel
theorem dS_addCoefficientOf_9 : decode b_S_addCoefficientOf 9 = .ok (.if_icmp .ge 46, 3) := by decide +kernel
theorem dS_addCoefficientOf_12 : decode b_S_addCoefficientOf 12 = .ok (.aload_n 1, 1) := by decide +kernel
theorem dS_addCoefficientOf_13 : decode b_S_addCoefficientOf 13 = .ok (.getfield 59, 3) := by decide +kernel
theorem dS_addCoefficientOf_16 : decode b_S_addCoefficientOf 16 = .ok (.iload 4, 2) := by decide +kernel
theorem dS_addCoefficientOf_18 : decode b_S_addCoefficientOf 18 = .ok (.iaload, 1) := by decide +kernel
theorem dS_addCoefficientOf_19 : decode b_S_addCoefficientOf 19 = .ok (.istore 5, 2) := by decide +kernel
theorem dS_addCoefficientOf_21 : decode b_S_addCoefficientOf 21 = .ok (.iload 5, 2) := by decide +kernel
theorem dS_addCoefficientOf_23 : decode b_S_addCoefficientOf 23 = .ok (.iload_n 2, 1) := by decide +kernel
theorem dS_addCoefficientOf_24 : decode b_S_addCoefficientOf 24 = .ok (.invokestatic 33, 3) := by decide +kernel
theorem dS_addCoefficientOf_27 : decode b_S_addCoefficientOf 27 = .ok (.iload_n 3, 1) := by decide +kernel
theorem dS_addCoefficientOf_28 : decode b_S_addCoefficientOf 28 = .ok (.if_icmp .ne 21, 3) := by decide +kernel
theorem dS_addCoefficientOf_31 : decode b_S_addCoefficientOf 31 = .ok (.aload_n 0, 1) := by decide +kernel
theorem dS_addCoefficientOf_32 : decode b_S_addCoefficientOf 32 = .ok (.iload 5, 2) := by decide +kernel
theorem dS_addCoefficientOf_34 : decode b_S_addCoefficientOf 34 = .ok (.iload_n 2, 1) := by decide +kernel
theorem dS_addCoefficientOf_35 : decode b_S_addCoefficientOf 35 = .ok (.invokestatic 71, 3) := by decide +kernel
theorem dS_addCoefficientOf_38 : decode b_S_addCoefficientOf 38 = .ok (.iconst 1, 1) := by decide +kernel
theorem dS_addCoefficientOf_39 : decode b_S_addCoefficientOf 39 = .ok (.aload_n 1, 1) := by decide +kernel
theorem dS_addCoefficientOf_40 : decode b_S_addCoefficientOf 40 = .ok (.getfield 60, 3) := by decide +kernel
theorem dS_addCoefficientOf_43 : decode b_S_addCoefficientOf 43 = .ok (.iload 4, 2) := by decide +kernel
theorem dS_addCoefficientOf_45 : decode b_S_addCoefficientOf 45 = .ok (.iaload, 1) := by decide +kernel
theorem dS_addCoefficientOf_46 : decode b_S_addCoefficientOf 46 = .ok (.invokevirtual 63, 3) := by decide +kernel
theorem dS_addCoefficientOf_49 : decode b_S_addCoefficientOf 49 = .ok (.iinc 4 1, 3) := by decide +kernel
theorem dS_addCoefficientOf_52 : decode b_S_addCoefficientOf 52 = .ok (.goto (-49), 3) := by decide +kernel
theorem dS_addCoefficientOf_55 : decode b_S_addCoefficientOf 55 = .ok (.return_, 1) := by decide +kernel
theorem dQ_without_0 : decode b_Q_without 0 = .ok (.iload_n 0, 1) := by decide +kernel
theorem dQ_without_1 : decode b_Q_without 1 = .ok (.iload_n 0, 1) := by decide +kernel
theorem dQ_without_2 : decode b_Q_without 2 = .ok (.iload_n 1, 1) := by decide +kernel
theorem dQ_without_3 : decode b_Q_without 3 = .ok (.invokestatic 10, 3) := by decide +kernel
theorem dQ_without_6 : decode b_Q_without 6 = .ok (.iload_n 1, 1) := by decide +kernel
theorem dQ_without_7 : decode b_Q_without 7 = .ok (.invokestatic 14, 3) := by decide +kernel
theorem dQ_without_10 : decode b_Q_without 10 = .ok (.imul, 1) := by decide +kernel
theorem dQ_without_11 : decode b_Q_without 11 = .ok (.isub, 1) := by decide +kernel
theorem dQ_without_12 : decode b_Q_without 12 = .ok (.ireturn, 1) := by decide +kernel
theorem dJi_bitCount_0 : decode b_Ji_bitCount 0 = .ok (.iload_n 0, 1) := by decide +kernel
theorem dJi_bitCount_1 : decode b_Ji_bitCount 1 = .ok (.iload_n 0, 1) := by decide +kernel
theorem dJi_bitCount_2 : decode b_Ji_bitCount 2 = .ok (.iconst 1, 1) := by decide +kernel
theorem dJi_bitCount_3 : decode b_Ji_bitCount 3 = .ok (.iushr, 1) := by decide +kernel
theorem dJi_bitCount_4 : decode b_Ji_bitCount 4 = .ok (.ldc_w 265, 3) := by decide +kernel
theorem dJi_bitCount_7 : decode b_Ji_bitCount 7 = .ok (.iand, 1) := by decide +kernel
theorem dJi_bitCount_8 : decode b_Ji_bitCount 8 = .ok (.isub, 1) := by decide +kernel
theorem dJi_bitCount_9 : decode b_Ji_bitCount 9 = .ok (.istore_n 0, 1) := by decide +kernel
theorem dJi_bitCount_10 : decode b_Ji_bitCount 10 = .ok (.iload_n 0, 1) := by decide +kernel
theorem dJi_bitCount_11 : decode b_Ji_bitCount 11 = .ok (.ldc_w 266, 3) := by decide +kernel
theorem dJi_bitCount_14 : decode b_Ji_bitCount 14 = .ok (.iand, 1) := by decide +kernel
theorem dJi_bitCount_15 : decode b_Ji_bitCount 15 = .ok (.iload_n 0, 1) := by decide +kernel
theorem dJi_bitCount_16 : decode b_Ji_bitCount 16 = .ok (.iconst 2, 1) := by decide +kernel
theorem dJi_bitCount_17 : decode b_Ji_bitCount 17 = .ok (.iushr, 1) := by decide +kernel
theorem dJi_bitCount_18 : decode b_Ji_bitCount 18 = .ok (.ldc_w 266, 3) := by decide +kernel
theorem dJi_bitCount_21 : decode b_Ji_bitCount 21 = .ok (.iand, 1) := by decide +kernel
theorem dJi_bitCount_22 : decode b_Ji_bitCount 22 = .ok (.iadd, 1) := by decide +kernel
theorem dJi_bitCount_23 : decode b_Ji_bitCount 23 = .ok (.istore_n 0, 1) := by decide +kernel
theorem dJi_bitCount_24 : decode b_Ji_bitCount 24 = .ok (.iload_n 0, 1) := by decide +kernel
theorem dJi_bitCount_25 : decode b_Ji_bitCount 25 = .ok (.iload_n 0, 1) := by decide +kernel
theorem dJi_bitCount_26 : decode b_Ji_bitCount 26 = .ok (.iconst 4, 1) := by decide +kernel
theorem dJi_bitCount_27 : decode b_Ji_bitCount 27 = .ok (.iushr, 1) := by decide +kernel
theorem dJi_bitCount_28 : decode b_Ji_bitCount 28 = .ok (.iadd, 1) := by decide +kernel
theorem dJi_bitCount_29 : decode b_Ji_bitCount 29 = .ok (.ldc_w 267, 3) := by decide +kernel
theorem dJi_bitCount_32 : decode b_Ji_bitCount 32 = .ok (.iand, 1) := by decide +kernel
theorem dJi_bitCount_33 : decode b_Ji_bitCount 33 = .ok (.istore_n 0, 1) := by decide +kernel
theorem dJi_bitCount_34 : decode b_Ji_bitCount 34 = .ok (.iload_n 0, 1) := by decide +kernel
theorem dJi_bitCount_35 : decode b_Ji_bitCount 35 = .ok (.iload_n 0, 1) := by decide +kernel
theorem dJi_bitCount_36 : decode b_Ji_bitCount 36 = .ok (.bipush 8, 2) := by decide +kernel
theorem dJi_bitCount_38 : decode b_Ji_bitCount 38 = .ok (.iushr, 1) := by decide +kernel
theorem dJi_bitCount_39 : decode b_Ji_bitCount 39 = .ok (.iadd, 1) := by decide +kernel
theorem dJi_bitCount_40 : decode b_Ji_bitCount 40 = .ok (.istore_n 0, 1) := by decide +kernel
theorem dJi_bitCount_41 : decode b_Ji_bitCount 41 = .ok (.iload_n 0, 1) := by decide +kernel
theorem dJi_bitCount_42 : decode b_Ji_bitCount 42 = .ok (.iload_n 0, 1) := by decide +kernel
theorem dJi_bitCount_43 : decode b_Ji_bitCount 43 = .ok (.bipush 16, 2) := by decide +kernel
theorem dJi_bitCount_45 : decode b_Ji_bitCount 45 = .ok (.iushr, 1) := by decide +kernel
theorem dJi_bitCount_46 : decode b_Ji_bitCount 46 = .ok (.iadd, 1) := by decide +kernel
theorem dJi_bitCount_47 : decode b_Ji_bitCount 47 = .ok (.istore_n 0, 1) := by decide +kernel
theorem dJi_bitCount_48 : decode b_Ji_bitCount 48 = .ok (.iload_n 0, 1) := by decide +kernel
theorem dJi_bitCount_49 : decode b_Ji_bitCount 49 = .ok (.bipush 63, 2) := by decide +kernel
theorem dJi_bitCount_51 : decode b_Ji_bitCount 51 = .ok (.iand, 1) := by decide +kernel
theorem dJi_bitCount_52 : decode b_Ji_bitCount 52 = .ok (.ireturn, 1) := by decide +kernel
theorem dT_fillRow_0 : decode b_T_fillRow 0 = .ok (.aload_n 0, 1) := by decide +kernel
theorem dT_fillRow_1 : decode b_T_fillRow 1 = .ok (.getfield 13, 3) := by decide +kernel
theorem dT_fillRow_4 : decode b_T_fillRow 4 = .ok (.iload_n 1, 1) := by decide +kernel
theorem dT_fillRow_5 : decode b_T_fillRow 5 = .ok (.aaload, 1) := by decide +kernel
theorem dT_fillRow_6 : decode b_T_fillRow 6 = .ok (.iconst 0, 1) := by decide +kernel
theorem dT_fillRow_7 : decode b_T_fillRow 7 = .ok (.iconst 1, 1) := by decide +kernel
theorem dT_fillRow_8 : decode b_T_fillRow 8 = .ok (.iastore, 1) := by decide +kernel
theorem dT_fillRow_9 : decode b_T_fillRow 9 = .ok (.iconst 1, 1) := by decide +kernel
theorem dT_fillRow_10 : decode b_T_fillRow 10 = .ok (.istore_n 3, 1) := by decide +kernel
theorem dT_fillRow_11 : decode b_T_fillRow 11 = .ok (.iload_n 3, 1) := by decide +kernel
theorem dT_fillRow_12 : decode b_T_fillRow 12 = .ok (.bipush 36, 2) := by decide +kernel
theorem dT_fillRow_14 : decode b_T_fillRow 14 = .ok (.if_icmp .gt 35, 3) := by decide +kernel
theorem dT_fillRow_17 : decode b_T_fillRow 17 = .ok (.aload_n 0, 1) := by decide +kernel
theorem dT_fillRow_18 : decode b_T_fillRow 18 = .ok (.getfield 13, 3) := by decide +kernel
theorem dT_fillRow_21 : decode b_T_fillRow 21 = .ok (.iload_n 1, 1) := by decide +kernel
theorem dT_fillRow_22 : decode b_T_fillRow 22 = .ok (.aaload, 1) := by decide +kernel
theorem dT_fillRow_23 : decode b_T_fillRow 23 = .ok (.iload_n 3, 1) := by decide +kernel
theorem dT_fillRow_24 : decode b_T_fillRow 24 = .ok (.aload_n 0, 1) := by decide +kernel
theorem dT_fillRow_25 : decode b_T_fillRow 25 = .ok (.getfield 18, 3) := by decide +kernel
theorem dT_fillRow_28 : decode b_T_fillRow 28 = .ok (.aload_n 0, 1) := by decide +kernel
theorem dT_fillRow_29 : decode b_T_fillRow 29 = .ok (.getfield 13, 3) := by decide +kernel
theorem dT_fillRow_32 : decode b_T_fillRow 32 = .ok (.iload_n 1, 1) := by decide +kernel
theorem dT_fillRow_33 : decode b_T_fillRow 33 = .ok (.aaload, 1) := by decide +kernel
theorem dT_fillRow_34 : decode b_T_fillRow 34 = .ok (.iload_n 3, 1) := by decide +kernel
theorem dT_fillRow_35 : decode b_T_fillRow 35 = .ok (.iconst 1, 1) := by decide +kernel
theorem dT_fillRow_36 : decode b_T_fillRow 36 = .ok (.isub, 1) := by decide +kernel
theorem dT_fillRow_37 : decode b_T_fillRow 37 = .ok (.iaload, 1) := by decide +kernel
theorem dT_fillRow_38 : decode b_T_fillRow 38 = .ok (.iload_n 2, 1) := by decide +kernel
theorem dT_fillRow_39 : decode b_T_fillRow 39 = .ok (.invokevirtual 22, 3) := by decide +kernel
theorem dT_fillRow_42 : decode b_T_fillRow 42 = .ok (.iastore, 1) := by decide +kernel
theorem dT_fillRow_43 : decode b_T_fillRow 43 = .ok (.iinc 3 1, 3) := by decide +kernel
theorem dT_fillRow_46 : decode b_T_fillRow 46 = .ok (.goto (-35), 3) := by decide +kernel
theorem dT_fillRow_49 : decode b_T_fillRow 49 = .ok (.return_, 1) := by decide +kernel
theorem dT_at_0 : decode b_T_at 0 = .ok (.iconst 1, 1) := by decide +kernel
theorem dT_at_1 : decode b_T_at 1 = .ok (.istore_n 2, 1) := by decide +kernel
theorem dT_at_2 : decode b_T_at 2 = .ok (.iconst 0, 1) := by decide +kernel
theorem dT_at_3 : decode b_T_at 3 = .ok (.istore_n 3, 1) := by decide +kernel
theorem dT_at_4 : decode b_T_at 4 = .ok (.iload_n 3, 1) := by decide +kernel
theorem dT_at_5 : decode b_T_at 5 = .ok (.iconst 3, 1) := by decide +kernel
theorem dT_at_6 : decode b_T_at 6 = .ok (.if_icmp .ge 30, 3) := by decide +kernel
theorem dT_at_9 : decode b_T_at 9 = .ok (.aload_n 0, 1) := by decide +kernel
theorem dT_at_10 : decode b_T_at 10 = .ok (.getfield 18, 3) := by decide +kernel
theorem dT_at_13 : decode b_T_at 13 = .ok (.iload_n 2, 1) := by decide +kernel
theorem dT_at_14 : decode b_T_at 14 = .ok (.aload_n 0, 1) := by decide +kernel
theorem dT_at_15 : decode b_T_at 15 = .ok (.getfield 13, 3) := by decide +kernel
theorem dT_at_18 : decode b_T_at 18 = .ok (.iload_n 3, 1) := by decide +kernel
theorem dT_at_19 : decode b_T_at 19 = .ok (.aaload, 1) := by decide +kernel
theorem dT_at_20 : decode b_T_at 20 = .ok (.iload_n 1, 1) := by decide +kernel
theorem dT_at_21 : decode b_T_at 21 = .ok (.iload_n 3, 1) := by decide +kernel
theorem dT_at_22 : decode b_T_at 22 = .ok (.invokestatic 28, 3) := by decide +kernel
theorem dT_at_25 : decode b_T_at 25 = .ok (.iaload, 1) := by decide +kernel
theorem dT_at_26 : decode b_T_at 26 = .ok (.invokevirtual 22, 3) := by decide +kernel
theorem dT_at_29 : decode b_T_at 29 = .ok (.istore_n 2, 1) := by decide +kernel
theorem dT_at_30 : decode b_T_at 30 = .ok (.iinc 3 1, 3) := by decide +kernel
theorem dT_at_33 : decode b_T_at 33 = .ok (.goto (-29), 3) := by decide +kernel
theorem dT_at_36 : decode b_T_at 36 = .ok (.iload_n 2, 1) := by decide +kernel
theorem dT_at_37 : decode b_T_at 37 = .ok (.ireturn, 1) := by decide +kernel
theorem dQ_exists_0 : decode b_Q_exists 0 = .ok (.iload_n 0, 1) := by decide +kernel
theorem dQ_exists_1 : decode b_Q_exists 1 = .ok (.bipush 36, 2) := by decide +kernel
theorem dQ_exists_3 : decode b_Q_exists 3 = .ok (.if_icmp .gt 29, 3) := by decide +kernel
theorem dQ_exists_6 : decode b_Q_exists 6 = .ok (.iload_n 1, 1) := by decide +kernel
theorem dQ_exists_7 : decode b_Q_exists 7 = .ok (.bipush 36, 2) := by decide +kernel
theorem dQ_exists_9 : decode b_Q_exists 9 = .ok (.if_icmp .gt 23, 3) := by decide +kernel
theorem dQ_exists_12 : decode b_Q_exists 12 = .ok (.iload_n 2, 1) := by decide +kernel
theorem dQ_exists_13 : decode b_Q_exists 13 = .ok (.bipush 36, 2) := by decide +kernel
theorem dQ_exists_15 : decode b_Q_exists 15 = .ok (.if_icmp .gt 17, 3) := by decide +kernel
theorem dQ_exists_18 : decode b_Q_exists 18 = .ok (.iload_n 0, 1) := by decide +kernel
theorem dQ_exists_19 : decode b_Q_exists 19 = .ok (.iload_n 1, 1) := by decide +kernel
theorem dQ_exists_20 : decode b_Q_exists 20 = .ok (.iadd, 1) := by decide +kernel
theorem dQ_exists_21 : decode b_Q_exists 21 = .ok (.iload_n 2, 1) := by decide +kernel
theorem dQ_exists_22 : decode b_Q_exists 22 = .ok (.iadd, 1) := by decide +kernel
theorem dQ_exists_23 : decode b_Q_exists 23 = .ok (.bipush 36, 2) := by decide +kernel
theorem dQ_exists_25 : decode b_Q_exists 25 = .ok (.if_icmp .gt 7, 3) := by decide +kernel
theorem dQ_exists_28 : decode b_Q_exists 28 = .ok (.iconst 1, 1) := by decide +kernel
theorem dQ_exists_29 : decode b_Q_exists 29 = .ok (.goto 4, 3) := by decide +kernel
theorem dQ_exists_32 : decode b_Q_exists 32 = .ok (.iconst 0, 1) := by decide +kernel
theorem dQ_exists_33 : decode b_Q_exists 33 = .ok (.ireturn, 1) := by decide +kernel
theorem dP_coefficientOf_0 : decode b_P_coefficientOf 0 = .ok (.iconst 0, 1) := by decide +kernel
theorem dP_coefficientOf_1 : decode b_P_coefficientOf 1 = .ok (.istore_n 2, 1) := by decide +kernel
theorem dP_coefficientOf_2 : decode b_P_coefficientOf 2 = .ok (.iload_n 2, 1) := by decide +kernel
theorem dP_coefficientOf_3 : decode b_P_coefficientOf 3 = .ok (.aload_n 0, 1) := by decide +kernel
theorem dP_coefficientOf_4 : decode b_P_coefficientOf 4 = .ok (.getfield 16, 3) := by decide +kernel
theorem dP_coefficientOf_7 : decode b_P_coefficientOf 7 = .ok (.if_icmp .ge 26, 3) := by decide +kernel
theorem dP_coefficientOf_10 : decode b_P_coefficientOf 10 = .ok (.aload_n 0, 1) := by decide +kernel
theorem dP_coefficientOf_11 : decode b_P_coefficientOf 11 = .ok (.getfield 9, 3) := by decide +kernel
theorem dP_coefficientOf_14 : decode b_P_coefficientOf 14 = .ok (.iload_n 2, 1) := by decide +kernel
theorem dP_coefficientOf_15 : decode b_P_coefficientOf 15 = .ok (.iaload, 1) := by decide +kernel
theorem dP_coefficientOf_16 : decode b_P_coefficientOf 16 = .ok (.iload_n 1, 1) := by decide +kernel
theorem dP_coefficientOf_17 : decode b_P_coefficientOf 17 = .ok (.if_icmp .ne 10, 3) := by decide +kernel
theorem dP_coefficientOf_20 : decode b_P_coefficientOf 20 = .ok (.aload_n 0, 1) := by decide +kernel
theorem dP_coefficientOf_21 : decode b_P_coefficientOf 21 = .ok (.getfield 13, 3) := by decide +kernel
theorem dP_coefficientOf_24 : decode b_P_coefficientOf 24 = .ok (.iload_n 2, 1) := by decide +kernel
theorem dP_coefficientOf_25 : decode b_P_coefficientOf 25 = .ok (.iaload, 1) := by decide +kernel
theorem dP_coefficientOf_26 : decode b_P_coefficientOf 26 = .ok (.ireturn, 1) := by decide +kernel
theorem dP_coefficientOf_27 : decode b_P_coefficientOf 27 = .ok (.iinc 2 1, 3) := by decide +kernel
theorem dP_coefficientOf_30 : decode b_P_coefficientOf 30 = .ok (.goto (-28), 3) := by decide +kernel
theorem dP_coefficientOf_33 : decode b_P_coefficientOf 33 = .ok (.iconst 0, 1) := by decide +kernel
theorem dP_coefficientOf_34 : decode b_P_coefficientOf 34 = .ok (.ireturn, 1) := by decide +kernel
theorem dP_matches_0 : decode b_P_matches 0 = .ok (.aload_n 0, 1) := by decide +kernel
theorem dP_matches_1 : decode b_P_matches 1 = .ok (.getfield 16, 3) := by decide +kernel
theorem dP_matches_4 : decode b_P_matches 4 = .ok (.aload_n 1, 1) := by decide +kernel
theorem dP_matches_5 : decode b_P_matches 5 = .ok (.getfield 16, 3) := by decide +kernel
theorem dP_matches_8 : decode b_P_matches 8 = .ok (.if_icmp .eq 5, 3) := by decide +kernel
theorem dP_matches_11 : decode b_P_matches 11 = .ok (.iconst 0, 1) := by decide +kernel
theorem dP_matches_12 : decode b_P_matches 12 = .ok (.ireturn, 1) := by decide +kernel
theorem dP_matches_13 : decode b_P_matches 13 = .ok (.iconst 0, 1) := by decide +kernel
theorem dP_matches_14 : decode b_P_matches 14 = .ok (.istore_n 2, 1) := by decide +kernel
theorem dP_matches_15 : decode b_P_matches 15 = .ok (.iload_n 2, 1) := by decide +kernel
theorem dP_matches_16 : decode b_P_matches 16 = .ok (.aload_n 0, 1) := by decide +kernel
theorem dP_matches_17 : decode b_P_matches 17 = .ok (.getfield 16, 3) := by decide +kernel
theorem dP_matches_20 : decode b_P_matches 20 = .ok (.if_icmp .ge 41, 3) := by decide +kernel
theorem dP_matches_23 : decode b_P_matches 23 = .ok (.aload_n 0, 1) := by decide +kernel
theorem dP_matches_24 : decode b_P_matches 24 = .ok (.getfield 9, 3) := by decide +kernel
theorem dP_matches_27 : decode b_P_matches 27 = .ok (.iload_n 2, 1) := by decide +kernel
theorem dP_matches_28 : decode b_P_matches 28 = .ok (.iaload, 1) := by decide +kernel
theorem dP_matches_29 : decode b_P_matches 29 = .ok (.aload_n 1, 1) := by decide +kernel
theorem dP_matches_30 : decode b_P_matches 30 = .ok (.getfield 9, 3) := by decide +kernel
theorem dP_matches_33 : decode b_P_matches 33 = .ok (.iload_n 2, 1) := by decide +kernel
theorem dP_matches_34 : decode b_P_matches 34 = .ok (.iaload, 1) := by decide +kernel
theorem dP_matches_35 : decode b_P_matches 35 = .ok (.if_icmp .ne 18, 3) := by decide +kernel
theorem dP_matches_38 : decode b_P_matches 38 = .ok (.aload_n 0, 1) := by decide +kernel
theorem dP_matches_39 : decode b_P_matches 39 = .ok (.getfield 13, 3) := by decide +kernel
theorem dP_matches_42 : decode b_P_matches 42 = .ok (.iload_n 2, 1) := by decide +kernel
theorem dP_matches_43 : decode b_P_matches 43 = .ok (.iaload, 1) := by decide +kernel
theorem dP_matches_44 : decode b_P_matches 44 = .ok (.aload_n 1, 1) := by decide +kernel
theorem dP_matches_45 : decode b_P_matches 45 = .ok (.getfield 13, 3) := by decide +kernel
theorem dP_matches_48 : decode b_P_matches 48 = .ok (.iload_n 2, 1) := by decide +kernel
theorem dP_matches_49 : decode b_P_matches 49 = .ok (.iaload, 1) := by decide +kernel
theorem dP_matches_50 : decode b_P_matches 50 = .ok (.if_icmp .eq 5, 3) := by decide +kernel
theorem dP_matches_53 : decode b_P_matches 53 = .ok (.iconst 0, 1) := by decide +kernel
theorem dP_matches_54 : decode b_P_matches 54 = .ok (.ireturn, 1) := by decide +kernel
theorem dP_matches_55 : decode b_P_matches 55 = .ok (.iinc 2 1, 3) := by decide +kernel
theorem dP_matches_58 : decode b_P_matches 58 = .ok (.goto (-43), 3) := by decide +kernel
theorem dP_matches_61 : decode b_P_matches 61 = .ok (.iconst 1, 1) := by decide +kernel
theorem dP_matches_62 : decode b_P_matches 62 = .ok (.ireturn, 1) := by decide +kernel
