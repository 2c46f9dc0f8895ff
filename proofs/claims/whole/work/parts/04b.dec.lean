/-! Decode rows. -/
theorem dH_init_0 : decode b_H_init 0 = .ok (.aload_n 0, 1) := by decide +kernel
theorem dH_init_1 : decode b_H_init 1 = .ok (.invokespecial 1, 3) := by decide +kernel
theorem dH_init_4 : decode b_H_init 4 = .ok (.aload_n 0, 1) := by decide +kernel
theorem dH_init_5 : decode b_H_init 5 = .ok (.bipush 12, 2) := by decide +kernel
theorem dH_init_7 : decode b_H_init 7 = .ok (.anewarray 9, 3) := by decide +kernel
theorem dH_init_10 : decode b_H_init 10 = .ok (.putfield 11, 3) := by decide +kernel
theorem dH_init_13 : decode b_H_init 13 = .ok (.aload_n 0, 1) := by decide +kernel
theorem dH_init_14 : decode b_H_init 14 = .ok (.sipush 256, 3) := by decide +kernel
theorem dH_init_17 : decode b_H_init 17 = .ok (.anewarray 9, 3) := by decide +kernel
theorem dH_init_20 : decode b_H_init 20 = .ok (.putfield 15, 3) := by decide +kernel
theorem dH_init_23 : decode b_H_init 23 = .ok (.aload_n 0, 1) := by decide +kernel
theorem dH_init_24 : decode b_H_init 24 = .ok (.new 18, 3) := by decide +kernel
theorem dH_init_27 : decode b_H_init 27 = .ok (.dup, 1) := by decide +kernel
theorem dH_init_28 : decode b_H_init 28 = .ok (.iload_n 1, 1) := by decide +kernel
theorem dH_init_29 : decode b_H_init 29 = .ok (.invokespecial 20, 3) := by decide +kernel
theorem dH_init_32 : decode b_H_init 32 = .ok (.putfield 23, 3) := by decide +kernel
theorem dH_init_35 : decode b_H_init 35 = .ok (.aload_n 0, 1) := by decide +kernel
theorem dH_init_36 : decode b_H_init 36 = .ok (.new 27, 3) := by decide +kernel
theorem dH_init_39 : decode b_H_init 39 = .ok (.dup, 1) := by decide +kernel
theorem dH_init_40 : decode b_H_init 40 = .ok (.aload_n 0, 1) := by decide +kernel
theorem dH_init_41 : decode b_H_init 41 = .ok (.getfield 23, 3) := by decide +kernel
theorem dH_init_44 : decode b_H_init 44 = .ok (.invokespecial 29, 3) := by decide +kernel
theorem dH_init_47 : decode b_H_init 47 = .ok (.putfield 32, 3) := by decide +kernel
theorem dH_init_50 : decode b_H_init 50 = .ok (.aload_n 0, 1) := by decide +kernel
theorem dH_init_51 : decode b_H_init 51 = .ok (.new 36, 3) := by decide +kernel
theorem dH_init_54 : decode b_H_init 54 = .ok (.dup, 1) := by decide +kernel
theorem dH_init_55 : decode b_H_init 55 = .ok (.aload_n 0, 1) := by decide +kernel
theorem dH_init_56 : decode b_H_init 56 = .ok (.getfield 23, 3) := by decide +kernel
theorem dH_init_59 : decode b_H_init 59 = .ok (.invokespecial 38, 3) := by decide +kernel
theorem dH_init_62 : decode b_H_init 62 = .ok (.putfield 39, 3) := by decide +kernel
theorem dH_init_65 : decode b_H_init 65 = .ok (.iconst 0, 1) := by decide +kernel
theorem dH_init_66 : decode b_H_init 66 = .ok (.istore_n 2, 1) := by decide +kernel
theorem dH_init_67 : decode b_H_init 67 = .ok (.iload_n 2, 1) := by decide +kernel
theorem dH_init_68 : decode b_H_init 68 = .ok (.aload_n 0, 1) := by decide +kernel
theorem dH_init_69 : decode b_H_init 69 = .ok (.getfield 11, 3) := by decide +kernel
theorem dH_init_72 : decode b_H_init 72 = .ok (.arraylength, 1) := by decide +kernel
theorem dH_init_73 : decode b_H_init 73 = .ok (.if_icmp .ge 22, 3) := by decide +kernel
theorem dH_init_76 : decode b_H_init 76 = .ok (.aload_n 0, 1) := by decide +kernel
theorem dH_init_77 : decode b_H_init 77 = .ok (.getfield 11, 3) := by decide +kernel
theorem dH_init_80 : decode b_H_init 80 = .ok (.iload_n 2, 1) := by decide +kernel
theorem dH_init_81 : decode b_H_init 81 = .ok (.new 9, 3) := by decide +kernel
theorem dH_init_84 : decode b_H_init 84 = .ok (.dup, 1) := by decide +kernel
theorem dH_init_85 : decode b_H_init 85 = .ok (.invokespecial 43, 3) := by decide +kernel
theorem dH_init_88 : decode b_H_init 88 = .ok (.aastore, 1) := by decide +kernel
theorem dH_init_89 : decode b_H_init 89 = .ok (.iinc 2 1, 3) := by decide +kernel
theorem dH_init_92 : decode b_H_init 92 = .ok (.goto (-25), 3) := by decide +kernel
theorem dH_init_95 : decode b_H_init 95 = .ok (.iconst 0, 1) := by decide +kernel
theorem dH_init_96 : decode b_H_init 96 = .ok (.istore_n 2, 1) := by decide +kernel
theorem dH_init_97 : decode b_H_init 97 = .ok (.iload_n 2, 1) := by decide +kernel
theorem dH_init_98 : decode b_H_init 98 = .ok (.aload_n 0, 1) := by decide +kernel
theorem dH_init_99 : decode b_H_init 99 = .ok (.getfield 15, 3) := by decide +kernel
theorem dH_init_102 : decode b_H_init 102 = .ok (.arraylength, 1) := by decide +kernel
theorem dH_init_103 : decode b_H_init 103 = .ok (.if_icmp .ge 22, 3) := by decide +kernel
theorem dH_init_106 : decode b_H_init 106 = .ok (.aload_n 0, 1) := by decide +kernel
theorem dH_init_107 : decode b_H_init 107 = .ok (.getfield 15, 3) := by decide +kernel
theorem dH_init_110 : decode b_H_init 110 = .ok (.iload_n 2, 1) := by decide +kernel
theorem dH_init_111 : decode b_H_init 111 = .ok (.new 9, 3) := by decide +kernel
theorem dH_init_114 : decode b_H_init 114 = .ok (.dup, 1) := by decide +kernel
theorem dH_init_115 : decode b_H_init 115 = .ok (.invokespecial 43, 3) := by decide +kernel
theorem dH_init_118 : decode b_H_init 118 = .ok (.aastore, 1) := by decide +kernel
theorem dH_init_119 : decode b_H_init 119 = .ok (.iinc 2 1, 3) := by decide +kernel
theorem dH_init_122 : decode b_H_init 122 = .ok (.goto (-25), 3) := by decide +kernel
theorem dH_init_125 : decode b_H_init 125 = .ok (.aload_n 0, 1) := by decide +kernel
theorem dH_init_126 : decode b_H_init 126 = .ok (.new 9, 3) := by decide +kernel
theorem dH_init_129 : decode b_H_init 129 = .ok (.dup, 1) := by decide +kernel
theorem dH_init_130 : decode b_H_init 130 = .ok (.invokespecial 43, 3) := by decide +kernel
theorem dH_init_133 : decode b_H_init 133 = .ok (.putfield 44, 3) := by decide +kernel
theorem dH_init_136 : decode b_H_init 136 = .ok (.return_, 1) := by decide +kernel
theorem dH_count_0 : decode b_H_count 0 = .ok (.iload_n 1, 1) := by decide +kernel
theorem dH_count_1 : decode b_H_count 1 = .ok (.tableswitch 63 0 4 #[35, 43, 48, 53, 58], 35) := by decide +kernel
theorem dH_count_36 : decode b_H_count 36 = .ok (.aload_n 0, 1) := by decide +kernel
theorem dH_count_37 : decode b_H_count 37 = .ok (.getfield 23, 3) := by decide +kernel
theorem dH_count_40 : decode b_H_count 40 = .ok (.getfield 166, 3) := by decide +kernel
theorem dH_count_43 : decode b_H_count 43 = .ok (.ireturn, 1) := by decide +kernel
theorem dH_count_44 : decode b_H_count 44 = .ok (.aload_n 0, 1) := by decide +kernel
theorem dH_count_45 : decode b_H_count 45 = .ok (.invokevirtual 169, 3) := by decide +kernel
theorem dH_count_48 : decode b_H_count 48 = .ok (.ireturn, 1) := by decide +kernel
theorem dH_count_49 : decode b_H_count 49 = .ok (.aload_n 0, 1) := by decide +kernel
theorem dH_count_50 : decode b_H_count 50 = .ok (.invokevirtual 173, 3) := by decide +kernel
theorem dH_count_53 : decode b_H_count 53 = .ok (.ireturn, 1) := by decide +kernel
theorem dH_count_54 : decode b_H_count 54 = .ok (.aload_n 0, 1) := by decide +kernel
theorem dH_count_55 : decode b_H_count 55 = .ok (.invokevirtual 176, 3) := by decide +kernel
theorem dH_count_58 : decode b_H_count 58 = .ok (.ireturn, 1) := by decide +kernel
theorem dH_count_59 : decode b_H_count 59 = .ok (.aload_n 0, 1) := by decide +kernel
theorem dH_count_60 : decode b_H_count 60 = .ok (.getfield 179, 3) := by decide +kernel
theorem dH_count_63 : decode b_H_count 63 = .ok (.ireturn, 1) := by decide +kernel
theorem dH_count_64 : decode b_H_count 64 = .ok (.iconst (-1), 1) := by decide +kernel
theorem dH_count_65 : decode b_H_count 65 = .ok (.ireturn, 1) := by decide +kernel
theorem dH_allTerms_0 : decode b_H_allTerms 0 = .ok (.iconst 0, 1) := by decide +kernel
theorem dH_allTerms_1 : decode b_H_allTerms 1 = .ok (.istore_n 1, 1) := by decide +kernel
theorem dH_allTerms_2 : decode b_H_allTerms 2 = .ok (.iconst 0, 1) := by decide +kernel
theorem dH_allTerms_3 : decode b_H_allTerms 3 = .ok (.istore_n 2, 1) := by decide +kernel
theorem dH_allTerms_4 : decode b_H_allTerms 4 = .ok (.iload_n 2, 1) := by decide +kernel
theorem dH_allTerms_5 : decode b_H_allTerms 5 = .ok (.bipush 12, 2) := by decide +kernel
theorem dH_allTerms_7 : decode b_H_allTerms 7 = .ok (.if_icmp .ge 21, 3) := by decide +kernel
theorem dH_allTerms_10 : decode b_H_allTerms 10 = .ok (.iload_n 1, 1) := by decide +kernel
theorem dH_allTerms_11 : decode b_H_allTerms 11 = .ok (.aload_n 0, 1) := by decide +kernel
theorem dH_allTerms_12 : decode b_H_allTerms 12 = .ok (.getfield 11, 3) := by decide +kernel
theorem dH_allTerms_15 : decode b_H_allTerms 15 = .ok (.iload_n 2, 1) := by decide +kernel
theorem dH_allTerms_16 : decode b_H_allTerms 16 = .ok (.aaload, 1) := by decide +kernel
theorem dH_allTerms_17 : decode b_H_allTerms 17 = .ok (.getfield 109, 3) := by decide +kernel
theorem dH_allTerms_20 : decode b_H_allTerms 20 = .ok (.iadd, 1) := by decide +kernel
theorem dH_allTerms_21 : decode b_H_allTerms 21 = .ok (.istore_n 1, 1) := by decide +kernel
theorem dH_allTerms_22 : decode b_H_allTerms 22 = .ok (.iinc 2 1, 3) := by decide +kernel
theorem dH_allTerms_25 : decode b_H_allTerms 25 = .ok (.goto (-21), 3) := by decide +kernel
theorem dH_allTerms_28 : decode b_H_allTerms 28 = .ok (.iload_n 1, 1) := by decide +kernel
theorem dH_allTerms_29 : decode b_H_allTerms 29 = .ok (.ireturn, 1) := by decide +kernel
theorem dH_zeroRegisters_0 : decode b_H_zeroRegisters 0 = .ok (.iconst 0, 1) := by decide +kernel
theorem dH_zeroRegisters_1 : decode b_H_zeroRegisters 1 = .ok (.istore_n 1, 1) := by decide +kernel
theorem dH_zeroRegisters_2 : decode b_H_zeroRegisters 2 = .ok (.iconst 0, 1) := by decide +kernel
theorem dH_zeroRegisters_3 : decode b_H_zeroRegisters 3 = .ok (.istore_n 2, 1) := by decide +kernel
theorem dH_zeroRegisters_4 : decode b_H_zeroRegisters 4 = .ok (.iload_n 2, 1) := by decide +kernel
theorem dH_zeroRegisters_5 : decode b_H_zeroRegisters 5 = .ok (.bipush 12, 2) := by decide +kernel
theorem dH_zeroRegisters_7 : decode b_H_zeroRegisters 7 = .ok (.if_icmp .ge 24, 3) := by decide +kernel
theorem dH_zeroRegisters_10 : decode b_H_zeroRegisters 10 = .ok (.aload_n 0, 1) := by decide +kernel
theorem dH_zeroRegisters_11 : decode b_H_zeroRegisters 11 = .ok (.getfield 11, 3) := by decide +kernel
theorem dH_zeroRegisters_14 : decode b_H_zeroRegisters 14 = .ok (.iload_n 2, 1) := by decide +kernel
theorem dH_zeroRegisters_15 : decode b_H_zeroRegisters 15 = .ok (.aaload, 1) := by decide +kernel
theorem dH_zeroRegisters_16 : decode b_H_zeroRegisters 16 = .ok (.invokevirtual 102, 3) := by decide +kernel
theorem dH_zeroRegisters_19 : decode b_H_zeroRegisters 19 = .ok (.ifCond .eq 6, 3) := by decide +kernel
theorem dH_zeroRegisters_22 : decode b_H_zeroRegisters 22 = .ok (.iinc 1 1, 3) := by decide +kernel
theorem dH_zeroRegisters_25 : decode b_H_zeroRegisters 25 = .ok (.iinc 2 1, 3) := by decide +kernel
theorem dH_zeroRegisters_28 : decode b_H_zeroRegisters 28 = .ok (.goto (-24), 3) := by decide +kernel
theorem dH_zeroRegisters_31 : decode b_H_zeroRegisters 31 = .ok (.iload_n 1, 1) := by decide +kernel
theorem dH_zeroRegisters_32 : decode b_H_zeroRegisters 32 = .ok (.ireturn, 1) := by decide +kernel
theorem dH_greatestDegree_0 : decode b_H_greatestDegree 0 = .ok (.iconst 0, 1) := by decide +kernel
theorem dH_greatestDegree_1 : decode b_H_greatestDegree 1 = .ok (.istore_n 1, 1) := by decide +kernel
theorem dH_greatestDegree_2 : decode b_H_greatestDegree 2 = .ok (.iconst 0, 1) := by decide +kernel
theorem dH_greatestDegree_3 : decode b_H_greatestDegree 3 = .ok (.istore_n 2, 1) := by decide +kernel
theorem dH_greatestDegree_4 : decode b_H_greatestDegree 4 = .ok (.iload_n 2, 1) := by decide +kernel
theorem dH_greatestDegree_5 : decode b_H_greatestDegree 5 = .ok (.bipush 12, 2) := by decide +kernel
theorem dH_greatestDegree_7 : decode b_H_greatestDegree 7 = .ok (.if_icmp .ge 37, 3) := by decide +kernel
theorem dH_greatestDegree_10 : decode b_H_greatestDegree 10 = .ok (.iconst 0, 1) := by decide +kernel
theorem dH_greatestDegree_11 : decode b_H_greatestDegree 11 = .ok (.istore_n 3, 1) := by decide +kernel
theorem dH_greatestDegree_12 : decode b_H_greatestDegree 12 = .ok (.iload_n 3, 1) := by decide +kernel
theorem dH_greatestDegree_13 : decode b_H_greatestDegree 13 = .ok (.iconst 3, 1) := by decide +kernel
theorem dH_greatestDegree_14 : decode b_H_greatestDegree 14 = .ok (.if_icmp .ge 24, 3) := by decide +kernel
theorem dH_greatestDegree_17 : decode b_H_greatestDegree 17 = .ok (.iload_n 1, 1) := by decide +kernel
theorem dH_greatestDegree_18 : decode b_H_greatestDegree 18 = .ok (.aload_n 0, 1) := by decide +kernel
theorem dH_greatestDegree_19 : decode b_H_greatestDegree 19 = .ok (.getfield 11, 3) := by decide +kernel
theorem dH_greatestDegree_22 : decode b_H_greatestDegree 22 = .ok (.iload_n 2, 1) := by decide +kernel
theorem dH_greatestDegree_23 : decode b_H_greatestDegree 23 = .ok (.aaload, 1) := by decide +kernel
theorem dH_greatestDegree_24 : decode b_H_greatestDegree 24 = .ok (.iload_n 3, 1) := by decide +kernel
theorem dH_greatestDegree_25 : decode b_H_greatestDegree 25 = .ok (.invokevirtual 85, 3) := by decide +kernel
theorem dH_greatestDegree_28 : decode b_H_greatestDegree 28 = .ok (.invokestatic 188, 3) := by decide +kernel
theorem dH_greatestDegree_31 : decode b_H_greatestDegree 31 = .ok (.istore_n 1, 1) := by decide +kernel
theorem dH_greatestDegree_32 : decode b_H_greatestDegree 32 = .ok (.iinc 3 1, 3) := by decide +kernel
theorem dH_greatestDegree_35 : decode b_H_greatestDegree 35 = .ok (.goto (-23), 3) := by decide +kernel
theorem dH_greatestDegree_38 : decode b_H_greatestDegree 38 = .ok (.iinc 2 1, 3) := by decide +kernel
theorem dH_greatestDegree_41 : decode b_H_greatestDegree 41 = .ok (.goto (-37), 3) := by decide +kernel
theorem dH_greatestDegree_44 : decode b_H_greatestDegree 44 = .ok (.iload_n 1, 1) := by decide +kernel
theorem dH_greatestDegree_45 : decode b_H_greatestDegree 45 = .ok (.ireturn, 1) := by decide +kernel
theorem dH_constant_0 : decode b_H_constant 0 = .ok (.iload_n 1, 1) := by decide +kernel
theorem dH_constant_1 : decode b_H_constant 1 = .ok (.invokestatic 48, 3) := by decide +kernel
theorem dH_constant_4 : decode b_H_constant 4 = .ok (.aload_n 0, 1) := by decide +kernel
theorem dH_constant_5 : decode b_H_constant 5 = .ok (.getfield 11, 3) := by decide +kernel
theorem dH_constant_8 : decode b_H_constant 8 = .ok (.iload_n 1, 1) := by decide +kernel
theorem dH_constant_9 : decode b_H_constant 9 = .ok (.aaload, 1) := by decide +kernel
theorem dH_constant_10 : decode b_H_constant 10 = .ok (.aload_n 0, 1) := by decide +kernel
theorem dH_constant_11 : decode b_H_constant 11 = .ok (.getfield 23, 3) := by decide +kernel
theorem dH_constant_14 : decode b_H_constant 14 = .ok (.iload_n 2, 1) := by decide +kernel
theorem dH_constant_15 : decode b_H_constant 15 = .ok (.invokevirtual 51, 3) := by decide +kernel
theorem dH_constant_18 : decode b_H_constant 18 = .ok (.invokevirtual 55, 3) := by decide +kernel
theorem dH_constant_21 : decode b_H_constant 21 = .ok (.return_, 1) := by decide +kernel
theorem dH_checkRegister_0 : decode b_H_checkRegister 0 = .ok (.iload_n 0, 1) := by decide +kernel
theorem dH_checkRegister_1 : decode b_H_checkRegister 1 = .ok (.ifCond .lt 9, 3) := by decide +kernel
theorem dH_checkRegister_4 : decode b_H_checkRegister 4 = .ok (.iload_n 0, 1) := by decide +kernel
theorem dH_checkRegister_5 : decode b_H_checkRegister 5 = .ok (.bipush 12, 2) := by decide +kernel
theorem dH_checkRegister_7 : decode b_H_checkRegister 7 = .ok (.if_icmp .lt 11, 3) := by decide +kernel
theorem dH_checkRegister_10 : decode b_H_checkRegister 10 = .ok (.new 149, 3) := by decide +kernel
theorem dH_checkRegister_13 : decode b_H_checkRegister 13 = .ok (.dup, 1) := by decide +kernel
theorem dH_checkRegister_14 : decode b_H_checkRegister 14 = .ok (.invokespecial 151, 3) := by decide +kernel
theorem dH_checkRegister_17 : decode b_H_checkRegister 17 = .ok (.athrow, 1) := by decide +kernel
theorem dH_checkRegister_18 : decode b_H_checkRegister 18 = .ok (.return_, 1) := by decide +kernel
theorem dH_variable_0 : decode b_H_variable 0 = .ok (.iload_n 1, 1) := by decide +kernel
theorem dH_variable_1 : decode b_H_variable 1 = .ok (.invokestatic 48, 3) := by decide +kernel
theorem dH_variable_4 : decode b_H_variable 4 = .ok (.iload_n 2, 1) := by decide +kernel
theorem dH_variable_5 : decode b_H_variable 5 = .ok (.invokestatic 58, 3) := by decide +kernel
theorem dH_variable_8 : decode b_H_variable 8 = .ok (.aload_n 0, 1) := by decide +kernel
theorem dH_variable_9 : decode b_H_variable 9 = .ok (.getfield 11, 3) := by decide +kernel
theorem dH_variable_12 : decode b_H_variable 12 = .ok (.iload_n 1, 1) := by decide +kernel
theorem dH_variable_13 : decode b_H_variable 13 = .ok (.aaload, 1) := by decide +kernel
theorem dH_variable_14 : decode b_H_variable 14 = .ok (.invokevirtual 61, 3) := by decide +kernel
theorem dH_variable_17 : decode b_H_variable 17 = .ok (.aload_n 0, 1) := by decide +kernel
theorem dH_variable_18 : decode b_H_variable 18 = .ok (.getfield 11, 3) := by decide +kernel
theorem dH_variable_21 : decode b_H_variable 21 = .ok (.iload_n 1, 1) := by decide +kernel
theorem dH_variable_22 : decode b_H_variable 22 = .ok (.aaload, 1) := by decide +kernel
theorem dH_variable_23 : decode b_H_variable 23 = .ok (.iload_n 2, 1) := by decide +kernel
theorem dH_variable_24 : decode b_H_variable 24 = .ok (.invokestatic 64, 3) := by decide +kernel
theorem dH_variable_27 : decode b_H_variable 27 = .ok (.iconst 1, 1) := by decide +kernel
theorem dH_variable_28 : decode b_H_variable 28 = .ok (.invokevirtual 69, 3) := by decide +kernel
theorem dH_variable_31 : decode b_H_variable 31 = .ok (.return_, 1) := by decide +kernel
theorem dH_checkVariable_0 : decode b_H_checkVariable 0 = .ok (.iload_n 0, 1) := by decide +kernel
theorem dH_checkVariable_1 : decode b_H_checkVariable 1 = .ok (.ifCond .lt 8, 3) := by decide +kernel
theorem dH_checkVariable_4 : decode b_H_checkVariable 4 = .ok (.iload_n 0, 1) := by decide +kernel
theorem dH_checkVariable_5 : decode b_H_checkVariable 5 = .ok (.iconst 3, 1) := by decide +kernel
theorem dH_checkVariable_6 : decode b_H_checkVariable 6 = .ok (.if_icmp .lt 11, 3) := by decide +kernel
theorem dH_checkVariable_9 : decode b_H_checkVariable 9 = .ok (.new 96, 3) := by decide +kernel
theorem dH_checkVariable_12 : decode b_H_checkVariable 12 = .ok (.dup, 1) := by decide +kernel
theorem dH_checkVariable_13 : decode b_H_checkVariable 13 = .ok (.invokespecial 98, 3) := by decide +kernel
theorem dH_checkVariable_16 : decode b_H_checkVariable 16 = .ok (.athrow, 1) := by decide +kernel
theorem dH_checkVariable_17 : decode b_H_checkVariable 17 = .ok (.return_, 1) := by decide +kernel
theorem dH_add_0 : decode b_H_add 0 = .ok (.iload_n 1, 1) := by decide +kernel
theorem dH_add_1 : decode b_H_add 1 = .ok (.iload_n 2, 1) := by decide +kernel
theorem dH_add_2 : decode b_H_add 2 = .ok (.iload_n 3, 1) := by decide +kernel
theorem dH_add_3 : decode b_H_add 3 = .ok (.invokestatic 73, 3) := by decide +kernel
theorem dH_add_6 : decode b_H_add 6 = .ok (.aload_n 0, 1) := by decide +kernel
theorem dH_add_7 : decode b_H_add 7 = .ok (.getfield 32, 3) := by decide +kernel
theorem dH_add_10 : decode b_H_add 10 = .ok (.aload_n 0, 1) := by decide +kernel
theorem dH_add_11 : decode b_H_add 11 = .ok (.getfield 11, 3) := by decide +kernel
theorem dH_add_14 : decode b_H_add 14 = .ok (.iload_n 2, 1) := by decide +kernel
theorem dH_add_15 : decode b_H_add 15 = .ok (.aaload, 1) := by decide +kernel
theorem dH_add_16 : decode b_H_add 16 = .ok (.iconst 1, 1) := by decide +kernel
theorem dH_add_17 : decode b_H_add 17 = .ok (.iconst 0, 1) := by decide +kernel
theorem dH_add_18 : decode b_H_add 18 = .ok (.invokevirtual 77, 3) := by decide +kernel
theorem dH_add_21 : decode b_H_add 21 = .ok (.aload_n 0, 1) := by decide +kernel
theorem dH_add_22 : decode b_H_add 22 = .ok (.getfield 32, 3) := by decide +kernel
theorem dH_add_25 : decode b_H_add 25 = .ok (.aload_n 0, 1) := by decide +kernel
theorem dH_add_26 : decode b_H_add 26 = .ok (.getfield 11, 3) := by decide +kernel
theorem dH_add_29 : decode b_H_add 29 = .ok (.iload_n 3, 1) := by decide +kernel
theorem dH_add_30 : decode b_H_add 30 = .ok (.aaload, 1) := by decide +kernel
theorem dH_add_31 : decode b_H_add 31 = .ok (.aload_n 0, 1) := by decide +kernel
theorem dH_add_32 : decode b_H_add 32 = .ok (.getfield 23, 3) := by decide +kernel
theorem dH_add_35 : decode b_H_add 35 = .ok (.iload 4, 2) := by decide +kernel
theorem dH_add_37 : decode b_H_add 37 = .ok (.invokevirtual 51, 3) := by decide +kernel
theorem dH_add_40 : decode b_H_add 40 = .ok (.iconst 0, 1) := by decide +kernel
theorem dH_add_41 : decode b_H_add 41 = .ok (.invokevirtual 77, 3) := by decide +kernel
theorem dH_add_44 : decode b_H_add 44 = .ok (.aload_n 0, 1) := by decide +kernel
theorem dH_add_45 : decode b_H_add 45 = .ok (.getfield 32, 3) := by decide +kernel
theorem dH_add_48 : decode b_H_add 48 = .ok (.aload_n 0, 1) := by decide +kernel
theorem dH_add_49 : decode b_H_add 49 = .ok (.getfield 11, 3) := by decide +kernel
theorem dH_add_52 : decode b_H_add 52 = .ok (.iload_n 1, 1) := by decide +kernel
theorem dH_add_53 : decode b_H_add 53 = .ok (.aaload, 1) := by decide +kernel
theorem dH_add_54 : decode b_H_add 54 = .ok (.invokevirtual 81, 3) := by decide +kernel
theorem dH_add_57 : decode b_H_add 57 = .ok (.return_, 1) := by decide +kernel
theorem dH_checkRegisters_0 : decode b_H_checkRegisters 0 = .ok (.iload_n 0, 1) := by decide +kernel
theorem dH_checkRegisters_1 : decode b_H_checkRegisters 1 = .ok (.invokestatic 48, 3) := by decide +kernel
theorem dH_checkRegisters_4 : decode b_H_checkRegisters 4 = .ok (.iload_n 1, 1) := by decide +kernel
theorem dH_checkRegisters_5 : decode b_H_checkRegisters 5 = .ok (.invokestatic 48, 3) := by decide +kernel
theorem dH_checkRegisters_8 : decode b_H_checkRegisters 8 = .ok (.iload_n 2, 1) := by decide +kernel
theorem dH_checkRegisters_9 : decode b_H_checkRegisters 9 = .ok (.invokestatic 48, 3) := by decide +kernel
theorem dH_checkRegisters_12 : decode b_H_checkRegisters 12 = .ok (.return_, 1) := by decide +kernel
theorem dH_multiply_0 : decode b_H_multiply 0 = .ok (.iload_n 1, 1) := by decide +kernel
theorem dH_multiply_1 : decode b_H_multiply 1 = .ok (.iload_n 2, 1) := by decide +kernel
theorem dH_multiply_2 : decode b_H_multiply 2 = .ok (.iload_n 3, 1) := by decide +kernel
theorem dH_multiply_3 : decode b_H_multiply 3 = .ok (.invokestatic 73, 3) := by decide +kernel
theorem dH_multiply_6 : decode b_H_multiply 6 = .ok (.aload_n 0, 1) := by decide +kernel
theorem dH_multiply_7 : decode b_H_multiply 7 = .ok (.getfield 11, 3) := by decide +kernel
theorem dH_multiply_10 : decode b_H_multiply 10 = .ok (.iload_n 2, 1) := by decide +kernel
theorem dH_multiply_11 : decode b_H_multiply 11 = .ok (.aaload, 1) := by decide +kernel
theorem dH_multiply_12 : decode b_H_multiply 12 = .ok (.astore 4, 2) := by decide +kernel
theorem dH_multiply_14 : decode b_H_multiply 14 = .ok (.aload_n 0, 1) := by decide +kernel
theorem dH_multiply_15 : decode b_H_multiply 15 = .ok (.getfield 11, 3) := by decide +kernel
theorem dH_multiply_18 : decode b_H_multiply 18 = .ok (.iload_n 3, 1) := by decide +kernel
theorem dH_multiply_19 : decode b_H_multiply 19 = .ok (.aaload, 1) := by decide +kernel
theorem dH_multiply_20 : decode b_H_multiply 20 = .ok (.astore 5, 2) := by decide +kernel
theorem dH_multiply_22 : decode b_H_multiply 22 = .ok (.iconst 0, 1) := by decide +kernel
theorem dH_multiply_23 : decode b_H_multiply 23 = .ok (.istore 6, 2) := by decide +kernel
theorem dH_multiply_25 : decode b_H_multiply 25 = .ok (.iload 6, 2) := by decide +kernel
theorem dH_multiply_27 : decode b_H_multiply 27 = .ok (.iconst 3, 1) := by decide +kernel
theorem dH_multiply_28 : decode b_H_multiply 28 = .ok (.if_icmp .ge 34, 3) := by decide +kernel
theorem dH_multiply_31 : decode b_H_multiply 31 = .ok (.aload 4, 2) := by decide +kernel
theorem dH_multiply_33 : decode b_H_multiply 33 = .ok (.iload 6, 2) := by decide +kernel
theorem dH_multiply_35 : decode b_H_multiply 35 = .ok (.invokevirtual 85, 3) := by decide +kernel
theorem dH_multiply_38 : decode b_H_multiply 38 = .ok (.aload 5, 2) := by decide +kernel
theorem dH_multiply_40 : decode b_H_multiply 40 = .ok (.iload 6, 2) := by decide +kernel
theorem dH_multiply_42 : decode b_H_multiply 42 = .ok (.invokevirtual 85, 3) := by decide +kernel
theorem dH_multiply_45 : decode b_H_multiply 45 = .ok (.iadd, 1) := by decide +kernel
theorem dH_multiply_46 : decode b_H_multiply 46 = .ok (.bipush 12, 2) := by decide +kernel
theorem dH_multiply_48 : decode b_H_multiply 48 = .ok (.if_icmp .le 8, 3) := by decide +kernel
theorem dH_multiply_51 : decode b_H_multiply 51 = .ok (.aload_n 0, 1) := by decide +kernel
theorem dH_multiply_52 : decode b_H_multiply 52 = .ok (.invokevirtual 88, 3) := by decide +kernel
theorem dH_multiply_55 : decode b_H_multiply 55 = .ok (.ireturn, 1) := by decide +kernel
theorem dH_multiply_56 : decode b_H_multiply 56 = .ok (.iinc 6 1, 3) := by decide +kernel
theorem dH_multiply_59 : decode b_H_multiply 59 = .ok (.goto (-34), 3) := by decide +kernel
theorem dH_multiply_62 : decode b_H_multiply 62 = .ok (.aload_n 0, 1) := by decide +kernel
theorem dH_multiply_63 : decode b_H_multiply 63 = .ok (.getfield 32, 3) := by decide +kernel
theorem dH_multiply_66 : decode b_H_multiply 66 = .ok (.aload 4, 2) := by decide +kernel
theorem dH_multiply_68 : decode b_H_multiply 68 = .ok (.aload 5, 2) := by decide +kernel
theorem dH_multiply_70 : decode b_H_multiply 70 = .ok (.invokevirtual 92, 3) := by decide +kernel
theorem dH_multiply_73 : decode b_H_multiply 73 = .ok (.aload_n 0, 1) := by decide +kernel
theorem dH_multiply_74 : decode b_H_multiply 74 = .ok (.getfield 32, 3) := by decide +kernel
theorem dH_multiply_77 : decode b_H_multiply 77 = .ok (.aload_n 0, 1) := by decide +kernel
theorem dH_multiply_78 : decode b_H_multiply 78 = .ok (.getfield 11, 3) := by decide +kernel
theorem dH_multiply_81 : decode b_H_multiply 81 = .ok (.iload_n 1, 1) := by decide +kernel
theorem dH_multiply_82 : decode b_H_multiply 82 = .ok (.aaload, 1) := by decide +kernel
theorem dH_multiply_83 : decode b_H_multiply 83 = .ok (.invokevirtual 81, 3) := by decide +kernel
theorem dH_multiply_86 : decode b_H_multiply 86 = .ok (.iconst 1, 1) := by decide +kernel
theorem dH_multiply_87 : decode b_H_multiply 87 = .ok (.ireturn, 1) := by decide +kernel
theorem dH_refuse_0 : decode b_H_refuse 0 = .ok (.aload_n 0, 1) := by decide +kernel
theorem dH_refuse_1 : decode b_H_refuse 1 = .ok (.dup, 1) := by decide +kernel
theorem dH_refuse_2 : decode b_H_refuse 2 = .ok (.getfield 179, 3) := by decide +kernel
theorem dH_refuse_5 : decode b_H_refuse 5 = .ok (.iconst 1, 1) := by decide +kernel
theorem dH_refuse_6 : decode b_H_refuse 6 = .ok (.iadd, 1) := by decide +kernel
theorem dH_refuse_7 : decode b_H_refuse 7 = .ok (.putfield 179, 3) := by decide +kernel
theorem dH_refuse_10 : decode b_H_refuse 10 = .ok (.iconst 0, 1) := by decide +kernel
theorem dH_refuse_11 : decode b_H_refuse 11 = .ok (.ireturn, 1) := by decide +kernel
theorem dH_power_0 : decode b_H_power 0 = .ok (.iload_n 1, 1) := by decide +kernel
theorem dH_power_1 : decode b_H_power 1 = .ok (.invokestatic 48, 3) := by decide +kernel
theorem dH_power_4 : decode b_H_power 4 = .ok (.iload_n 2, 1) := by decide +kernel
theorem dH_power_5 : decode b_H_power 5 = .ok (.invokestatic 48, 3) := by decide +kernel
theorem dH_power_8 : decode b_H_power 8 = .ok (.iload_n 3, 1) := by decide +kernel
theorem dH_power_9 : decode b_H_power 9 = .ok (.ifCond .lt 9, 3) := by decide +kernel
theorem dH_power_12 : decode b_H_power 12 = .ok (.iload_n 3, 1) := by decide +kernel
theorem dH_power_13 : decode b_H_power 13 = .ok (.bipush 100, 2) := by decide +kernel
theorem dH_power_15 : decode b_H_power 15 = .ok (.if_icmp .le 11, 3) := by decide +kernel
theorem dH_power_18 : decode b_H_power 18 = .ok (.new 96, 3) := by decide +kernel
theorem dH_power_21 : decode b_H_power 21 = .ok (.dup, 1) := by decide +kernel
theorem dH_power_22 : decode b_H_power 22 = .ok (.invokespecial 98, 3) := by decide +kernel
theorem dH_power_25 : decode b_H_power 25 = .ok (.athrow, 1) := by decide +kernel
theorem dH_power_26 : decode b_H_power 26 = .ok (.aload_n 0, 1) := by decide +kernel
theorem dH_power_27 : decode b_H_power 27 = .ok (.getfield 11, 3) := by decide +kernel
theorem dH_power_30 : decode b_H_power 30 = .ok (.iload_n 2, 1) := by decide +kernel
theorem dH_power_31 : decode b_H_power 31 = .ok (.aaload, 1) := by decide +kernel
theorem dH_power_32 : decode b_H_power 32 = .ok (.astore 4, 2) := by decide +kernel
theorem dH_power_34 : decode b_H_power 34 = .ok (.iconst 0, 1) := by decide +kernel
theorem dH_power_35 : decode b_H_power 35 = .ok (.istore 5, 2) := by decide +kernel
theorem dH_power_37 : decode b_H_power 37 = .ok (.iload 5, 2) := by decide +kernel
theorem dH_power_39 : decode b_H_power 39 = .ok (.iconst 3, 1) := by decide +kernel
theorem dH_power_40 : decode b_H_power 40 = .ok (.if_icmp .ge 28, 3) := by decide +kernel
theorem dH_power_43 : decode b_H_power 43 = .ok (.iload_n 3, 1) := by decide +kernel
theorem dH_power_44 : decode b_H_power 44 = .ok (.aload 4, 2) := by decide +kernel
theorem dH_power_46 : decode b_H_power 46 = .ok (.iload 5, 2) := by decide +kernel
theorem dH_power_48 : decode b_H_power 48 = .ok (.invokevirtual 85, 3) := by decide +kernel
theorem dH_power_51 : decode b_H_power 51 = .ok (.imul, 1) := by decide +kernel
theorem dH_power_52 : decode b_H_power 52 = .ok (.bipush 12, 2) := by decide +kernel
theorem dH_power_54 : decode b_H_power 54 = .ok (.if_icmp .le 8, 3) := by decide +kernel
theorem dH_power_57 : decode b_H_power 57 = .ok (.aload_n 0, 1) := by decide +kernel
theorem dH_power_58 : decode b_H_power 58 = .ok (.invokevirtual 88, 3) := by decide +kernel
theorem dH_power_61 : decode b_H_power 61 = .ok (.ireturn, 1) := by decide +kernel
theorem dH_power_62 : decode b_H_power 62 = .ok (.iinc 5 1, 3) := by decide +kernel
theorem dH_power_65 : decode b_H_power 65 = .ok (.goto (-28), 3) := by decide +kernel
theorem dH_power_68 : decode b_H_power 68 = .ok (.aload_n 0, 1) := by decide +kernel
theorem dH_power_69 : decode b_H_power 69 = .ok (.getfield 44, 3) := by decide +kernel
theorem dH_power_72 : decode b_H_power 72 = .ok (.iconst 1, 1) := by decide +kernel
theorem dH_power_73 : decode b_H_power 73 = .ok (.invokevirtual 55, 3) := by decide +kernel
theorem dH_power_76 : decode b_H_power 76 = .ok (.iconst 0, 1) := by decide +kernel
theorem dH_power_77 : decode b_H_power 77 = .ok (.istore 5, 2) := by decide +kernel
theorem dH_power_79 : decode b_H_power 79 = .ok (.iload 5, 2) := by decide +kernel
theorem dH_power_81 : decode b_H_power 81 = .ok (.iload_n 3, 1) := by decide +kernel
theorem dH_power_82 : decode b_H_power 82 = .ok (.if_icmp .ge 33, 3) := by decide +kernel
theorem dH_power_85 : decode b_H_power 85 = .ok (.aload_n 0, 1) := by decide +kernel
theorem dH_power_86 : decode b_H_power 86 = .ok (.getfield 32, 3) := by decide +kernel
theorem dH_power_89 : decode b_H_power 89 = .ok (.aload_n 0, 1) := by decide +kernel
theorem dH_power_90 : decode b_H_power 90 = .ok (.getfield 44, 3) := by decide +kernel
theorem dH_power_93 : decode b_H_power 93 = .ok (.aload 4, 2) := by decide +kernel
theorem dH_power_95 : decode b_H_power 95 = .ok (.invokevirtual 92, 3) := by decide +kernel
theorem dH_power_98 : decode b_H_power 98 = .ok (.aload_n 0, 1) := by decide +kernel
theorem dH_power_99 : decode b_H_power 99 = .ok (.getfield 32, 3) := by decide +kernel
theorem dH_power_102 : decode b_H_power 102 = .ok (.aload_n 0, 1) := by decide +kernel
theorem dH_power_103 : decode b_H_power 103 = .ok (.getfield 44, 3) := by decide +kernel
theorem dH_power_106 : decode b_H_power 106 = .ok (.invokevirtual 81, 3) := by decide +kernel
theorem dH_power_109 : decode b_H_power 109 = .ok (.iinc 5 1, 3) := by decide +kernel
theorem dH_power_112 : decode b_H_power 112 = .ok (.goto (-33), 3) := by decide +kernel
theorem dH_power_115 : decode b_H_power 115 = .ok (.aload_n 0, 1) := by decide +kernel
theorem dH_power_116 : decode b_H_power 116 = .ok (.iload_n 1, 1) := by decide +kernel
theorem dH_power_117 : decode b_H_power 117 = .ok (.invokevirtual 99, 3) := by decide +kernel
theorem dH_power_120 : decode b_H_power 120 = .ok (.iconst 1, 1) := by decide +kernel
theorem dH_power_121 : decode b_H_power 121 = .ok (.ireturn, 1) := by decide +kernel
theorem dH_exchangeSpare_0 : decode b_H_exchangeSpare 0 = .ok (.aload_n 0, 1) := by decide +kernel
theorem dH_exchangeSpare_1 : decode b_H_exchangeSpare 1 = .ok (.getfield 11, 3) := by decide +kernel
theorem dH_exchangeSpare_4 : decode b_H_exchangeSpare 4 = .ok (.iload_n 1, 1) := by decide +kernel
theorem dH_exchangeSpare_5 : decode b_H_exchangeSpare 5 = .ok (.aaload, 1) := by decide +kernel
theorem dH_exchangeSpare_6 : decode b_H_exchangeSpare 6 = .ok (.astore_n 2, 1) := by decide +kernel
theorem dH_exchangeSpare_7 : decode b_H_exchangeSpare 7 = .ok (.aload_n 0, 1) := by decide +kernel
theorem dH_exchangeSpare_8 : decode b_H_exchangeSpare 8 = .ok (.getfield 11, 3) := by decide +kernel
theorem dH_exchangeSpare_11 : decode b_H_exchangeSpare 11 = .ok (.iload_n 1, 1) := by decide +kernel
theorem dH_exchangeSpare_12 : decode b_H_exchangeSpare 12 = .ok (.aload_n 0, 1) := by decide +kernel
theorem dH_exchangeSpare_13 : decode b_H_exchangeSpare 13 = .ok (.getfield 44, 3) := by decide +kernel
theorem dH_exchangeSpare_16 : decode b_H_exchangeSpare 16 = .ok (.aastore, 1) := by decide +kernel
theorem dH_exchangeSpare_17 : decode b_H_exchangeSpare 17 = .ok (.aload_n 0, 1) := by decide +kernel
theorem dH_exchangeSpare_18 : decode b_H_exchangeSpare 18 = .ok (.aload_n 2, 1) := by decide +kernel
theorem dH_exchangeSpare_19 : decode b_H_exchangeSpare 19 = .ok (.putfield 44, 3) := by decide +kernel
theorem dH_exchangeSpare_22 : decode b_H_exchangeSpare 22 = .ok (.return_, 1) := by decide +kernel
theorem dH_divide_0 : decode b_H_divide 0 = .ok (.iload_n 1, 1) := by decide +kernel
theorem dH_divide_1 : decode b_H_divide 1 = .ok (.iload_n 2, 1) := by decide +kernel
theorem dH_divide_2 : decode b_H_divide 2 = .ok (.iload_n 3, 1) := by decide +kernel
theorem dH_divide_3 : decode b_H_divide 3 = .ok (.invokestatic 73, 3) := by decide +kernel
theorem dH_divide_6 : decode b_H_divide 6 = .ok (.aload_n 0, 1) := by decide +kernel
theorem dH_divide_7 : decode b_H_divide 7 = .ok (.getfield 11, 3) := by decide +kernel
theorem dH_divide_10 : decode b_H_divide 10 = .ok (.iload_n 3, 1) := by decide +kernel
theorem dH_divide_11 : decode b_H_divide 11 = .ok (.aaload, 1) := by decide +kernel
theorem dH_divide_12 : decode b_H_divide 12 = .ok (.astore 5, 2) := by decide +kernel
theorem dH_divide_14 : decode b_H_divide 14 = .ok (.aload 5, 2) := by decide +kernel
theorem dH_divide_16 : decode b_H_divide 16 = .ok (.invokevirtual 102, 3) := by decide +kernel
theorem dH_divide_19 : decode b_H_divide 19 = .ok (.ifCond .eq 11, 3) := by decide +kernel
theorem dH_divide_22 : decode b_H_divide 22 = .ok (.new 96, 3) := by decide +kernel
theorem dH_divide_25 : decode b_H_divide 25 = .ok (.dup, 1) := by decide +kernel
theorem dH_divide_26 : decode b_H_divide 26 = .ok (.invokespecial 98, 3) := by decide +kernel
theorem dH_divide_29 : decode b_H_divide 29 = .ok (.athrow, 1) := by decide +kernel
theorem dH_divide_30 : decode b_H_divide 30 = .ok (.aload_n 0, 1) := by decide +kernel
theorem dH_divide_31 : decode b_H_divide 31 = .ok (.getfield 32, 3) := by decide +kernel
theorem dH_divide_34 : decode b_H_divide 34 = .ok (.aload_n 0, 1) := by decide +kernel
theorem dH_divide_35 : decode b_H_divide 35 = .ok (.getfield 11, 3) := by decide +kernel
theorem dH_divide_38 : decode b_H_divide 38 = .ok (.iload_n 2, 1) := by decide +kernel
theorem dH_divide_39 : decode b_H_divide 39 = .ok (.aaload, 1) := by decide +kernel
theorem dH_divide_40 : decode b_H_divide 40 = .ok (.iconst 1, 1) := by decide +kernel
theorem dH_divide_41 : decode b_H_divide 41 = .ok (.iconst 0, 1) := by decide +kernel
theorem dH_divide_42 : decode b_H_divide 42 = .ok (.invokevirtual 77, 3) := by decide +kernel
theorem dH_divide_45 : decode b_H_divide 45 = .ok (.aload_n 0, 1) := by decide +kernel
theorem dH_divide_46 : decode b_H_divide 46 = .ok (.getfield 32, 3) := by decide +kernel
theorem dH_divide_49 : decode b_H_divide 49 = .ok (.aload 5, 2) := by decide +kernel
theorem dH_divide_51 : decode b_H_divide 51 = .ok (.aload_n 0, 1) := by decide +kernel
theorem dH_divide_52 : decode b_H_divide 52 = .ok (.getfield 44, 3) := by decide +kernel
theorem dH_divide_55 : decode b_H_divide 55 = .ok (.invokevirtual 105, 3) := by decide +kernel
theorem dH_divide_58 : decode b_H_divide 58 = .ok (.iload 4, 2) := by decide +kernel
theorem dH_divide_60 : decode b_H_divide 60 = .ok (.ifCond .eq 18, 3) := by decide +kernel
theorem dH_divide_63 : decode b_H_divide 63 = .ok (.aload_n 0, 1) := by decide +kernel
theorem dH_divide_64 : decode b_H_divide 64 = .ok (.getfield 32, 3) := by decide +kernel
theorem dH_divide_67 : decode b_H_divide 67 = .ok (.invokevirtual 108, 3) := by decide +kernel
theorem dH_divide_70 : decode b_H_divide 70 = .ok (.aload_n 0, 1) := by decide +kernel
theorem dH_divide_71 : decode b_H_divide 71 = .ok (.iload_n 1, 1) := by decide +kernel
theorem dH_divide_72 : decode b_H_divide 72 = .ok (.invokevirtual 99, 3) := by decide +kernel
theorem dH_divide_75 : decode b_H_divide 75 = .ok (.goto 16, 3) := by decide +kernel
theorem dH_divide_78 : decode b_H_divide 78 = .ok (.aload_n 0, 1) := by decide +kernel
theorem dH_divide_79 : decode b_H_divide 79 = .ok (.getfield 32, 3) := by decide +kernel
theorem dH_divide_82 : decode b_H_divide 82 = .ok (.aload_n 0, 1) := by decide +kernel
theorem dH_divide_83 : decode b_H_divide 83 = .ok (.getfield 11, 3) := by decide +kernel
theorem dH_divide_86 : decode b_H_divide 86 = .ok (.iload_n 1, 1) := by decide +kernel
theorem dH_divide_87 : decode b_H_divide 87 = .ok (.aaload, 1) := by decide +kernel
theorem dH_divide_88 : decode b_H_divide 88 = .ok (.invokevirtual 81, 3) := by decide +kernel
theorem dH_divide_91 : decode b_H_divide 91 = .ok (.return_, 1) := by decide +kernel
theorem dH_derive_0 : decode b_H_derive 0 = .ok (.iload_n 1, 1) := by decide +kernel
theorem dH_derive_1 : decode b_H_derive 1 = .ok (.invokestatic 48, 3) := by decide +kernel
theorem dH_derive_4 : decode b_H_derive 4 = .ok (.iload_n 2, 1) := by decide +kernel
theorem dH_derive_5 : decode b_H_derive 5 = .ok (.invokestatic 48, 3) := by decide +kernel
theorem dH_derive_8 : decode b_H_derive 8 = .ok (.iload_n 3, 1) := by decide +kernel
theorem dH_derive_9 : decode b_H_derive 9 = .ok (.invokestatic 58, 3) := by decide +kernel
theorem dH_derive_12 : decode b_H_derive 12 = .ok (.aload_n 0, 1) := by decide +kernel
theorem dH_derive_13 : decode b_H_derive 13 = .ok (.getfield 11, 3) := by decide +kernel
theorem dH_derive_16 : decode b_H_derive 16 = .ok (.iload_n 2, 1) := by decide +kernel
theorem dH_derive_17 : decode b_H_derive 17 = .ok (.aaload, 1) := by decide +kernel
theorem dH_derive_18 : decode b_H_derive 18 = .ok (.astore 4, 2) := by decide +kernel
theorem dH_derive_20 : decode b_H_derive 20 = .ok (.aload_n 0, 1) := by decide +kernel
theorem dH_derive_21 : decode b_H_derive 21 = .ok (.getfield 44, 3) := by decide +kernel
theorem dH_derive_24 : decode b_H_derive 24 = .ok (.invokevirtual 61, 3) := by decide +kernel
theorem dH_derive_27 : decode b_H_derive 27 = .ok (.iconst 0, 1) := by decide +kernel
theorem dH_derive_28 : decode b_H_derive 28 = .ok (.istore 5, 2) := by decide +kernel
theorem dH_derive_30 : decode b_H_derive 30 = .ok (.iload 5, 2) := by decide +kernel
theorem dH_derive_32 : decode b_H_derive 32 = .ok (.aload 4, 2) := by decide +kernel
theorem dH_derive_34 : decode b_H_derive 34 = .ok (.getfield 109, 3) := by decide +kernel
theorem dH_derive_37 : decode b_H_derive 37 = .ok (.if_icmp .ge 70, 3) := by decide +kernel
theorem dH_derive_40 : decode b_H_derive 40 = .ok (.aload 4, 2) := by decide +kernel
theorem dH_derive_42 : decode b_H_derive 42 = .ok (.getfield 113, 3) := by decide +kernel
theorem dH_derive_45 : decode b_H_derive 45 = .ok (.iload 5, 2) := by decide +kernel
theorem dH_derive_47 : decode b_H_derive 47 = .ok (.iaload, 1) := by decide +kernel
theorem dH_derive_48 : decode b_H_derive 48 = .ok (.istore 6, 2) := by decide +kernel
theorem dH_derive_50 : decode b_H_derive 50 = .ok (.aload_n 0, 1) := by decide +kernel
theorem dH_derive_51 : decode b_H_derive 51 = .ok (.getfield 23, 3) := by decide +kernel
theorem dH_derive_54 : decode b_H_derive 54 = .ok (.iload 6, 2) := by decide +kernel
theorem dH_derive_56 : decode b_H_derive 56 = .ok (.iload_n 3, 1) := by decide +kernel
theorem dH_derive_57 : decode b_H_derive 57 = .ok (.invokestatic 117, 3) := by decide +kernel
theorem dH_derive_60 : decode b_H_derive 60 = .ok (.invokevirtual 51, 3) := by decide +kernel
theorem dH_derive_63 : decode b_H_derive 63 = .ok (.istore 7, 2) := by decide +kernel
theorem dH_derive_65 : decode b_H_derive 65 = .ok (.iload 7, 2) := by decide +kernel
theorem dH_derive_67 : decode b_H_derive 67 = .ok (.ifCond .eq 34, 3) := by decide +kernel
theorem dH_derive_70 : decode b_H_derive 70 = .ok (.aload_n 0, 1) := by decide +kernel
theorem dH_derive_71 : decode b_H_derive 71 = .ok (.getfield 44, 3) := by decide +kernel
theorem dH_derive_74 : decode b_H_derive 74 = .ok (.iload 6, 2) := by decide +kernel
theorem dH_derive_76 : decode b_H_derive 76 = .ok (.iload_n 3, 1) := by decide +kernel
theorem dH_derive_77 : decode b_H_derive 77 = .ok (.invokestatic 64, 3) := by decide +kernel
theorem dH_derive_80 : decode b_H_derive 80 = .ok (.isub, 1) := by decide +kernel
theorem dH_derive_81 : decode b_H_derive 81 = .ok (.aload_n 0, 1) := by decide +kernel
theorem dH_derive_82 : decode b_H_derive 82 = .ok (.getfield 23, 3) := by decide +kernel
theorem dH_derive_85 : decode b_H_derive 85 = .ok (.iload 7, 2) := by decide +kernel
theorem dH_derive_87 : decode b_H_derive 87 = .ok (.aload 4, 2) := by decide +kernel
theorem dH_derive_89 : decode b_H_derive 89 = .ok (.getfield 121, 3) := by decide +kernel
theorem dH_derive_92 : decode b_H_derive 92 = .ok (.iload 5, 2) := by decide +kernel
theorem dH_derive_94 : decode b_H_derive 94 = .ok (.iaload, 1) := by decide +kernel
theorem dH_derive_95 : decode b_H_derive 95 = .ok (.invokevirtual 124, 3) := by decide +kernel
theorem dH_derive_98 : decode b_H_derive 98 = .ok (.invokevirtual 69, 3) := by decide +kernel
theorem dH_derive_101 : decode b_H_derive 101 = .ok (.iinc 5 1, 3) := by decide +kernel
theorem dH_derive_104 : decode b_H_derive 104 = .ok (.goto (-74), 3) := by decide +kernel
theorem dH_derive_107 : decode b_H_derive 107 = .ok (.aload_n 0, 1) := by decide +kernel
theorem dH_derive_108 : decode b_H_derive 108 = .ok (.iload_n 1, 1) := by decide +kernel
theorem dH_derive_109 : decode b_H_derive 109 = .ok (.invokevirtual 99, 3) := by decide +kernel
theorem dH_derive_112 : decode b_H_derive 112 = .ok (.return_, 1) := by decide +kernel
theorem dH_put_0 : decode b_H_put 0 = .ok (.iload_n 1, 1) := by decide +kernel
theorem dH_put_1 : decode b_H_put 1 = .ok (.iload_n 2, 1) := by decide +kernel
theorem dH_put_2 : decode b_H_put 2 = .ok (.iload 4, 2) := by decide +kernel
theorem dH_put_4 : decode b_H_put 4 = .ok (.invokestatic 73, 3) := by decide +kernel
theorem dH_put_7 : decode b_H_put 7 = .ok (.iload_n 3, 1) := by decide +kernel
theorem dH_put_8 : decode b_H_put 8 = .ok (.invokestatic 58, 3) := by decide +kernel
theorem dH_put_11 : decode b_H_put 11 = .ok (.aload_n 0, 1) := by decide +kernel
theorem dH_put_12 : decode b_H_put 12 = .ok (.getfield 11, 3) := by decide +kernel
theorem dH_put_15 : decode b_H_put 15 = .ok (.iload_n 2, 1) := by decide +kernel
theorem dH_put_16 : decode b_H_put 16 = .ok (.aaload, 1) := by decide +kernel
theorem dH_put_17 : decode b_H_put 17 = .ok (.astore 5, 2) := by decide +kernel
theorem dH_put_19 : decode b_H_put 19 = .ok (.aload_n 0, 1) := by decide +kernel
theorem dH_put_20 : decode b_H_put 20 = .ok (.getfield 11, 3) := by decide +kernel
theorem dH_put_23 : decode b_H_put 23 = .ok (.iload 4, 2) := by decide +kernel
theorem dH_put_25 : decode b_H_put 25 = .ok (.aaload, 1) := by decide +kernel
theorem dH_put_26 : decode b_H_put 26 = .ok (.astore 6, 2) := by decide +kernel
theorem dH_put_28 : decode b_H_put 28 = .ok (.aload 5, 2) := by decide +kernel
theorem dH_put_30 : decode b_H_put 30 = .ok (.iload_n 3, 1) := by decide +kernel
theorem dH_put_31 : decode b_H_put 31 = .ok (.invokevirtual 85, 3) := by decide +kernel
theorem dH_put_34 : decode b_H_put 34 = .ok (.istore 7, 2) := by decide +kernel
theorem dH_put_36 : decode b_H_put 36 = .ok (.iconst 0, 1) := by decide +kernel
theorem dH_put_37 : decode b_H_put 37 = .ok (.istore 8, 2) := by decide +kernel
theorem dH_put_39 : decode b_H_put 39 = .ok (.iload 8, 2) := by decide +kernel
theorem dH_put_41 : decode b_H_put 41 = .ok (.iconst 3, 1) := by decide +kernel
theorem dH_put_42 : decode b_H_put 42 = .ok (.if_icmp .ge 51, 3) := by decide +kernel
theorem dH_put_45 : decode b_H_put 45 = .ok (.iload 8, 2) := by decide +kernel
theorem dH_put_47 : decode b_H_put 47 = .ok (.iload_n 3, 1) := by decide +kernel
theorem dH_put_48 : decode b_H_put 48 = .ok (.if_icmp .ne 7, 3) := by decide +kernel
theorem dH_put_51 : decode b_H_put 51 = .ok (.iconst 0, 1) := by decide +kernel
theorem dH_put_52 : decode b_H_put 52 = .ok (.goto 10, 3) := by decide +kernel
theorem dH_put_55 : decode b_H_put 55 = .ok (.aload 5, 2) := by decide +kernel
theorem dH_put_57 : decode b_H_put 57 = .ok (.iload 8, 2) := by decide +kernel
theorem dH_put_59 : decode b_H_put 59 = .ok (.invokevirtual 85, 3) := by decide +kernel
theorem dH_put_62 : decode b_H_put 62 = .ok (.istore 9, 2) := by decide +kernel
theorem dH_put_64 : decode b_H_put 64 = .ok (.iload 9, 2) := by decide +kernel
theorem dH_put_66 : decode b_H_put 66 = .ok (.iload 7, 2) := by decide +kernel
theorem dH_put_68 : decode b_H_put 68 = .ok (.aload 6, 2) := by decide +kernel
theorem dH_put_70 : decode b_H_put 70 = .ok (.iload 8, 2) := by decide +kernel
theorem dH_put_72 : decode b_H_put 72 = .ok (.invokevirtual 85, 3) := by decide +kernel
theorem dH_put_75 : decode b_H_put 75 = .ok (.imul, 1) := by decide +kernel
theorem dH_put_76 : decode b_H_put 76 = .ok (.iadd, 1) := by decide +kernel
theorem dH_put_77 : decode b_H_put 77 = .ok (.bipush 12, 2) := by decide +kernel
theorem dH_put_79 : decode b_H_put 79 = .ok (.if_icmp .le 8, 3) := by decide +kernel
theorem dH_put_82 : decode b_H_put 82 = .ok (.aload_n 0, 1) := by decide +kernel
theorem dH_put_83 : decode b_H_put 83 = .ok (.invokevirtual 88, 3) := by decide +kernel
theorem dH_put_86 : decode b_H_put 86 = .ok (.ireturn, 1) := by decide +kernel
theorem dH_put_87 : decode b_H_put 87 = .ok (.iinc 8 1, 3) := by decide +kernel
theorem dH_put_90 : decode b_H_put 90 = .ok (.goto (-51), 3) := by decide +kernel
theorem dH_put_93 : decode b_H_put 93 = .ok (.aload_n 0, 1) := by decide +kernel
theorem dH_put_94 : decode b_H_put 94 = .ok (.getfield 44, 3) := by decide +kernel
theorem dH_put_97 : decode b_H_put 97 = .ok (.invokevirtual 61, 3) := by decide +kernel
theorem dH_put_100 : decode b_H_put 100 = .ok (.iload 7, 2) := by decide +kernel
theorem dH_put_102 : decode b_H_put 102 = .ok (.istore 8, 2) := by decide +kernel
theorem dH_put_104 : decode b_H_put 104 = .ok (.iload 8, 2) := by decide +kernel
theorem dH_put_106 : decode b_H_put 106 = .ok (.ifCond .lt 45, 3) := by decide +kernel
theorem dH_put_109 : decode b_H_put 109 = .ok (.aload_n 0, 1) := by decide +kernel
theorem dH_put_110 : decode b_H_put 110 = .ok (.getfield 32, 3) := by decide +kernel
theorem dH_put_113 : decode b_H_put 113 = .ok (.aload_n 0, 1) := by decide +kernel
theorem dH_put_114 : decode b_H_put 114 = .ok (.getfield 44, 3) := by decide +kernel
theorem dH_put_117 : decode b_H_put 117 = .ok (.aload 6, 2) := by decide +kernel
theorem dH_put_119 : decode b_H_put 119 = .ok (.invokevirtual 92, 3) := by decide +kernel
theorem dH_put_122 : decode b_H_put 122 = .ok (.aload_n 0, 1) := by decide +kernel
theorem dH_put_123 : decode b_H_put 123 = .ok (.getfield 32, 3) := by decide +kernel
theorem dH_put_126 : decode b_H_put 126 = .ok (.aload 5, 2) := by decide +kernel
theorem dH_put_128 : decode b_H_put 128 = .ok (.iload_n 3, 1) := by decide +kernel
theorem dH_put_129 : decode b_H_put 129 = .ok (.iload 8, 2) := by decide +kernel
theorem dH_put_131 : decode b_H_put 131 = .ok (.invokevirtual 127, 3) := by decide +kernel
theorem dH_put_134 : decode b_H_put 134 = .ok (.aload_n 0, 1) := by decide +kernel
theorem dH_put_135 : decode b_H_put 135 = .ok (.getfield 32, 3) := by decide +kernel
theorem dH_put_138 : decode b_H_put 138 = .ok (.aload_n 0, 1) := by decide +kernel
theorem dH_put_139 : decode b_H_put 139 = .ok (.getfield 44, 3) := by decide +kernel
theorem dH_put_142 : decode b_H_put 142 = .ok (.invokevirtual 81, 3) := by decide +kernel
theorem dH_put_145 : decode b_H_put 145 = .ok (.iinc 8 (-1), 3) := by decide +kernel
theorem dH_put_148 : decode b_H_put 148 = .ok (.goto (-44), 3) := by decide +kernel
theorem dH_put_151 : decode b_H_put 151 = .ok (.aload_n 0, 1) := by decide +kernel
theorem dH_put_152 : decode b_H_put 152 = .ok (.iload_n 1, 1) := by decide +kernel
theorem dH_put_153 : decode b_H_put 153 = .ok (.invokevirtual 99, 3) := by decide +kernel
theorem dH_put_156 : decode b_H_put 156 = .ok (.iconst 1, 1) := by decide +kernel
theorem dH_put_157 : decode b_H_put 157 = .ok (.ireturn, 1) := by decide +kernel
theorem dH_resultant_0 : decode b_H_resultant 0 = .ok (.iload_n 1, 1) := by decide +kernel
theorem dH_resultant_1 : decode b_H_resultant 1 = .ok (.iload_n 2, 1) := by decide +kernel
theorem dH_resultant_2 : decode b_H_resultant 2 = .ok (.iload_n 3, 1) := by decide +kernel
theorem dH_resultant_3 : decode b_H_resultant 3 = .ok (.invokestatic 73, 3) := by decide +kernel
theorem dH_resultant_6 : decode b_H_resultant 6 = .ok (.iload 4, 2) := by decide +kernel
theorem dH_resultant_8 : decode b_H_resultant 8 = .ok (.invokestatic 58, 3) := by decide +kernel
theorem dH_resultant_11 : decode b_H_resultant 11 = .ok (.aload_n 0, 1) := by decide +kernel
theorem dH_resultant_12 : decode b_H_resultant 12 = .ok (.getfield 11, 3) := by decide +kernel
theorem dH_resultant_15 : decode b_H_resultant 15 = .ok (.iload_n 2, 1) := by decide +kernel
theorem dH_resultant_16 : decode b_H_resultant 16 = .ok (.aaload, 1) := by decide +kernel
theorem dH_resultant_17 : decode b_H_resultant 17 = .ok (.astore 5, 2) := by decide +kernel
theorem dH_resultant_19 : decode b_H_resultant 19 = .ok (.aload_n 0, 1) := by decide +kernel
theorem dH_resultant_20 : decode b_H_resultant 20 = .ok (.getfield 11, 3) := by decide +kernel
theorem dH_resultant_23 : decode b_H_resultant 23 = .ok (.iload_n 3, 1) := by decide +kernel
theorem dH_resultant_24 : decode b_H_resultant 24 = .ok (.aaload, 1) := by decide +kernel
theorem dH_resultant_25 : decode b_H_resultant 25 = .ok (.astore 6, 2) := by decide +kernel
theorem dH_resultant_27 : decode b_H_resultant 27 = .ok (.aload 5, 2) := by decide +kernel
theorem dH_resultant_29 : decode b_H_resultant 29 = .ok (.iload 4, 2) := by decide +kernel
theorem dH_resultant_31 : decode b_H_resultant 31 = .ok (.invokevirtual 85, 3) := by decide +kernel
theorem dH_resultant_34 : decode b_H_resultant 34 = .ok (.istore 7, 2) := by decide +kernel
theorem dH_resultant_36 : decode b_H_resultant 36 = .ok (.aload 6, 2) := by decide +kernel
theorem dH_resultant_38 : decode b_H_resultant 38 = .ok (.iload 4, 2) := by decide +kernel
theorem dH_resultant_40 : decode b_H_resultant 40 = .ok (.invokevirtual 85, 3) := by decide +kernel
theorem dH_resultant_43 : decode b_H_resultant 43 = .ok (.istore 8, 2) := by decide +kernel
theorem dH_resultant_45 : decode b_H_resultant 45 = .ok (.aload 5, 2) := by decide +kernel
theorem dH_resultant_47 : decode b_H_resultant 47 = .ok (.invokevirtual 102, 3) := by decide +kernel
theorem dH_resultant_50 : decode b_H_resultant 50 = .ok (.ifCond .ne 21, 3) := by decide +kernel
theorem dH_resultant_53 : decode b_H_resultant 53 = .ok (.aload 6, 2) := by decide +kernel
theorem dH_resultant_55 : decode b_H_resultant 55 = .ok (.invokevirtual 102, 3) := by decide +kernel
theorem dH_resultant_58 : decode b_H_resultant 58 = .ok (.ifCond .ne 13, 3) := by decide +kernel
theorem dH_resultant_61 : decode b_H_resultant 61 = .ok (.iload 7, 2) := by decide +kernel
theorem dH_resultant_63 : decode b_H_resultant 63 = .ok (.iload 8, 2) := by decide +kernel
theorem dH_resultant_65 : decode b_H_resultant 65 = .ok (.iadd, 1) := by decide +kernel
theorem dH_resultant_66 : decode b_H_resultant 66 = .ok (.bipush 8, 2) := by decide +kernel
theorem dH_resultant_68 : decode b_H_resultant 68 = .ok (.if_icmp .le 11, 3) := by decide +kernel
theorem dH_resultant_71 : decode b_H_resultant 71 = .ok (.new 96, 3) := by decide +kernel
theorem dH_resultant_74 : decode b_H_resultant 74 = .ok (.dup, 1) := by decide +kernel
theorem dH_resultant_75 : decode b_H_resultant 75 = .ok (.invokespecial 98, 3) := by decide +kernel
theorem dH_resultant_78 : decode b_H_resultant 78 = .ok (.athrow, 1) := by decide +kernel
theorem dH_resultant_79 : decode b_H_resultant 79 = .ok (.iconst 0, 1) := by decide +kernel
theorem dH_resultant_80 : decode b_H_resultant 80 = .ok (.istore 9, 2) := by decide +kernel
theorem dH_resultant_82 : decode b_H_resultant 82 = .ok (.iload 9, 2) := by decide +kernel
theorem dH_resultant_84 : decode b_H_resultant 84 = .ok (.iconst 3, 1) := by decide +kernel
theorem dH_resultant_85 : decode b_H_resultant 85 = .ok (.if_icmp .ge 47, 3) := by decide +kernel
theorem dH_resultant_88 : decode b_H_resultant 88 = .ok (.iload 9, 2) := by decide +kernel
theorem dH_resultant_90 : decode b_H_resultant 90 = .ok (.iload 4, 2) := by decide +kernel
theorem dH_resultant_92 : decode b_H_resultant 92 = .ok (.if_icmp .eq 34, 3) := by decide +kernel
theorem dH_resultant_95 : decode b_H_resultant 95 = .ok (.iload 8, 2) := by decide +kernel
theorem dH_resultant_97 : decode b_H_resultant 97 = .ok (.aload 5, 2) := by decide +kernel
theorem dH_resultant_99 : decode b_H_resultant 99 = .ok (.iload 9, 2) := by decide +kernel
theorem dH_resultant_101 : decode b_H_resultant 101 = .ok (.invokevirtual 85, 3) := by decide +kernel
theorem dH_resultant_104 : decode b_H_resultant 104 = .ok (.imul, 1) := by decide +kernel
theorem dH_resultant_105 : decode b_H_resultant 105 = .ok (.iload 7, 2) := by decide +kernel
theorem dH_resultant_107 : decode b_H_resultant 107 = .ok (.aload 6, 2) := by decide +kernel
theorem dH_resultant_109 : decode b_H_resultant 109 = .ok (.iload 9, 2) := by decide +kernel
theorem dH_resultant_111 : decode b_H_resultant 111 = .ok (.invokevirtual 85, 3) := by decide +kernel
theorem dH_resultant_114 : decode b_H_resultant 114 = .ok (.imul, 1) := by decide +kernel
theorem dH_resultant_115 : decode b_H_resultant 115 = .ok (.iadd, 1) := by decide +kernel
theorem dH_resultant_116 : decode b_H_resultant 116 = .ok (.bipush 12, 2) := by decide +kernel
theorem dH_resultant_118 : decode b_H_resultant 118 = .ok (.if_icmp .le 8, 3) := by decide +kernel
theorem dH_resultant_121 : decode b_H_resultant 121 = .ok (.aload_n 0, 1) := by decide +kernel
theorem dH_resultant_122 : decode b_H_resultant 122 = .ok (.invokevirtual 88, 3) := by decide +kernel
theorem dH_resultant_125 : decode b_H_resultant 125 = .ok (.ireturn, 1) := by decide +kernel
theorem dH_resultant_126 : decode b_H_resultant 126 = .ok (.iinc 9 1, 3) := by decide +kernel
theorem dH_resultant_129 : decode b_H_resultant 129 = .ok (.goto (-47), 3) := by decide +kernel
theorem dH_resultant_132 : decode b_H_resultant 132 = .ok (.iconst 1, 1) := by decide +kernel
theorem dH_resultant_133 : decode b_H_resultant 133 = .ok (.iload 7, 2) := by decide +kernel
theorem dH_resultant_135 : decode b_H_resultant 135 = .ok (.iload 8, 2) := by decide +kernel
theorem dH_resultant_137 : decode b_H_resultant 137 = .ok (.iadd, 1) := by decide +kernel
theorem dH_resultant_138 : decode b_H_resultant 138 = .ok (.ishl, 1) := by decide +kernel
theorem dH_resultant_139 : decode b_H_resultant 139 = .ok (.iconst 1, 1) := by decide +kernel
theorem dH_resultant_140 : decode b_H_resultant 140 = .ok (.isub, 1) := by decide +kernel
theorem dH_resultant_141 : decode b_H_resultant 141 = .ok (.istore 9, 2) := by decide +kernel
theorem dH_resultant_143 : decode b_H_resultant 143 = .ok (.aload_n 0, 1) := by decide +kernel
theorem dH_resultant_144 : decode b_H_resultant 144 = .ok (.getfield 15, 3) := by decide +kernel
theorem dH_resultant_147 : decode b_H_resultant 147 = .ok (.iconst 0, 1) := by decide +kernel
theorem dH_resultant_148 : decode b_H_resultant 148 = .ok (.aaload, 1) := by decide +kernel
theorem dH_resultant_149 : decode b_H_resultant 149 = .ok (.iconst 1, 1) := by decide +kernel
theorem dH_resultant_150 : decode b_H_resultant 150 = .ok (.invokevirtual 55, 3) := by decide +kernel
theorem dH_resultant_153 : decode b_H_resultant 153 = .ok (.iconst 1, 1) := by decide +kernel
theorem dH_resultant_154 : decode b_H_resultant 154 = .ok (.istore 10, 2) := by decide +kernel
theorem dH_resultant_156 : decode b_H_resultant 156 = .ok (.iload 10, 2) := by decide +kernel
theorem dH_resultant_158 : decode b_H_resultant 158 = .ok (.iload 9, 2) := by decide +kernel
theorem dH_resultant_160 : decode b_H_resultant 160 = .ok (.if_icmp .gt 69, 3) := by decide +kernel
theorem dH_resultant_163 : decode b_H_resultant 163 = .ok (.iload 10, 2) := by decide +kernel
theorem dH_resultant_165 : decode b_H_resultant 165 = .ok (.invokestatic 130, 3) := by decide +kernel
theorem dH_resultant_168 : decode b_H_resultant 168 = .ok (.iconst 1, 1) := by decide +kernel
theorem dH_resultant_169 : decode b_H_resultant 169 = .ok (.isub, 1) := by decide +kernel
theorem dH_resultant_170 : decode b_H_resultant 170 = .ok (.istore 11, 2) := by decide +kernel
theorem dH_resultant_172 : decode b_H_resultant 172 = .ok (.iload 11, 2) := by decide +kernel
theorem dH_resultant_174 : decode b_H_resultant 174 = .ok (.iload 8, 2) := by decide +kernel
theorem dH_resultant_176 : decode b_H_resultant 176 = .ok (.if_icmp .ge 21, 3) := by decide +kernel
theorem dH_resultant_179 : decode b_H_resultant 179 = .ok (.aload_n 0, 1) := by decide +kernel
theorem dH_resultant_180 : decode b_H_resultant 180 = .ok (.iload 10, 2) := by decide +kernel
theorem dH_resultant_182 : decode b_H_resultant 182 = .ok (.aload 5, 2) := by decide +kernel
theorem dH_resultant_184 : decode b_H_resultant 184 = .ok (.iload 11, 2) := by decide +kernel
theorem dH_resultant_186 : decode b_H_resultant 186 = .ok (.iload 7, 2) := by decide +kernel
theorem dH_resultant_188 : decode b_H_resultant 188 = .ok (.iadd, 1) := by decide +kernel
theorem dH_resultant_189 : decode b_H_resultant 189 = .ok (.iload 4, 2) := by decide +kernel
theorem dH_resultant_191 : decode b_H_resultant 191 = .ok (.invokevirtual 135, 3) := by decide +kernel
theorem dH_resultant_194 : decode b_H_resultant 194 = .ok (.goto 15, 3) := by decide +kernel
theorem dH_resultant_197 : decode b_H_resultant 197 = .ok (.aload_n 0, 1) := by decide +kernel
theorem dH_resultant_198 : decode b_H_resultant 198 = .ok (.iload 10, 2) := by decide +kernel
theorem dH_resultant_200 : decode b_H_resultant 200 = .ok (.aload 6, 2) := by decide +kernel
theorem dH_resultant_202 : decode b_H_resultant 202 = .ok (.iload 11, 2) := by decide +kernel
theorem dH_resultant_204 : decode b_H_resultant 204 = .ok (.iload 4, 2) := by decide +kernel
theorem dH_resultant_206 : decode b_H_resultant 206 = .ok (.invokevirtual 135, 3) := by decide +kernel
theorem dH_resultant_209 : decode b_H_resultant 209 = .ok (.aload_n 0, 1) := by decide +kernel
theorem dH_resultant_210 : decode b_H_resultant 210 = .ok (.getfield 32, 3) := by decide +kernel
theorem dH_resultant_213 : decode b_H_resultant 213 = .ok (.aload_n 0, 1) := by decide +kernel
theorem dH_resultant_214 : decode b_H_resultant 214 = .ok (.getfield 15, 3) := by decide +kernel
theorem dH_resultant_217 : decode b_H_resultant 217 = .ok (.iload 10, 2) := by decide +kernel
theorem dH_resultant_219 : decode b_H_resultant 219 = .ok (.aaload, 1) := by decide +kernel
theorem dH_resultant_220 : decode b_H_resultant 220 = .ok (.invokevirtual 81, 3) := by decide +kernel
theorem dH_resultant_223 : decode b_H_resultant 223 = .ok (.iinc 10 1, 3) := by decide +kernel
theorem dH_resultant_226 : decode b_H_resultant 226 = .ok (.goto (-70), 3) := by decide +kernel
theorem dH_resultant_229 : decode b_H_resultant 229 = .ok (.aload_n 0, 1) := by decide +kernel
theorem dH_resultant_230 : decode b_H_resultant 230 = .ok (.getfield 32, 3) := by decide +kernel
theorem dH_resultant_233 : decode b_H_resultant 233 = .ok (.aload_n 0, 1) := by decide +kernel
theorem dH_resultant_234 : decode b_H_resultant 234 = .ok (.getfield 15, 3) := by decide +kernel
theorem dH_resultant_237 : decode b_H_resultant 237 = .ok (.iload 9, 2) := by decide +kernel
theorem dH_resultant_239 : decode b_H_resultant 239 = .ok (.aaload, 1) := by decide +kernel
theorem dH_resultant_240 : decode b_H_resultant 240 = .ok (.iconst 1, 1) := by decide +kernel
theorem dH_resultant_241 : decode b_H_resultant 241 = .ok (.iconst 0, 1) := by decide +kernel
theorem dH_resultant_242 : decode b_H_resultant 242 = .ok (.invokevirtual 77, 3) := by decide +kernel
theorem dH_resultant_245 : decode b_H_resultant 245 = .ok (.aload_n 0, 1) := by decide +kernel
theorem dH_resultant_246 : decode b_H_resultant 246 = .ok (.getfield 32, 3) := by decide +kernel
theorem dH_resultant_249 : decode b_H_resultant 249 = .ok (.aload_n 0, 1) := by decide +kernel
theorem dH_resultant_250 : decode b_H_resultant 250 = .ok (.getfield 11, 3) := by decide +kernel
theorem dH_resultant_253 : decode b_H_resultant 253 = .ok (.iload_n 1, 1) := by decide +kernel
theorem dH_resultant_254 : decode b_H_resultant 254 = .ok (.aaload, 1) := by decide +kernel
theorem dH_resultant_255 : decode b_H_resultant 255 = .ok (.invokevirtual 81, 3) := by decide +kernel
theorem dH_resultant_258 : decode b_H_resultant 258 = .ok (.iconst 1, 1) := by decide +kernel
theorem dH_resultant_259 : decode b_H_resultant 259 = .ok (.ireturn, 1) := by decide +kernel
theorem dH_addExpansion_0 : decode b_H_addExpansion 0 = .ok (.iconst 0, 1) := by decide +kernel
theorem dH_addExpansion_1 : decode b_H_addExpansion 1 = .ok (.istore 5, 2) := by decide +kernel
theorem dH_addExpansion_3 : decode b_H_addExpansion 3 = .ok (.iload 5, 2) := by decide +kernel
theorem dH_addExpansion_5 : decode b_H_addExpansion 5 = .ok (.aload_n 2, 1) := by decide +kernel
theorem dH_addExpansion_6 : decode b_H_addExpansion 6 = .ok (.getfield 109, 3) := by decide +kernel
theorem dH_addExpansion_9 : decode b_H_addExpansion 9 = .ok (.if_icmp .ge 108, 3) := by decide +kernel
theorem dH_addExpansion_12 : decode b_H_addExpansion 12 = .ok (.aload_n 2, 1) := by decide +kernel
theorem dH_addExpansion_13 : decode b_H_addExpansion 13 = .ok (.getfield 113, 3) := by decide +kernel
theorem dH_addExpansion_16 : decode b_H_addExpansion 16 = .ok (.iload 5, 2) := by decide +kernel
theorem dH_addExpansion_18 : decode b_H_addExpansion 18 = .ok (.iaload, 1) := by decide +kernel
theorem dH_addExpansion_19 : decode b_H_addExpansion 19 = .ok (.istore 6, 2) := by decide +kernel
theorem dH_addExpansion_21 : decode b_H_addExpansion 21 = .ok (.iload_n 3, 1) := by decide +kernel
theorem dH_addExpansion_22 : decode b_H_addExpansion 22 = .ok (.iload 6, 2) := by decide +kernel
theorem dH_addExpansion_24 : decode b_H_addExpansion 24 = .ok (.iload 4, 2) := by decide +kernel
theorem dH_addExpansion_26 : decode b_H_addExpansion 26 = .ok (.invokestatic 117, 3) := by decide +kernel
theorem dH_addExpansion_29 : decode b_H_addExpansion 29 = .ok (.isub, 1) := by decide +kernel
theorem dH_addExpansion_30 : decode b_H_addExpansion 30 = .ok (.istore 7, 2) := by decide +kernel
theorem dH_addExpansion_32 : decode b_H_addExpansion 32 = .ok (.iload_n 1, 1) := by decide +kernel
theorem dH_addExpansion_33 : decode b_H_addExpansion 33 = .ok (.iload 7, 2) := by decide +kernel
theorem dH_addExpansion_35 : decode b_H_addExpansion 35 = .ok (.ishr, 1) := by decide +kernel
theorem dH_addExpansion_36 : decode b_H_addExpansion 36 = .ok (.iconst 1, 1) := by decide +kernel
theorem dH_addExpansion_37 : decode b_H_addExpansion 37 = .ok (.iand, 1) := by decide +kernel
theorem dH_addExpansion_38 : decode b_H_addExpansion 38 = .ok (.ifCond .eq 73, 3) := by decide +kernel
theorem dH_addExpansion_41 : decode b_H_addExpansion 41 = .ok (.iload_n 1, 1) := by decide +kernel
theorem dH_addExpansion_42 : decode b_H_addExpansion 42 = .ok (.iload 7, 2) := by decide +kernel
theorem dH_addExpansion_44 : decode b_H_addExpansion 44 = .ok (.ishr, 1) := by decide +kernel
theorem dH_addExpansion_45 : decode b_H_addExpansion 45 = .ok (.invokestatic 130, 3) := by decide +kernel
theorem dH_addExpansion_48 : decode b_H_addExpansion 48 = .ok (.iconst 1, 1) := by decide +kernel
theorem dH_addExpansion_49 : decode b_H_addExpansion 49 = .ok (.isub, 1) := by decide +kernel
theorem dH_addExpansion_50 : decode b_H_addExpansion 50 = .ok (.istore 8, 2) := by decide +kernel
theorem dH_addExpansion_52 : decode b_H_addExpansion 52 = .ok (.aload_n 2, 1) := by decide +kernel
theorem dH_addExpansion_53 : decode b_H_addExpansion 53 = .ok (.getfield 121, 3) := by decide +kernel
theorem dH_addExpansion_56 : decode b_H_addExpansion 56 = .ok (.iload 5, 2) := by decide +kernel
theorem dH_addExpansion_58 : decode b_H_addExpansion 58 = .ok (.iaload, 1) := by decide +kernel
theorem dH_addExpansion_59 : decode b_H_addExpansion 59 = .ok (.istore 9, 2) := by decide +kernel
theorem dH_addExpansion_61 : decode b_H_addExpansion 61 = .ok (.iload 8, 2) := by decide +kernel
theorem dH_addExpansion_63 : decode b_H_addExpansion 63 = .ok (.iconst 2, 1) := by decide +kernel
theorem dH_addExpansion_64 : decode b_H_addExpansion 64 = .ok (.irem, 1) := by decide +kernel
theorem dH_addExpansion_65 : decode b_H_addExpansion 65 = .ok (.ifCond .ne 8, 3) := by decide +kernel
theorem dH_addExpansion_68 : decode b_H_addExpansion 68 = .ok (.iload 9, 2) := by decide +kernel
theorem dH_addExpansion_70 : decode b_H_addExpansion 70 = .ok (.goto 12, 3) := by decide +kernel
theorem dH_addExpansion_73 : decode b_H_addExpansion 73 = .ok (.aload_n 0, 1) := by decide +kernel
theorem dH_addExpansion_74 : decode b_H_addExpansion 74 = .ok (.getfield 23, 3) := by decide +kernel
theorem dH_addExpansion_77 : decode b_H_addExpansion 77 = .ok (.iload 9, 2) := by decide +kernel
theorem dH_addExpansion_79 : decode b_H_addExpansion 79 = .ok (.invokevirtual 182, 3) := by decide +kernel
theorem dH_addExpansion_82 : decode b_H_addExpansion 82 = .ok (.istore 10, 2) := by decide +kernel
theorem dH_addExpansion_84 : decode b_H_addExpansion 84 = .ok (.aload_n 0, 1) := by decide +kernel
theorem dH_addExpansion_85 : decode b_H_addExpansion 85 = .ok (.getfield 32, 3) := by decide +kernel
theorem dH_addExpansion_88 : decode b_H_addExpansion 88 = .ok (.aload_n 0, 1) := by decide +kernel
theorem dH_addExpansion_89 : decode b_H_addExpansion 89 = .ok (.getfield 15, 3) := by decide +kernel
theorem dH_addExpansion_92 : decode b_H_addExpansion 92 = .ok (.iload_n 1, 1) := by decide +kernel
theorem dH_addExpansion_93 : decode b_H_addExpansion 93 = .ok (.iconst 1, 1) := by decide +kernel
theorem dH_addExpansion_94 : decode b_H_addExpansion 94 = .ok (.iload 7, 2) := by decide +kernel
theorem dH_addExpansion_96 : decode b_H_addExpansion 96 = .ok (.ishl, 1) := by decide +kernel
theorem dH_addExpansion_97 : decode b_H_addExpansion 97 = .ok (.ixor, 1) := by decide +kernel
theorem dH_addExpansion_98 : decode b_H_addExpansion 98 = .ok (.aaload, 1) := by decide +kernel
theorem dH_addExpansion_99 : decode b_H_addExpansion 99 = .ok (.iload 10, 2) := by decide +kernel
theorem dH_addExpansion_101 : decode b_H_addExpansion 101 = .ok (.iload 6, 2) := by decide +kernel
theorem dH_addExpansion_103 : decode b_H_addExpansion 103 = .ok (.iload 4, 2) := by decide +kernel
theorem dH_addExpansion_105 : decode b_H_addExpansion 105 = .ok (.invokestatic 185, 3) := by decide +kernel
theorem dH_addExpansion_108 : decode b_H_addExpansion 108 = .ok (.invokevirtual 77, 3) := by decide +kernel
theorem dH_addExpansion_111 : decode b_H_addExpansion 111 = .ok (.iinc 5 1, 3) := by decide +kernel
theorem dH_addExpansion_114 : decode b_H_addExpansion 114 = .ok (.goto (-111), 3) := by decide +kernel
theorem dH_addExpansion_117 : decode b_H_addExpansion 117 = .ok (.return_, 1) := by decide +kernel
theorem dH_value_0 : decode b_H_value 0 = .ok (.iload_n 1, 1) := by decide +kernel
theorem dH_value_1 : decode b_H_value 1 = .ok (.invokestatic 48, 3) := by decide +kernel
theorem dH_value_4 : decode b_H_value 4 = .ok (.aload_n 0, 1) := by decide +kernel
theorem dH_value_5 : decode b_H_value 5 = .ok (.getfield 39, 3) := by decide +kernel
theorem dH_value_8 : decode b_H_value 8 = .ok (.iconst 0, 1) := by decide +kernel
theorem dH_value_9 : decode b_H_value 9 = .ok (.aload_n 0, 1) := by decide +kernel
theorem dH_value_10 : decode b_H_value 10 = .ok (.getfield 23, 3) := by decide +kernel
theorem dH_value_13 : decode b_H_value 13 = .ok (.iload_n 2, 1) := by decide +kernel
theorem dH_value_14 : decode b_H_value 14 = .ok (.invokevirtual 51, 3) := by decide +kernel
theorem dH_value_17 : decode b_H_value 17 = .ok (.invokevirtual 139, 3) := by decide +kernel
theorem dH_value_20 : decode b_H_value 20 = .ok (.aload_n 0, 1) := by decide +kernel
theorem dH_value_21 : decode b_H_value 21 = .ok (.getfield 39, 3) := by decide +kernel
theorem dH_value_24 : decode b_H_value 24 = .ok (.iconst 1, 1) := by decide +kernel
theorem dH_value_25 : decode b_H_value 25 = .ok (.aload_n 0, 1) := by decide +kernel
theorem dH_value_26 : decode b_H_value 26 = .ok (.getfield 23, 3) := by decide +kernel
theorem dH_value_29 : decode b_H_value 29 = .ok (.iload_n 3, 1) := by decide +kernel
theorem dH_value_30 : decode b_H_value 30 = .ok (.invokevirtual 51, 3) := by decide +kernel
theorem dH_value_33 : decode b_H_value 33 = .ok (.invokevirtual 139, 3) := by decide +kernel
theorem dH_value_36 : decode b_H_value 36 = .ok (.aload_n 0, 1) := by decide +kernel
theorem dH_value_37 : decode b_H_value 37 = .ok (.getfield 39, 3) := by decide +kernel
theorem dH_value_40 : decode b_H_value 40 = .ok (.iconst 2, 1) := by decide +kernel
theorem dH_value_41 : decode b_H_value 41 = .ok (.aload_n 0, 1) := by decide +kernel
theorem dH_value_42 : decode b_H_value 42 = .ok (.getfield 23, 3) := by decide +kernel
theorem dH_value_45 : decode b_H_value 45 = .ok (.iload 4, 2) := by decide +kernel
theorem dH_value_47 : decode b_H_value 47 = .ok (.invokevirtual 51, 3) := by decide +kernel
theorem dH_value_50 : decode b_H_value 50 = .ok (.invokevirtual 139, 3) := by decide +kernel
theorem dH_value_53 : decode b_H_value 53 = .ok (.aload_n 0, 1) := by decide +kernel
theorem dH_value_54 : decode b_H_value 54 = .ok (.getfield 11, 3) := by decide +kernel
theorem dH_value_57 : decode b_H_value 57 = .ok (.iload_n 1, 1) := by decide +kernel
theorem dH_value_58 : decode b_H_value 58 = .ok (.aaload, 1) := by decide +kernel
theorem dH_value_59 : decode b_H_value 59 = .ok (.astore 5, 2) := by decide +kernel
theorem dH_value_61 : decode b_H_value 61 = .ok (.iconst 0, 1) := by decide +kernel
theorem dH_value_62 : decode b_H_value 62 = .ok (.istore 6, 2) := by decide +kernel
theorem dH_value_64 : decode b_H_value 64 = .ok (.iconst 0, 1) := by decide +kernel
theorem dH_value_65 : decode b_H_value 65 = .ok (.istore 7, 2) := by decide +kernel
theorem dH_value_67 : decode b_H_value 67 = .ok (.iload 7, 2) := by decide +kernel
theorem dH_value_69 : decode b_H_value 69 = .ok (.aload 5, 2) := by decide +kernel
theorem dH_value_71 : decode b_H_value 71 = .ok (.getfield 109, 3) := by decide +kernel
theorem dH_value_74 : decode b_H_value 74 = .ok (.if_icmp .ge 43, 3) := by decide +kernel
theorem dH_value_77 : decode b_H_value 77 = .ok (.aload_n 0, 1) := by decide +kernel
theorem dH_value_78 : decode b_H_value 78 = .ok (.getfield 23, 3) := by decide +kernel
theorem dH_value_81 : decode b_H_value 81 = .ok (.iload 6, 2) := by decide +kernel
theorem dH_value_83 : decode b_H_value 83 = .ok (.aload 5, 2) := by decide +kernel
theorem dH_value_85 : decode b_H_value 85 = .ok (.getfield 121, 3) := by decide +kernel
theorem dH_value_88 : decode b_H_value 88 = .ok (.iload 7, 2) := by decide +kernel
theorem dH_value_90 : decode b_H_value 90 = .ok (.iaload, 1) := by decide +kernel
theorem dH_value_91 : decode b_H_value 91 = .ok (.aload_n 0, 1) := by decide +kernel
theorem dH_value_92 : decode b_H_value 92 = .ok (.getfield 39, 3) := by decide +kernel
theorem dH_value_95 : decode b_H_value 95 = .ok (.aload 5, 2) := by decide +kernel
theorem dH_value_97 : decode b_H_value 97 = .ok (.getfield 113, 3) := by decide +kernel
theorem dH_value_100 : decode b_H_value 100 = .ok (.iload 7, 2) := by decide +kernel
theorem dH_value_102 : decode b_H_value 102 = .ok (.iaload, 1) := by decide +kernel
theorem dH_value_103 : decode b_H_value 103 = .ok (.invokevirtual 142, 3) := by decide +kernel
theorem dH_value_106 : decode b_H_value 106 = .ok (.invokevirtual 145, 3) := by decide +kernel
theorem dH_value_109 : decode b_H_value 109 = .ok (.istore 6, 2) := by decide +kernel
theorem dH_value_111 : decode b_H_value 111 = .ok (.iinc 7 1, 3) := by decide +kernel
theorem dH_value_114 : decode b_H_value 114 = .ok (.goto (-47), 3) := by decide +kernel
theorem dH_value_117 : decode b_H_value 117 = .ok (.iload 6, 2) := by decide +kernel
theorem dH_value_119 : decode b_H_value 119 = .ok (.ireturn, 1) := by decide +kernel
theorem dH_terms_0 : decode b_H_terms 0 = .ok (.iload_n 1, 1) := by decide +kernel
theorem dH_terms_1 : decode b_H_terms 1 = .ok (.invokestatic 48, 3) := by decide +kernel
theorem dH_terms_4 : decode b_H_terms 4 = .ok (.aload_n 0, 1) := by decide +kernel
theorem dH_terms_5 : decode b_H_terms 5 = .ok (.getfield 11, 3) := by decide +kernel
theorem dH_terms_8 : decode b_H_terms 8 = .ok (.iload_n 1, 1) := by decide +kernel
theorem dH_terms_9 : decode b_H_terms 9 = .ok (.aaload, 1) := by decide +kernel
theorem dH_terms_10 : decode b_H_terms 10 = .ok (.getfield 109, 3) := by decide +kernel
theorem dH_terms_13 : decode b_H_terms 13 = .ok (.ireturn, 1) := by decide +kernel
theorem dH_term_0 : decode b_H_term 0 = .ok (.iload_n 1, 1) := by decide +kernel
theorem dH_term_1 : decode b_H_term 1 = .ok (.invokestatic 48, 3) := by decide +kernel
theorem dH_term_4 : decode b_H_term 4 = .ok (.aload_n 0, 1) := by decide +kernel
theorem dH_term_5 : decode b_H_term 5 = .ok (.getfield 11, 3) := by decide +kernel
theorem dH_term_8 : decode b_H_term 8 = .ok (.iload_n 1, 1) := by decide +kernel
theorem dH_term_9 : decode b_H_term 9 = .ok (.aaload, 1) := by decide +kernel
theorem dH_term_10 : decode b_H_term 10 = .ok (.astore 4, 2) := by decide +kernel
theorem dH_term_12 : decode b_H_term 12 = .ok (.iload_n 2, 1) := by decide +kernel
theorem dH_term_13 : decode b_H_term 13 = .ok (.ifCond .lt 12, 3) := by decide +kernel
theorem dH_term_16 : decode b_H_term 16 = .ok (.iload_n 2, 1) := by decide +kernel
theorem dH_term_17 : decode b_H_term 17 = .ok (.aload 4, 2) := by decide +kernel
theorem dH_term_19 : decode b_H_term 19 = .ok (.getfield 109, 3) := by decide +kernel
theorem dH_term_22 : decode b_H_term 22 = .ok (.if_icmp .lt 11, 3) := by decide +kernel
theorem dH_term_25 : decode b_H_term 25 = .ok (.new 149, 3) := by decide +kernel
theorem dH_term_28 : decode b_H_term 28 = .ok (.dup, 1) := by decide +kernel
theorem dH_term_29 : decode b_H_term 29 = .ok (.invokespecial 151, 3) := by decide +kernel
theorem dH_term_32 : decode b_H_term 32 = .ok (.athrow, 1) := by decide +kernel
theorem dH_term_33 : decode b_H_term 33 = .ok (.iload_n 3, 1) := by decide +kernel
theorem dH_term_34 : decode b_H_term 34 = .ok (.ifCond .lt 8, 3) := by decide +kernel
theorem dH_term_37 : decode b_H_term 37 = .ok (.iload_n 3, 1) := by decide +kernel
theorem dH_term_38 : decode b_H_term 38 = .ok (.iconst 3, 1) := by decide +kernel
theorem dH_term_39 : decode b_H_term 39 = .ok (.if_icmp .le 11, 3) := by decide +kernel
theorem dH_term_42 : decode b_H_term 42 = .ok (.new 96, 3) := by decide +kernel
theorem dH_term_45 : decode b_H_term 45 = .ok (.dup, 1) := by decide +kernel
theorem dH_term_46 : decode b_H_term 46 = .ok (.invokespecial 98, 3) := by decide +kernel
theorem dH_term_49 : decode b_H_term 49 = .ok (.athrow, 1) := by decide +kernel
theorem dH_term_50 : decode b_H_term 50 = .ok (.iload_n 3, 1) := by decide +kernel
theorem dH_term_51 : decode b_H_term 51 = .ok (.ifCond .ne 13, 3) := by decide +kernel
theorem dH_term_54 : decode b_H_term 54 = .ok (.aload 4, 2) := by decide +kernel
theorem dH_term_56 : decode b_H_term 56 = .ok (.getfield 121, 3) := by decide +kernel
theorem dH_term_59 : decode b_H_term 59 = .ok (.iload_n 2, 1) := by decide +kernel
theorem dH_term_60 : decode b_H_term 60 = .ok (.iaload, 1) := by decide +kernel
theorem dH_term_61 : decode b_H_term 61 = .ok (.goto 16, 3) := by decide +kernel
theorem dH_term_64 : decode b_H_term 64 = .ok (.aload 4, 2) := by decide +kernel
theorem dH_term_66 : decode b_H_term 66 = .ok (.getfield 113, 3) := by decide +kernel
theorem dH_term_69 : decode b_H_term 69 = .ok (.iload_n 2, 1) := by decide +kernel
theorem dH_term_70 : decode b_H_term 70 = .ok (.iaload, 1) := by decide +kernel
theorem dH_term_71 : decode b_H_term 71 = .ok (.iload_n 3, 1) := by decide +kernel
theorem dH_term_72 : decode b_H_term 72 = .ok (.iconst 1, 1) := by decide +kernel
theorem dH_term_73 : decode b_H_term 73 = .ok (.isub, 1) := by decide +kernel
theorem dH_term_74 : decode b_H_term 74 = .ok (.invokestatic 117, 3) := by decide +kernel
theorem dH_term_77 : decode b_H_term 77 = .ok (.ireturn, 1) := by decide +kernel
theorem dH_coefficient_0 : decode b_H_coefficient 0 = .ok (.iload_n 1, 1) := by decide +kernel
theorem dH_coefficient_1 : decode b_H_coefficient 1 = .ok (.invokestatic 48, 3) := by decide +kernel
theorem dH_coefficient_4 : decode b_H_coefficient 4 = .ok (.iload_n 2, 1) := by decide +kernel
theorem dH_coefficient_5 : decode b_H_coefficient 5 = .ok (.ifCond .lt 12, 3) := by decide +kernel
theorem dH_coefficient_8 : decode b_H_coefficient 8 = .ok (.iload_n 3, 1) := by decide +kernel
theorem dH_coefficient_9 : decode b_H_coefficient 9 = .ok (.ifCond .lt 8, 3) := by decide +kernel
theorem dH_coefficient_12 : decode b_H_coefficient 12 = .ok (.iload 4, 2) := by decide +kernel
theorem dH_coefficient_14 : decode b_H_coefficient 14 = .ok (.ifCond .ge 11, 3) := by decide +kernel
theorem dH_coefficient_17 : decode b_H_coefficient 17 = .ok (.new 96, 3) := by decide +kernel
theorem dH_coefficient_20 : decode b_H_coefficient 20 = .ok (.dup, 1) := by decide +kernel
theorem dH_coefficient_21 : decode b_H_coefficient 21 = .ok (.invokespecial 98, 3) := by decide +kernel
theorem dH_coefficient_24 : decode b_H_coefficient 24 = .ok (.athrow, 1) := by decide +kernel
theorem dH_coefficient_25 : decode b_H_coefficient 25 = .ok (.iload_n 2, 1) := by decide +kernel
theorem dH_coefficient_26 : decode b_H_coefficient 26 = .ok (.iload_n 3, 1) := by decide +kernel
theorem dH_coefficient_27 : decode b_H_coefficient 27 = .ok (.iload 4, 2) := by decide +kernel
theorem dH_coefficient_29 : decode b_H_coefficient 29 = .ok (.invokestatic 152, 3) := by decide +kernel
theorem dH_coefficient_32 : decode b_H_coefficient 32 = .ok (.ifCond .ne 5, 3) := by decide +kernel
theorem dH_coefficient_35 : decode b_H_coefficient 35 = .ok (.iconst 0, 1) := by decide +kernel
theorem dH_coefficient_36 : decode b_H_coefficient 36 = .ok (.ireturn, 1) := by decide +kernel
theorem dH_coefficient_37 : decode b_H_coefficient 37 = .ok (.aload_n 0, 1) := by decide +kernel
theorem dH_coefficient_38 : decode b_H_coefficient 38 = .ok (.getfield 11, 3) := by decide +kernel
theorem dH_coefficient_41 : decode b_H_coefficient 41 = .ok (.iload_n 1, 1) := by decide +kernel
theorem dH_coefficient_42 : decode b_H_coefficient 42 = .ok (.aaload, 1) := by decide +kernel
theorem dH_coefficient_43 : decode b_H_coefficient 43 = .ok (.iload_n 2, 1) := by decide +kernel
theorem dH_coefficient_44 : decode b_H_coefficient 44 = .ok (.iload_n 3, 1) := by decide +kernel
theorem dH_coefficient_45 : decode b_H_coefficient 45 = .ok (.iload 4, 2) := by decide +kernel
theorem dH_coefficient_47 : decode b_H_coefficient 47 = .ok (.invokestatic 156, 3) := by decide +kernel
theorem dH_coefficient_50 : decode b_H_coefficient 50 = .ok (.invokevirtual 159, 3) := by decide +kernel
theorem dH_coefficient_53 : decode b_H_coefficient 53 = .ok (.ireturn, 1) := by decide +kernel
theorem dH_degree_0 : decode b_H_degree 0 = .ok (.iload_n 1, 1) := by decide +kernel
theorem dH_degree_1 : decode b_H_degree 1 = .ok (.invokestatic 48, 3) := by decide +kernel
theorem dH_degree_4 : decode b_H_degree 4 = .ok (.iload_n 2, 1) := by decide +kernel
theorem dH_degree_5 : decode b_H_degree 5 = .ok (.invokestatic 58, 3) := by decide +kernel
theorem dH_degree_8 : decode b_H_degree 8 = .ok (.aload_n 0, 1) := by decide +kernel
theorem dH_degree_9 : decode b_H_degree 9 = .ok (.getfield 11, 3) := by decide +kernel
theorem dH_degree_12 : decode b_H_degree 12 = .ok (.iload_n 1, 1) := by decide +kernel
theorem dH_degree_13 : decode b_H_degree 13 = .ok (.aaload, 1) := by decide +kernel
theorem dH_degree_14 : decode b_H_degree 14 = .ok (.iload_n 2, 1) := by decide +kernel
theorem dH_degree_15 : decode b_H_degree 15 = .ok (.invokevirtual 85, 3) := by decide +kernel
theorem dH_degree_18 : decode b_H_degree 18 = .ok (.ireturn, 1) := by decide +kernel
theorem dH_isSame_0 : decode b_H_isSame 0 = .ok (.iload_n 1, 1) := by decide +kernel
theorem dH_isSame_1 : decode b_H_isSame 1 = .ok (.invokestatic 48, 3) := by decide +kernel
theorem dH_isSame_4 : decode b_H_isSame 4 = .ok (.iload_n 2, 1) := by decide +kernel
theorem dH_isSame_5 : decode b_H_isSame 5 = .ok (.invokestatic 48, 3) := by decide +kernel
theorem dH_isSame_8 : decode b_H_isSame 8 = .ok (.aload_n 0, 1) := by decide +kernel
theorem dH_isSame_9 : decode b_H_isSame 9 = .ok (.getfield 11, 3) := by decide +kernel
theorem dH_isSame_12 : decode b_H_isSame 12 = .ok (.iload_n 1, 1) := by decide +kernel
theorem dH_isSame_13 : decode b_H_isSame 13 = .ok (.aaload, 1) := by decide +kernel
theorem dH_isSame_14 : decode b_H_isSame 14 = .ok (.aload_n 0, 1) := by decide +kernel
theorem dH_isSame_15 : decode b_H_isSame 15 = .ok (.getfield 11, 3) := by decide +kernel
theorem dH_isSame_18 : decode b_H_isSame 18 = .ok (.iload_n 2, 1) := by decide +kernel
theorem dH_isSame_19 : decode b_H_isSame 19 = .ok (.aaload, 1) := by decide +kernel
theorem dH_isSame_20 : decode b_H_isSame 20 = .ok (.invokevirtual 162, 3) := by decide +kernel
theorem dH_isSame_23 : decode b_H_isSame 23 = .ok (.ireturn, 1) := by decide +kernel
