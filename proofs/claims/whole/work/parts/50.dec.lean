/-! Decode rows. -/
theorem dL_cell_0 : decode b_L_cell 0 = .ok (.iload_n 1, 1) := by decide +kernel
theorem dL_cell_1 : decode b_L_cell 1 = .ok (.aload_n 0, 1) := by decide +kernel
theorem dL_cell_2 : decode b_L_cell 2 = .ok (.arraylength, 1) := by decide +kernel
theorem dL_cell_3 : decode b_L_cell 3 = .ok (.if_icmp .ge 9, 3) := by decide +kernel
theorem dL_cell_6 : decode b_L_cell 6 = .ok (.aload_n 0, 1) := by decide +kernel
theorem dL_cell_7 : decode b_L_cell 7 = .ok (.iload_n 1, 1) := by decide +kernel
theorem dL_cell_8 : decode b_L_cell 8 = .ok (.iaload, 1) := by decide +kernel
theorem dL_cell_9 : decode b_L_cell 9 = .ok (.goto 4, 3) := by decide +kernel
theorem dL_cell_12 : decode b_L_cell 12 = .ok (.iconst 0, 1) := by decide +kernel
theorem dL_cell_13 : decode b_L_cell 13 = .ok (.ireturn, 1) := by decide +kernel
theorem dL_constant_0 : decode b_L_constant 0 = .ok (.aload_n 0, 1) := by decide +kernel
theorem dL_constant_1 : decode b_L_constant 1 = .ok (.iload_n 1, 1) := by decide +kernel
theorem dL_constant_2 : decode b_L_constant 2 = .ok (.iload_n 2, 1) := by decide +kernel
theorem dL_constant_3 : decode b_L_constant 3 = .ok (.invokevirtual 7, 3) := by decide +kernel
theorem dL_constant_6 : decode b_L_constant 6 = .ok (.goto 6, 3) := by decide +kernel
theorem dL_constant_9 : decode b_L_constant 9 = .ok (.astore_n 3, 1) := by decide +kernel
theorem dL_constant_10 : decode b_L_constant 10 = .ok (.iconst 1, 1) := by decide +kernel
theorem dL_constant_11 : decode b_L_constant 11 = .ok (.ireturn, 1) := by decide +kernel
theorem dL_constant_12 : decode b_L_constant 12 = .ok (.iconst 0, 1) := by decide +kernel
theorem dL_constant_13 : decode b_L_constant 13 = .ok (.ireturn, 1) := by decide +kernel
theorem dL_variable_0 : decode b_L_variable 0 = .ok (.aload_n 0, 1) := by decide +kernel
theorem dL_variable_1 : decode b_L_variable 1 = .ok (.iload_n 1, 1) := by decide +kernel
theorem dL_variable_2 : decode b_L_variable 2 = .ok (.iload_n 2, 1) := by decide +kernel
theorem dL_variable_3 : decode b_L_variable 3 = .ok (.invokevirtual 15, 3) := by decide +kernel
theorem dL_variable_6 : decode b_L_variable 6 = .ok (.goto 9, 3) := by decide +kernel
theorem dL_variable_9 : decode b_L_variable 9 = .ok (.astore_n 3, 1) := by decide +kernel
theorem dL_variable_10 : decode b_L_variable 10 = .ok (.iconst 1, 1) := by decide +kernel
theorem dL_variable_11 : decode b_L_variable 11 = .ok (.ireturn, 1) := by decide +kernel
theorem dL_variable_12 : decode b_L_variable 12 = .ok (.astore_n 3, 1) := by decide +kernel
theorem dL_variable_13 : decode b_L_variable 13 = .ok (.iconst 2, 1) := by decide +kernel
theorem dL_variable_14 : decode b_L_variable 14 = .ok (.ireturn, 1) := by decide +kernel
theorem dL_variable_15 : decode b_L_variable 15 = .ok (.iconst 0, 1) := by decide +kernel
theorem dL_variable_16 : decode b_L_variable 16 = .ok (.ireturn, 1) := by decide +kernel
theorem dL_add_0 : decode b_L_add 0 = .ok (.aload_n 0, 1) := by decide +kernel
theorem dL_add_1 : decode b_L_add 1 = .ok (.iload_n 1, 1) := by decide +kernel
theorem dL_add_2 : decode b_L_add 2 = .ok (.iload_n 2, 1) := by decide +kernel
theorem dL_add_3 : decode b_L_add 3 = .ok (.iload_n 3, 1) := by decide +kernel
theorem dL_add_4 : decode b_L_add 4 = .ok (.iload 4, 2) := by decide +kernel
theorem dL_add_6 : decode b_L_add 6 = .ok (.invokevirtual 20, 3) := by decide +kernel
theorem dL_add_9 : decode b_L_add 9 = .ok (.goto 7, 3) := by decide +kernel
theorem dL_add_12 : decode b_L_add 12 = .ok (.astore 5, 2) := by decide +kernel
theorem dL_add_14 : decode b_L_add 14 = .ok (.iconst 1, 1) := by decide +kernel
theorem dL_add_15 : decode b_L_add 15 = .ok (.ireturn, 1) := by decide +kernel
theorem dL_add_16 : decode b_L_add 16 = .ok (.iconst 0, 1) := by decide +kernel
theorem dL_add_17 : decode b_L_add 17 = .ok (.ireturn, 1) := by decide +kernel
theorem dL_multiply_0 : decode b_L_multiply 0 = .ok (.aload 4, 2) := by decide +kernel
theorem dL_multiply_2 : decode b_L_multiply 2 = .ok (.iconst 0, 1) := by decide +kernel
theorem dL_multiply_3 : decode b_L_multiply 3 = .ok (.aload_n 0, 1) := by decide +kernel
theorem dL_multiply_4 : decode b_L_multiply 4 = .ok (.iload_n 1, 1) := by decide +kernel
theorem dL_multiply_5 : decode b_L_multiply 5 = .ok (.iload_n 2, 1) := by decide +kernel
theorem dL_multiply_6 : decode b_L_multiply 6 = .ok (.iload_n 3, 1) := by decide +kernel
theorem dL_multiply_7 : decode b_L_multiply 7 = .ok (.invokevirtual 24, 3) := by decide +kernel
theorem dL_multiply_10 : decode b_L_multiply 10 = .ok (.ifCond .eq 7, 3) := by decide +kernel
theorem dL_multiply_13 : decode b_L_multiply 13 = .ok (.lconst 1, 1) := by decide +kernel
theorem dL_multiply_14 : decode b_L_multiply 14 = .ok (.goto 4, 3) := by decide +kernel
theorem dL_multiply_17 : decode b_L_multiply 17 = .ok (.lconst 0, 1) := by decide +kernel
theorem dL_multiply_18 : decode b_L_multiply 18 = .ok (.lastore, 1) := by decide +kernel
theorem dL_multiply_19 : decode b_L_multiply 19 = .ok (.goto 7, 3) := by decide +kernel
theorem dL_multiply_22 : decode b_L_multiply 22 = .ok (.astore 5, 2) := by decide +kernel
theorem dL_multiply_24 : decode b_L_multiply 24 = .ok (.iconst 1, 1) := by decide +kernel
theorem dL_multiply_25 : decode b_L_multiply 25 = .ok (.ireturn, 1) := by decide +kernel
theorem dL_multiply_26 : decode b_L_multiply 26 = .ok (.iconst 0, 1) := by decide +kernel
theorem dL_multiply_27 : decode b_L_multiply 27 = .ok (.ireturn, 1) := by decide +kernel
theorem dL_power_0 : decode b_L_power 0 = .ok (.aload 4, 2) := by decide +kernel
theorem dL_power_2 : decode b_L_power 2 = .ok (.iconst 0, 1) := by decide +kernel
theorem dL_power_3 : decode b_L_power 3 = .ok (.aload_n 0, 1) := by decide +kernel
theorem dL_power_4 : decode b_L_power 4 = .ok (.iload_n 1, 1) := by decide +kernel
theorem dL_power_5 : decode b_L_power 5 = .ok (.iload_n 2, 1) := by decide +kernel
theorem dL_power_6 : decode b_L_power 6 = .ok (.iload_n 3, 1) := by decide +kernel
theorem dL_power_7 : decode b_L_power 7 = .ok (.invokevirtual 28, 3) := by decide +kernel
theorem dL_power_10 : decode b_L_power 10 = .ok (.ifCond .eq 7, 3) := by decide +kernel
theorem dL_power_13 : decode b_L_power 13 = .ok (.lconst 1, 1) := by decide +kernel
theorem dL_power_14 : decode b_L_power 14 = .ok (.goto 4, 3) := by decide +kernel
theorem dL_power_17 : decode b_L_power 17 = .ok (.lconst 0, 1) := by decide +kernel
theorem dL_power_18 : decode b_L_power 18 = .ok (.lastore, 1) := by decide +kernel
theorem dL_power_19 : decode b_L_power 19 = .ok (.goto 11, 3) := by decide +kernel
theorem dL_power_22 : decode b_L_power 22 = .ok (.astore 5, 2) := by decide +kernel
theorem dL_power_24 : decode b_L_power 24 = .ok (.iconst 1, 1) := by decide +kernel
theorem dL_power_25 : decode b_L_power 25 = .ok (.ireturn, 1) := by decide +kernel
theorem dL_power_26 : decode b_L_power 26 = .ok (.astore 5, 2) := by decide +kernel
theorem dL_power_28 : decode b_L_power 28 = .ok (.iconst 2, 1) := by decide +kernel
theorem dL_power_29 : decode b_L_power 29 = .ok (.ireturn, 1) := by decide +kernel
theorem dL_power_30 : decode b_L_power 30 = .ok (.iconst 0, 1) := by decide +kernel
theorem dL_power_31 : decode b_L_power 31 = .ok (.ireturn, 1) := by decide +kernel
theorem dL_divide_0 : decode b_L_divide 0 = .ok (.aload_n 0, 1) := by decide +kernel
theorem dL_divide_1 : decode b_L_divide 1 = .ok (.iload_n 1, 1) := by decide +kernel
theorem dL_divide_2 : decode b_L_divide 2 = .ok (.iload_n 2, 1) := by decide +kernel
theorem dL_divide_3 : decode b_L_divide 3 = .ok (.iload_n 3, 1) := by decide +kernel
theorem dL_divide_4 : decode b_L_divide 4 = .ok (.iload 4, 2) := by decide +kernel
theorem dL_divide_6 : decode b_L_divide 6 = .ok (.invokevirtual 31, 3) := by decide +kernel
theorem dL_divide_9 : decode b_L_divide 9 = .ok (.goto 11, 3) := by decide +kernel
theorem dL_divide_12 : decode b_L_divide 12 = .ok (.astore 5, 2) := by decide +kernel
theorem dL_divide_14 : decode b_L_divide 14 = .ok (.iconst 1, 1) := by decide +kernel
theorem dL_divide_15 : decode b_L_divide 15 = .ok (.ireturn, 1) := by decide +kernel
theorem dL_divide_16 : decode b_L_divide 16 = .ok (.astore 5, 2) := by decide +kernel
theorem dL_divide_18 : decode b_L_divide 18 = .ok (.iconst 2, 1) := by decide +kernel
theorem dL_divide_19 : decode b_L_divide 19 = .ok (.ireturn, 1) := by decide +kernel
theorem dL_divide_20 : decode b_L_divide 20 = .ok (.iconst 0, 1) := by decide +kernel
theorem dL_divide_21 : decode b_L_divide 21 = .ok (.ireturn, 1) := by decide +kernel
theorem dL_derive_0 : decode b_L_derive 0 = .ok (.aload_n 0, 1) := by decide +kernel
theorem dL_derive_1 : decode b_L_derive 1 = .ok (.iload_n 1, 1) := by decide +kernel
theorem dL_derive_2 : decode b_L_derive 2 = .ok (.iload_n 2, 1) := by decide +kernel
theorem dL_derive_3 : decode b_L_derive 3 = .ok (.iload_n 3, 1) := by decide +kernel
theorem dL_derive_4 : decode b_L_derive 4 = .ok (.invokevirtual 35, 3) := by decide +kernel
theorem dL_derive_7 : decode b_L_derive 7 = .ok (.goto 11, 3) := by decide +kernel
theorem dL_derive_10 : decode b_L_derive 10 = .ok (.astore 4, 2) := by decide +kernel
theorem dL_derive_12 : decode b_L_derive 12 = .ok (.iconst 1, 1) := by decide +kernel
theorem dL_derive_13 : decode b_L_derive 13 = .ok (.ireturn, 1) := by decide +kernel
theorem dL_derive_14 : decode b_L_derive 14 = .ok (.astore 4, 2) := by decide +kernel
theorem dL_derive_16 : decode b_L_derive 16 = .ok (.iconst 2, 1) := by decide +kernel
theorem dL_derive_17 : decode b_L_derive 17 = .ok (.ireturn, 1) := by decide +kernel
theorem dL_derive_18 : decode b_L_derive 18 = .ok (.iconst 0, 1) := by decide +kernel
theorem dL_derive_19 : decode b_L_derive 19 = .ok (.ireturn, 1) := by decide +kernel
theorem dL_put_0 : decode b_L_put 0 = .ok (.aload 5, 2) := by decide +kernel
theorem dL_put_2 : decode b_L_put 2 = .ok (.iconst 0, 1) := by decide +kernel
theorem dL_put_3 : decode b_L_put 3 = .ok (.aload_n 0, 1) := by decide +kernel
theorem dL_put_4 : decode b_L_put 4 = .ok (.iload_n 1, 1) := by decide +kernel
theorem dL_put_5 : decode b_L_put 5 = .ok (.iload_n 2, 1) := by decide +kernel
theorem dL_put_6 : decode b_L_put 6 = .ok (.iload_n 3, 1) := by decide +kernel
theorem dL_put_7 : decode b_L_put 7 = .ok (.iload 4, 2) := by decide +kernel
theorem dL_put_9 : decode b_L_put 9 = .ok (.invokevirtual 39, 3) := by decide +kernel
theorem dL_put_12 : decode b_L_put 12 = .ok (.ifCond .eq 7, 3) := by decide +kernel
theorem dL_put_15 : decode b_L_put 15 = .ok (.lconst 1, 1) := by decide +kernel
theorem dL_put_16 : decode b_L_put 16 = .ok (.goto 4, 3) := by decide +kernel
theorem dL_put_19 : decode b_L_put 19 = .ok (.lconst 0, 1) := by decide +kernel
theorem dL_put_20 : decode b_L_put 20 = .ok (.lastore, 1) := by decide +kernel
theorem dL_put_21 : decode b_L_put 21 = .ok (.goto 11, 3) := by decide +kernel
theorem dL_put_24 : decode b_L_put 24 = .ok (.astore 6, 2) := by decide +kernel
theorem dL_put_26 : decode b_L_put 26 = .ok (.iconst 1, 1) := by decide +kernel
theorem dL_put_27 : decode b_L_put 27 = .ok (.ireturn, 1) := by decide +kernel
theorem dL_put_28 : decode b_L_put 28 = .ok (.astore 6, 2) := by decide +kernel
theorem dL_put_30 : decode b_L_put 30 = .ok (.iconst 2, 1) := by decide +kernel
theorem dL_put_31 : decode b_L_put 31 = .ok (.ireturn, 1) := by decide +kernel
theorem dL_put_32 : decode b_L_put 32 = .ok (.iconst 0, 1) := by decide +kernel
theorem dL_put_33 : decode b_L_put 33 = .ok (.ireturn, 1) := by decide +kernel
theorem dL_resultant_0 : decode b_L_resultant 0 = .ok (.aload 5, 2) := by decide +kernel
theorem dL_resultant_2 : decode b_L_resultant 2 = .ok (.iconst 0, 1) := by decide +kernel
theorem dL_resultant_3 : decode b_L_resultant 3 = .ok (.aload_n 0, 1) := by decide +kernel
theorem dL_resultant_4 : decode b_L_resultant 4 = .ok (.iload_n 1, 1) := by decide +kernel
theorem dL_resultant_5 : decode b_L_resultant 5 = .ok (.iload_n 2, 1) := by decide +kernel
theorem dL_resultant_6 : decode b_L_resultant 6 = .ok (.iload_n 3, 1) := by decide +kernel
theorem dL_resultant_7 : decode b_L_resultant 7 = .ok (.iload 4, 2) := by decide +kernel
theorem dL_resultant_9 : decode b_L_resultant 9 = .ok (.invokevirtual 43, 3) := by decide +kernel
theorem dL_resultant_12 : decode b_L_resultant 12 = .ok (.ifCond .eq 7, 3) := by decide +kernel
theorem dL_resultant_15 : decode b_L_resultant 15 = .ok (.lconst 1, 1) := by decide +kernel
theorem dL_resultant_16 : decode b_L_resultant 16 = .ok (.goto 4, 3) := by decide +kernel
theorem dL_resultant_19 : decode b_L_resultant 19 = .ok (.lconst 0, 1) := by decide +kernel
theorem dL_resultant_20 : decode b_L_resultant 20 = .ok (.lastore, 1) := by decide +kernel
theorem dL_resultant_21 : decode b_L_resultant 21 = .ok (.goto 11, 3) := by decide +kernel
theorem dL_resultant_24 : decode b_L_resultant 24 = .ok (.astore 6, 2) := by decide +kernel
theorem dL_resultant_26 : decode b_L_resultant 26 = .ok (.iconst 1, 1) := by decide +kernel
theorem dL_resultant_27 : decode b_L_resultant 27 = .ok (.ireturn, 1) := by decide +kernel
theorem dL_resultant_28 : decode b_L_resultant 28 = .ok (.astore 6, 2) := by decide +kernel
theorem dL_resultant_30 : decode b_L_resultant 30 = .ok (.iconst 2, 1) := by decide +kernel
theorem dL_resultant_31 : decode b_L_resultant 31 = .ok (.ireturn, 1) := by decide +kernel
theorem dL_resultant_32 : decode b_L_resultant 32 = .ok (.iconst 0, 1) := by decide +kernel
theorem dL_resultant_33 : decode b_L_resultant 33 = .ok (.ireturn, 1) := by decide +kernel
theorem dL_value_0 : decode b_L_value 0 = .ok (.aload 5, 2) := by decide +kernel
theorem dL_value_2 : decode b_L_value 2 = .ok (.iconst 0, 1) := by decide +kernel
theorem dL_value_3 : decode b_L_value 3 = .ok (.aload_n 0, 1) := by decide +kernel
theorem dL_value_4 : decode b_L_value 4 = .ok (.iload_n 1, 1) := by decide +kernel
theorem dL_value_5 : decode b_L_value 5 = .ok (.iload_n 2, 1) := by decide +kernel
theorem dL_value_6 : decode b_L_value 6 = .ok (.iload_n 3, 1) := by decide +kernel
theorem dL_value_7 : decode b_L_value 7 = .ok (.iload 4, 2) := by decide +kernel
theorem dL_value_9 : decode b_L_value 9 = .ok (.invokevirtual 46, 3) := by decide +kernel
theorem dL_value_12 : decode b_L_value 12 = .ok (.i2l, 1) := by decide +kernel
theorem dL_value_13 : decode b_L_value 13 = .ok (.lastore, 1) := by decide +kernel
theorem dL_value_14 : decode b_L_value 14 = .ok (.goto 7, 3) := by decide +kernel
theorem dL_value_17 : decode b_L_value 17 = .ok (.astore 6, 2) := by decide +kernel
theorem dL_value_19 : decode b_L_value 19 = .ok (.iconst 1, 1) := by decide +kernel
theorem dL_value_20 : decode b_L_value 20 = .ok (.ireturn, 1) := by decide +kernel
theorem dL_value_21 : decode b_L_value 21 = .ok (.iconst 0, 1) := by decide +kernel
theorem dL_value_22 : decode b_L_value 22 = .ok (.ireturn, 1) := by decide +kernel
theorem dL_terms_0 : decode b_L_terms 0 = .ok (.aload_n 2, 1) := by decide +kernel
theorem dL_terms_1 : decode b_L_terms 1 = .ok (.iconst 0, 1) := by decide +kernel
theorem dL_terms_2 : decode b_L_terms 2 = .ok (.aload_n 0, 1) := by decide +kernel
theorem dL_terms_3 : decode b_L_terms 3 = .ok (.iload_n 1, 1) := by decide +kernel
theorem dL_terms_4 : decode b_L_terms 4 = .ok (.invokevirtual 50, 3) := by decide +kernel
theorem dL_terms_7 : decode b_L_terms 7 = .ok (.i2l, 1) := by decide +kernel
theorem dL_terms_8 : decode b_L_terms 8 = .ok (.lastore, 1) := by decide +kernel
theorem dL_terms_9 : decode b_L_terms 9 = .ok (.goto 6, 3) := by decide +kernel
theorem dL_terms_12 : decode b_L_terms 12 = .ok (.astore_n 3, 1) := by decide +kernel
theorem dL_terms_13 : decode b_L_terms 13 = .ok (.iconst 1, 1) := by decide +kernel
theorem dL_terms_14 : decode b_L_terms 14 = .ok (.ireturn, 1) := by decide +kernel
theorem dL_terms_15 : decode b_L_terms 15 = .ok (.iconst 0, 1) := by decide +kernel
theorem dL_terms_16 : decode b_L_terms 16 = .ok (.ireturn, 1) := by decide +kernel
theorem dL_term_0 : decode b_L_term 0 = .ok (.aload 4, 2) := by decide +kernel
theorem dL_term_2 : decode b_L_term 2 = .ok (.iconst 0, 1) := by decide +kernel
theorem dL_term_3 : decode b_L_term 3 = .ok (.aload_n 0, 1) := by decide +kernel
theorem dL_term_4 : decode b_L_term 4 = .ok (.iload_n 1, 1) := by decide +kernel
theorem dL_term_5 : decode b_L_term 5 = .ok (.iload_n 2, 1) := by decide +kernel
theorem dL_term_6 : decode b_L_term 6 = .ok (.iload_n 3, 1) := by decide +kernel
theorem dL_term_7 : decode b_L_term 7 = .ok (.invokevirtual 54, 3) := by decide +kernel
theorem dL_term_10 : decode b_L_term 10 = .ok (.i2l, 1) := by decide +kernel
theorem dL_term_11 : decode b_L_term 11 = .ok (.lastore, 1) := by decide +kernel
theorem dL_term_12 : decode b_L_term 12 = .ok (.goto 11, 3) := by decide +kernel
theorem dL_term_15 : decode b_L_term 15 = .ok (.astore 5, 2) := by decide +kernel
theorem dL_term_17 : decode b_L_term 17 = .ok (.iconst 1, 1) := by decide +kernel
theorem dL_term_18 : decode b_L_term 18 = .ok (.ireturn, 1) := by decide +kernel
theorem dL_term_19 : decode b_L_term 19 = .ok (.astore 5, 2) := by decide +kernel
theorem dL_term_21 : decode b_L_term 21 = .ok (.iconst 2, 1) := by decide +kernel
theorem dL_term_22 : decode b_L_term 22 = .ok (.ireturn, 1) := by decide +kernel
theorem dL_term_23 : decode b_L_term 23 = .ok (.iconst 0, 1) := by decide +kernel
theorem dL_term_24 : decode b_L_term 24 = .ok (.ireturn, 1) := by decide +kernel
theorem dL_coefficient_0 : decode b_L_coefficient 0 = .ok (.aload 5, 2) := by decide +kernel
theorem dL_coefficient_2 : decode b_L_coefficient 2 = .ok (.iconst 0, 1) := by decide +kernel
theorem dL_coefficient_3 : decode b_L_coefficient 3 = .ok (.aload_n 0, 1) := by decide +kernel
theorem dL_coefficient_4 : decode b_L_coefficient 4 = .ok (.iload_n 1, 1) := by decide +kernel
theorem dL_coefficient_5 : decode b_L_coefficient 5 = .ok (.iload_n 2, 1) := by decide +kernel
theorem dL_coefficient_6 : decode b_L_coefficient 6 = .ok (.iload_n 3, 1) := by decide +kernel
theorem dL_coefficient_7 : decode b_L_coefficient 7 = .ok (.iload 4, 2) := by decide +kernel
theorem dL_coefficient_9 : decode b_L_coefficient 9 = .ok (.invokevirtual 58, 3) := by decide +kernel
theorem dL_coefficient_12 : decode b_L_coefficient 12 = .ok (.i2l, 1) := by decide +kernel
theorem dL_coefficient_13 : decode b_L_coefficient 13 = .ok (.lastore, 1) := by decide +kernel
theorem dL_coefficient_14 : decode b_L_coefficient 14 = .ok (.goto 11, 3) := by decide +kernel
theorem dL_coefficient_17 : decode b_L_coefficient 17 = .ok (.astore 6, 2) := by decide +kernel
theorem dL_coefficient_19 : decode b_L_coefficient 19 = .ok (.iconst 1, 1) := by decide +kernel
theorem dL_coefficient_20 : decode b_L_coefficient 20 = .ok (.ireturn, 1) := by decide +kernel
theorem dL_coefficient_21 : decode b_L_coefficient 21 = .ok (.astore 6, 2) := by decide +kernel
theorem dL_coefficient_23 : decode b_L_coefficient 23 = .ok (.iconst 2, 1) := by decide +kernel
theorem dL_coefficient_24 : decode b_L_coefficient 24 = .ok (.ireturn, 1) := by decide +kernel
theorem dL_coefficient_25 : decode b_L_coefficient 25 = .ok (.iconst 0, 1) := by decide +kernel
theorem dL_coefficient_26 : decode b_L_coefficient 26 = .ok (.ireturn, 1) := by decide +kernel
theorem dL_degree_0 : decode b_L_degree 0 = .ok (.aload_n 3, 1) := by decide +kernel
theorem dL_degree_1 : decode b_L_degree 1 = .ok (.iconst 0, 1) := by decide +kernel
theorem dL_degree_2 : decode b_L_degree 2 = .ok (.aload_n 0, 1) := by decide +kernel
theorem dL_degree_3 : decode b_L_degree 3 = .ok (.iload_n 1, 1) := by decide +kernel
theorem dL_degree_4 : decode b_L_degree 4 = .ok (.iload_n 2, 1) := by decide +kernel
theorem dL_degree_5 : decode b_L_degree 5 = .ok (.invokevirtual 61, 3) := by decide +kernel
theorem dL_degree_8 : decode b_L_degree 8 = .ok (.i2l, 1) := by decide +kernel
theorem dL_degree_9 : decode b_L_degree 9 = .ok (.lastore, 1) := by decide +kernel
theorem dL_degree_10 : decode b_L_degree 10 = .ok (.goto 11, 3) := by decide +kernel
theorem dL_degree_13 : decode b_L_degree 13 = .ok (.astore 4, 2) := by decide +kernel
theorem dL_degree_15 : decode b_L_degree 15 = .ok (.iconst 1, 1) := by decide +kernel
theorem dL_degree_16 : decode b_L_degree 16 = .ok (.ireturn, 1) := by decide +kernel
theorem dL_degree_17 : decode b_L_degree 17 = .ok (.astore 4, 2) := by decide +kernel
theorem dL_degree_19 : decode b_L_degree 19 = .ok (.iconst 2, 1) := by decide +kernel
theorem dL_degree_20 : decode b_L_degree 20 = .ok (.ireturn, 1) := by decide +kernel
theorem dL_degree_21 : decode b_L_degree 21 = .ok (.iconst 0, 1) := by decide +kernel
theorem dL_degree_22 : decode b_L_degree 22 = .ok (.ireturn, 1) := by decide +kernel
theorem dL_isSame_0 : decode b_L_isSame 0 = .ok (.aload_n 3, 1) := by decide +kernel
theorem dL_isSame_1 : decode b_L_isSame 1 = .ok (.iconst 0, 1) := by decide +kernel
theorem dL_isSame_2 : decode b_L_isSame 2 = .ok (.aload_n 0, 1) := by decide +kernel
theorem dL_isSame_3 : decode b_L_isSame 3 = .ok (.iload_n 1, 1) := by decide +kernel
theorem dL_isSame_4 : decode b_L_isSame 4 = .ok (.iload_n 2, 1) := by decide +kernel
theorem dL_isSame_5 : decode b_L_isSame 5 = .ok (.invokevirtual 65, 3) := by decide +kernel
theorem dL_isSame_8 : decode b_L_isSame 8 = .ok (.ifCond .eq 7, 3) := by decide +kernel
theorem dL_isSame_11 : decode b_L_isSame 11 = .ok (.lconst 1, 1) := by decide +kernel
theorem dL_isSame_12 : decode b_L_isSame 12 = .ok (.goto 4, 3) := by decide +kernel
theorem dL_isSame_15 : decode b_L_isSame 15 = .ok (.lconst 0, 1) := by decide +kernel
theorem dL_isSame_16 : decode b_L_isSame 16 = .ok (.lastore, 1) := by decide +kernel
theorem dL_isSame_17 : decode b_L_isSame 17 = .ok (.goto 7, 3) := by decide +kernel
theorem dL_isSame_20 : decode b_L_isSame 20 = .ok (.astore 4, 2) := by decide +kernel
theorem dL_isSame_22 : decode b_L_isSame 22 = .ok (.iconst 1, 1) := by decide +kernel
theorem dL_isSame_23 : decode b_L_isSame 23 = .ok (.ireturn, 1) := by decide +kernel
theorem dL_isSame_24 : decode b_L_isSame 24 = .ok (.iconst 0, 1) := by decide +kernel
theorem dL_isSame_25 : decode b_L_isSame 25 = .ok (.ireturn, 1) := by decide +kernel
theorem dL_law_0 : decode b_L_law 0 = .ok (.new 8, 3) := by decide +kernel
theorem dL_law_3 : decode b_L_law 3 = .ok (.dup, 1) := by decide +kernel
theorem dL_law_4 : decode b_L_law 4 = .ok (.aload_n 0, 1) := by decide +kernel
theorem dL_law_5 : decode b_L_law 5 = .ok (.iconst 0, 1) := by decide +kernel
theorem dL_law_6 : decode b_L_law 6 = .ok (.invokestatic 69, 3) := by decide +kernel
theorem dL_law_9 : decode b_L_law 9 = .ok (.invokespecial 75, 3) := by decide +kernel
theorem dL_law_12 : decode b_L_law 12 = .ok (.astore_n 1, 1) := by decide +kernel
theorem dL_law_13 : decode b_L_law 13 = .ok (.new 78, 3) := by decide +kernel
theorem dL_law_16 : decode b_L_law 16 = .ok (.dup, 1) := by decide +kernel
theorem dL_law_17 : decode b_L_law 17 = .ok (.aload_n 0, 1) := by decide +kernel
theorem dL_law_18 : decode b_L_law 18 = .ok (.iconst 0, 1) := by decide +kernel
theorem dL_law_19 : decode b_L_law 19 = .ok (.invokestatic 69, 3) := by decide +kernel
theorem dL_law_22 : decode b_L_law 22 = .ok (.invokespecial 80, 3) := by decide +kernel
theorem dL_law_25 : decode b_L_law 25 = .ok (.astore_n 2, 1) := by decide +kernel
theorem dL_law_26 : decode b_L_law 26 = .ok (.iconst 1, 1) := by decide +kernel
theorem dL_law_27 : decode b_L_law 27 = .ok (.newarray .long, 2) := by decide +kernel
theorem dL_law_29 : decode b_L_law 29 = .ok (.astore_n 3, 1) := by decide +kernel
theorem dL_law_30 : decode b_L_law 30 = .ok (.iconst 1, 1) := by decide +kernel
theorem dL_law_31 : decode b_L_law 31 = .ok (.istore 4, 2) := by decide +kernel
theorem dL_law_33 : decode b_L_law 33 = .ok (.iload 4, 2) := by decide +kernel
theorem dL_law_35 : decode b_L_law 35 = .ok (.aload_n 0, 1) := by decide +kernel
theorem dL_law_36 : decode b_L_law 36 = .ok (.arraylength, 1) := by decide +kernel
theorem dL_law_37 : decode b_L_law 37 = .ok (.iconst 5, 1) := by decide +kernel
theorem dL_law_38 : decode b_L_law 38 = .ok (.isub, 1) := by decide +kernel
theorem dL_law_39 : decode b_L_law 39 = .ok (.if_icmp .gt 1271, 3) := by decide +kernel
theorem dL_law_42 : decode b_L_law 42 = .ok (.aload_n 0, 1) := by decide +kernel
theorem dL_law_43 : decode b_L_law 43 = .ok (.iload 4, 2) := by decide +kernel
theorem dL_law_45 : decode b_L_law 45 = .ok (.iaload, 1) := by decide +kernel
theorem dL_law_46 : decode b_L_law 46 = .ok (.bipush 15, 2) := by decide +kernel
theorem dL_law_48 : decode b_L_law 48 = .ok (.iand, 1) := by decide +kernel
theorem dL_law_49 : decode b_L_law 49 = .ok (.tableswitch 1255 0 15 #[79, 127, 175, 247, 334, 421, 509, 569, 668, 767, 859, 915, 995, 1087, 1155, 1230], 79) := by decide +kernel
theorem dL_law_128 : decode b_L_law 128 = .ok (.aload_n 1, 1) := by decide +kernel
theorem dL_law_129 : decode b_L_law 129 = .ok (.aload_n 0, 1) := by decide +kernel
theorem dL_law_130 : decode b_L_law 130 = .ok (.iload 4, 2) := by decide +kernel
theorem dL_law_132 : decode b_L_law 132 = .ok (.iconst 1, 1) := by decide +kernel
theorem dL_law_133 : decode b_L_law 133 = .ok (.iadd, 1) := by decide +kernel
theorem dL_law_134 : decode b_L_law 134 = .ok (.iaload, 1) := by decide +kernel
theorem dL_law_135 : decode b_L_law 135 = .ok (.aload_n 0, 1) := by decide +kernel
theorem dL_law_136 : decode b_L_law 136 = .ok (.iload 4, 2) := by decide +kernel
theorem dL_law_138 : decode b_L_law 138 = .ok (.iconst 2, 1) := by decide +kernel
theorem dL_law_139 : decode b_L_law 139 = .ok (.iadd, 1) := by decide +kernel
theorem dL_law_140 : decode b_L_law 140 = .ok (.iaload, 1) := by decide +kernel
theorem dL_law_141 : decode b_L_law 141 = .ok (.invokestatic 81, 3) := by decide +kernel
theorem dL_law_144 : decode b_L_law 144 = .ok (.istore 5, 2) := by decide +kernel
theorem dL_law_146 : decode b_L_law 146 = .ok (.aload_n 2, 1) := by decide +kernel
theorem dL_law_147 : decode b_L_law 147 = .ok (.aload_n 0, 1) := by decide +kernel
theorem dL_law_148 : decode b_L_law 148 = .ok (.iload 4, 2) := by decide +kernel
theorem dL_law_150 : decode b_L_law 150 = .ok (.iconst 1, 1) := by decide +kernel
theorem dL_law_151 : decode b_L_law 151 = .ok (.iadd, 1) := by decide +kernel
theorem dL_law_152 : decode b_L_law 152 = .ok (.iaload, 1) := by decide +kernel
theorem dL_law_153 : decode b_L_law 153 = .ok (.aload_n 0, 1) := by decide +kernel
theorem dL_law_154 : decode b_L_law 154 = .ok (.iload 4, 2) := by decide +kernel
theorem dL_law_156 : decode b_L_law 156 = .ok (.iconst 2, 1) := by decide +kernel
theorem dL_law_157 : decode b_L_law 157 = .ok (.iadd, 1) := by decide +kernel
theorem dL_law_158 : decode b_L_law 158 = .ok (.iaload, 1) := by decide +kernel
theorem dL_law_159 : decode b_L_law 159 = .ok (.invokevirtual 84, 3) := by decide +kernel
theorem dL_law_162 : decode b_L_law 162 = .ok (.aload_n 2, 1) := by decide +kernel
theorem dL_law_163 : decode b_L_law 163 = .ok (.invokevirtual 85, 3) := by decide +kernel
theorem dL_law_166 : decode b_L_law 166 = .ok (.iload 5, 2) := by decide +kernel
theorem dL_law_168 : decode b_L_law 168 = .ok (.if_icmp .eq 5, 3) := by decide +kernel
theorem dL_law_171 : decode b_L_law 171 = .ok (.iconst 0, 1) := by decide +kernel
theorem dL_law_172 : decode b_L_law 172 = .ok (.ireturn, 1) := by decide +kernel
theorem dL_law_173 : decode b_L_law 173 = .ok (.goto 1131, 3) := by decide +kernel
theorem dL_law_176 : decode b_L_law 176 = .ok (.aload_n 1, 1) := by decide +kernel
theorem dL_law_177 : decode b_L_law 177 = .ok (.aload_n 0, 1) := by decide +kernel
theorem dL_law_178 : decode b_L_law 178 = .ok (.iload 4, 2) := by decide +kernel
theorem dL_law_180 : decode b_L_law 180 = .ok (.iconst 1, 1) := by decide +kernel
theorem dL_law_181 : decode b_L_law 181 = .ok (.iadd, 1) := by decide +kernel
theorem dL_law_182 : decode b_L_law 182 = .ok (.iaload, 1) := by decide +kernel
theorem dL_law_183 : decode b_L_law 183 = .ok (.aload_n 0, 1) := by decide +kernel
theorem dL_law_184 : decode b_L_law 184 = .ok (.iload 4, 2) := by decide +kernel
theorem dL_law_186 : decode b_L_law 186 = .ok (.iconst 2, 1) := by decide +kernel
theorem dL_law_187 : decode b_L_law 187 = .ok (.iadd, 1) := by decide +kernel
theorem dL_law_188 : decode b_L_law 188 = .ok (.iaload, 1) := by decide +kernel
theorem dL_law_189 : decode b_L_law 189 = .ok (.invokestatic 89, 3) := by decide +kernel
theorem dL_law_192 : decode b_L_law 192 = .ok (.istore 5, 2) := by decide +kernel
theorem dL_law_194 : decode b_L_law 194 = .ok (.aload_n 2, 1) := by decide +kernel
theorem dL_law_195 : decode b_L_law 195 = .ok (.aload_n 0, 1) := by decide +kernel
theorem dL_law_196 : decode b_L_law 196 = .ok (.iload 4, 2) := by decide +kernel
theorem dL_law_198 : decode b_L_law 198 = .ok (.iconst 1, 1) := by decide +kernel
theorem dL_law_199 : decode b_L_law 199 = .ok (.iadd, 1) := by decide +kernel
theorem dL_law_200 : decode b_L_law 200 = .ok (.iaload, 1) := by decide +kernel
theorem dL_law_201 : decode b_L_law 201 = .ok (.aload_n 0, 1) := by decide +kernel
theorem dL_law_202 : decode b_L_law 202 = .ok (.iload 4, 2) := by decide +kernel
theorem dL_law_204 : decode b_L_law 204 = .ok (.iconst 2, 1) := by decide +kernel
theorem dL_law_205 : decode b_L_law 205 = .ok (.iadd, 1) := by decide +kernel
theorem dL_law_206 : decode b_L_law 206 = .ok (.iaload, 1) := by decide +kernel
theorem dL_law_207 : decode b_L_law 207 = .ok (.invokevirtual 91, 3) := by decide +kernel
theorem dL_law_210 : decode b_L_law 210 = .ok (.aload_n 2, 1) := by decide +kernel
theorem dL_law_211 : decode b_L_law 211 = .ok (.invokevirtual 85, 3) := by decide +kernel
theorem dL_law_214 : decode b_L_law 214 = .ok (.iload 5, 2) := by decide +kernel
theorem dL_law_216 : decode b_L_law 216 = .ok (.if_icmp .eq 5, 3) := by decide +kernel
theorem dL_law_219 : decode b_L_law 219 = .ok (.iconst 0, 1) := by decide +kernel
theorem dL_law_220 : decode b_L_law 220 = .ok (.ireturn, 1) := by decide +kernel
theorem dL_law_221 : decode b_L_law 221 = .ok (.goto 1083, 3) := by decide +kernel
theorem dL_law_224 : decode b_L_law 224 = .ok (.aload_n 1, 1) := by decide +kernel
theorem dL_law_225 : decode b_L_law 225 = .ok (.aload_n 0, 1) := by decide +kernel
theorem dL_law_226 : decode b_L_law 226 = .ok (.iload 4, 2) := by decide +kernel
theorem dL_law_228 : decode b_L_law 228 = .ok (.iconst 1, 1) := by decide +kernel
theorem dL_law_229 : decode b_L_law 229 = .ok (.iadd, 1) := by decide +kernel
theorem dL_law_230 : decode b_L_law 230 = .ok (.iaload, 1) := by decide +kernel
theorem dL_law_231 : decode b_L_law 231 = .ok (.aload_n 0, 1) := by decide +kernel
theorem dL_law_232 : decode b_L_law 232 = .ok (.iload 4, 2) := by decide +kernel
theorem dL_law_234 : decode b_L_law 234 = .ok (.iconst 2, 1) := by decide +kernel
theorem dL_law_235 : decode b_L_law 235 = .ok (.iadd, 1) := by decide +kernel
theorem dL_law_236 : decode b_L_law 236 = .ok (.iaload, 1) := by decide +kernel
theorem dL_law_237 : decode b_L_law 237 = .ok (.aload_n 0, 1) := by decide +kernel
theorem dL_law_238 : decode b_L_law 238 = .ok (.iload 4, 2) := by decide +kernel
theorem dL_law_240 : decode b_L_law 240 = .ok (.iconst 3, 1) := by decide +kernel
theorem dL_law_241 : decode b_L_law 241 = .ok (.iadd, 1) := by decide +kernel
theorem dL_law_242 : decode b_L_law 242 = .ok (.iaload, 1) := by decide +kernel
theorem dL_law_243 : decode b_L_law 243 = .ok (.aload_n 0, 1) := by decide +kernel
theorem dL_law_244 : decode b_L_law 244 = .ok (.iload 4, 2) := by decide +kernel
theorem dL_law_246 : decode b_L_law 246 = .ok (.iconst 4, 1) := by decide +kernel
theorem dL_law_247 : decode b_L_law 247 = .ok (.iadd, 1) := by decide +kernel
theorem dL_law_248 : decode b_L_law 248 = .ok (.iaload, 1) := by decide +kernel
theorem dL_law_249 : decode b_L_law 249 = .ok (.invokestatic 92, 3) := by decide +kernel
theorem dL_law_252 : decode b_L_law 252 = .ok (.istore 5, 2) := by decide +kernel
theorem dL_law_254 : decode b_L_law 254 = .ok (.aload_n 2, 1) := by decide +kernel
theorem dL_law_255 : decode b_L_law 255 = .ok (.aload_n 0, 1) := by decide +kernel
theorem dL_law_256 : decode b_L_law 256 = .ok (.iload 4, 2) := by decide +kernel
theorem dL_law_258 : decode b_L_law 258 = .ok (.iconst 1, 1) := by decide +kernel
theorem dL_law_259 : decode b_L_law 259 = .ok (.iadd, 1) := by decide +kernel
theorem dL_law_260 : decode b_L_law 260 = .ok (.iaload, 1) := by decide +kernel
theorem dL_law_261 : decode b_L_law 261 = .ok (.aload_n 0, 1) := by decide +kernel
theorem dL_law_262 : decode b_L_law 262 = .ok (.iload 4, 2) := by decide +kernel
theorem dL_law_264 : decode b_L_law 264 = .ok (.iconst 2, 1) := by decide +kernel
theorem dL_law_265 : decode b_L_law 265 = .ok (.iadd, 1) := by decide +kernel
theorem dL_law_266 : decode b_L_law 266 = .ok (.iaload, 1) := by decide +kernel
theorem dL_law_267 : decode b_L_law 267 = .ok (.aload_n 0, 1) := by decide +kernel
theorem dL_law_268 : decode b_L_law 268 = .ok (.iload 4, 2) := by decide +kernel
theorem dL_law_270 : decode b_L_law 270 = .ok (.iconst 3, 1) := by decide +kernel
theorem dL_law_271 : decode b_L_law 271 = .ok (.iadd, 1) := by decide +kernel
theorem dL_law_272 : decode b_L_law 272 = .ok (.iaload, 1) := by decide +kernel
theorem dL_law_273 : decode b_L_law 273 = .ok (.aload_n 0, 1) := by decide +kernel
theorem dL_law_274 : decode b_L_law 274 = .ok (.iload 4, 2) := by decide +kernel
theorem dL_law_276 : decode b_L_law 276 = .ok (.iconst 4, 1) := by decide +kernel
theorem dL_law_277 : decode b_L_law 277 = .ok (.iadd, 1) := by decide +kernel
theorem dL_law_278 : decode b_L_law 278 = .ok (.iaload, 1) := by decide +kernel
theorem dL_law_279 : decode b_L_law 279 = .ok (.invokevirtual 95, 3) := by decide +kernel
theorem dL_law_282 : decode b_L_law 282 = .ok (.aload_n 2, 1) := by decide +kernel
theorem dL_law_283 : decode b_L_law 283 = .ok (.invokevirtual 85, 3) := by decide +kernel
theorem dL_law_286 : decode b_L_law 286 = .ok (.iload 5, 2) := by decide +kernel
theorem dL_law_288 : decode b_L_law 288 = .ok (.if_icmp .eq 5, 3) := by decide +kernel
theorem dL_law_291 : decode b_L_law 291 = .ok (.iconst 0, 1) := by decide +kernel
theorem dL_law_292 : decode b_L_law 292 = .ok (.ireturn, 1) := by decide +kernel
theorem dL_law_293 : decode b_L_law 293 = .ok (.goto 1011, 3) := by decide +kernel
theorem dL_law_296 : decode b_L_law 296 = .ok (.aload_n 1, 1) := by decide +kernel
theorem dL_law_297 : decode b_L_law 297 = .ok (.aload_n 0, 1) := by decide +kernel
theorem dL_law_298 : decode b_L_law 298 = .ok (.iload 4, 2) := by decide +kernel
theorem dL_law_300 : decode b_L_law 300 = .ok (.iconst 1, 1) := by decide +kernel
theorem dL_law_301 : decode b_L_law 301 = .ok (.iadd, 1) := by decide +kernel
theorem dL_law_302 : decode b_L_law 302 = .ok (.iaload, 1) := by decide +kernel
theorem dL_law_303 : decode b_L_law 303 = .ok (.aload_n 0, 1) := by decide +kernel
theorem dL_law_304 : decode b_L_law 304 = .ok (.iload 4, 2) := by decide +kernel
theorem dL_law_306 : decode b_L_law 306 = .ok (.iconst 2, 1) := by decide +kernel
theorem dL_law_307 : decode b_L_law 307 = .ok (.iadd, 1) := by decide +kernel
theorem dL_law_308 : decode b_L_law 308 = .ok (.iaload, 1) := by decide +kernel
theorem dL_law_309 : decode b_L_law 309 = .ok (.aload_n 0, 1) := by decide +kernel
theorem dL_law_310 : decode b_L_law 310 = .ok (.iload 4, 2) := by decide +kernel
theorem dL_law_312 : decode b_L_law 312 = .ok (.iconst 3, 1) := by decide +kernel
theorem dL_law_313 : decode b_L_law 313 = .ok (.iadd, 1) := by decide +kernel
theorem dL_law_314 : decode b_L_law 314 = .ok (.iaload, 1) := by decide +kernel
theorem dL_law_315 : decode b_L_law 315 = .ok (.aload_n 3, 1) := by decide +kernel
theorem dL_law_316 : decode b_L_law 316 = .ok (.invokestatic 96, 3) := by decide +kernel
theorem dL_law_319 : decode b_L_law 319 = .ok (.istore 5, 2) := by decide +kernel
theorem dL_law_321 : decode b_L_law 321 = .ok (.aload_n 2, 1) := by decide +kernel
theorem dL_law_322 : decode b_L_law 322 = .ok (.aload_n 0, 1) := by decide +kernel
theorem dL_law_323 : decode b_L_law 323 = .ok (.iload 4, 2) := by decide +kernel
theorem dL_law_325 : decode b_L_law 325 = .ok (.iconst 1, 1) := by decide +kernel
theorem dL_law_326 : decode b_L_law 326 = .ok (.iadd, 1) := by decide +kernel
theorem dL_law_327 : decode b_L_law 327 = .ok (.iaload, 1) := by decide +kernel
theorem dL_law_328 : decode b_L_law 328 = .ok (.aload_n 0, 1) := by decide +kernel
theorem dL_law_329 : decode b_L_law 329 = .ok (.iload 4, 2) := by decide +kernel
theorem dL_law_331 : decode b_L_law 331 = .ok (.iconst 2, 1) := by decide +kernel
theorem dL_law_332 : decode b_L_law 332 = .ok (.iadd, 1) := by decide +kernel
theorem dL_law_333 : decode b_L_law 333 = .ok (.iaload, 1) := by decide +kernel
theorem dL_law_334 : decode b_L_law 334 = .ok (.aload_n 0, 1) := by decide +kernel
theorem dL_law_335 : decode b_L_law 335 = .ok (.iload 4, 2) := by decide +kernel
theorem dL_law_337 : decode b_L_law 337 = .ok (.iconst 3, 1) := by decide +kernel
theorem dL_law_338 : decode b_L_law 338 = .ok (.iadd, 1) := by decide +kernel
theorem dL_law_339 : decode b_L_law 339 = .ok (.iaload, 1) := by decide +kernel
theorem dL_law_340 : decode b_L_law 340 = .ok (.invokevirtual 99, 3) := by decide +kernel
theorem dL_law_343 : decode b_L_law 343 = .ok (.istore 6, 2) := by decide +kernel
theorem dL_law_345 : decode b_L_law 345 = .ok (.aload_n 2, 1) := by decide +kernel
theorem dL_law_346 : decode b_L_law 346 = .ok (.invokevirtual 85, 3) := by decide +kernel
theorem dL_law_349 : decode b_L_law 349 = .ok (.iload 5, 2) := by decide +kernel
theorem dL_law_351 : decode b_L_law 351 = .ok (.if_icmp .eq 5, 3) := by decide +kernel
theorem dL_law_354 : decode b_L_law 354 = .ok (.iconst 0, 1) := by decide +kernel
theorem dL_law_355 : decode b_L_law 355 = .ok (.ireturn, 1) := by decide +kernel
theorem dL_law_356 : decode b_L_law 356 = .ok (.iload 5, 2) := by decide +kernel
theorem dL_law_358 : decode b_L_law 358 = .ok (.ifCond .ne 22, 3) := by decide +kernel
theorem dL_law_361 : decode b_L_law 361 = .ok (.aload_n 3, 1) := by decide +kernel
theorem dL_law_362 : decode b_L_law 362 = .ok (.iconst 0, 1) := by decide +kernel
theorem dL_law_363 : decode b_L_law 363 = .ok (.laload, 1) := by decide +kernel
theorem dL_law_364 : decode b_L_law 364 = .ok (.iload 6, 2) := by decide +kernel
theorem dL_law_366 : decode b_L_law 366 = .ok (.ifCond .eq 7, 3) := by decide +kernel
theorem dL_law_369 : decode b_L_law 369 = .ok (.lconst 1, 1) := by decide +kernel
theorem dL_law_370 : decode b_L_law 370 = .ok (.goto 4, 3) := by decide +kernel
theorem dL_law_373 : decode b_L_law 373 = .ok (.lconst 0, 1) := by decide +kernel
theorem dL_law_374 : decode b_L_law 374 = .ok (.lcmp, 1) := by decide +kernel
theorem dL_law_375 : decode b_L_law 375 = .ok (.ifCond .eq 5, 3) := by decide +kernel
theorem dL_law_378 : decode b_L_law 378 = .ok (.iconst 0, 1) := by decide +kernel
theorem dL_law_379 : decode b_L_law 379 = .ok (.ireturn, 1) := by decide +kernel
theorem dL_law_380 : decode b_L_law 380 = .ok (.goto 924, 3) := by decide +kernel
theorem dL_law_383 : decode b_L_law 383 = .ok (.aload_n 1, 1) := by decide +kernel
theorem dL_law_384 : decode b_L_law 384 = .ok (.aload_n 0, 1) := by decide +kernel
theorem dL_law_385 : decode b_L_law 385 = .ok (.iload 4, 2) := by decide +kernel
theorem dL_law_387 : decode b_L_law 387 = .ok (.iconst 1, 1) := by decide +kernel
theorem dL_law_388 : decode b_L_law 388 = .ok (.iadd, 1) := by decide +kernel
theorem dL_law_389 : decode b_L_law 389 = .ok (.iaload, 1) := by decide +kernel
theorem dL_law_390 : decode b_L_law 390 = .ok (.aload_n 0, 1) := by decide +kernel
theorem dL_law_391 : decode b_L_law 391 = .ok (.iload 4, 2) := by decide +kernel
theorem dL_law_393 : decode b_L_law 393 = .ok (.iconst 2, 1) := by decide +kernel
theorem dL_law_394 : decode b_L_law 394 = .ok (.iadd, 1) := by decide +kernel
theorem dL_law_395 : decode b_L_law 395 = .ok (.iaload, 1) := by decide +kernel
theorem dL_law_396 : decode b_L_law 396 = .ok (.aload_n 0, 1) := by decide +kernel
theorem dL_law_397 : decode b_L_law 397 = .ok (.iload 4, 2) := by decide +kernel
theorem dL_law_399 : decode b_L_law 399 = .ok (.iconst 3, 1) := by decide +kernel
theorem dL_law_400 : decode b_L_law 400 = .ok (.iadd, 1) := by decide +kernel
theorem dL_law_401 : decode b_L_law 401 = .ok (.iaload, 1) := by decide +kernel
theorem dL_law_402 : decode b_L_law 402 = .ok (.aload_n 3, 1) := by decide +kernel
theorem dL_law_403 : decode b_L_law 403 = .ok (.invokestatic 100, 3) := by decide +kernel
theorem dL_law_406 : decode b_L_law 406 = .ok (.istore 5, 2) := by decide +kernel
theorem dL_law_408 : decode b_L_law 408 = .ok (.aload_n 2, 1) := by decide +kernel
theorem dL_law_409 : decode b_L_law 409 = .ok (.aload_n 0, 1) := by decide +kernel
theorem dL_law_410 : decode b_L_law 410 = .ok (.iload 4, 2) := by decide +kernel
theorem dL_law_412 : decode b_L_law 412 = .ok (.iconst 1, 1) := by decide +kernel
theorem dL_law_413 : decode b_L_law 413 = .ok (.iadd, 1) := by decide +kernel
theorem dL_law_414 : decode b_L_law 414 = .ok (.iaload, 1) := by decide +kernel
theorem dL_law_415 : decode b_L_law 415 = .ok (.aload_n 0, 1) := by decide +kernel
theorem dL_law_416 : decode b_L_law 416 = .ok (.iload 4, 2) := by decide +kernel
theorem dL_law_418 : decode b_L_law 418 = .ok (.iconst 2, 1) := by decide +kernel
theorem dL_law_419 : decode b_L_law 419 = .ok (.iadd, 1) := by decide +kernel
theorem dL_law_420 : decode b_L_law 420 = .ok (.iaload, 1) := by decide +kernel
theorem dL_law_421 : decode b_L_law 421 = .ok (.aload_n 0, 1) := by decide +kernel
theorem dL_law_422 : decode b_L_law 422 = .ok (.iload 4, 2) := by decide +kernel
theorem dL_law_424 : decode b_L_law 424 = .ok (.iconst 3, 1) := by decide +kernel
theorem dL_law_425 : decode b_L_law 425 = .ok (.iadd, 1) := by decide +kernel
theorem dL_law_426 : decode b_L_law 426 = .ok (.iaload, 1) := by decide +kernel
theorem dL_law_427 : decode b_L_law 427 = .ok (.invokevirtual 102, 3) := by decide +kernel
theorem dL_law_430 : decode b_L_law 430 = .ok (.istore 6, 2) := by decide +kernel
theorem dL_law_432 : decode b_L_law 432 = .ok (.aload_n 2, 1) := by decide +kernel
theorem dL_law_433 : decode b_L_law 433 = .ok (.invokevirtual 85, 3) := by decide +kernel
theorem dL_law_436 : decode b_L_law 436 = .ok (.iload 5, 2) := by decide +kernel
theorem dL_law_438 : decode b_L_law 438 = .ok (.if_icmp .eq 5, 3) := by decide +kernel
theorem dL_law_441 : decode b_L_law 441 = .ok (.iconst 0, 1) := by decide +kernel
theorem dL_law_442 : decode b_L_law 442 = .ok (.ireturn, 1) := by decide +kernel
theorem dL_law_443 : decode b_L_law 443 = .ok (.iload 5, 2) := by decide +kernel
theorem dL_law_445 : decode b_L_law 445 = .ok (.ifCond .ne 22, 3) := by decide +kernel
theorem dL_law_448 : decode b_L_law 448 = .ok (.aload_n 3, 1) := by decide +kernel
theorem dL_law_449 : decode b_L_law 449 = .ok (.iconst 0, 1) := by decide +kernel
theorem dL_law_450 : decode b_L_law 450 = .ok (.laload, 1) := by decide +kernel
theorem dL_law_451 : decode b_L_law 451 = .ok (.iload 6, 2) := by decide +kernel
theorem dL_law_453 : decode b_L_law 453 = .ok (.ifCond .eq 7, 3) := by decide +kernel
theorem dL_law_456 : decode b_L_law 456 = .ok (.lconst 1, 1) := by decide +kernel
theorem dL_law_457 : decode b_L_law 457 = .ok (.goto 4, 3) := by decide +kernel
theorem dL_law_460 : decode b_L_law 460 = .ok (.lconst 0, 1) := by decide +kernel
theorem dL_law_461 : decode b_L_law 461 = .ok (.lcmp, 1) := by decide +kernel
theorem dL_law_462 : decode b_L_law 462 = .ok (.ifCond .eq 5, 3) := by decide +kernel
theorem dL_law_465 : decode b_L_law 465 = .ok (.iconst 0, 1) := by decide +kernel
theorem dL_law_466 : decode b_L_law 466 = .ok (.ireturn, 1) := by decide +kernel
theorem dL_law_467 : decode b_L_law 467 = .ok (.goto 837, 3) := by decide +kernel
theorem dL_law_470 : decode b_L_law 470 = .ok (.aload_n 1, 1) := by decide +kernel
theorem dL_law_471 : decode b_L_law 471 = .ok (.aload_n 0, 1) := by decide +kernel
theorem dL_law_472 : decode b_L_law 472 = .ok (.iload 4, 2) := by decide +kernel
theorem dL_law_474 : decode b_L_law 474 = .ok (.iconst 1, 1) := by decide +kernel
theorem dL_law_475 : decode b_L_law 475 = .ok (.iadd, 1) := by decide +kernel
theorem dL_law_476 : decode b_L_law 476 = .ok (.iaload, 1) := by decide +kernel
theorem dL_law_477 : decode b_L_law 477 = .ok (.aload_n 0, 1) := by decide +kernel
theorem dL_law_478 : decode b_L_law 478 = .ok (.iload 4, 2) := by decide +kernel
theorem dL_law_480 : decode b_L_law 480 = .ok (.iconst 2, 1) := by decide +kernel
theorem dL_law_481 : decode b_L_law 481 = .ok (.iadd, 1) := by decide +kernel
theorem dL_law_482 : decode b_L_law 482 = .ok (.iaload, 1) := by decide +kernel
theorem dL_law_483 : decode b_L_law 483 = .ok (.aload_n 0, 1) := by decide +kernel
theorem dL_law_484 : decode b_L_law 484 = .ok (.iload 4, 2) := by decide +kernel
theorem dL_law_486 : decode b_L_law 486 = .ok (.iconst 3, 1) := by decide +kernel
theorem dL_law_487 : decode b_L_law 487 = .ok (.iadd, 1) := by decide +kernel
theorem dL_law_488 : decode b_L_law 488 = .ok (.iaload, 1) := by decide +kernel
theorem dL_law_489 : decode b_L_law 489 = .ok (.aload_n 0, 1) := by decide +kernel
theorem dL_law_490 : decode b_L_law 490 = .ok (.iload 4, 2) := by decide +kernel
theorem dL_law_492 : decode b_L_law 492 = .ok (.iconst 4, 1) := by decide +kernel
theorem dL_law_493 : decode b_L_law 493 = .ok (.iadd, 1) := by decide +kernel
theorem dL_law_494 : decode b_L_law 494 = .ok (.iaload, 1) := by decide +kernel
theorem dL_law_495 : decode b_L_law 495 = .ok (.ifCond .eq 7, 3) := by decide +kernel
theorem dL_law_498 : decode b_L_law 498 = .ok (.iconst 1, 1) := by decide +kernel
theorem dL_law_499 : decode b_L_law 499 = .ok (.goto 4, 3) := by decide +kernel
theorem dL_law_502 : decode b_L_law 502 = .ok (.iconst 0, 1) := by decide +kernel
theorem dL_law_503 : decode b_L_law 503 = .ok (.invokestatic 103, 3) := by decide +kernel
theorem dL_law_506 : decode b_L_law 506 = .ok (.istore 5, 2) := by decide +kernel
theorem dL_law_508 : decode b_L_law 508 = .ok (.aload_n 2, 1) := by decide +kernel
theorem dL_law_509 : decode b_L_law 509 = .ok (.aload_n 0, 1) := by decide +kernel
theorem dL_law_510 : decode b_L_law 510 = .ok (.iload 4, 2) := by decide +kernel
theorem dL_law_512 : decode b_L_law 512 = .ok (.iconst 1, 1) := by decide +kernel
theorem dL_law_513 : decode b_L_law 513 = .ok (.iadd, 1) := by decide +kernel
theorem dL_law_514 : decode b_L_law 514 = .ok (.iaload, 1) := by decide +kernel
theorem dL_law_515 : decode b_L_law 515 = .ok (.aload_n 0, 1) := by decide +kernel
theorem dL_law_516 : decode b_L_law 516 = .ok (.iload 4, 2) := by decide +kernel
theorem dL_law_518 : decode b_L_law 518 = .ok (.iconst 2, 1) := by decide +kernel
theorem dL_law_519 : decode b_L_law 519 = .ok (.iadd, 1) := by decide +kernel
theorem dL_law_520 : decode b_L_law 520 = .ok (.iaload, 1) := by decide +kernel
theorem dL_law_521 : decode b_L_law 521 = .ok (.aload_n 0, 1) := by decide +kernel
theorem dL_law_522 : decode b_L_law 522 = .ok (.iload 4, 2) := by decide +kernel
theorem dL_law_524 : decode b_L_law 524 = .ok (.iconst 3, 1) := by decide +kernel
theorem dL_law_525 : decode b_L_law 525 = .ok (.iadd, 1) := by decide +kernel
theorem dL_law_526 : decode b_L_law 526 = .ok (.iaload, 1) := by decide +kernel
theorem dL_law_527 : decode b_L_law 527 = .ok (.aload_n 0, 1) := by decide +kernel
theorem dL_law_528 : decode b_L_law 528 = .ok (.iload 4, 2) := by decide +kernel
theorem dL_law_530 : decode b_L_law 530 = .ok (.iconst 4, 1) := by decide +kernel
theorem dL_law_531 : decode b_L_law 531 = .ok (.iadd, 1) := by decide +kernel
theorem dL_law_532 : decode b_L_law 532 = .ok (.iaload, 1) := by decide +kernel
theorem dL_law_533 : decode b_L_law 533 = .ok (.ifCond .eq 7, 3) := by decide +kernel
theorem dL_law_536 : decode b_L_law 536 = .ok (.iconst 1, 1) := by decide +kernel
theorem dL_law_537 : decode b_L_law 537 = .ok (.goto 4, 3) := by decide +kernel
theorem dL_law_540 : decode b_L_law 540 = .ok (.iconst 0, 1) := by decide +kernel
theorem dL_law_541 : decode b_L_law 541 = .ok (.invokevirtual 106, 3) := by decide +kernel
theorem dL_law_544 : decode b_L_law 544 = .ok (.aload_n 2, 1) := by decide +kernel
theorem dL_law_545 : decode b_L_law 545 = .ok (.invokevirtual 85, 3) := by decide +kernel
theorem dL_law_548 : decode b_L_law 548 = .ok (.iload 5, 2) := by decide +kernel
theorem dL_law_550 : decode b_L_law 550 = .ok (.if_icmp .eq 5, 3) := by decide +kernel
theorem dL_law_553 : decode b_L_law 553 = .ok (.iconst 0, 1) := by decide +kernel
theorem dL_law_554 : decode b_L_law 554 = .ok (.ireturn, 1) := by decide +kernel
theorem dL_law_555 : decode b_L_law 555 = .ok (.goto 749, 3) := by decide +kernel
theorem dL_law_558 : decode b_L_law 558 = .ok (.aload_n 1, 1) := by decide +kernel
theorem dL_law_559 : decode b_L_law 559 = .ok (.aload_n 0, 1) := by decide +kernel
theorem dL_law_560 : decode b_L_law 560 = .ok (.iload 4, 2) := by decide +kernel
theorem dL_law_562 : decode b_L_law 562 = .ok (.iconst 1, 1) := by decide +kernel
theorem dL_law_563 : decode b_L_law 563 = .ok (.iadd, 1) := by decide +kernel
theorem dL_law_564 : decode b_L_law 564 = .ok (.iaload, 1) := by decide +kernel
theorem dL_law_565 : decode b_L_law 565 = .ok (.aload_n 0, 1) := by decide +kernel
theorem dL_law_566 : decode b_L_law 566 = .ok (.iload 4, 2) := by decide +kernel
theorem dL_law_568 : decode b_L_law 568 = .ok (.iconst 2, 1) := by decide +kernel
theorem dL_law_569 : decode b_L_law 569 = .ok (.iadd, 1) := by decide +kernel
theorem dL_law_570 : decode b_L_law 570 = .ok (.iaload, 1) := by decide +kernel
theorem dL_law_571 : decode b_L_law 571 = .ok (.aload_n 0, 1) := by decide +kernel
theorem dL_law_572 : decode b_L_law 572 = .ok (.iload 4, 2) := by decide +kernel
theorem dL_law_574 : decode b_L_law 574 = .ok (.iconst 3, 1) := by decide +kernel
theorem dL_law_575 : decode b_L_law 575 = .ok (.iadd, 1) := by decide +kernel
theorem dL_law_576 : decode b_L_law 576 = .ok (.iaload, 1) := by decide +kernel
theorem dL_law_577 : decode b_L_law 577 = .ok (.invokestatic 107, 3) := by decide +kernel
theorem dL_law_580 : decode b_L_law 580 = .ok (.istore 5, 2) := by decide +kernel
theorem dL_law_582 : decode b_L_law 582 = .ok (.aload_n 2, 1) := by decide +kernel
theorem dL_law_583 : decode b_L_law 583 = .ok (.aload_n 0, 1) := by decide +kernel
theorem dL_law_584 : decode b_L_law 584 = .ok (.iload 4, 2) := by decide +kernel
theorem dL_law_586 : decode b_L_law 586 = .ok (.iconst 1, 1) := by decide +kernel
theorem dL_law_587 : decode b_L_law 587 = .ok (.iadd, 1) := by decide +kernel
theorem dL_law_588 : decode b_L_law 588 = .ok (.iaload, 1) := by decide +kernel
theorem dL_law_589 : decode b_L_law 589 = .ok (.aload_n 0, 1) := by decide +kernel
theorem dL_law_590 : decode b_L_law 590 = .ok (.iload 4, 2) := by decide +kernel
theorem dL_law_592 : decode b_L_law 592 = .ok (.iconst 2, 1) := by decide +kernel
theorem dL_law_593 : decode b_L_law 593 = .ok (.iadd, 1) := by decide +kernel
theorem dL_law_594 : decode b_L_law 594 = .ok (.iaload, 1) := by decide +kernel
theorem dL_law_595 : decode b_L_law 595 = .ok (.aload_n 0, 1) := by decide +kernel
theorem dL_law_596 : decode b_L_law 596 = .ok (.iload 4, 2) := by decide +kernel
theorem dL_law_598 : decode b_L_law 598 = .ok (.iconst 3, 1) := by decide +kernel
theorem dL_law_599 : decode b_L_law 599 = .ok (.iadd, 1) := by decide +kernel
theorem dL_law_600 : decode b_L_law 600 = .ok (.iaload, 1) := by decide +kernel
theorem dL_law_601 : decode b_L_law 601 = .ok (.invokevirtual 110, 3) := by decide +kernel
theorem dL_law_604 : decode b_L_law 604 = .ok (.aload_n 2, 1) := by decide +kernel
theorem dL_law_605 : decode b_L_law 605 = .ok (.invokevirtual 85, 3) := by decide +kernel
theorem dL_law_608 : decode b_L_law 608 = .ok (.iload 5, 2) := by decide +kernel
theorem dL_law_610 : decode b_L_law 610 = .ok (.if_icmp .eq 5, 3) := by decide +kernel
theorem dL_law_613 : decode b_L_law 613 = .ok (.iconst 0, 1) := by decide +kernel
theorem dL_law_614 : decode b_L_law 614 = .ok (.ireturn, 1) := by decide +kernel
theorem dL_law_615 : decode b_L_law 615 = .ok (.goto 689, 3) := by decide +kernel
theorem dL_law_618 : decode b_L_law 618 = .ok (.aload_n 1, 1) := by decide +kernel
theorem dL_law_619 : decode b_L_law 619 = .ok (.aload_n 0, 1) := by decide +kernel
theorem dL_law_620 : decode b_L_law 620 = .ok (.iload 4, 2) := by decide +kernel
theorem dL_law_622 : decode b_L_law 622 = .ok (.iconst 1, 1) := by decide +kernel
theorem dL_law_623 : decode b_L_law 623 = .ok (.iadd, 1) := by decide +kernel
theorem dL_law_624 : decode b_L_law 624 = .ok (.iaload, 1) := by decide +kernel
theorem dL_law_625 : decode b_L_law 625 = .ok (.aload_n 0, 1) := by decide +kernel
theorem dL_law_626 : decode b_L_law 626 = .ok (.iload 4, 2) := by decide +kernel
theorem dL_law_628 : decode b_L_law 628 = .ok (.iconst 2, 1) := by decide +kernel
theorem dL_law_629 : decode b_L_law 629 = .ok (.iadd, 1) := by decide +kernel
theorem dL_law_630 : decode b_L_law 630 = .ok (.iaload, 1) := by decide +kernel
theorem dL_law_631 : decode b_L_law 631 = .ok (.aload_n 0, 1) := by decide +kernel
theorem dL_law_632 : decode b_L_law 632 = .ok (.iload 4, 2) := by decide +kernel
theorem dL_law_634 : decode b_L_law 634 = .ok (.iconst 3, 1) := by decide +kernel
theorem dL_law_635 : decode b_L_law 635 = .ok (.iadd, 1) := by decide +kernel
theorem dL_law_636 : decode b_L_law 636 = .ok (.iaload, 1) := by decide +kernel
theorem dL_law_637 : decode b_L_law 637 = .ok (.aload_n 0, 1) := by decide +kernel
theorem dL_law_638 : decode b_L_law 638 = .ok (.iload 4, 2) := by decide +kernel
theorem dL_law_640 : decode b_L_law 640 = .ok (.iconst 4, 1) := by decide +kernel
theorem dL_law_641 : decode b_L_law 641 = .ok (.iadd, 1) := by decide +kernel
theorem dL_law_642 : decode b_L_law 642 = .ok (.iaload, 1) := by decide +kernel
theorem dL_law_643 : decode b_L_law 643 = .ok (.aload_n 3, 1) := by decide +kernel
theorem dL_law_644 : decode b_L_law 644 = .ok (.invokestatic 111, 3) := by decide +kernel
theorem dL_law_647 : decode b_L_law 647 = .ok (.istore 5, 2) := by decide +kernel
theorem dL_law_649 : decode b_L_law 649 = .ok (.aload_n 2, 1) := by decide +kernel
theorem dL_law_650 : decode b_L_law 650 = .ok (.aload_n 0, 1) := by decide +kernel
theorem dL_law_651 : decode b_L_law 651 = .ok (.iload 4, 2) := by decide +kernel
theorem dL_law_653 : decode b_L_law 653 = .ok (.iconst 1, 1) := by decide +kernel
theorem dL_law_654 : decode b_L_law 654 = .ok (.iadd, 1) := by decide +kernel
theorem dL_law_655 : decode b_L_law 655 = .ok (.iaload, 1) := by decide +kernel
theorem dL_law_656 : decode b_L_law 656 = .ok (.aload_n 0, 1) := by decide +kernel
theorem dL_law_657 : decode b_L_law 657 = .ok (.iload 4, 2) := by decide +kernel
theorem dL_law_659 : decode b_L_law 659 = .ok (.iconst 2, 1) := by decide +kernel
theorem dL_law_660 : decode b_L_law 660 = .ok (.iadd, 1) := by decide +kernel
theorem dL_law_661 : decode b_L_law 661 = .ok (.iaload, 1) := by decide +kernel
theorem dL_law_662 : decode b_L_law 662 = .ok (.aload_n 0, 1) := by decide +kernel
theorem dL_law_663 : decode b_L_law 663 = .ok (.iload 4, 2) := by decide +kernel
theorem dL_law_665 : decode b_L_law 665 = .ok (.iconst 3, 1) := by decide +kernel
theorem dL_law_666 : decode b_L_law 666 = .ok (.iadd, 1) := by decide +kernel
theorem dL_law_667 : decode b_L_law 667 = .ok (.iaload, 1) := by decide +kernel
theorem dL_law_668 : decode b_L_law 668 = .ok (.aload_n 0, 1) := by decide +kernel
theorem dL_law_669 : decode b_L_law 669 = .ok (.iload 4, 2) := by decide +kernel
theorem dL_law_671 : decode b_L_law 671 = .ok (.iconst 4, 1) := by decide +kernel
theorem dL_law_672 : decode b_L_law 672 = .ok (.iadd, 1) := by decide +kernel
theorem dL_law_673 : decode b_L_law 673 = .ok (.iaload, 1) := by decide +kernel
theorem dL_law_674 : decode b_L_law 674 = .ok (.invokevirtual 114, 3) := by decide +kernel
theorem dL_law_677 : decode b_L_law 677 = .ok (.istore 6, 2) := by decide +kernel
theorem dL_law_679 : decode b_L_law 679 = .ok (.aload_n 2, 1) := by decide +kernel
theorem dL_law_680 : decode b_L_law 680 = .ok (.invokevirtual 85, 3) := by decide +kernel
theorem dL_law_683 : decode b_L_law 683 = .ok (.iload 5, 2) := by decide +kernel
theorem dL_law_685 : decode b_L_law 685 = .ok (.if_icmp .eq 5, 3) := by decide +kernel
theorem dL_law_688 : decode b_L_law 688 = .ok (.iconst 0, 1) := by decide +kernel
theorem dL_law_689 : decode b_L_law 689 = .ok (.ireturn, 1) := by decide +kernel
theorem dL_law_690 : decode b_L_law 690 = .ok (.iload 5, 2) := by decide +kernel
theorem dL_law_692 : decode b_L_law 692 = .ok (.ifCond .ne 22, 3) := by decide +kernel
theorem dL_law_695 : decode b_L_law 695 = .ok (.aload_n 3, 1) := by decide +kernel
theorem dL_law_696 : decode b_L_law 696 = .ok (.iconst 0, 1) := by decide +kernel
theorem dL_law_697 : decode b_L_law 697 = .ok (.laload, 1) := by decide +kernel
theorem dL_law_698 : decode b_L_law 698 = .ok (.iload 6, 2) := by decide +kernel
theorem dL_law_700 : decode b_L_law 700 = .ok (.ifCond .eq 7, 3) := by decide +kernel
theorem dL_law_703 : decode b_L_law 703 = .ok (.lconst 1, 1) := by decide +kernel
theorem dL_law_704 : decode b_L_law 704 = .ok (.goto 4, 3) := by decide +kernel
theorem dL_law_707 : decode b_L_law 707 = .ok (.lconst 0, 1) := by decide +kernel
theorem dL_law_708 : decode b_L_law 708 = .ok (.lcmp, 1) := by decide +kernel
theorem dL_law_709 : decode b_L_law 709 = .ok (.ifCond .eq 5, 3) := by decide +kernel
theorem dL_law_712 : decode b_L_law 712 = .ok (.iconst 0, 1) := by decide +kernel
theorem dL_law_713 : decode b_L_law 713 = .ok (.ireturn, 1) := by decide +kernel
theorem dL_law_714 : decode b_L_law 714 = .ok (.goto 590, 3) := by decide +kernel
theorem dL_law_717 : decode b_L_law 717 = .ok (.aload_n 1, 1) := by decide +kernel
theorem dL_law_718 : decode b_L_law 718 = .ok (.aload_n 0, 1) := by decide +kernel
theorem dL_law_719 : decode b_L_law 719 = .ok (.iload 4, 2) := by decide +kernel
theorem dL_law_721 : decode b_L_law 721 = .ok (.iconst 1, 1) := by decide +kernel
theorem dL_law_722 : decode b_L_law 722 = .ok (.iadd, 1) := by decide +kernel
theorem dL_law_723 : decode b_L_law 723 = .ok (.iaload, 1) := by decide +kernel
theorem dL_law_724 : decode b_L_law 724 = .ok (.aload_n 0, 1) := by decide +kernel
theorem dL_law_725 : decode b_L_law 725 = .ok (.iload 4, 2) := by decide +kernel
theorem dL_law_727 : decode b_L_law 727 = .ok (.iconst 2, 1) := by decide +kernel
theorem dL_law_728 : decode b_L_law 728 = .ok (.iadd, 1) := by decide +kernel
theorem dL_law_729 : decode b_L_law 729 = .ok (.iaload, 1) := by decide +kernel
theorem dL_law_730 : decode b_L_law 730 = .ok (.aload_n 0, 1) := by decide +kernel
theorem dL_law_731 : decode b_L_law 731 = .ok (.iload 4, 2) := by decide +kernel
theorem dL_law_733 : decode b_L_law 733 = .ok (.iconst 3, 1) := by decide +kernel
theorem dL_law_734 : decode b_L_law 734 = .ok (.iadd, 1) := by decide +kernel
theorem dL_law_735 : decode b_L_law 735 = .ok (.iaload, 1) := by decide +kernel
theorem dL_law_736 : decode b_L_law 736 = .ok (.aload_n 0, 1) := by decide +kernel
theorem dL_law_737 : decode b_L_law 737 = .ok (.iload 4, 2) := by decide +kernel
theorem dL_law_739 : decode b_L_law 739 = .ok (.iconst 4, 1) := by decide +kernel
theorem dL_law_740 : decode b_L_law 740 = .ok (.iadd, 1) := by decide +kernel
theorem dL_law_741 : decode b_L_law 741 = .ok (.iaload, 1) := by decide +kernel
theorem dL_law_742 : decode b_L_law 742 = .ok (.aload_n 3, 1) := by decide +kernel
theorem dL_law_743 : decode b_L_law 743 = .ok (.invokestatic 115, 3) := by decide +kernel
theorem dL_law_746 : decode b_L_law 746 = .ok (.istore 5, 2) := by decide +kernel
theorem dL_law_748 : decode b_L_law 748 = .ok (.aload_n 2, 1) := by decide +kernel
theorem dL_law_749 : decode b_L_law 749 = .ok (.aload_n 0, 1) := by decide +kernel
theorem dL_law_750 : decode b_L_law 750 = .ok (.iload 4, 2) := by decide +kernel
theorem dL_law_752 : decode b_L_law 752 = .ok (.iconst 1, 1) := by decide +kernel
theorem dL_law_753 : decode b_L_law 753 = .ok (.iadd, 1) := by decide +kernel
theorem dL_law_754 : decode b_L_law 754 = .ok (.iaload, 1) := by decide +kernel
theorem dL_law_755 : decode b_L_law 755 = .ok (.aload_n 0, 1) := by decide +kernel
theorem dL_law_756 : decode b_L_law 756 = .ok (.iload 4, 2) := by decide +kernel
theorem dL_law_758 : decode b_L_law 758 = .ok (.iconst 2, 1) := by decide +kernel
theorem dL_law_759 : decode b_L_law 759 = .ok (.iadd, 1) := by decide +kernel
theorem dL_law_760 : decode b_L_law 760 = .ok (.iaload, 1) := by decide +kernel
theorem dL_law_761 : decode b_L_law 761 = .ok (.aload_n 0, 1) := by decide +kernel
theorem dL_law_762 : decode b_L_law 762 = .ok (.iload 4, 2) := by decide +kernel
theorem dL_law_764 : decode b_L_law 764 = .ok (.iconst 3, 1) := by decide +kernel
theorem dL_law_765 : decode b_L_law 765 = .ok (.iadd, 1) := by decide +kernel
theorem dL_law_766 : decode b_L_law 766 = .ok (.iaload, 1) := by decide +kernel
theorem dL_law_767 : decode b_L_law 767 = .ok (.aload_n 0, 1) := by decide +kernel
theorem dL_law_768 : decode b_L_law 768 = .ok (.iload 4, 2) := by decide +kernel
theorem dL_law_770 : decode b_L_law 770 = .ok (.iconst 4, 1) := by decide +kernel
theorem dL_law_771 : decode b_L_law 771 = .ok (.iadd, 1) := by decide +kernel
theorem dL_law_772 : decode b_L_law 772 = .ok (.iaload, 1) := by decide +kernel
theorem dL_law_773 : decode b_L_law 773 = .ok (.invokevirtual 117, 3) := by decide +kernel
theorem dL_law_776 : decode b_L_law 776 = .ok (.istore 6, 2) := by decide +kernel
theorem dL_law_778 : decode b_L_law 778 = .ok (.aload_n 2, 1) := by decide +kernel
theorem dL_law_779 : decode b_L_law 779 = .ok (.invokevirtual 85, 3) := by decide +kernel
theorem dL_law_782 : decode b_L_law 782 = .ok (.iload 5, 2) := by decide +kernel
theorem dL_law_784 : decode b_L_law 784 = .ok (.if_icmp .eq 5, 3) := by decide +kernel
theorem dL_law_787 : decode b_L_law 787 = .ok (.iconst 0, 1) := by decide +kernel
theorem dL_law_788 : decode b_L_law 788 = .ok (.ireturn, 1) := by decide +kernel
theorem dL_law_789 : decode b_L_law 789 = .ok (.iload 5, 2) := by decide +kernel
theorem dL_law_791 : decode b_L_law 791 = .ok (.ifCond .ne 22, 3) := by decide +kernel
theorem dL_law_794 : decode b_L_law 794 = .ok (.aload_n 3, 1) := by decide +kernel
theorem dL_law_795 : decode b_L_law 795 = .ok (.iconst 0, 1) := by decide +kernel
theorem dL_law_796 : decode b_L_law 796 = .ok (.laload, 1) := by decide +kernel
theorem dL_law_797 : decode b_L_law 797 = .ok (.iload 6, 2) := by decide +kernel
theorem dL_law_799 : decode b_L_law 799 = .ok (.ifCond .eq 7, 3) := by decide +kernel
theorem dL_law_802 : decode b_L_law 802 = .ok (.lconst 1, 1) := by decide +kernel
theorem dL_law_803 : decode b_L_law 803 = .ok (.goto 4, 3) := by decide +kernel
theorem dL_law_806 : decode b_L_law 806 = .ok (.lconst 0, 1) := by decide +kernel
theorem dL_law_807 : decode b_L_law 807 = .ok (.lcmp, 1) := by decide +kernel
theorem dL_law_808 : decode b_L_law 808 = .ok (.ifCond .eq 5, 3) := by decide +kernel
theorem dL_law_811 : decode b_L_law 811 = .ok (.iconst 0, 1) := by decide +kernel
theorem dL_law_812 : decode b_L_law 812 = .ok (.ireturn, 1) := by decide +kernel
theorem dL_law_813 : decode b_L_law 813 = .ok (.goto 491, 3) := by decide +kernel
theorem dL_law_816 : decode b_L_law 816 = .ok (.aload_n 1, 1) := by decide +kernel
theorem dL_law_817 : decode b_L_law 817 = .ok (.aload_n 0, 1) := by decide +kernel
theorem dL_law_818 : decode b_L_law 818 = .ok (.iload 4, 2) := by decide +kernel
theorem dL_law_820 : decode b_L_law 820 = .ok (.iconst 1, 1) := by decide +kernel
theorem dL_law_821 : decode b_L_law 821 = .ok (.iadd, 1) := by decide +kernel
theorem dL_law_822 : decode b_L_law 822 = .ok (.iaload, 1) := by decide +kernel
theorem dL_law_823 : decode b_L_law 823 = .ok (.aload_n 0, 1) := by decide +kernel
theorem dL_law_824 : decode b_L_law 824 = .ok (.iload 4, 2) := by decide +kernel
theorem dL_law_826 : decode b_L_law 826 = .ok (.iconst 2, 1) := by decide +kernel
theorem dL_law_827 : decode b_L_law 827 = .ok (.iadd, 1) := by decide +kernel
theorem dL_law_828 : decode b_L_law 828 = .ok (.iaload, 1) := by decide +kernel
theorem dL_law_829 : decode b_L_law 829 = .ok (.aload_n 0, 1) := by decide +kernel
theorem dL_law_830 : decode b_L_law 830 = .ok (.iload 4, 2) := by decide +kernel
theorem dL_law_832 : decode b_L_law 832 = .ok (.iconst 3, 1) := by decide +kernel
theorem dL_law_833 : decode b_L_law 833 = .ok (.iadd, 1) := by decide +kernel
theorem dL_law_834 : decode b_L_law 834 = .ok (.iaload, 1) := by decide +kernel
theorem dL_law_835 : decode b_L_law 835 = .ok (.aload_n 0, 1) := by decide +kernel
theorem dL_law_836 : decode b_L_law 836 = .ok (.iload 4, 2) := by decide +kernel
theorem dL_law_838 : decode b_L_law 838 = .ok (.iconst 4, 1) := by decide +kernel
theorem dL_law_839 : decode b_L_law 839 = .ok (.iadd, 1) := by decide +kernel
theorem dL_law_840 : decode b_L_law 840 = .ok (.iaload, 1) := by decide +kernel
theorem dL_law_841 : decode b_L_law 841 = .ok (.aload_n 3, 1) := by decide +kernel
theorem dL_law_842 : decode b_L_law 842 = .ok (.invokestatic 118, 3) := by decide +kernel
theorem dL_law_845 : decode b_L_law 845 = .ok (.istore 5, 2) := by decide +kernel
theorem dL_law_847 : decode b_L_law 847 = .ok (.aload_n 2, 1) := by decide +kernel
theorem dL_law_848 : decode b_L_law 848 = .ok (.aload_n 0, 1) := by decide +kernel
theorem dL_law_849 : decode b_L_law 849 = .ok (.iload 4, 2) := by decide +kernel
theorem dL_law_851 : decode b_L_law 851 = .ok (.iconst 1, 1) := by decide +kernel
theorem dL_law_852 : decode b_L_law 852 = .ok (.iadd, 1) := by decide +kernel
theorem dL_law_853 : decode b_L_law 853 = .ok (.iaload, 1) := by decide +kernel
theorem dL_law_854 : decode b_L_law 854 = .ok (.aload_n 0, 1) := by decide +kernel
theorem dL_law_855 : decode b_L_law 855 = .ok (.iload 4, 2) := by decide +kernel
theorem dL_law_857 : decode b_L_law 857 = .ok (.iconst 2, 1) := by decide +kernel
theorem dL_law_858 : decode b_L_law 858 = .ok (.iadd, 1) := by decide +kernel
theorem dL_law_859 : decode b_L_law 859 = .ok (.iaload, 1) := by decide +kernel
theorem dL_law_860 : decode b_L_law 860 = .ok (.aload_n 0, 1) := by decide +kernel
theorem dL_law_861 : decode b_L_law 861 = .ok (.iload 4, 2) := by decide +kernel
theorem dL_law_863 : decode b_L_law 863 = .ok (.iconst 3, 1) := by decide +kernel
theorem dL_law_864 : decode b_L_law 864 = .ok (.iadd, 1) := by decide +kernel
theorem dL_law_865 : decode b_L_law 865 = .ok (.iaload, 1) := by decide +kernel
theorem dL_law_866 : decode b_L_law 866 = .ok (.aload_n 0, 1) := by decide +kernel
theorem dL_law_867 : decode b_L_law 867 = .ok (.iload 4, 2) := by decide +kernel
theorem dL_law_869 : decode b_L_law 869 = .ok (.iconst 4, 1) := by decide +kernel
theorem dL_law_870 : decode b_L_law 870 = .ok (.iadd, 1) := by decide +kernel
theorem dL_law_871 : decode b_L_law 871 = .ok (.iaload, 1) := by decide +kernel
theorem dL_law_872 : decode b_L_law 872 = .ok (.invokevirtual 120, 3) := by decide +kernel
theorem dL_law_875 : decode b_L_law 875 = .ok (.istore 6, 2) := by decide +kernel
theorem dL_law_877 : decode b_L_law 877 = .ok (.aload_n 2, 1) := by decide +kernel
theorem dL_law_878 : decode b_L_law 878 = .ok (.invokevirtual 85, 3) := by decide +kernel
theorem dL_law_881 : decode b_L_law 881 = .ok (.iload 5, 2) := by decide +kernel
theorem dL_law_883 : decode b_L_law 883 = .ok (.if_icmp .eq 5, 3) := by decide +kernel
theorem dL_law_886 : decode b_L_law 886 = .ok (.iconst 0, 1) := by decide +kernel
theorem dL_law_887 : decode b_L_law 887 = .ok (.ireturn, 1) := by decide +kernel
theorem dL_law_888 : decode b_L_law 888 = .ok (.iload 5, 2) := by decide +kernel
theorem dL_law_890 : decode b_L_law 890 = .ok (.ifCond .ne 15, 3) := by decide +kernel
theorem dL_law_893 : decode b_L_law 893 = .ok (.aload_n 3, 1) := by decide +kernel
theorem dL_law_894 : decode b_L_law 894 = .ok (.iconst 0, 1) := by decide +kernel
theorem dL_law_895 : decode b_L_law 895 = .ok (.laload, 1) := by decide +kernel
theorem dL_law_896 : decode b_L_law 896 = .ok (.iload 6, 2) := by decide +kernel
theorem dL_law_898 : decode b_L_law 898 = .ok (.i2l, 1) := by decide +kernel
theorem dL_law_899 : decode b_L_law 899 = .ok (.lcmp, 1) := by decide +kernel
theorem dL_law_900 : decode b_L_law 900 = .ok (.ifCond .eq 5, 3) := by decide +kernel
theorem dL_law_903 : decode b_L_law 903 = .ok (.iconst 0, 1) := by decide +kernel
theorem dL_law_904 : decode b_L_law 904 = .ok (.ireturn, 1) := by decide +kernel
theorem dL_law_905 : decode b_L_law 905 = .ok (.goto 399, 3) := by decide +kernel
theorem dL_law_908 : decode b_L_law 908 = .ok (.aload_n 1, 1) := by decide +kernel
theorem dL_law_909 : decode b_L_law 909 = .ok (.aload_n 0, 1) := by decide +kernel
theorem dL_law_910 : decode b_L_law 910 = .ok (.iload 4, 2) := by decide +kernel
theorem dL_law_912 : decode b_L_law 912 = .ok (.iconst 1, 1) := by decide +kernel
theorem dL_law_913 : decode b_L_law 913 = .ok (.iadd, 1) := by decide +kernel
theorem dL_law_914 : decode b_L_law 914 = .ok (.iaload, 1) := by decide +kernel
theorem dL_law_915 : decode b_L_law 915 = .ok (.aload_n 3, 1) := by decide +kernel
theorem dL_law_916 : decode b_L_law 916 = .ok (.invokestatic 121, 3) := by decide +kernel
theorem dL_law_919 : decode b_L_law 919 = .ok (.istore 5, 2) := by decide +kernel
theorem dL_law_921 : decode b_L_law 921 = .ok (.aload_n 2, 1) := by decide +kernel
theorem dL_law_922 : decode b_L_law 922 = .ok (.aload_n 0, 1) := by decide +kernel
theorem dL_law_923 : decode b_L_law 923 = .ok (.iload 4, 2) := by decide +kernel
theorem dL_law_925 : decode b_L_law 925 = .ok (.iconst 1, 1) := by decide +kernel
theorem dL_law_926 : decode b_L_law 926 = .ok (.iadd, 1) := by decide +kernel
theorem dL_law_927 : decode b_L_law 927 = .ok (.iaload, 1) := by decide +kernel
theorem dL_law_928 : decode b_L_law 928 = .ok (.invokevirtual 124, 3) := by decide +kernel
theorem dL_law_931 : decode b_L_law 931 = .ok (.istore 6, 2) := by decide +kernel
theorem dL_law_933 : decode b_L_law 933 = .ok (.aload_n 2, 1) := by decide +kernel
theorem dL_law_934 : decode b_L_law 934 = .ok (.invokevirtual 85, 3) := by decide +kernel
theorem dL_law_937 : decode b_L_law 937 = .ok (.iload 5, 2) := by decide +kernel
theorem dL_law_939 : decode b_L_law 939 = .ok (.if_icmp .eq 5, 3) := by decide +kernel
theorem dL_law_942 : decode b_L_law 942 = .ok (.iconst 0, 1) := by decide +kernel
theorem dL_law_943 : decode b_L_law 943 = .ok (.ireturn, 1) := by decide +kernel
theorem dL_law_944 : decode b_L_law 944 = .ok (.iload 5, 2) := by decide +kernel
theorem dL_law_946 : decode b_L_law 946 = .ok (.ifCond .ne 15, 3) := by decide +kernel
theorem dL_law_949 : decode b_L_law 949 = .ok (.aload_n 3, 1) := by decide +kernel
theorem dL_law_950 : decode b_L_law 950 = .ok (.iconst 0, 1) := by decide +kernel
theorem dL_law_951 : decode b_L_law 951 = .ok (.laload, 1) := by decide +kernel
theorem dL_law_952 : decode b_L_law 952 = .ok (.iload 6, 2) := by decide +kernel
theorem dL_law_954 : decode b_L_law 954 = .ok (.i2l, 1) := by decide +kernel
theorem dL_law_955 : decode b_L_law 955 = .ok (.lcmp, 1) := by decide +kernel
theorem dL_law_956 : decode b_L_law 956 = .ok (.ifCond .eq 5, 3) := by decide +kernel
theorem dL_law_959 : decode b_L_law 959 = .ok (.iconst 0, 1) := by decide +kernel
theorem dL_law_960 : decode b_L_law 960 = .ok (.ireturn, 1) := by decide +kernel
theorem dL_law_961 : decode b_L_law 961 = .ok (.goto 343, 3) := by decide +kernel
theorem dL_law_964 : decode b_L_law 964 = .ok (.aload_n 1, 1) := by decide +kernel
theorem dL_law_965 : decode b_L_law 965 = .ok (.aload_n 0, 1) := by decide +kernel
theorem dL_law_966 : decode b_L_law 966 = .ok (.iload 4, 2) := by decide +kernel
theorem dL_law_968 : decode b_L_law 968 = .ok (.iconst 1, 1) := by decide +kernel
theorem dL_law_969 : decode b_L_law 969 = .ok (.iadd, 1) := by decide +kernel
theorem dL_law_970 : decode b_L_law 970 = .ok (.iaload, 1) := by decide +kernel
theorem dL_law_971 : decode b_L_law 971 = .ok (.aload_n 0, 1) := by decide +kernel
theorem dL_law_972 : decode b_L_law 972 = .ok (.iload 4, 2) := by decide +kernel
theorem dL_law_974 : decode b_L_law 974 = .ok (.iconst 2, 1) := by decide +kernel
theorem dL_law_975 : decode b_L_law 975 = .ok (.iadd, 1) := by decide +kernel
theorem dL_law_976 : decode b_L_law 976 = .ok (.iaload, 1) := by decide +kernel
theorem dL_law_977 : decode b_L_law 977 = .ok (.aload_n 0, 1) := by decide +kernel
theorem dL_law_978 : decode b_L_law 978 = .ok (.iload 4, 2) := by decide +kernel
theorem dL_law_980 : decode b_L_law 980 = .ok (.iconst 3, 1) := by decide +kernel
theorem dL_law_981 : decode b_L_law 981 = .ok (.iadd, 1) := by decide +kernel
theorem dL_law_982 : decode b_L_law 982 = .ok (.iaload, 1) := by decide +kernel
theorem dL_law_983 : decode b_L_law 983 = .ok (.aload_n 3, 1) := by decide +kernel
theorem dL_law_984 : decode b_L_law 984 = .ok (.invokestatic 125, 3) := by decide +kernel
theorem dL_law_987 : decode b_L_law 987 = .ok (.istore 5, 2) := by decide +kernel
theorem dL_law_989 : decode b_L_law 989 = .ok (.aload_n 2, 1) := by decide +kernel
theorem dL_law_990 : decode b_L_law 990 = .ok (.aload_n 0, 1) := by decide +kernel
theorem dL_law_991 : decode b_L_law 991 = .ok (.iload 4, 2) := by decide +kernel
theorem dL_law_993 : decode b_L_law 993 = .ok (.iconst 1, 1) := by decide +kernel
theorem dL_law_994 : decode b_L_law 994 = .ok (.iadd, 1) := by decide +kernel
theorem dL_law_995 : decode b_L_law 995 = .ok (.iaload, 1) := by decide +kernel
theorem dL_law_996 : decode b_L_law 996 = .ok (.aload_n 0, 1) := by decide +kernel
theorem dL_law_997 : decode b_L_law 997 = .ok (.iload 4, 2) := by decide +kernel
theorem dL_law_999 : decode b_L_law 999 = .ok (.iconst 2, 1) := by decide +kernel
theorem dL_law_1000 : decode b_L_law 1000 = .ok (.iadd, 1) := by decide +kernel
theorem dL_law_1001 : decode b_L_law 1001 = .ok (.iaload, 1) := by decide +kernel
theorem dL_law_1002 : decode b_L_law 1002 = .ok (.aload_n 0, 1) := by decide +kernel
theorem dL_law_1003 : decode b_L_law 1003 = .ok (.iload 4, 2) := by decide +kernel
theorem dL_law_1005 : decode b_L_law 1005 = .ok (.iconst 3, 1) := by decide +kernel
theorem dL_law_1006 : decode b_L_law 1006 = .ok (.iadd, 1) := by decide +kernel
theorem dL_law_1007 : decode b_L_law 1007 = .ok (.iaload, 1) := by decide +kernel
theorem dL_law_1008 : decode b_L_law 1008 = .ok (.invokevirtual 127, 3) := by decide +kernel
theorem dL_law_1011 : decode b_L_law 1011 = .ok (.istore 6, 2) := by decide +kernel
theorem dL_law_1013 : decode b_L_law 1013 = .ok (.aload_n 2, 1) := by decide +kernel
theorem dL_law_1014 : decode b_L_law 1014 = .ok (.invokevirtual 85, 3) := by decide +kernel
theorem dL_law_1017 : decode b_L_law 1017 = .ok (.iload 5, 2) := by decide +kernel
theorem dL_law_1019 : decode b_L_law 1019 = .ok (.if_icmp .eq 5, 3) := by decide +kernel
theorem dL_law_1022 : decode b_L_law 1022 = .ok (.iconst 0, 1) := by decide +kernel
theorem dL_law_1023 : decode b_L_law 1023 = .ok (.ireturn, 1) := by decide +kernel
theorem dL_law_1024 : decode b_L_law 1024 = .ok (.iload 5, 2) := by decide +kernel
theorem dL_law_1026 : decode b_L_law 1026 = .ok (.ifCond .ne 15, 3) := by decide +kernel
theorem dL_law_1029 : decode b_L_law 1029 = .ok (.aload_n 3, 1) := by decide +kernel
theorem dL_law_1030 : decode b_L_law 1030 = .ok (.iconst 0, 1) := by decide +kernel
theorem dL_law_1031 : decode b_L_law 1031 = .ok (.laload, 1) := by decide +kernel
theorem dL_law_1032 : decode b_L_law 1032 = .ok (.iload 6, 2) := by decide +kernel
theorem dL_law_1034 : decode b_L_law 1034 = .ok (.i2l, 1) := by decide +kernel
theorem dL_law_1035 : decode b_L_law 1035 = .ok (.lcmp, 1) := by decide +kernel
theorem dL_law_1036 : decode b_L_law 1036 = .ok (.ifCond .eq 5, 3) := by decide +kernel
theorem dL_law_1039 : decode b_L_law 1039 = .ok (.iconst 0, 1) := by decide +kernel
theorem dL_law_1040 : decode b_L_law 1040 = .ok (.ireturn, 1) := by decide +kernel
theorem dL_law_1041 : decode b_L_law 1041 = .ok (.goto 263, 3) := by decide +kernel
theorem dL_law_1044 : decode b_L_law 1044 = .ok (.aload_n 1, 1) := by decide +kernel
theorem dL_law_1045 : decode b_L_law 1045 = .ok (.aload_n 0, 1) := by decide +kernel
theorem dL_law_1046 : decode b_L_law 1046 = .ok (.iload 4, 2) := by decide +kernel
theorem dL_law_1048 : decode b_L_law 1048 = .ok (.iconst 1, 1) := by decide +kernel
theorem dL_law_1049 : decode b_L_law 1049 = .ok (.iadd, 1) := by decide +kernel
theorem dL_law_1050 : decode b_L_law 1050 = .ok (.iaload, 1) := by decide +kernel
theorem dL_law_1051 : decode b_L_law 1051 = .ok (.aload_n 0, 1) := by decide +kernel
theorem dL_law_1052 : decode b_L_law 1052 = .ok (.iload 4, 2) := by decide +kernel
theorem dL_law_1054 : decode b_L_law 1054 = .ok (.iconst 2, 1) := by decide +kernel
theorem dL_law_1055 : decode b_L_law 1055 = .ok (.iadd, 1) := by decide +kernel
theorem dL_law_1056 : decode b_L_law 1056 = .ok (.iaload, 1) := by decide +kernel
theorem dL_law_1057 : decode b_L_law 1057 = .ok (.aload_n 0, 1) := by decide +kernel
theorem dL_law_1058 : decode b_L_law 1058 = .ok (.iload 4, 2) := by decide +kernel
theorem dL_law_1060 : decode b_L_law 1060 = .ok (.iconst 3, 1) := by decide +kernel
theorem dL_law_1061 : decode b_L_law 1061 = .ok (.iadd, 1) := by decide +kernel
theorem dL_law_1062 : decode b_L_law 1062 = .ok (.iaload, 1) := by decide +kernel
theorem dL_law_1063 : decode b_L_law 1063 = .ok (.aload_n 0, 1) := by decide +kernel
theorem dL_law_1064 : decode b_L_law 1064 = .ok (.iload 4, 2) := by decide +kernel
theorem dL_law_1066 : decode b_L_law 1066 = .ok (.iconst 4, 1) := by decide +kernel
theorem dL_law_1067 : decode b_L_law 1067 = .ok (.iadd, 1) := by decide +kernel
theorem dL_law_1068 : decode b_L_law 1068 = .ok (.iaload, 1) := by decide +kernel
theorem dL_law_1069 : decode b_L_law 1069 = .ok (.aload_n 3, 1) := by decide +kernel
theorem dL_law_1070 : decode b_L_law 1070 = .ok (.invokestatic 128, 3) := by decide +kernel
theorem dL_law_1073 : decode b_L_law 1073 = .ok (.istore 5, 2) := by decide +kernel
theorem dL_law_1075 : decode b_L_law 1075 = .ok (.aload_n 2, 1) := by decide +kernel
theorem dL_law_1076 : decode b_L_law 1076 = .ok (.aload_n 0, 1) := by decide +kernel
theorem dL_law_1077 : decode b_L_law 1077 = .ok (.iload 4, 2) := by decide +kernel
theorem dL_law_1079 : decode b_L_law 1079 = .ok (.iconst 1, 1) := by decide +kernel
theorem dL_law_1080 : decode b_L_law 1080 = .ok (.iadd, 1) := by decide +kernel
theorem dL_law_1081 : decode b_L_law 1081 = .ok (.iaload, 1) := by decide +kernel
theorem dL_law_1082 : decode b_L_law 1082 = .ok (.aload_n 0, 1) := by decide +kernel
theorem dL_law_1083 : decode b_L_law 1083 = .ok (.iload 4, 2) := by decide +kernel
theorem dL_law_1085 : decode b_L_law 1085 = .ok (.iconst 2, 1) := by decide +kernel
theorem dL_law_1086 : decode b_L_law 1086 = .ok (.iadd, 1) := by decide +kernel
theorem dL_law_1087 : decode b_L_law 1087 = .ok (.iaload, 1) := by decide +kernel
theorem dL_law_1088 : decode b_L_law 1088 = .ok (.aload_n 0, 1) := by decide +kernel
theorem dL_law_1089 : decode b_L_law 1089 = .ok (.iload 4, 2) := by decide +kernel
theorem dL_law_1091 : decode b_L_law 1091 = .ok (.iconst 3, 1) := by decide +kernel
theorem dL_law_1092 : decode b_L_law 1092 = .ok (.iadd, 1) := by decide +kernel
theorem dL_law_1093 : decode b_L_law 1093 = .ok (.iaload, 1) := by decide +kernel
theorem dL_law_1094 : decode b_L_law 1094 = .ok (.aload_n 0, 1) := by decide +kernel
theorem dL_law_1095 : decode b_L_law 1095 = .ok (.iload 4, 2) := by decide +kernel
theorem dL_law_1097 : decode b_L_law 1097 = .ok (.iconst 4, 1) := by decide +kernel
theorem dL_law_1098 : decode b_L_law 1098 = .ok (.iadd, 1) := by decide +kernel
theorem dL_law_1099 : decode b_L_law 1099 = .ok (.iaload, 1) := by decide +kernel
theorem dL_law_1100 : decode b_L_law 1100 = .ok (.invokevirtual 130, 3) := by decide +kernel
theorem dL_law_1103 : decode b_L_law 1103 = .ok (.istore 6, 2) := by decide +kernel
theorem dL_law_1105 : decode b_L_law 1105 = .ok (.aload_n 2, 1) := by decide +kernel
theorem dL_law_1106 : decode b_L_law 1106 = .ok (.invokevirtual 85, 3) := by decide +kernel
theorem dL_law_1109 : decode b_L_law 1109 = .ok (.iload 5, 2) := by decide +kernel
theorem dL_law_1111 : decode b_L_law 1111 = .ok (.if_icmp .eq 5, 3) := by decide +kernel
theorem dL_law_1114 : decode b_L_law 1114 = .ok (.iconst 0, 1) := by decide +kernel
theorem dL_law_1115 : decode b_L_law 1115 = .ok (.ireturn, 1) := by decide +kernel
theorem dL_law_1116 : decode b_L_law 1116 = .ok (.iload 5, 2) := by decide +kernel
theorem dL_law_1118 : decode b_L_law 1118 = .ok (.ifCond .ne 15, 3) := by decide +kernel
theorem dL_law_1121 : decode b_L_law 1121 = .ok (.aload_n 3, 1) := by decide +kernel
theorem dL_law_1122 : decode b_L_law 1122 = .ok (.iconst 0, 1) := by decide +kernel
theorem dL_law_1123 : decode b_L_law 1123 = .ok (.laload, 1) := by decide +kernel
theorem dL_law_1124 : decode b_L_law 1124 = .ok (.iload 6, 2) := by decide +kernel
theorem dL_law_1126 : decode b_L_law 1126 = .ok (.i2l, 1) := by decide +kernel
theorem dL_law_1127 : decode b_L_law 1127 = .ok (.lcmp, 1) := by decide +kernel
theorem dL_law_1128 : decode b_L_law 1128 = .ok (.ifCond .eq 5, 3) := by decide +kernel
theorem dL_law_1131 : decode b_L_law 1131 = .ok (.iconst 0, 1) := by decide +kernel
theorem dL_law_1132 : decode b_L_law 1132 = .ok (.ireturn, 1) := by decide +kernel
theorem dL_law_1133 : decode b_L_law 1133 = .ok (.goto 171, 3) := by decide +kernel
theorem dL_law_1136 : decode b_L_law 1136 = .ok (.aload_n 1, 1) := by decide +kernel
theorem dL_law_1137 : decode b_L_law 1137 = .ok (.aload_n 0, 1) := by decide +kernel
theorem dL_law_1138 : decode b_L_law 1138 = .ok (.iload 4, 2) := by decide +kernel
theorem dL_law_1140 : decode b_L_law 1140 = .ok (.iconst 1, 1) := by decide +kernel
theorem dL_law_1141 : decode b_L_law 1141 = .ok (.iadd, 1) := by decide +kernel
theorem dL_law_1142 : decode b_L_law 1142 = .ok (.iaload, 1) := by decide +kernel
theorem dL_law_1143 : decode b_L_law 1143 = .ok (.aload_n 0, 1) := by decide +kernel
theorem dL_law_1144 : decode b_L_law 1144 = .ok (.iload 4, 2) := by decide +kernel
theorem dL_law_1146 : decode b_L_law 1146 = .ok (.iconst 2, 1) := by decide +kernel
theorem dL_law_1147 : decode b_L_law 1147 = .ok (.iadd, 1) := by decide +kernel
theorem dL_law_1148 : decode b_L_law 1148 = .ok (.iaload, 1) := by decide +kernel
theorem dL_law_1149 : decode b_L_law 1149 = .ok (.aload_n 3, 1) := by decide +kernel
theorem dL_law_1150 : decode b_L_law 1150 = .ok (.invokestatic 131, 3) := by decide +kernel
theorem dL_law_1153 : decode b_L_law 1153 = .ok (.istore 5, 2) := by decide +kernel
theorem dL_law_1155 : decode b_L_law 1155 = .ok (.aload_n 2, 1) := by decide +kernel
theorem dL_law_1156 : decode b_L_law 1156 = .ok (.aload_n 0, 1) := by decide +kernel
theorem dL_law_1157 : decode b_L_law 1157 = .ok (.iload 4, 2) := by decide +kernel
theorem dL_law_1159 : decode b_L_law 1159 = .ok (.iconst 1, 1) := by decide +kernel
theorem dL_law_1160 : decode b_L_law 1160 = .ok (.iadd, 1) := by decide +kernel
theorem dL_law_1161 : decode b_L_law 1161 = .ok (.iaload, 1) := by decide +kernel
theorem dL_law_1162 : decode b_L_law 1162 = .ok (.aload_n 0, 1) := by decide +kernel
theorem dL_law_1163 : decode b_L_law 1163 = .ok (.iload 4, 2) := by decide +kernel
theorem dL_law_1165 : decode b_L_law 1165 = .ok (.iconst 2, 1) := by decide +kernel
theorem dL_law_1166 : decode b_L_law 1166 = .ok (.iadd, 1) := by decide +kernel
theorem dL_law_1167 : decode b_L_law 1167 = .ok (.iaload, 1) := by decide +kernel
theorem dL_law_1168 : decode b_L_law 1168 = .ok (.invokevirtual 134, 3) := by decide +kernel
theorem dL_law_1171 : decode b_L_law 1171 = .ok (.istore 6, 2) := by decide +kernel
theorem dL_law_1173 : decode b_L_law 1173 = .ok (.aload_n 2, 1) := by decide +kernel
theorem dL_law_1174 : decode b_L_law 1174 = .ok (.invokevirtual 85, 3) := by decide +kernel
theorem dL_law_1177 : decode b_L_law 1177 = .ok (.iload 5, 2) := by decide +kernel
theorem dL_law_1179 : decode b_L_law 1179 = .ok (.if_icmp .eq 5, 3) := by decide +kernel
theorem dL_law_1182 : decode b_L_law 1182 = .ok (.iconst 0, 1) := by decide +kernel
theorem dL_law_1183 : decode b_L_law 1183 = .ok (.ireturn, 1) := by decide +kernel
theorem dL_law_1184 : decode b_L_law 1184 = .ok (.iload 5, 2) := by decide +kernel
theorem dL_law_1186 : decode b_L_law 1186 = .ok (.ifCond .ne 15, 3) := by decide +kernel
theorem dL_law_1189 : decode b_L_law 1189 = .ok (.aload_n 3, 1) := by decide +kernel
theorem dL_law_1190 : decode b_L_law 1190 = .ok (.iconst 0, 1) := by decide +kernel
theorem dL_law_1191 : decode b_L_law 1191 = .ok (.laload, 1) := by decide +kernel
theorem dL_law_1192 : decode b_L_law 1192 = .ok (.iload 6, 2) := by decide +kernel
theorem dL_law_1194 : decode b_L_law 1194 = .ok (.i2l, 1) := by decide +kernel
theorem dL_law_1195 : decode b_L_law 1195 = .ok (.lcmp, 1) := by decide +kernel
theorem dL_law_1196 : decode b_L_law 1196 = .ok (.ifCond .eq 5, 3) := by decide +kernel
theorem dL_law_1199 : decode b_L_law 1199 = .ok (.iconst 0, 1) := by decide +kernel
theorem dL_law_1200 : decode b_L_law 1200 = .ok (.ireturn, 1) := by decide +kernel
theorem dL_law_1201 : decode b_L_law 1201 = .ok (.goto 103, 3) := by decide +kernel
theorem dL_law_1204 : decode b_L_law 1204 = .ok (.aload_n 1, 1) := by decide +kernel
theorem dL_law_1205 : decode b_L_law 1205 = .ok (.aload_n 0, 1) := by decide +kernel
theorem dL_law_1206 : decode b_L_law 1206 = .ok (.iload 4, 2) := by decide +kernel
theorem dL_law_1208 : decode b_L_law 1208 = .ok (.iconst 1, 1) := by decide +kernel
theorem dL_law_1209 : decode b_L_law 1209 = .ok (.iadd, 1) := by decide +kernel
theorem dL_law_1210 : decode b_L_law 1210 = .ok (.iaload, 1) := by decide +kernel
theorem dL_law_1211 : decode b_L_law 1211 = .ok (.aload_n 0, 1) := by decide +kernel
theorem dL_law_1212 : decode b_L_law 1212 = .ok (.iload 4, 2) := by decide +kernel
theorem dL_law_1214 : decode b_L_law 1214 = .ok (.iconst 2, 1) := by decide +kernel
theorem dL_law_1215 : decode b_L_law 1215 = .ok (.iadd, 1) := by decide +kernel
theorem dL_law_1216 : decode b_L_law 1216 = .ok (.iaload, 1) := by decide +kernel
theorem dL_law_1217 : decode b_L_law 1217 = .ok (.aload_n 3, 1) := by decide +kernel
theorem dL_law_1218 : decode b_L_law 1218 = .ok (.invokestatic 135, 3) := by decide +kernel
theorem dL_law_1221 : decode b_L_law 1221 = .ok (.istore 5, 2) := by decide +kernel
theorem dL_law_1223 : decode b_L_law 1223 = .ok (.aload_n 2, 1) := by decide +kernel
theorem dL_law_1224 : decode b_L_law 1224 = .ok (.aload_n 0, 1) := by decide +kernel
theorem dL_law_1225 : decode b_L_law 1225 = .ok (.iload 4, 2) := by decide +kernel
theorem dL_law_1227 : decode b_L_law 1227 = .ok (.iconst 1, 1) := by decide +kernel
theorem dL_law_1228 : decode b_L_law 1228 = .ok (.iadd, 1) := by decide +kernel
theorem dL_law_1229 : decode b_L_law 1229 = .ok (.iaload, 1) := by decide +kernel
theorem dL_law_1230 : decode b_L_law 1230 = .ok (.aload_n 0, 1) := by decide +kernel
theorem dL_law_1231 : decode b_L_law 1231 = .ok (.iload 4, 2) := by decide +kernel
theorem dL_law_1233 : decode b_L_law 1233 = .ok (.iconst 2, 1) := by decide +kernel
theorem dL_law_1234 : decode b_L_law 1234 = .ok (.iadd, 1) := by decide +kernel
theorem dL_law_1235 : decode b_L_law 1235 = .ok (.iaload, 1) := by decide +kernel
theorem dL_law_1236 : decode b_L_law 1236 = .ok (.invokevirtual 137, 3) := by decide +kernel
theorem dL_law_1239 : decode b_L_law 1239 = .ok (.istore 6, 2) := by decide +kernel
theorem dL_law_1241 : decode b_L_law 1241 = .ok (.aload_n 2, 1) := by decide +kernel
theorem dL_law_1242 : decode b_L_law 1242 = .ok (.invokevirtual 85, 3) := by decide +kernel
theorem dL_law_1245 : decode b_L_law 1245 = .ok (.iload 5, 2) := by decide +kernel
theorem dL_law_1247 : decode b_L_law 1247 = .ok (.if_icmp .eq 5, 3) := by decide +kernel
theorem dL_law_1250 : decode b_L_law 1250 = .ok (.iconst 0, 1) := by decide +kernel
theorem dL_law_1251 : decode b_L_law 1251 = .ok (.ireturn, 1) := by decide +kernel
theorem dL_law_1252 : decode b_L_law 1252 = .ok (.iload 5, 2) := by decide +kernel
theorem dL_law_1254 : decode b_L_law 1254 = .ok (.ifCond .ne 22, 3) := by decide +kernel
theorem dL_law_1257 : decode b_L_law 1257 = .ok (.aload_n 3, 1) := by decide +kernel
theorem dL_law_1258 : decode b_L_law 1258 = .ok (.iconst 0, 1) := by decide +kernel
theorem dL_law_1259 : decode b_L_law 1259 = .ok (.laload, 1) := by decide +kernel
theorem dL_law_1260 : decode b_L_law 1260 = .ok (.iload 6, 2) := by decide +kernel
theorem dL_law_1262 : decode b_L_law 1262 = .ok (.ifCond .eq 7, 3) := by decide +kernel
theorem dL_law_1265 : decode b_L_law 1265 = .ok (.lconst 1, 1) := by decide +kernel
theorem dL_law_1266 : decode b_L_law 1266 = .ok (.goto 4, 3) := by decide +kernel
theorem dL_law_1269 : decode b_L_law 1269 = .ok (.lconst 0, 1) := by decide +kernel
theorem dL_law_1270 : decode b_L_law 1270 = .ok (.lcmp, 1) := by decide +kernel
theorem dL_law_1271 : decode b_L_law 1271 = .ok (.ifCond .eq 5, 3) := by decide +kernel
theorem dL_law_1274 : decode b_L_law 1274 = .ok (.iconst 0, 1) := by decide +kernel
theorem dL_law_1275 : decode b_L_law 1275 = .ok (.ireturn, 1) := by decide +kernel
theorem dL_law_1276 : decode b_L_law 1276 = .ok (.goto 28, 3) := by decide +kernel
theorem dL_law_1279 : decode b_L_law 1279 = .ok (.aload_n 1, 1) := by decide +kernel
theorem dL_law_1280 : decode b_L_law 1280 = .ok (.aload_n 0, 1) := by decide +kernel
theorem dL_law_1281 : decode b_L_law 1281 = .ok (.iload 4, 2) := by decide +kernel
theorem dL_law_1283 : decode b_L_law 1283 = .ok (.iconst 1, 1) := by decide +kernel
theorem dL_law_1284 : decode b_L_law 1284 = .ok (.iadd, 1) := by decide +kernel
theorem dL_law_1285 : decode b_L_law 1285 = .ok (.iaload, 1) := by decide +kernel
theorem dL_law_1286 : decode b_L_law 1286 = .ok (.invokevirtual 138, 3) := by decide +kernel
theorem dL_law_1289 : decode b_L_law 1289 = .ok (.aload_n 2, 1) := by decide +kernel
theorem dL_law_1290 : decode b_L_law 1290 = .ok (.aload_n 0, 1) := by decide +kernel
theorem dL_law_1291 : decode b_L_law 1291 = .ok (.iload 4, 2) := by decide +kernel
theorem dL_law_1293 : decode b_L_law 1293 = .ok (.iconst 1, 1) := by decide +kernel
theorem dL_law_1294 : decode b_L_law 1294 = .ok (.iadd, 1) := by decide +kernel
theorem dL_law_1295 : decode b_L_law 1295 = .ok (.iaload, 1) := by decide +kernel
theorem dL_law_1296 : decode b_L_law 1296 = .ok (.invokevirtual 141, 3) := by decide +kernel
theorem dL_law_1299 : decode b_L_law 1299 = .ok (.if_icmp .eq 5, 3) := by decide +kernel
theorem dL_law_1302 : decode b_L_law 1302 = .ok (.iconst 0, 1) := by decide +kernel
theorem dL_law_1303 : decode b_L_law 1303 = .ok (.ireturn, 1) := by decide +kernel
theorem dL_law_1304 : decode b_L_law 1304 = .ok (.iinc 4 5, 3) := by decide +kernel
theorem dL_law_1307 : decode b_L_law 1307 = .ok (.goto (-1274), 3) := by decide +kernel
theorem dL_law_1310 : decode b_L_law 1310 = .ok (.iconst 1, 1) := by decide +kernel
theorem dL_law_1311 : decode b_L_law 1311 = .ok (.ireturn, 1) := by decide +kernel
