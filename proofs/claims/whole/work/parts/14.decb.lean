/-! What stands at each place of the code, by program (wip/whole/gen/names.py). -/
theorem dC_init_0 : decode prog_2_method_1_code 0 = .ok (.aload_n 0, 1) := by decide +kernel
theorem dC_init_1 : decode prog_2_method_1_code 1 = .ok (.invokespecial 1, 3) := by decide +kernel
theorem dC_init_4 : decode prog_2_method_1_code 4 = .ok (.aload_n 0, 1) := by decide +kernel
theorem dC_init_5 : decode prog_2_method_1_code 5 = .ok (.lload_n 1, 1) := by decide +kernel
theorem dC_init_6 : decode prog_2_method_1_code 6 = .ok (.putfield 7, 3) := by decide +kernel
theorem dC_init_9 : decode prog_2_method_1_code 9 = .ok (.return_, 1) := by decide +kernel
theorem dC_allows_0 : decode prog_2_method_2_code 0 = .ok (.iconst 0, 1) := by decide +kernel
theorem dC_allows_1 : decode prog_2_method_2_code 1 = .ok (.istore 4, 2) := by decide +kernel
theorem dC_allows_3 : decode prog_2_method_2_code 3 = .ok (.iload 4, 2) := by decide +kernel
theorem dC_allows_5 : decode prog_2_method_2_code 5 = .ok (.iload_n 3, 1) := by decide +kernel
theorem dC_allows_6 : decode prog_2_method_2_code 6 = .ok (.if_icmp .ge 50, 3) := by decide +kernel
theorem dC_allows_9 : decode prog_2_method_2_code 9 = .ok (.aload_n 0, 1) := by decide +kernel
theorem dC_allows_10 : decode prog_2_method_2_code 10 = .ok (.getfield 7, 3) := by decide +kernel
theorem dC_allows_13 : decode prog_2_method_2_code 13 = .ok (.iload 4, 2) := by decide +kernel
theorem dC_allows_15 : decode prog_2_method_2_code 15 = .ok (.invokestatic 13, 3) := by decide +kernel
theorem dC_allows_18 : decode prog_2_method_2_code 18 = .ok (.istore 5, 2) := by decide +kernel
theorem dC_allows_20 : decode prog_2_method_2_code 20 = .ok (.iload 5, 2) := by decide +kernel
theorem dC_allows_22 : decode prog_2_method_2_code 22 = .ok (.iload_n 3, 1) := by decide +kernel
theorem dC_allows_23 : decode prog_2_method_2_code 23 = .ok (.if_icmp .ge 27, 3) := by decide +kernel
theorem dC_allows_26 : decode prog_2_method_2_code 26 = .ok (.lload_n 1, 1) := by decide +kernel
theorem dC_allows_27 : decode prog_2_method_2_code 27 = .ok (.iload 5, 2) := by decide +kernel
theorem dC_allows_29 : decode prog_2_method_2_code 29 = .ok (.invokestatic 13, 3) := by decide +kernel
theorem dC_allows_32 : decode prog_2_method_2_code 32 = .ok (.aload_n 0, 1) := by decide +kernel
theorem dC_allows_33 : decode prog_2_method_2_code 33 = .ok (.getfield 7, 3) := by decide +kernel
theorem dC_allows_36 : decode prog_2_method_2_code 36 = .ok (.lload_n 1, 1) := by decide +kernel
theorem dC_allows_37 : decode prog_2_method_2_code 37 = .ok (.iload 4, 2) := by decide +kernel
theorem dC_allows_39 : decode prog_2_method_2_code 39 = .ok (.invokestatic 13, 3) := by decide +kernel
theorem dC_allows_42 : decode prog_2_method_2_code 42 = .ok (.invokestatic 13, 3) := by decide +kernel
theorem dC_allows_45 : decode prog_2_method_2_code 45 = .ok (.if_icmp .eq 5, 3) := by decide +kernel
theorem dC_allows_48 : decode prog_2_method_2_code 48 = .ok (.iconst 0, 1) := by decide +kernel
theorem dC_allows_49 : decode prog_2_method_2_code 49 = .ok (.ireturn, 1) := by decide +kernel
theorem dC_allows_50 : decode prog_2_method_2_code 50 = .ok (.iinc 4 1, 3) := by decide +kernel
theorem dC_allows_53 : decode prog_2_method_2_code 53 = .ok (.goto (-50), 3) := by decide +kernel
theorem dC_allows_56 : decode prog_2_method_2_code 56 = .ok (.iconst 1, 1) := by decide +kernel
theorem dC_allows_57 : decode prog_2_method_2_code 57 = .ok (.ireturn, 1) := by decide +kernel
theorem dK_init_0 : decode prog_6_method_1_code 0 = .ok (.aload_n 0, 1) := by decide +kernel
theorem dK_init_1 : decode prog_6_method_1_code 1 = .ok (.invokespecial 1, 3) := by decide +kernel
theorem dK_init_4 : decode prog_6_method_1_code 4 = .ok (.aload_n 0, 1) := by decide +kernel
theorem dK_init_5 : decode prog_6_method_1_code 5 = .ok (.iload_n 1, 1) := by decide +kernel
theorem dK_init_6 : decode prog_6_method_1_code 6 = .ok (.putfield 7, 3) := by decide +kernel
theorem dK_init_9 : decode prog_6_method_1_code 9 = .ok (.aload_n 0, 1) := by decide +kernel
theorem dK_init_10 : decode prog_6_method_1_code 10 = .ok (.iload_n 2, 1) := by decide +kernel
theorem dK_init_11 : decode prog_6_method_1_code 11 = .ok (.putfield 13, 3) := by decide +kernel
theorem dK_init_14 : decode prog_6_method_1_code 14 = .ok (.return_, 1) := by decide +kernel
theorem dK_allows_0 : decode prog_6_method_2_code 0 = .ok (.iconst 0, 1) := by decide +kernel
theorem dK_allows_1 : decode prog_6_method_2_code 1 = .ok (.istore 4, 2) := by decide +kernel
theorem dK_allows_3 : decode prog_6_method_2_code 3 = .ok (.iload 4, 2) := by decide +kernel
theorem dK_allows_5 : decode prog_6_method_2_code 5 = .ok (.iload_n 3, 1) := by decide +kernel
theorem dK_allows_6 : decode prog_6_method_2_code 6 = .ok (.if_icmp .ge 35, 3) := by decide +kernel
theorem dK_allows_9 : decode prog_6_method_2_code 9 = .ok (.aload_n 0, 1) := by decide +kernel
theorem dK_allows_10 : decode prog_6_method_2_code 10 = .ok (.iload 4, 2) := by decide +kernel
theorem dK_allows_12 : decode prog_6_method_2_code 12 = .ok (.invokevirtual 17, 3) := by decide +kernel
theorem dK_allows_15 : decode prog_6_method_2_code 15 = .ok (.ifCond .eq 20, 3) := by decide +kernel
theorem dK_allows_18 : decode prog_6_method_2_code 18 = .ok (.aload_n 0, 1) := by decide +kernel
theorem dK_allows_19 : decode prog_6_method_2_code 19 = .ok (.iload 4, 2) := by decide +kernel
theorem dK_allows_21 : decode prog_6_method_2_code 21 = .ok (.lload_n 1, 1) := by decide +kernel
theorem dK_allows_22 : decode prog_6_method_2_code 22 = .ok (.iload 4, 2) := by decide +kernel
theorem dK_allows_24 : decode prog_6_method_2_code 24 = .ok (.invokestatic 21, 3) := by decide +kernel
theorem dK_allows_27 : decode prog_6_method_2_code 27 = .ok (.invokevirtual 27, 3) := by decide +kernel
theorem dK_allows_30 : decode prog_6_method_2_code 30 = .ok (.ifCond .ne 5, 3) := by decide +kernel
theorem dK_allows_33 : decode prog_6_method_2_code 33 = .ok (.iconst 0, 1) := by decide +kernel
theorem dK_allows_34 : decode prog_6_method_2_code 34 = .ok (.ireturn, 1) := by decide +kernel
theorem dK_allows_35 : decode prog_6_method_2_code 35 = .ok (.iinc 4 1, 3) := by decide +kernel
theorem dK_allows_38 : decode prog_6_method_2_code 38 = .ok (.goto (-35), 3) := by decide +kernel
theorem dK_allows_41 : decode prog_6_method_2_code 41 = .ok (.iconst 1, 1) := by decide +kernel
theorem dK_allows_42 : decode prog_6_method_2_code 42 = .ok (.ireturn, 1) := by decide +kernel
theorem dK_mayGo_0 : decode prog_6_method_3_code 0 = .ok (.aload_n 0, 1) := by decide +kernel
theorem dK_mayGo_1 : decode prog_6_method_3_code 1 = .ok (.getfield 13, 3) := by decide +kernel
theorem dK_mayGo_4 : decode prog_6_method_3_code 4 = .ok (.ifCond .eq 11, 3) := by decide +kernel
theorem dK_mayGo_7 : decode prog_6_method_3_code 7 = .ok (.aload_n 0, 1) := by decide +kernel
theorem dK_mayGo_8 : decode prog_6_method_3_code 8 = .ok (.iload_n 2, 1) := by decide +kernel
theorem dK_mayGo_9 : decode prog_6_method_3_code 9 = .ok (.invokevirtual 17, 3) := by decide +kernel
theorem dK_mayGo_12 : decode prog_6_method_3_code 12 = .ok (.goto 13, 3) := by decide +kernel
theorem dK_mayGo_15 : decode prog_6_method_3_code 15 = .ok (.iload_n 2, 1) := by decide +kernel
theorem dK_mayGo_16 : decode prog_6_method_3_code 16 = .ok (.iload_n 1, 1) := by decide +kernel
theorem dK_mayGo_17 : decode prog_6_method_3_code 17 = .ok (.if_icmp .ne 7, 3) := by decide +kernel
theorem dK_mayGo_20 : decode prog_6_method_3_code 20 = .ok (.iconst 1, 1) := by decide +kernel
theorem dK_mayGo_21 : decode prog_6_method_3_code 21 = .ok (.goto 4, 3) := by decide +kernel
theorem dK_mayGo_24 : decode prog_6_method_3_code 24 = .ok (.iconst 0, 1) := by decide +kernel
theorem dK_mayGo_25 : decode prog_6_method_3_code 25 = .ok (.ireturn, 1) := by decide +kernel
theorem dK_isInSet_0 : decode prog_6_method_4_code 0 = .ok (.aload_n 0, 1) := by decide +kernel
theorem dK_isInSet_1 : decode prog_6_method_4_code 1 = .ok (.getfield 7, 3) := by decide +kernel
theorem dK_isInSet_4 : decode prog_6_method_4_code 4 = .ok (.iload_n 1, 1) := by decide +kernel
theorem dK_isInSet_5 : decode prog_6_method_4_code 5 = .ok (.iushr, 1) := by decide +kernel
theorem dK_isInSet_6 : decode prog_6_method_4_code 6 = .ok (.iconst 1, 1) := by decide +kernel
theorem dK_isInSet_7 : decode prog_6_method_4_code 7 = .ok (.iand, 1) := by decide +kernel
theorem dK_isInSet_8 : decode prog_6_method_4_code 8 = .ok (.iconst 1, 1) := by decide +kernel
theorem dK_isInSet_9 : decode prog_6_method_4_code 9 = .ok (.if_icmp .ne 7, 3) := by decide +kernel
theorem dK_isInSet_12 : decode prog_6_method_4_code 12 = .ok (.iconst 1, 1) := by decide +kernel
theorem dK_isInSet_13 : decode prog_6_method_4_code 13 = .ok (.goto 4, 3) := by decide +kernel
theorem dK_isInSet_16 : decode prog_6_method_4_code 16 = .ok (.iconst 0, 1) := by decide +kernel
theorem dK_isInSet_17 : decode prog_6_method_4_code 17 = .ok (.ireturn, 1) := by decide +kernel
theorem dR_init_0 : decode prog_7_method_1_code 0 = .ok (.aload_n 0, 1) := by decide +kernel
theorem dR_init_1 : decode prog_7_method_1_code 1 = .ok (.invokespecial 3, 3) := by decide +kernel
theorem dR_init_4 : decode prog_7_method_1_code 4 = .ok (.aload_n 0, 1) := by decide +kernel
theorem dR_init_5 : decode prog_7_method_1_code 5 = .ok (.aload_n 1, 1) := by decide +kernel
theorem dR_init_6 : decode prog_7_method_1_code 6 = .ok (.putfield 9, 3) := by decide +kernel
theorem dR_init_9 : decode prog_7_method_1_code 9 = .ok (.aload_n 0, 1) := by decide +kernel
theorem dR_init_10 : decode prog_7_method_1_code 10 = .ok (.iload_n 2, 1) := by decide +kernel
theorem dR_init_11 : decode prog_7_method_1_code 11 = .ok (.putfield 15, 3) := by decide +kernel
theorem dR_init_14 : decode prog_7_method_1_code 14 = .ok (.aload_n 0, 1) := by decide +kernel
theorem dR_init_15 : decode prog_7_method_1_code 15 = .ok (.aload_n 3, 1) := by decide +kernel
theorem dR_init_16 : decode prog_7_method_1_code 16 = .ok (.putfield 19, 3) := by decide +kernel
theorem dR_init_19 : decode prog_7_method_1_code 19 = .ok (.aload_n 0, 1) := by decide +kernel
theorem dR_init_20 : decode prog_7_method_1_code 20 = .ok (.iload 4, 2) := by decide +kernel
theorem dR_init_22 : decode prog_7_method_1_code 22 = .ok (.putfield 23, 3) := by decide +kernel
theorem dR_init_25 : decode prog_7_method_1_code 25 = .ok (.aload_n 0, 1) := by decide +kernel
theorem dR_init_26 : decode prog_7_method_1_code 26 = .ok (.iload 5, 2) := by decide +kernel
theorem dR_init_28 : decode prog_7_method_1_code 28 = .ok (.putfield 26, 3) := by decide +kernel
theorem dR_init_31 : decode prog_7_method_1_code 31 = .ok (.aload_n 0, 1) := by decide +kernel
theorem dR_init_32 : decode prog_7_method_1_code 32 = .ok (.iconst 0, 1) := by decide +kernel
theorem dR_init_33 : decode prog_7_method_1_code 33 = .ok (.putfield 29, 3) := by decide +kernel
theorem dR_init_36 : decode prog_7_method_1_code 36 = .ok (.aload_n 0, 1) := by decide +kernel
theorem dR_init_37 : decode prog_7_method_1_code 37 = .ok (.iconst 0, 1) := by decide +kernel
theorem dR_init_38 : decode prog_7_method_1_code 38 = .ok (.putfield 32, 3) := by decide +kernel
theorem dR_init_41 : decode prog_7_method_1_code 41 = .ok (.return_, 1) := by decide +kernel
theorem dR_hasReadAll_0 : decode prog_7_method_2_code 0 = .ok (.aload_n 0, 1) := by decide +kernel
theorem dR_hasReadAll_1 : decode prog_7_method_2_code 1 = .ok (.getfield 32, 3) := by decide +kernel
theorem dR_hasReadAll_4 : decode prog_7_method_2_code 4 = .ok (.ifCond .ne 18, 3) := by decide +kernel
theorem dR_hasReadAll_7 : decode prog_7_method_2_code 7 = .ok (.aload_n 0, 1) := by decide +kernel
theorem dR_hasReadAll_8 : decode prog_7_method_2_code 8 = .ok (.getfield 29, 3) := by decide +kernel
theorem dR_hasReadAll_11 : decode prog_7_method_2_code 11 = .ok (.aload_n 0, 1) := by decide +kernel
theorem dR_hasReadAll_12 : decode prog_7_method_2_code 12 = .ok (.getfield 15, 3) := by decide +kernel
theorem dR_hasReadAll_15 : decode prog_7_method_2_code 15 = .ok (.if_icmp .ne 7, 3) := by decide +kernel
theorem dR_hasReadAll_18 : decode prog_7_method_2_code 18 = .ok (.iconst 1, 1) := by decide +kernel
theorem dR_hasReadAll_19 : decode prog_7_method_2_code 19 = .ok (.goto 4, 3) := by decide +kernel
theorem dR_hasReadAll_22 : decode prog_7_method_2_code 22 = .ok (.iconst 0, 1) := by decide +kernel
theorem dR_hasReadAll_23 : decode prog_7_method_2_code 23 = .ok (.ireturn, 1) := by decide +kernel
theorem dR_expression_0 : decode prog_7_method_3_code 0 = .ok (.aload_n 0, 1) := by decide +kernel
theorem dR_expression_1 : decode prog_7_method_3_code 1 = .ok (.iload_n 1, 1) := by decide +kernel
theorem dR_expression_2 : decode prog_7_method_3_code 2 = .ok (.invokevirtual 36, 3) := by decide +kernel
theorem dR_expression_5 : decode prog_7_method_3_code 5 = .ok (.lstore_n 2, 1) := by decide +kernel
theorem dR_expression_6 : decode prog_7_method_3_code 6 = .ok (.iconst 1, 1) := by decide +kernel
theorem dR_expression_7 : decode prog_7_method_3_code 7 = .ok (.istore 4, 2) := by decide +kernel
theorem dR_expression_9 : decode prog_7_method_3_code 9 = .ok (.iload 4, 2) := by decide +kernel
theorem dR_expression_11 : decode prog_7_method_3_code 11 = .ok (.bipush 24, 2) := by decide +kernel
theorem dR_expression_13 : decode prog_7_method_3_code 13 = .ok (.if_icmp .ge 37, 3) := by decide +kernel
theorem dR_expression_16 : decode prog_7_method_3_code 16 = .ok (.aload_n 0, 1) := by decide +kernel
theorem dR_expression_17 : decode prog_7_method_3_code 17 = .ok (.getfield 32, 3) := by decide +kernel
theorem dR_expression_20 : decode prog_7_method_3_code 20 = .ok (.ifCond .ne 30, 3) := by decide +kernel
theorem dR_expression_23 : decode prog_7_method_3_code 23 = .ok (.aload_n 0, 1) := by decide +kernel
theorem dR_expression_24 : decode prog_7_method_3_code 24 = .ok (.invokevirtual 40, 3) := by decide +kernel
theorem dR_expression_27 : decode prog_7_method_3_code 27 = .ok (.ifCond .ne 23, 3) := by decide +kernel
theorem dR_expression_30 : decode prog_7_method_3_code 30 = .ok (.lload_n 2, 1) := by decide +kernel
theorem dR_expression_31 : decode prog_7_method_3_code 31 = .ok (.aload_n 0, 1) := by decide +kernel
theorem dR_expression_32 : decode prog_7_method_3_code 32 = .ok (.iload_n 1, 1) := by decide +kernel
theorem dR_expression_33 : decode prog_7_method_3_code 33 = .ok (.invokevirtual 36, 3) := by decide +kernel
theorem dR_expression_36 : decode prog_7_method_3_code 36 = .ok (.aload_n 0, 1) := by decide +kernel
theorem dR_expression_37 : decode prog_7_method_3_code 37 = .ok (.getfield 26, 3) := by decide +kernel
theorem dR_expression_40 : decode prog_7_method_3_code 40 = .ok (.invokestatic 44, 3) := by decide +kernel
theorem dR_expression_43 : decode prog_7_method_3_code 43 = .ok (.lstore_n 2, 1) := by decide +kernel
theorem dR_expression_44 : decode prog_7_method_3_code 44 = .ok (.iinc 4 1, 3) := by decide +kernel
theorem dR_expression_47 : decode prog_7_method_3_code 47 = .ok (.goto (-38), 3) := by decide +kernel
theorem dR_expression_50 : decode prog_7_method_3_code 50 = .ok (.lload_n 2, 1) := by decide +kernel
theorem dR_expression_51 : decode prog_7_method_3_code 51 = .ok (.lreturn, 1) := by decide +kernel
theorem dR_isExpressionOver_0 : decode prog_7_method_4_code 0 = .ok (.aload_n 0, 1) := by decide +kernel
theorem dR_isExpressionOver_1 : decode prog_7_method_4_code 1 = .ok (.invokevirtual 50, 3) := by decide +kernel
theorem dR_isExpressionOver_4 : decode prog_7_method_4_code 4 = .ok (.istore_n 1, 1) := by decide +kernel
theorem dR_isExpressionOver_5 : decode prog_7_method_4_code 5 = .ok (.iload_n 1, 1) := by decide +kernel
theorem dR_isExpressionOver_6 : decode prog_7_method_4_code 6 = .ok (.ifCond .eq 21, 3) := by decide +kernel
theorem dR_isExpressionOver_9 : decode prog_7_method_4_code 9 = .ok (.iload_n 1, 1) := by decide +kernel
theorem dR_isExpressionOver_10 : decode prog_7_method_4_code 10 = .ok (.bipush 44, 2) := by decide +kernel
theorem dR_isExpressionOver_12 : decode prog_7_method_4_code 12 = .ok (.if_icmp .eq 15, 3) := by decide +kernel
theorem dR_isExpressionOver_15 : decode prog_7_method_4_code 15 = .ok (.iload_n 1, 1) := by decide +kernel
theorem dR_isExpressionOver_16 : decode prog_7_method_4_code 16 = .ok (.bipush 93, 2) := by decide +kernel
theorem dR_isExpressionOver_18 : decode prog_7_method_4_code 18 = .ok (.if_icmp .eq 9, 3) := by decide +kernel
theorem dR_isExpressionOver_21 : decode prog_7_method_4_code 21 = .ok (.iload_n 1, 1) := by decide +kernel
theorem dR_isExpressionOver_22 : decode prog_7_method_4_code 22 = .ok (.bipush 125, 2) := by decide +kernel
theorem dR_isExpressionOver_24 : decode prog_7_method_4_code 24 = .ok (.if_icmp .ne 7, 3) := by decide +kernel
theorem dR_isExpressionOver_27 : decode prog_7_method_4_code 27 = .ok (.iconst 1, 1) := by decide +kernel
theorem dR_isExpressionOver_28 : decode prog_7_method_4_code 28 = .ok (.goto 4, 3) := by decide +kernel
theorem dR_isExpressionOver_31 : decode prog_7_method_4_code 31 = .ok (.iconst 0, 1) := by decide +kernel
theorem dR_isExpressionOver_32 : decode prog_7_method_4_code 32 = .ok (.ireturn, 1) := by decide +kernel
theorem dR_factor_0 : decode prog_7_method_5_code 0 = .ok (.aload_n 0, 1) := by decide +kernel
theorem dR_factor_1 : decode prog_7_method_5_code 1 = .ok (.iload_n 1, 1) := by decide +kernel
theorem dR_factor_2 : decode prog_7_method_5_code 2 = .ok (.invokevirtual 54, 3) := by decide +kernel
theorem dR_factor_5 : decode prog_7_method_5_code 5 = .ok (.lstore_n 2, 1) := by decide +kernel
theorem dR_factor_6 : decode prog_7_method_5_code 6 = .ok (.iconst 0, 1) := by decide +kernel
theorem dR_factor_7 : decode prog_7_method_5_code 7 = .ok (.istore 4, 2) := by decide +kernel
theorem dR_factor_9 : decode prog_7_method_5_code 9 = .ok (.iload 4, 2) := by decide +kernel
theorem dR_factor_11 : decode prog_7_method_5_code 11 = .ok (.bipush 24, 2) := by decide +kernel
theorem dR_factor_13 : decode prog_7_method_5_code 13 = .ok (.if_icmp .ge 79, 3) := by decide +kernel
theorem dR_factor_16 : decode prog_7_method_5_code 16 = .ok (.aload_n 0, 1) := by decide +kernel
theorem dR_factor_17 : decode prog_7_method_5_code 17 = .ok (.getfield 32, 3) := by decide +kernel
theorem dR_factor_20 : decode prog_7_method_5_code 20 = .ok (.ifCond .ne 72, 3) := by decide +kernel
theorem dR_factor_23 : decode prog_7_method_5_code 23 = .ok (.aload_n 0, 1) := by decide +kernel
theorem dR_factor_24 : decode prog_7_method_5_code 24 = .ok (.invokevirtual 50, 3) := by decide +kernel
theorem dR_factor_27 : decode prog_7_method_5_code 27 = .ok (.istore 5, 2) := by decide +kernel
theorem dR_factor_29 : decode prog_7_method_5_code 29 = .ok (.iload 5, 2) := by decide +kernel
theorem dR_factor_31 : decode prog_7_method_5_code 31 = .ok (.bipush 39, 2) := by decide +kernel
theorem dR_factor_33 : decode prog_7_method_5_code 33 = .ok (.if_icmp .eq 12, 3) := by decide +kernel
theorem dR_factor_36 : decode prog_7_method_5_code 36 = .ok (.iload 5, 2) := by decide +kernel
theorem dR_factor_38 : decode prog_7_method_5_code 38 = .ok (.bipush 94, 2) := by decide +kernel
theorem dR_factor_40 : decode prog_7_method_5_code 40 = .ok (.if_icmp .eq 5, 3) := by decide +kernel
theorem dR_factor_43 : decode prog_7_method_5_code 43 = .ok (.lload_n 2, 1) := by decide +kernel
theorem dR_factor_44 : decode prog_7_method_5_code 44 = .ok (.lreturn, 1) := by decide +kernel
theorem dR_factor_45 : decode prog_7_method_5_code 45 = .ok (.aload_n 0, 1) := by decide +kernel
theorem dR_factor_46 : decode prog_7_method_5_code 46 = .ok (.dup, 1) := by decide +kernel
theorem dR_factor_47 : decode prog_7_method_5_code 47 = .ok (.getfield 29, 3) := by decide +kernel
theorem dR_factor_50 : decode prog_7_method_5_code 50 = .ok (.iconst 1, 1) := by decide +kernel
theorem dR_factor_51 : decode prog_7_method_5_code 51 = .ok (.iadd, 1) := by decide +kernel
theorem dR_factor_52 : decode prog_7_method_5_code 52 = .ok (.putfield 29, 3) := by decide +kernel
theorem dR_factor_55 : decode prog_7_method_5_code 55 = .ok (.iload 5, 2) := by decide +kernel
theorem dR_factor_57 : decode prog_7_method_5_code 57 = .ok (.bipush 94, 2) := by decide +kernel
theorem dR_factor_59 : decode prog_7_method_5_code 59 = .ok (.if_icmp .ne 18, 3) := by decide +kernel
theorem dR_factor_62 : decode prog_7_method_5_code 62 = .ok (.lload_n 2, 1) := by decide +kernel
theorem dR_factor_63 : decode prog_7_method_5_code 63 = .ok (.aload_n 0, 1) := by decide +kernel
theorem dR_factor_64 : decode prog_7_method_5_code 64 = .ok (.invokevirtual 57, 3) := by decide +kernel
theorem dR_factor_67 : decode prog_7_method_5_code 67 = .ok (.aload_n 0, 1) := by decide +kernel
theorem dR_factor_68 : decode prog_7_method_5_code 68 = .ok (.getfield 26, 3) := by decide +kernel
theorem dR_factor_71 : decode prog_7_method_5_code 71 = .ok (.invokestatic 61, 3) := by decide +kernel
theorem dR_factor_74 : decode prog_7_method_5_code 74 = .ok (.goto 11, 3) := by decide +kernel
theorem dR_factor_77 : decode prog_7_method_5_code 77 = .ok (.lload_n 2, 1) := by decide +kernel
theorem dR_factor_78 : decode prog_7_method_5_code 78 = .ok (.aload_n 0, 1) := by decide +kernel
theorem dR_factor_79 : decode prog_7_method_5_code 79 = .ok (.getfield 26, 3) := by decide +kernel
theorem dR_factor_82 : decode prog_7_method_5_code 82 = .ok (.invokestatic 65, 3) := by decide +kernel
theorem dR_factor_85 : decode prog_7_method_5_code 85 = .ok (.lstore_n 2, 1) := by decide +kernel
theorem dR_factor_86 : decode prog_7_method_5_code 86 = .ok (.iinc 4 1, 3) := by decide +kernel
theorem dR_factor_89 : decode prog_7_method_5_code 89 = .ok (.goto (-80), 3) := by decide +kernel
theorem dR_factor_92 : decode prog_7_method_5_code 92 = .ok (.lload_n 2, 1) := by decide +kernel
theorem dR_factor_93 : decode prog_7_method_5_code 93 = .ok (.lreturn, 1) := by decide +kernel
theorem dR_exponent_0 : decode prog_7_method_6_code 0 = .ok (.aload_n 0, 1) := by decide +kernel
theorem dR_exponent_1 : decode prog_7_method_6_code 1 = .ok (.invokevirtual 69, 3) := by decide +kernel
theorem dR_exponent_4 : decode prog_7_method_6_code 4 = .ok (.istore_n 1, 1) := by decide +kernel
theorem dR_exponent_5 : decode prog_7_method_6_code 5 = .ok (.iload_n 1, 1) := by decide +kernel
theorem dR_exponent_6 : decode prog_7_method_6_code 6 = .ok (.bipush 48, 2) := by decide +kernel
theorem dR_exponent_8 : decode prog_7_method_6_code 8 = .ok (.if_icmp .lt 9, 3) := by decide +kernel
theorem dR_exponent_11 : decode prog_7_method_6_code 11 = .ok (.iload_n 1, 1) := by decide +kernel
theorem dR_exponent_12 : decode prog_7_method_6_code 12 = .ok (.bipush 57, 2) := by decide +kernel
theorem dR_exponent_14 : decode prog_7_method_6_code 14 = .ok (.if_icmp .le 10, 3) := by decide +kernel
theorem dR_exponent_17 : decode prog_7_method_6_code 17 = .ok (.aload_n 0, 1) := by decide +kernel
theorem dR_exponent_18 : decode prog_7_method_6_code 18 = .ok (.iconst 1, 1) := by decide +kernel
theorem dR_exponent_19 : decode prog_7_method_6_code 19 = .ok (.putfield 32, 3) := by decide +kernel
theorem dR_exponent_22 : decode prog_7_method_6_code 22 = .ok (.iconst 0, 1) := by decide +kernel
theorem dR_exponent_23 : decode prog_7_method_6_code 23 = .ok (.ireturn, 1) := by decide +kernel
theorem dR_exponent_24 : decode prog_7_method_6_code 24 = .ok (.iload_n 1, 1) := by decide +kernel
theorem dR_exponent_25 : decode prog_7_method_6_code 25 = .ok (.bipush 48, 2) := by decide +kernel
theorem dR_exponent_27 : decode prog_7_method_6_code 27 = .ok (.isub, 1) := by decide +kernel
theorem dR_exponent_28 : decode prog_7_method_6_code 28 = .ok (.ireturn, 1) := by decide +kernel
theorem dR_primary_0 : decode prog_7_method_7_code 0 = .ok (.aload_n 0, 1) := by decide +kernel
theorem dR_primary_1 : decode prog_7_method_7_code 1 = .ok (.invokevirtual 69, 3) := by decide +kernel
theorem dR_primary_4 : decode prog_7_method_7_code 4 = .ok (.istore_n 2, 1) := by decide +kernel
theorem dR_primary_5 : decode prog_7_method_7_code 5 = .ok (.iload_n 2, 1) := by decide +kernel
theorem dR_primary_6 : decode prog_7_method_7_code 6 = .ok (.bipush 40, 2) := by decide +kernel
theorem dR_primary_8 : decode prog_7_method_7_code 8 = .ok (.if_icmp .ne 8, 3) := by decide +kernel
theorem dR_primary_11 : decode prog_7_method_7_code 11 = .ok (.aload_n 0, 1) := by decide +kernel
theorem dR_primary_12 : decode prog_7_method_7_code 12 = .ok (.invokevirtual 72, 3) := by decide +kernel
theorem dR_primary_15 : decode prog_7_method_7_code 15 = .ok (.lreturn, 1) := by decide +kernel
theorem dR_primary_16 : decode prog_7_method_7_code 16 = .ok (.iload_n 2, 1) := by decide +kernel
theorem dR_primary_17 : decode prog_7_method_7_code 17 = .ok (.bipush 91, 2) := by decide +kernel
theorem dR_primary_19 : decode prog_7_method_7_code 19 = .ok (.if_icmp .ne 16, 3) := by decide +kernel
theorem dR_primary_22 : decode prog_7_method_7_code 22 = .ok (.iload_n 1, 1) := by decide +kernel
theorem dR_primary_23 : decode prog_7_method_7_code 23 = .ok (.iconst 4, 1) := by decide +kernel
theorem dR_primary_24 : decode prog_7_method_7_code 24 = .ok (.if_icmp .ge 11, 3) := by decide +kernel
theorem dR_primary_27 : decode prog_7_method_7_code 27 = .ok (.aload_n 0, 1) := by decide +kernel
theorem dR_primary_28 : decode prog_7_method_7_code 28 = .ok (.iload_n 1, 1) := by decide +kernel
theorem dR_primary_29 : decode prog_7_method_7_code 29 = .ok (.iconst 1, 1) := by decide +kernel
theorem dR_primary_30 : decode prog_7_method_7_code 30 = .ok (.iadd, 1) := by decide +kernel
theorem dR_primary_31 : decode prog_7_method_7_code 31 = .ok (.invokevirtual 76, 3) := by decide +kernel
theorem dR_primary_34 : decode prog_7_method_7_code 34 = .ok (.lreturn, 1) := by decide +kernel
theorem dR_primary_35 : decode prog_7_method_7_code 35 = .ok (.iload_n 2, 1) := by decide +kernel
theorem dR_primary_36 : decode prog_7_method_7_code 36 = .ok (.bipush 123, 2) := by decide +kernel
theorem dR_primary_38 : decode prog_7_method_7_code 38 = .ok (.if_icmp .ne 24, 3) := by decide +kernel
theorem dR_primary_41 : decode prog_7_method_7_code 41 = .ok (.iload_n 1, 1) := by decide +kernel
theorem dR_primary_42 : decode prog_7_method_7_code 42 = .ok (.iconst 4, 1) := by decide +kernel
theorem dR_primary_43 : decode prog_7_method_7_code 43 = .ok (.if_icmp .ge 19, 3) := by decide +kernel
theorem dR_primary_46 : decode prog_7_method_7_code 46 = .ok (.aload_n 0, 1) := by decide +kernel
theorem dR_primary_47 : decode prog_7_method_7_code 47 = .ok (.iload_n 1, 1) := by decide +kernel
theorem dR_primary_48 : decode prog_7_method_7_code 48 = .ok (.iconst 1, 1) := by decide +kernel
theorem dR_primary_49 : decode prog_7_method_7_code 49 = .ok (.iadd, 1) := by decide +kernel
theorem dR_primary_50 : decode prog_7_method_7_code 50 = .ok (.invokevirtual 79, 3) := by decide +kernel
theorem dR_primary_53 : decode prog_7_method_7_code 53 = .ok (.lstore_n 3, 1) := by decide +kernel
theorem dR_primary_54 : decode prog_7_method_7_code 54 = .ok (.aload_n 0, 1) := by decide +kernel
theorem dR_primary_55 : decode prog_7_method_7_code 55 = .ok (.bipush 125, 2) := by decide +kernel
theorem dR_primary_57 : decode prog_7_method_7_code 57 = .ok (.invokevirtual 82, 3) := by decide +kernel
theorem dR_primary_60 : decode prog_7_method_7_code 60 = .ok (.lload_n 3, 1) := by decide +kernel
theorem dR_primary_61 : decode prog_7_method_7_code 61 = .ok (.lreturn, 1) := by decide +kernel
theorem dR_primary_62 : decode prog_7_method_7_code 62 = .ok (.iload_n 2, 1) := by decide +kernel
theorem dR_primary_63 : decode prog_7_method_7_code 63 = .ok (.bipush 97, 2) := by decide +kernel
theorem dR_primary_65 : decode prog_7_method_7_code 65 = .ok (.isub, 1) := by decide +kernel
theorem dR_primary_66 : decode prog_7_method_7_code 66 = .ok (.istore_n 3, 1) := by decide +kernel
theorem dR_primary_67 : decode prog_7_method_7_code 67 = .ok (.iload_n 3, 1) := by decide +kernel
theorem dR_primary_68 : decode prog_7_method_7_code 68 = .ok (.ifCond .lt 27, 3) := by decide +kernel
theorem dR_primary_71 : decode prog_7_method_7_code 71 = .ok (.iload_n 3, 1) := by decide +kernel
theorem dR_primary_72 : decode prog_7_method_7_code 72 = .ok (.aload_n 0, 1) := by decide +kernel
theorem dR_primary_73 : decode prog_7_method_7_code 73 = .ok (.getfield 23, 3) := by decide +kernel
theorem dR_primary_76 : decode prog_7_method_7_code 76 = .ok (.if_icmp .ge 19, 3) := by decide +kernel
theorem dR_primary_79 : decode prog_7_method_7_code 79 = .ok (.iload_n 3, 1) := by decide +kernel
theorem dR_primary_80 : decode prog_7_method_7_code 80 = .ok (.aload_n 0, 1) := by decide +kernel
theorem dR_primary_81 : decode prog_7_method_7_code 81 = .ok (.getfield 19, 3) := by decide +kernel
theorem dR_primary_84 : decode prog_7_method_7_code 84 = .ok (.arraylength, 1) := by decide +kernel
theorem dR_primary_85 : decode prog_7_method_7_code 85 = .ok (.if_icmp .ge 10, 3) := by decide +kernel
theorem dR_primary_88 : decode prog_7_method_7_code 88 = .ok (.aload_n 0, 1) := by decide +kernel
theorem dR_primary_89 : decode prog_7_method_7_code 89 = .ok (.getfield 19, 3) := by decide +kernel
theorem dR_primary_92 : decode prog_7_method_7_code 92 = .ok (.iload_n 3, 1) := by decide +kernel
theorem dR_primary_93 : decode prog_7_method_7_code 93 = .ok (.laload, 1) := by decide +kernel
theorem dR_primary_94 : decode prog_7_method_7_code 94 = .ok (.lreturn, 1) := by decide +kernel
theorem dR_primary_95 : decode prog_7_method_7_code 95 = .ok (.aload_n 0, 1) := by decide +kernel
theorem dR_primary_96 : decode prog_7_method_7_code 96 = .ok (.iconst 1, 1) := by decide +kernel
theorem dR_primary_97 : decode prog_7_method_7_code 97 = .ok (.putfield 32, 3) := by decide +kernel
theorem dR_primary_100 : decode prog_7_method_7_code 100 = .ok (.ldc2_w 86, 3) := by decide +kernel
theorem dR_primary_103 : decode prog_7_method_7_code 103 = .ok (.lreturn, 1) := by decide +kernel
theorem dR_cycle_0 : decode prog_7_method_8_code 0 = .ok (.aload_n 0, 1) := by decide +kernel
theorem dR_cycle_1 : decode prog_7_method_8_code 1 = .ok (.getfield 26, 3) := by decide +kernel
theorem dR_cycle_4 : decode prog_7_method_8_code 4 = .ok (.invokestatic 88, 3) := by decide +kernel
theorem dR_cycle_7 : decode prog_7_method_8_code 7 = .ok (.lstore_n 1, 1) := by decide +kernel
theorem dR_cycle_8 : decode prog_7_method_8_code 8 = .ok (.iconst (-1), 1) := by decide +kernel
theorem dR_cycle_9 : decode prog_7_method_8_code 9 = .ok (.istore_n 3, 1) := by decide +kernel
theorem dR_cycle_10 : decode prog_7_method_8_code 10 = .ok (.iconst (-1), 1) := by decide +kernel
theorem dR_cycle_11 : decode prog_7_method_8_code 11 = .ok (.istore 4, 2) := by decide +kernel
theorem dR_cycle_13 : decode prog_7_method_8_code 13 = .ok (.iconst 0, 1) := by decide +kernel
theorem dR_cycle_14 : decode prog_7_method_8_code 14 = .ok (.istore 5, 2) := by decide +kernel
theorem dR_cycle_16 : decode prog_7_method_8_code 16 = .ok (.iconst 0, 1) := by decide +kernel
theorem dR_cycle_17 : decode prog_7_method_8_code 17 = .ok (.istore 6, 2) := by decide +kernel
theorem dR_cycle_19 : decode prog_7_method_8_code 19 = .ok (.iload 6, 2) := by decide +kernel
theorem dR_cycle_21 : decode prog_7_method_8_code 21 = .ok (.aload_n 0, 1) := by decide +kernel
theorem dR_cycle_22 : decode prog_7_method_8_code 22 = .ok (.getfield 26, 3) := by decide +kernel
theorem dR_cycle_25 : decode prog_7_method_8_code 25 = .ok (.if_icmp .gt 117, 3) := by decide +kernel
theorem dR_cycle_28 : decode prog_7_method_8_code 28 = .ok (.aload_n 0, 1) := by decide +kernel
theorem dR_cycle_29 : decode prog_7_method_8_code 29 = .ok (.invokevirtual 69, 3) := by decide +kernel
theorem dR_cycle_32 : decode prog_7_method_8_code 32 = .ok (.istore 7, 2) := by decide +kernel
theorem dR_cycle_34 : decode prog_7_method_8_code 34 = .ok (.iload 7, 2) := by decide +kernel
theorem dR_cycle_36 : decode prog_7_method_8_code 36 = .ok (.bipush 41, 2) := by decide +kernel
theorem dR_cycle_38 : decode prog_7_method_8_code 38 = .ok (.if_icmp .ne 20, 3) := by decide +kernel
theorem dR_cycle_41 : decode prog_7_method_8_code 41 = .ok (.iload 4, 2) := by decide +kernel
theorem dR_cycle_43 : decode prog_7_method_8_code 43 = .ok (.ifCond .ge 7, 3) := by decide +kernel
theorem dR_cycle_46 : decode prog_7_method_8_code 46 = .ok (.lload_n 1, 1) := by decide +kernel
theorem dR_cycle_47 : decode prog_7_method_8_code 47 = .ok (.goto 10, 3) := by decide +kernel
theorem dR_cycle_50 : decode prog_7_method_8_code 50 = .ok (.lload_n 1, 1) := by decide +kernel
theorem dR_cycle_51 : decode prog_7_method_8_code 51 = .ok (.iload 4, 2) := by decide +kernel
theorem dR_cycle_53 : decode prog_7_method_8_code 53 = .ok (.iload_n 3, 1) := by decide +kernel
theorem dR_cycle_54 : decode prog_7_method_8_code 54 = .ok (.invokestatic 91, 3) := by decide +kernel
theorem dR_cycle_57 : decode prog_7_method_8_code 57 = .ok (.lreturn, 1) := by decide +kernel
theorem dR_cycle_58 : decode prog_7_method_8_code 58 = .ok (.iload 7, 2) := by decide +kernel
theorem dR_cycle_60 : decode prog_7_method_8_code 60 = .ok (.bipush 48, 2) := by decide +kernel
theorem dR_cycle_62 : decode prog_7_method_8_code 62 = .ok (.isub, 1) := by decide +kernel
theorem dR_cycle_63 : decode prog_7_method_8_code 63 = .ok (.istore 8, 2) := by decide +kernel
theorem dR_cycle_65 : decode prog_7_method_8_code 65 = .ok (.iload 8, 2) := by decide +kernel
theorem dR_cycle_67 : decode prog_7_method_8_code 67 = .ok (.ifCond .lt 75, 3) := by decide +kernel
theorem dR_cycle_70 : decode prog_7_method_8_code 70 = .ok (.iload 8, 2) := by decide +kernel
theorem dR_cycle_72 : decode prog_7_method_8_code 72 = .ok (.aload_n 0, 1) := by decide +kernel
theorem dR_cycle_73 : decode prog_7_method_8_code 73 = .ok (.getfield 26, 3) := by decide +kernel
theorem dR_cycle_76 : decode prog_7_method_8_code 76 = .ok (.if_icmp .ge 66, 3) := by decide +kernel
theorem dR_cycle_79 : decode prog_7_method_8_code 79 = .ok (.iload 5, 2) := by decide +kernel
theorem dR_cycle_81 : decode prog_7_method_8_code 81 = .ok (.iload 8, 2) := by decide +kernel
theorem dR_cycle_83 : decode prog_7_method_8_code 83 = .ok (.iushr, 1) := by decide +kernel
theorem dR_cycle_84 : decode prog_7_method_8_code 84 = .ok (.iconst 1, 1) := by decide +kernel
theorem dR_cycle_85 : decode prog_7_method_8_code 85 = .ok (.iand, 1) := by decide +kernel
theorem dR_cycle_86 : decode prog_7_method_8_code 86 = .ok (.iconst 1, 1) := by decide +kernel
theorem dR_cycle_87 : decode prog_7_method_8_code 87 = .ok (.if_icmp .ne 6, 3) := by decide +kernel
theorem dR_cycle_90 : decode prog_7_method_8_code 90 = .ok (.goto 52, 3) := by decide +kernel
theorem dR_cycle_93 : decode prog_7_method_8_code 93 = .ok (.iload 4, 2) := by decide +kernel
theorem dR_cycle_95 : decode prog_7_method_8_code 95 = .ok (.ifCond .ge 8, 3) := by decide +kernel
theorem dR_cycle_98 : decode prog_7_method_8_code 98 = .ok (.iload 8, 2) := by decide +kernel
theorem dR_cycle_100 : decode prog_7_method_8_code 100 = .ok (.goto 4, 3) := by decide +kernel
theorem dR_cycle_103 : decode prog_7_method_8_code 103 = .ok (.iload_n 3, 1) := by decide +kernel
theorem dR_cycle_104 : decode prog_7_method_8_code 104 = .ok (.istore_n 3, 1) := by decide +kernel
theorem dR_cycle_105 : decode prog_7_method_8_code 105 = .ok (.iload 4, 2) := by decide +kernel
theorem dR_cycle_107 : decode prog_7_method_8_code 107 = .ok (.ifCond .ge 7, 3) := by decide +kernel
theorem dR_cycle_110 : decode prog_7_method_8_code 110 = .ok (.lload_n 1, 1) := by decide +kernel
theorem dR_cycle_111 : decode prog_7_method_8_code 111 = .ok (.goto 11, 3) := by decide +kernel
theorem dR_cycle_114 : decode prog_7_method_8_code 114 = .ok (.lload_n 1, 1) := by decide +kernel
theorem dR_cycle_115 : decode prog_7_method_8_code 115 = .ok (.iload 4, 2) := by decide +kernel
theorem dR_cycle_117 : decode prog_7_method_8_code 117 = .ok (.iload 8, 2) := by decide +kernel
theorem dR_cycle_119 : decode prog_7_method_8_code 119 = .ok (.invokestatic 91, 3) := by decide +kernel
theorem dR_cycle_122 : decode prog_7_method_8_code 122 = .ok (.lstore_n 1, 1) := by decide +kernel
theorem dR_cycle_123 : decode prog_7_method_8_code 123 = .ok (.iload 8, 2) := by decide +kernel
theorem dR_cycle_125 : decode prog_7_method_8_code 125 = .ok (.istore 4, 2) := by decide +kernel
theorem dR_cycle_127 : decode prog_7_method_8_code 127 = .ok (.iload 5, 2) := by decide +kernel
theorem dR_cycle_129 : decode prog_7_method_8_code 129 = .ok (.iconst 1, 1) := by decide +kernel
theorem dR_cycle_130 : decode prog_7_method_8_code 130 = .ok (.iload 8, 2) := by decide +kernel
theorem dR_cycle_132 : decode prog_7_method_8_code 132 = .ok (.ishl, 1) := by decide +kernel
theorem dR_cycle_133 : decode prog_7_method_8_code 133 = .ok (.ior, 1) := by decide +kernel
theorem dR_cycle_134 : decode prog_7_method_8_code 134 = .ok (.istore 5, 2) := by decide +kernel
theorem dR_cycle_136 : decode prog_7_method_8_code 136 = .ok (.iinc 6 1, 3) := by decide +kernel
theorem dR_cycle_139 : decode prog_7_method_8_code 139 = .ok (.goto (-120), 3) := by decide +kernel
theorem dR_cycle_142 : decode prog_7_method_8_code 142 = .ok (.aload_n 0, 1) := by decide +kernel
theorem dR_cycle_143 : decode prog_7_method_8_code 143 = .ok (.iconst 1, 1) := by decide +kernel
theorem dR_cycle_144 : decode prog_7_method_8_code 144 = .ok (.putfield 32, 3) := by decide +kernel
theorem dR_cycle_147 : decode prog_7_method_8_code 147 = .ok (.ldc2_w 86, 3) := by decide +kernel
theorem dR_cycle_150 : decode prog_7_method_8_code 150 = .ok (.lreturn, 1) := by decide +kernel
theorem dR_commutator_0 : decode prog_7_method_9_code 0 = .ok (.aload_n 0, 1) := by decide +kernel
theorem dR_commutator_1 : decode prog_7_method_9_code 1 = .ok (.iload_n 1, 1) := by decide +kernel
theorem dR_commutator_2 : decode prog_7_method_9_code 2 = .ok (.invokevirtual 79, 3) := by decide +kernel
theorem dR_commutator_5 : decode prog_7_method_9_code 5 = .ok (.lstore_n 2, 1) := by decide +kernel
theorem dR_commutator_6 : decode prog_7_method_9_code 6 = .ok (.aload_n 0, 1) := by decide +kernel
theorem dR_commutator_7 : decode prog_7_method_9_code 7 = .ok (.bipush 44, 2) := by decide +kernel
theorem dR_commutator_9 : decode prog_7_method_9_code 9 = .ok (.invokevirtual 82, 3) := by decide +kernel
theorem dR_commutator_12 : decode prog_7_method_9_code 12 = .ok (.aload_n 0, 1) := by decide +kernel
theorem dR_commutator_13 : decode prog_7_method_9_code 13 = .ok (.getfield 32, 3) := by decide +kernel
theorem dR_commutator_16 : decode prog_7_method_9_code 16 = .ok (.ifCond .eq 9, 3) := by decide +kernel
theorem dR_commutator_19 : decode prog_7_method_9_code 19 = .ok (.ldc2_w 86, 3) := by decide +kernel
theorem dR_commutator_22 : decode prog_7_method_9_code 22 = .ok (.goto 8, 3) := by decide +kernel
theorem dR_commutator_25 : decode prog_7_method_9_code 25 = .ok (.aload_n 0, 1) := by decide +kernel
theorem dR_commutator_26 : decode prog_7_method_9_code 26 = .ok (.iload_n 1, 1) := by decide +kernel
theorem dR_commutator_27 : decode prog_7_method_9_code 27 = .ok (.invokevirtual 79, 3) := by decide +kernel
theorem dR_commutator_30 : decode prog_7_method_9_code 30 = .ok (.lstore 4, 2) := by decide +kernel
theorem dR_commutator_32 : decode prog_7_method_9_code 32 = .ok (.aload_n 0, 1) := by decide +kernel
theorem dR_commutator_33 : decode prog_7_method_9_code 33 = .ok (.bipush 93, 2) := by decide +kernel
theorem dR_commutator_35 : decode prog_7_method_9_code 35 = .ok (.invokevirtual 82, 3) := by decide +kernel
theorem dR_commutator_38 : decode prog_7_method_9_code 38 = .ok (.aload_n 0, 1) := by decide +kernel
theorem dR_commutator_39 : decode prog_7_method_9_code 39 = .ok (.getfield 32, 3) := by decide +kernel
theorem dR_commutator_42 : decode prog_7_method_9_code 42 = .ok (.ifCond .eq 9, 3) := by decide +kernel
theorem dR_commutator_45 : decode prog_7_method_9_code 45 = .ok (.ldc2_w 86, 3) := by decide +kernel
theorem dR_commutator_48 : decode prog_7_method_9_code 48 = .ok (.goto 13, 3) := by decide +kernel
theorem dR_commutator_51 : decode prog_7_method_9_code 51 = .ok (.lload_n 2, 1) := by decide +kernel
theorem dR_commutator_52 : decode prog_7_method_9_code 52 = .ok (.lload 4, 2) := by decide +kernel
theorem dR_commutator_54 : decode prog_7_method_9_code 54 = .ok (.aload_n 0, 1) := by decide +kernel
theorem dR_commutator_55 : decode prog_7_method_9_code 55 = .ok (.getfield 26, 3) := by decide +kernel
theorem dR_commutator_58 : decode prog_7_method_9_code 58 = .ok (.invokestatic 94, 3) := by decide +kernel
theorem dR_commutator_61 : decode prog_7_method_9_code 61 = .ok (.lreturn, 1) := by decide +kernel
theorem dR_expect_0 : decode prog_7_method_10_code 0 = .ok (.aload_n 0, 1) := by decide +kernel
theorem dR_expect_1 : decode prog_7_method_10_code 1 = .ok (.invokevirtual 50, 3) := by decide +kernel
theorem dR_expect_4 : decode prog_7_method_10_code 4 = .ok (.iload_n 1, 1) := by decide +kernel
theorem dR_expect_5 : decode prog_7_method_10_code 5 = .ok (.if_icmp .eq 8, 3) := by decide +kernel
theorem dR_expect_8 : decode prog_7_method_10_code 8 = .ok (.aload_n 0, 1) := by decide +kernel
theorem dR_expect_9 : decode prog_7_method_10_code 9 = .ok (.iconst 1, 1) := by decide +kernel
theorem dR_expect_10 : decode prog_7_method_10_code 10 = .ok (.putfield 32, 3) := by decide +kernel
theorem dR_expect_13 : decode prog_7_method_10_code 13 = .ok (.aload_n 0, 1) := by decide +kernel
theorem dR_expect_14 : decode prog_7_method_10_code 14 = .ok (.dup, 1) := by decide +kernel
theorem dR_expect_15 : decode prog_7_method_10_code 15 = .ok (.getfield 29, 3) := by decide +kernel
theorem dR_expect_18 : decode prog_7_method_10_code 18 = .ok (.iconst 1, 1) := by decide +kernel
theorem dR_expect_19 : decode prog_7_method_10_code 19 = .ok (.iadd, 1) := by decide +kernel
theorem dR_expect_20 : decode prog_7_method_10_code 20 = .ok (.putfield 29, 3) := by decide +kernel
theorem dR_expect_23 : decode prog_7_method_10_code 23 = .ok (.return_, 1) := by decide +kernel
theorem dR_look_0 : decode prog_7_method_11_code 0 = .ok (.aload_n 0, 1) := by decide +kernel
theorem dR_look_1 : decode prog_7_method_11_code 1 = .ok (.getfield 29, 3) := by decide +kernel
theorem dR_look_4 : decode prog_7_method_11_code 4 = .ok (.aload_n 0, 1) := by decide +kernel
theorem dR_look_5 : decode prog_7_method_11_code 5 = .ok (.getfield 15, 3) := by decide +kernel
theorem dR_look_8 : decode prog_7_method_11_code 8 = .ok (.if_icmp .ge 27, 3) := by decide +kernel
theorem dR_look_11 : decode prog_7_method_11_code 11 = .ok (.aload_n 0, 1) := by decide +kernel
theorem dR_look_12 : decode prog_7_method_11_code 12 = .ok (.getfield 29, 3) := by decide +kernel
theorem dR_look_15 : decode prog_7_method_11_code 15 = .ok (.aload_n 0, 1) := by decide +kernel
theorem dR_look_16 : decode prog_7_method_11_code 16 = .ok (.getfield 9, 3) := by decide +kernel
theorem dR_look_19 : decode prog_7_method_11_code 19 = .ok (.arraylength, 1) := by decide +kernel
theorem dR_look_20 : decode prog_7_method_11_code 20 = .ok (.if_icmp .ge 15, 3) := by decide +kernel
theorem dR_look_23 : decode prog_7_method_11_code 23 = .ok (.aload_n 0, 1) := by decide +kernel
theorem dR_look_24 : decode prog_7_method_11_code 24 = .ok (.getfield 9, 3) := by decide +kernel
theorem dR_look_27 : decode prog_7_method_11_code 27 = .ok (.aload_n 0, 1) := by decide +kernel
theorem dR_look_28 : decode prog_7_method_11_code 28 = .ok (.getfield 29, 3) := by decide +kernel
theorem dR_look_31 : decode prog_7_method_11_code 31 = .ok (.caload, 1) := by decide +kernel
theorem dR_look_32 : decode prog_7_method_11_code 32 = .ok (.goto 4, 3) := by decide +kernel
theorem dR_look_35 : decode prog_7_method_11_code 35 = .ok (.iconst 0, 1) := by decide +kernel
theorem dR_look_36 : decode prog_7_method_11_code 36 = .ok (.ireturn, 1) := by decide +kernel
theorem dR_take_0 : decode prog_7_method_12_code 0 = .ok (.aload_n 0, 1) := by decide +kernel
theorem dR_take_1 : decode prog_7_method_12_code 1 = .ok (.invokevirtual 50, 3) := by decide +kernel
theorem dR_take_4 : decode prog_7_method_12_code 4 = .ok (.istore_n 1, 1) := by decide +kernel
theorem dR_take_5 : decode prog_7_method_12_code 5 = .ok (.aload_n 0, 1) := by decide +kernel
theorem dR_take_6 : decode prog_7_method_12_code 6 = .ok (.dup, 1) := by decide +kernel
theorem dR_take_7 : decode prog_7_method_12_code 7 = .ok (.getfield 29, 3) := by decide +kernel
theorem dR_take_10 : decode prog_7_method_12_code 10 = .ok (.iconst 1, 1) := by decide +kernel
theorem dR_take_11 : decode prog_7_method_12_code 11 = .ok (.iadd, 1) := by decide +kernel
theorem dR_take_12 : decode prog_7_method_12_code 12 = .ok (.putfield 29, 3) := by decide +kernel
theorem dR_take_15 : decode prog_7_method_12_code 15 = .ok (.iload_n 1, 1) := by decide +kernel
theorem dR_take_16 : decode prog_7_method_12_code 16 = .ok (.ireturn, 1) := by decide +kernel
theorem dD_init_0 : decode prog_1_method_1_code 0 = .ok (.aload_n 0, 1) := by decide +kernel
theorem dD_init_1 : decode prog_1_method_1_code 1 = .ok (.invokespecial 1, 3) := by decide +kernel
theorem dD_init_4 : decode prog_1_method_1_code 4 = .ok (.aload_n 0, 1) := by decide +kernel
theorem dD_init_5 : decode prog_1_method_1_code 5 = .ok (.bipush 7, 2) := by decide +kernel
theorem dD_init_7 : decode prog_1_method_1_code 7 = .ok (.iconst 1, 1) := by decide +kernel
theorem dD_init_8 : decode prog_1_method_1_code 8 = .ok (.iload_n 1, 1) := by decide +kernel
theorem dD_init_9 : decode prog_1_method_1_code 9 = .ok (.bipush 7, 2) := by decide +kernel
theorem dD_init_11 : decode prog_1_method_1_code 11 = .ok (.iand, 1) := by decide +kernel
theorem dD_init_12 : decode prog_1_method_1_code 12 = .ok (.iadd, 1) := by decide +kernel
theorem dD_init_13 : decode prog_1_method_1_code 13 = .ok (.invokestatic 9, 3) := by decide +kernel
theorem dD_init_16 : decode prog_1_method_1_code 16 = .ok (.putfield 15, 3) := by decide +kernel
theorem dD_init_19 : decode prog_1_method_1_code 19 = .ok (.aload_n 0, 1) := by decide +kernel
theorem dD_init_20 : decode prog_1_method_1_code 20 = .ok (.bipush 24, 2) := by decide +kernel
theorem dD_init_22 : decode prog_1_method_1_code 22 = .ok (.newarray .char, 2) := by decide +kernel
theorem dD_init_24 : decode prog_1_method_1_code 24 = .ok (.putfield 19, 3) := by decide +kernel
theorem dD_init_27 : decode prog_1_method_1_code 27 = .ok (.aload_n 0, 1) := by decide +kernel
theorem dD_init_28 : decode prog_1_method_1_code 28 = .ok (.iconst 0, 1) := by decide +kernel
theorem dD_init_29 : decode prog_1_method_1_code 29 = .ok (.putfield 23, 3) := by decide +kernel
theorem dD_init_32 : decode prog_1_method_1_code 32 = .ok (.aload_n 0, 1) := by decide +kernel
theorem dD_init_33 : decode prog_1_method_1_code 33 = .ok (.bipush 6, 2) := by decide +kernel
theorem dD_init_35 : decode prog_1_method_1_code 35 = .ok (.newarray .long, 2) := by decide +kernel
theorem dD_init_37 : decode prog_1_method_1_code 37 = .ok (.putfield 26, 3) := by decide +kernel
theorem dD_init_40 : decode prog_1_method_1_code 40 = .ok (.aload_n 0, 1) := by decide +kernel
theorem dD_init_41 : decode prog_1_method_1_code 41 = .ok (.bipush 6, 2) := by decide +kernel
theorem dD_init_43 : decode prog_1_method_1_code 43 = .ok (.newarray .long, 2) := by decide +kernel
theorem dD_init_45 : decode prog_1_method_1_code 45 = .ok (.putfield 30, 3) := by decide +kernel
theorem dD_init_48 : decode prog_1_method_1_code 48 = .ok (.aload_n 0, 1) := by decide +kernel
theorem dD_init_49 : decode prog_1_method_1_code 49 = .ok (.iconst 0, 1) := by decide +kernel
theorem dD_init_50 : decode prog_1_method_1_code 50 = .ok (.putfield 33, 3) := by decide +kernel
theorem dD_init_53 : decode prog_1_method_1_code 53 = .ok (.aload_n 0, 1) := by decide +kernel
theorem dD_init_54 : decode prog_1_method_1_code 54 = .ok (.iconst 5, 1) := by decide +kernel
theorem dD_init_55 : decode prog_1_method_1_code 55 = .ok (.anewarray 36, 3) := by decide +kernel
theorem dD_init_58 : decode prog_1_method_1_code 58 = .ok (.putfield 38, 3) := by decide +kernel
theorem dD_init_61 : decode prog_1_method_1_code 61 = .ok (.iconst 0, 1) := by decide +kernel
theorem dD_init_62 : decode prog_1_method_1_code 62 = .ok (.istore_n 2, 1) := by decide +kernel
theorem dD_init_63 : decode prog_1_method_1_code 63 = .ok (.iload_n 2, 1) := by decide +kernel
theorem dD_init_64 : decode prog_1_method_1_code 64 = .ok (.iconst 5, 1) := by decide +kernel
theorem dD_init_65 : decode prog_1_method_1_code 65 = .ok (.if_icmp .ge 26, 3) := by decide +kernel
theorem dD_init_68 : decode prog_1_method_1_code 68 = .ok (.aload_n 0, 1) := by decide +kernel
theorem dD_init_69 : decode prog_1_method_1_code 69 = .ok (.getfield 38, 3) := by decide +kernel
theorem dD_init_72 : decode prog_1_method_1_code 72 = .ok (.iload_n 2, 1) := by decide +kernel
theorem dD_init_73 : decode prog_1_method_1_code 73 = .ok (.new 36, 3) := by decide +kernel
theorem dD_init_76 : decode prog_1_method_1_code 76 = .ok (.dup, 1) := by decide +kernel
theorem dD_init_77 : decode prog_1_method_1_code 77 = .ok (.aload_n 0, 1) := by decide +kernel
theorem dD_init_78 : decode prog_1_method_1_code 78 = .ok (.getfield 15, 3) := by decide +kernel
theorem dD_init_81 : decode prog_1_method_1_code 81 = .ok (.invokespecial 42, 3) := by decide +kernel
theorem dD_init_84 : decode prog_1_method_1_code 84 = .ok (.aastore, 1) := by decide +kernel
theorem dD_init_85 : decode prog_1_method_1_code 85 = .ok (.iinc 2 1, 3) := by decide +kernel
theorem dD_init_88 : decode prog_1_method_1_code 88 = .ok (.goto (-25), 3) := by decide +kernel
theorem dD_init_91 : decode prog_1_method_1_code 91 = .ok (.aload_n 0, 1) := by decide +kernel
theorem dD_init_92 : decode prog_1_method_1_code 92 = .ok (.new 36, 3) := by decide +kernel
theorem dD_init_95 : decode prog_1_method_1_code 95 = .ok (.dup, 1) := by decide +kernel
theorem dD_init_96 : decode prog_1_method_1_code 96 = .ok (.aload_n 0, 1) := by decide +kernel
theorem dD_init_97 : decode prog_1_method_1_code 97 = .ok (.getfield 15, 3) := by decide +kernel
theorem dD_init_100 : decode prog_1_method_1_code 100 = .ok (.invokespecial 42, 3) := by decide +kernel
theorem dD_init_103 : decode prog_1_method_1_code 103 = .ok (.putfield 45, 3) := by decide +kernel
theorem dD_init_106 : decode prog_1_method_1_code 106 = .ok (.aload_n 0, 1) := by decide +kernel
theorem dD_init_107 : decode prog_1_method_1_code 107 = .ok (.new 36, 3) := by decide +kernel
theorem dD_init_110 : decode prog_1_method_1_code 110 = .ok (.dup, 1) := by decide +kernel
theorem dD_init_111 : decode prog_1_method_1_code 111 = .ok (.iconst 2, 1) := by decide +kernel
theorem dD_init_112 : decode prog_1_method_1_code 112 = .ok (.aload_n 0, 1) := by decide +kernel
theorem dD_init_113 : decode prog_1_method_1_code 113 = .ok (.getfield 15, 3) := by decide +kernel
theorem dD_init_116 : decode prog_1_method_1_code 116 = .ok (.imul, 1) := by decide +kernel
theorem dD_init_117 : decode prog_1_method_1_code 117 = .ok (.invokespecial 42, 3) := by decide +kernel
theorem dD_init_120 : decode prog_1_method_1_code 120 = .ok (.putfield 49, 3) := by decide +kernel
theorem dD_init_123 : decode prog_1_method_1_code 123 = .ok (.return_, 1) := by decide +kernel
theorem dD_type_0 : decode prog_1_method_2_code 0 = .ok (.iload_n 1, 1) := by decide +kernel
theorem dD_type_1 : decode prog_1_method_2_code 1 = .ok (.bipush 32, 2) := by decide +kernel
theorem dD_type_3 : decode prog_1_method_2_code 3 = .ok (.if_icmp .lt 18, 3) := by decide +kernel
theorem dD_type_6 : decode prog_1_method_2_code 6 = .ok (.iload_n 1, 1) := by decide +kernel
theorem dD_type_7 : decode prog_1_method_2_code 7 = .ok (.bipush 126, 2) := by decide +kernel
theorem dD_type_9 : decode prog_1_method_2_code 9 = .ok (.if_icmp .gt 12, 3) := by decide +kernel
theorem dD_type_12 : decode prog_1_method_2_code 12 = .ok (.aload_n 0, 1) := by decide +kernel
theorem dD_type_13 : decode prog_1_method_2_code 13 = .ok (.getfield 23, 3) := by decide +kernel
theorem dD_type_16 : decode prog_1_method_2_code 16 = .ok (.bipush 24, 2) := by decide +kernel
theorem dD_type_18 : decode prog_1_method_2_code 18 = .ok (.if_icmp .lt 5, 3) := by decide +kernel
theorem dD_type_21 : decode prog_1_method_2_code 21 = .ok (.iconst 0, 1) := by decide +kernel
theorem dD_type_22 : decode prog_1_method_2_code 22 = .ok (.ireturn, 1) := by decide +kernel
theorem dD_type_23 : decode prog_1_method_2_code 23 = .ok (.aload_n 0, 1) := by decide +kernel
theorem dD_type_24 : decode prog_1_method_2_code 24 = .ok (.getfield 19, 3) := by decide +kernel
theorem dD_type_27 : decode prog_1_method_2_code 27 = .ok (.aload_n 0, 1) := by decide +kernel
theorem dD_type_28 : decode prog_1_method_2_code 28 = .ok (.getfield 23, 3) := by decide +kernel
theorem dD_type_31 : decode prog_1_method_2_code 31 = .ok (.iload_n 1, 1) := by decide +kernel
theorem dD_type_32 : decode prog_1_method_2_code 32 = .ok (.castore, 1) := by decide +kernel
theorem dD_type_33 : decode prog_1_method_2_code 33 = .ok (.aload_n 0, 1) := by decide +kernel
theorem dD_type_34 : decode prog_1_method_2_code 34 = .ok (.dup, 1) := by decide +kernel
theorem dD_type_35 : decode prog_1_method_2_code 35 = .ok (.getfield 23, 3) := by decide +kernel
theorem dD_type_38 : decode prog_1_method_2_code 38 = .ok (.iconst 1, 1) := by decide +kernel
theorem dD_type_39 : decode prog_1_method_2_code 39 = .ok (.iadd, 1) := by decide +kernel
theorem dD_type_40 : decode prog_1_method_2_code 40 = .ok (.putfield 23, 3) := by decide +kernel
theorem dD_type_43 : decode prog_1_method_2_code 43 = .ok (.iconst 1, 1) := by decide +kernel
theorem dD_type_44 : decode prog_1_method_2_code 44 = .ok (.ireturn, 1) := by decide +kernel
theorem dD_wipe_0 : decode prog_1_method_3_code 0 = .ok (.aload_n 0, 1) := by decide +kernel
theorem dD_wipe_1 : decode prog_1_method_3_code 1 = .ok (.iconst 0, 1) := by decide +kernel
theorem dD_wipe_2 : decode prog_1_method_3_code 2 = .ok (.putfield 23, 3) := by decide +kernel
theorem dD_wipe_5 : decode prog_1_method_3_code 5 = .ok (.return_, 1) := by decide +kernel
theorem dD_value_0 : decode prog_1_method_4_code 0 = .ok (.aload_n 0, 1) := by decide +kernel
theorem dD_value_1 : decode prog_1_method_4_code 1 = .ok (.invokevirtual 52, 3) := by decide +kernel
theorem dD_value_4 : decode prog_1_method_4_code 4 = .ok (.lstore_n 2, 1) := by decide +kernel
theorem dD_value_5 : decode prog_1_method_4_code 5 = .ok (.aload_n 0, 1) := by decide +kernel
theorem dD_value_6 : decode prog_1_method_4_code 6 = .ok (.iload_n 1, 1) := by decide +kernel
theorem dD_value_7 : decode prog_1_method_4_code 7 = .ok (.invokevirtual 56, 3) := by decide +kernel
theorem dD_value_10 : decode prog_1_method_4_code 10 = .ok (.lload_n 2, 1) := by decide +kernel
theorem dD_value_11 : decode prog_1_method_4_code 11 = .ok (.iload_n 1, 1) := by decide +kernel
theorem dD_value_12 : decode prog_1_method_4_code 12 = .ok (.invokestatic 59, 3) := by decide +kernel
theorem dD_value_15 : decode prog_1_method_4_code 15 = .ok (.ireturn, 1) := by decide +kernel
theorem dD_generate_0 : decode prog_1_method_5_code 0 = .ok (.aload_n 0, 1) := by decide +kernel
theorem dD_generate_1 : decode prog_1_method_5_code 1 = .ok (.invokevirtual 52, 3) := by decide +kernel
theorem dD_generate_4 : decode prog_1_method_5_code 4 = .ok (.lstore_n 1, 1) := by decide +kernel
theorem dD_generate_5 : decode prog_1_method_5_code 5 = .ok (.aload_n 0, 1) := by decide +kernel
theorem dD_generate_6 : decode prog_1_method_5_code 6 = .ok (.getfield 33, 3) := by decide +kernel
theorem dD_generate_9 : decode prog_1_method_5_code 9 = .ok (.bipush 6, 2) := by decide +kernel
theorem dD_generate_11 : decode prog_1_method_5_code 11 = .ok (.if_icmp .lt 13, 3) := by decide +kernel
theorem dD_generate_14 : decode prog_1_method_5_code 14 = .ok (.new 65, 3) := by decide +kernel
theorem dD_generate_17 : decode prog_1_method_5_code 17 = .ok (.dup, 1) := by decide +kernel
theorem dD_generate_18 : decode prog_1_method_5_code 18 = .ok (.ldc 67, 2) := by decide +kernel
theorem dD_generate_20 : decode prog_1_method_5_code 20 = .ok (.invokespecial 69, 3) := by decide +kernel
theorem dD_generate_23 : decode prog_1_method_5_code 23 = .ok (.athrow, 1) := by decide +kernel
theorem dD_generate_24 : decode prog_1_method_5_code 24 = .ok (.aload_n 0, 1) := by decide +kernel
theorem dD_generate_25 : decode prog_1_method_5_code 25 = .ok (.getfield 26, 3) := by decide +kernel
theorem dD_generate_28 : decode prog_1_method_5_code 28 = .ok (.aload_n 0, 1) := by decide +kernel
theorem dD_generate_29 : decode prog_1_method_5_code 29 = .ok (.getfield 33, 3) := by decide +kernel
theorem dD_generate_32 : decode prog_1_method_5_code 32 = .ok (.lload_n 1, 1) := by decide +kernel
theorem dD_generate_33 : decode prog_1_method_5_code 33 = .ok (.lastore, 1) := by decide +kernel
theorem dD_generate_34 : decode prog_1_method_5_code 34 = .ok (.aload_n 0, 1) := by decide +kernel
theorem dD_generate_35 : decode prog_1_method_5_code 35 = .ok (.getfield 30, 3) := by decide +kernel
theorem dD_generate_38 : decode prog_1_method_5_code 38 = .ok (.aload_n 0, 1) := by decide +kernel
theorem dD_generate_39 : decode prog_1_method_5_code 39 = .ok (.getfield 33, 3) := by decide +kernel
theorem dD_generate_42 : decode prog_1_method_5_code 42 = .ok (.ldc2_w 72, 3) := by decide +kernel
theorem dD_generate_45 : decode prog_1_method_5_code 45 = .ok (.lastore, 1) := by decide +kernel
theorem dD_generate_46 : decode prog_1_method_5_code 46 = .ok (.aload_n 0, 1) := by decide +kernel
theorem dD_generate_47 : decode prog_1_method_5_code 47 = .ok (.dup, 1) := by decide +kernel
theorem dD_generate_48 : decode prog_1_method_5_code 48 = .ok (.getfield 33, 3) := by decide +kernel
theorem dD_generate_51 : decode prog_1_method_5_code 51 = .ok (.iconst 1, 1) := by decide +kernel
theorem dD_generate_52 : decode prog_1_method_5_code 52 = .ok (.iadd, 1) := by decide +kernel
theorem dD_generate_53 : decode prog_1_method_5_code 53 = .ok (.putfield 33, 3) := by decide +kernel
theorem dD_generate_56 : decode prog_1_method_5_code 56 = .ok (.aload_n 0, 1) := by decide +kernel
theorem dD_generate_57 : decode prog_1_method_5_code 57 = .ok (.getfield 38, 3) := by decide +kernel
theorem dD_generate_60 : decode prog_1_method_5_code 60 = .ok (.iconst 0, 1) := by decide +kernel
theorem dD_generate_61 : decode prog_1_method_5_code 61 = .ok (.aaload, 1) := by decide +kernel
theorem dD_generate_62 : decode prog_1_method_5_code 62 = .ok (.lload_n 1, 1) := by decide +kernel
theorem dD_generate_63 : decode prog_1_method_5_code 63 = .ok (.invokevirtual 74, 3) := by decide +kernel
theorem dD_generate_66 : decode prog_1_method_5_code 66 = .ok (.aload_n 0, 1) := by decide +kernel
theorem dD_generate_67 : decode prog_1_method_5_code 67 = .ok (.getfield 33, 3) := by decide +kernel
theorem dD_generate_70 : decode prog_1_method_5_code 70 = .ok (.ireturn, 1) := by decide +kernel
theorem dD_forget_0 : decode prog_1_method_6_code 0 = .ok (.aload_n 0, 1) := by decide +kernel
theorem dD_forget_1 : decode prog_1_method_6_code 1 = .ok (.iconst 0, 1) := by decide +kernel
theorem dD_forget_2 : decode prog_1_method_6_code 2 = .ok (.putfield 33, 3) := by decide +kernel
theorem dD_forget_5 : decode prog_1_method_6_code 5 = .ok (.aload_n 0, 1) := by decide +kernel
theorem dD_forget_6 : decode prog_1_method_6_code 6 = .ok (.getfield 38, 3) := by decide +kernel
theorem dD_forget_9 : decode prog_1_method_6_code 9 = .ok (.iconst 0, 1) := by decide +kernel
theorem dD_forget_10 : decode prog_1_method_6_code 10 = .ok (.aaload, 1) := by decide +kernel
theorem dD_forget_11 : decode prog_1_method_6_code 11 = .ok (.invokevirtual 78, 3) := by decide +kernel
theorem dD_forget_14 : decode prog_1_method_6_code 14 = .ok (.return_, 1) := by decide +kernel
theorem dD_image_0 : decode prog_1_method_7_code 0 = .ok (.aload_n 0, 1) := by decide +kernel
theorem dD_image_1 : decode prog_1_method_7_code 1 = .ok (.invokevirtual 52, 3) := by decide +kernel
theorem dD_image_4 : decode prog_1_method_7_code 4 = .ok (.lstore_n 2, 1) := by decide +kernel
theorem dD_image_5 : decode prog_1_method_7_code 5 = .ok (.iload_n 1, 1) := by decide +kernel
theorem dD_image_6 : decode prog_1_method_7_code 6 = .ok (.ifCond .lt 11, 3) := by decide +kernel
theorem dD_image_9 : decode prog_1_method_7_code 9 = .ok (.iload_n 1, 1) := by decide +kernel
theorem dD_image_10 : decode prog_1_method_7_code 10 = .ok (.aload_n 0, 1) := by decide +kernel
theorem dD_image_11 : decode prog_1_method_7_code 11 = .ok (.getfield 33, 3) := by decide +kernel
theorem dD_image_14 : decode prog_1_method_7_code 14 = .ok (.if_icmp .lt 13, 3) := by decide +kernel
theorem dD_image_17 : decode prog_1_method_7_code 17 = .ok (.new 81, 3) := by decide +kernel
theorem dD_image_20 : decode prog_1_method_7_code 20 = .ok (.dup, 1) := by decide +kernel
theorem dD_image_21 : decode prog_1_method_7_code 21 = .ok (.ldc 83, 2) := by decide +kernel
theorem dD_image_23 : decode prog_1_method_7_code 23 = .ok (.invokespecial 85, 3) := by decide +kernel
theorem dD_image_26 : decode prog_1_method_7_code 26 = .ok (.athrow, 1) := by decide +kernel
theorem dD_image_27 : decode prog_1_method_7_code 27 = .ok (.aload_n 0, 1) := by decide +kernel
theorem dD_image_28 : decode prog_1_method_7_code 28 = .ok (.getfield 30, 3) := by decide +kernel
theorem dD_image_31 : decode prog_1_method_7_code 31 = .ok (.iload_n 1, 1) := by decide +kernel
theorem dD_image_32 : decode prog_1_method_7_code 32 = .ok (.lload_n 2, 1) := by decide +kernel
theorem dD_image_33 : decode prog_1_method_7_code 33 = .ok (.lastore, 1) := by decide +kernel
theorem dD_image_34 : decode prog_1_method_7_code 34 = .ok (.return_, 1) := by decide +kernel
theorem dD_extend_0 : decode prog_1_method_8_code 0 = .ok (.aload_n 0, 1) := by decide +kernel
theorem dD_extend_1 : decode prog_1_method_8_code 1 = .ok (.invokevirtual 86, 3) := by decide +kernel
theorem dD_extend_4 : decode prog_1_method_8_code 4 = .ok (.aload_n 0, 1) := by decide +kernel
theorem dD_extend_5 : decode prog_1_method_8_code 5 = .ok (.invokevirtual 89, 3) := by decide +kernel
theorem dD_extend_8 : decode prog_1_method_8_code 8 = .ok (.ireturn, 1) := by decide +kernel
theorem dD_kernel_0 : decode prog_1_method_9_code 0 = .ok (.aload_n 0, 1) := by decide +kernel
theorem dD_kernel_1 : decode prog_1_method_9_code 1 = .ok (.iload_n 1, 1) := by decide +kernel
theorem dD_kernel_2 : decode prog_1_method_9_code 2 = .ok (.invokevirtual 93, 3) := by decide +kernel
theorem dD_kernel_5 : decode prog_1_method_9_code 5 = .ok (.aload_n 0, 1) := by decide +kernel
theorem dD_kernel_6 : decode prog_1_method_9_code 6 = .ok (.invokevirtual 86, 3) := by decide +kernel
theorem dD_kernel_9 : decode prog_1_method_9_code 9 = .ok (.aload_n 0, 1) := by decide +kernel
theorem dD_kernel_10 : decode prog_1_method_9_code 10 = .ok (.invokevirtual 89, 3) := by decide +kernel
theorem dD_kernel_13 : decode prog_1_method_9_code 13 = .ok (.ifCond .ne 13, 3) := by decide +kernel
theorem dD_kernel_16 : decode prog_1_method_9_code 16 = .ok (.new 65, 3) := by decide +kernel
theorem dD_kernel_19 : decode prog_1_method_9_code 19 = .ok (.dup, 1) := by decide +kernel
theorem dD_kernel_20 : decode prog_1_method_9_code 20 = .ok (.ldc 96, 2) := by decide +kernel
theorem dD_kernel_22 : decode prog_1_method_9_code 22 = .ok (.invokespecial 69, 3) := by decide +kernel
theorem dD_kernel_25 : decode prog_1_method_9_code 25 = .ok (.athrow, 1) := by decide +kernel
theorem dD_kernel_26 : decode prog_1_method_9_code 26 = .ok (.aload_n 0, 1) := by decide +kernel
theorem dD_kernel_27 : decode prog_1_method_9_code 27 = .ok (.getfield 45, 3) := by decide +kernel
theorem dD_kernel_30 : decode prog_1_method_9_code 30 = .ok (.aload_n 0, 1) := by decide +kernel
theorem dD_kernel_31 : decode prog_1_method_9_code 31 = .ok (.getfield 49, 3) := by decide +kernel
theorem dD_kernel_34 : decode prog_1_method_9_code 34 = .ok (.invokevirtual 98, 3) := by decide +kernel
theorem dD_kernel_37 : decode prog_1_method_9_code 37 = .ok (.aload_n 0, 1) := by decide +kernel
theorem dD_kernel_38 : decode prog_1_method_9_code 38 = .ok (.iload_n 1, 1) := by decide +kernel
theorem dD_kernel_39 : decode prog_1_method_9_code 39 = .ok (.invokevirtual 102, 3) := by decide +kernel
theorem dD_kernel_42 : decode prog_1_method_9_code 42 = .ok (.ireturn, 1) := by decide +kernel
theorem dD_images_0 : decode prog_1_method_10_code 0 = .ok (.aload_n 0, 1) := by decide +kernel
theorem dD_images_1 : decode prog_1_method_10_code 1 = .ok (.iload_n 1, 1) := by decide +kernel
theorem dD_images_2 : decode prog_1_method_10_code 2 = .ok (.invokevirtual 93, 3) := by decide +kernel
theorem dD_images_5 : decode prog_1_method_10_code 5 = .ok (.aload_n 0, 1) := by decide +kernel
theorem dD_images_6 : decode prog_1_method_10_code 6 = .ok (.invokevirtual 86, 3) := by decide +kernel
theorem dD_images_9 : decode prog_1_method_10_code 9 = .ok (.aload_n 0, 1) := by decide +kernel
theorem dD_images_10 : decode prog_1_method_10_code 10 = .ok (.getfield 45, 3) := by decide +kernel
theorem dD_images_13 : decode prog_1_method_10_code 13 = .ok (.invokevirtual 78, 3) := by decide +kernel
theorem dD_images_16 : decode prog_1_method_10_code 16 = .ok (.iconst 0, 1) := by decide +kernel
theorem dD_images_17 : decode prog_1_method_10_code 17 = .ok (.istore_n 2, 1) := by decide +kernel
theorem dD_images_18 : decode prog_1_method_10_code 18 = .ok (.iload_n 2, 1) := by decide +kernel
theorem dD_images_19 : decode prog_1_method_10_code 19 = .ok (.aload_n 0, 1) := by decide +kernel
theorem dD_images_20 : decode prog_1_method_10_code 20 = .ok (.getfield 33, 3) := by decide +kernel
theorem dD_images_23 : decode prog_1_method_10_code 23 = .ok (.if_icmp .ge 22, 3) := by decide +kernel
theorem dD_images_26 : decode prog_1_method_10_code 26 = .ok (.aload_n 0, 1) := by decide +kernel
theorem dD_images_27 : decode prog_1_method_10_code 27 = .ok (.getfield 45, 3) := by decide +kernel
theorem dD_images_30 : decode prog_1_method_10_code 30 = .ok (.aload_n 0, 1) := by decide +kernel
theorem dD_images_31 : decode prog_1_method_10_code 31 = .ok (.getfield 30, 3) := by decide +kernel
theorem dD_images_34 : decode prog_1_method_10_code 34 = .ok (.iload_n 2, 1) := by decide +kernel
theorem dD_images_35 : decode prog_1_method_10_code 35 = .ok (.laload, 1) := by decide +kernel
theorem dD_images_36 : decode prog_1_method_10_code 36 = .ok (.invokevirtual 74, 3) := by decide +kernel
theorem dD_images_39 : decode prog_1_method_10_code 39 = .ok (.iinc 2 1, 3) := by decide +kernel
theorem dD_images_42 : decode prog_1_method_10_code 42 = .ok (.goto (-24), 3) := by decide +kernel
theorem dD_images_45 : decode prog_1_method_10_code 45 = .ok (.aload_n 0, 1) := by decide +kernel
theorem dD_images_46 : decode prog_1_method_10_code 46 = .ok (.iload_n 1, 1) := by decide +kernel
theorem dD_images_47 : decode prog_1_method_10_code 47 = .ok (.invokevirtual 102, 3) := by decide +kernel
theorem dD_images_50 : decode prog_1_method_10_code 50 = .ok (.ireturn, 1) := by decide +kernel
theorem dD_stabiliser_0 : decode prog_1_method_11_code 0 = .ok (.aload_n 0, 1) := by decide +kernel
theorem dD_stabiliser_1 : decode prog_1_method_11_code 1 = .ok (.iload_n 1, 1) := by decide +kernel
theorem dD_stabiliser_2 : decode prog_1_method_11_code 2 = .ok (.invokevirtual 106, 3) := by decide +kernel
theorem dD_stabiliser_5 : decode prog_1_method_11_code 5 = .ok (.aload_n 0, 1) := by decide +kernel
theorem dD_stabiliser_6 : decode prog_1_method_11_code 6 = .ok (.iload 4, 2) := by decide +kernel
theorem dD_stabiliser_8 : decode prog_1_method_11_code 8 = .ok (.invokevirtual 93, 3) := by decide +kernel
theorem dD_stabiliser_11 : decode prog_1_method_11_code 11 = .ok (.iload_n 2, 1) := by decide +kernel
theorem dD_stabiliser_12 : decode prog_1_method_11_code 12 = .ok (.aload_n 0, 1) := by decide +kernel
theorem dD_stabiliser_13 : decode prog_1_method_11_code 13 = .ok (.getfield 15, 3) := by decide +kernel
theorem dD_stabiliser_16 : decode prog_1_method_11_code 16 = .ok (.iushr, 1) := by decide +kernel
theorem dD_stabiliser_17 : decode prog_1_method_11_code 17 = .ok (.ifCond .eq 13, 3) := by decide +kernel
theorem dD_stabiliser_20 : decode prog_1_method_11_code 20 = .ok (.new 109, 3) := by decide +kernel
theorem dD_stabiliser_23 : decode prog_1_method_11_code 23 = .ok (.dup, 1) := by decide +kernel
theorem dD_stabiliser_24 : decode prog_1_method_11_code 24 = .ok (.ldc 111, 2) := by decide +kernel
theorem dD_stabiliser_26 : decode prog_1_method_11_code 26 = .ok (.invokespecial 113, 3) := by decide +kernel
theorem dD_stabiliser_29 : decode prog_1_method_11_code 29 = .ok (.athrow, 1) := by decide +kernel
theorem dD_stabiliser_30 : decode prog_1_method_11_code 30 = .ok (.aload_n 0, 1) := by decide +kernel
theorem dD_stabiliser_31 : decode prog_1_method_11_code 31 = .ok (.getfield 45, 3) := by decide +kernel
theorem dD_stabiliser_34 : decode prog_1_method_11_code 34 = .ok (.aload_n 0, 1) := by decide +kernel
theorem dD_stabiliser_35 : decode prog_1_method_11_code 35 = .ok (.getfield 38, 3) := by decide +kernel
theorem dD_stabiliser_38 : decode prog_1_method_11_code 38 = .ok (.iload_n 1, 1) := by decide +kernel
theorem dD_stabiliser_39 : decode prog_1_method_11_code 39 = .ok (.aaload, 1) := by decide +kernel
theorem dD_stabiliser_40 : decode prog_1_method_11_code 40 = .ok (.new 114, 3) := by decide +kernel
theorem dD_stabiliser_43 : decode prog_1_method_11_code 43 = .ok (.dup, 1) := by decide +kernel
theorem dD_stabiliser_44 : decode prog_1_method_11_code 44 = .ok (.iload_n 2, 1) := by decide +kernel
theorem dD_stabiliser_45 : decode prog_1_method_11_code 45 = .ok (.iload_n 3, 1) := by decide +kernel
theorem dD_stabiliser_46 : decode prog_1_method_11_code 46 = .ok (.invokespecial 116, 3) := by decide +kernel
theorem dD_stabiliser_49 : decode prog_1_method_11_code 49 = .ok (.invokevirtual 119, 3) := by decide +kernel
theorem dD_stabiliser_52 : decode prog_1_method_11_code 52 = .ok (.aload_n 0, 1) := by decide +kernel
theorem dD_stabiliser_53 : decode prog_1_method_11_code 53 = .ok (.iload 4, 2) := by decide +kernel
theorem dD_stabiliser_55 : decode prog_1_method_11_code 55 = .ok (.invokevirtual 102, 3) := by decide +kernel
theorem dD_stabiliser_58 : decode prog_1_method_11_code 58 = .ok (.ireturn, 1) := by decide +kernel
theorem dD_centraliser_0 : decode prog_1_method_12_code 0 = .ok (.aload_n 0, 1) := by decide +kernel
theorem dD_centraliser_1 : decode prog_1_method_12_code 1 = .ok (.iload_n 1, 1) := by decide +kernel
theorem dD_centraliser_2 : decode prog_1_method_12_code 2 = .ok (.invokevirtual 106, 3) := by decide +kernel
theorem dD_centraliser_5 : decode prog_1_method_12_code 5 = .ok (.aload_n 0, 1) := by decide +kernel
theorem dD_centraliser_6 : decode prog_1_method_12_code 6 = .ok (.iload_n 2, 1) := by decide +kernel
theorem dD_centraliser_7 : decode prog_1_method_12_code 7 = .ok (.invokevirtual 93, 3) := by decide +kernel
theorem dD_centraliser_10 : decode prog_1_method_12_code 10 = .ok (.aload_n 0, 1) := by decide +kernel
theorem dD_centraliser_11 : decode prog_1_method_12_code 11 = .ok (.getfield 45, 3) := by decide +kernel
theorem dD_centraliser_14 : decode prog_1_method_12_code 14 = .ok (.aload_n 0, 1) := by decide +kernel
theorem dD_centraliser_15 : decode prog_1_method_12_code 15 = .ok (.getfield 38, 3) := by decide +kernel
theorem dD_centraliser_18 : decode prog_1_method_12_code 18 = .ok (.iload_n 1, 1) := by decide +kernel
theorem dD_centraliser_19 : decode prog_1_method_12_code 19 = .ok (.aaload, 1) := by decide +kernel
theorem dD_centraliser_20 : decode prog_1_method_12_code 20 = .ok (.new 123, 3) := by decide +kernel
theorem dD_centraliser_23 : decode prog_1_method_12_code 23 = .ok (.dup, 1) := by decide +kernel
theorem dD_centraliser_24 : decode prog_1_method_12_code 24 = .ok (.aload_n 0, 1) := by decide +kernel
theorem dD_centraliser_25 : decode prog_1_method_12_code 25 = .ok (.invokevirtual 52, 3) := by decide +kernel
theorem dD_centraliser_28 : decode prog_1_method_12_code 28 = .ok (.invokespecial 125, 3) := by decide +kernel
theorem dD_centraliser_31 : decode prog_1_method_12_code 31 = .ok (.invokevirtual 119, 3) := by decide +kernel
theorem dD_centraliser_34 : decode prog_1_method_12_code 34 = .ok (.aload_n 0, 1) := by decide +kernel
theorem dD_centraliser_35 : decode prog_1_method_12_code 35 = .ok (.iload_n 2, 1) := by decide +kernel
theorem dD_centraliser_36 : decode prog_1_method_12_code 36 = .ok (.invokevirtual 102, 3) := by decide +kernel
theorem dD_centraliser_39 : decode prog_1_method_12_code 39 = .ok (.ireturn, 1) := by decide +kernel
theorem dD_closure_0 : decode prog_1_method_13_code 0 = .ok (.aload_n 0, 1) := by decide +kernel
theorem dD_closure_1 : decode prog_1_method_13_code 1 = .ok (.iload_n 1, 1) := by decide +kernel
theorem dD_closure_2 : decode prog_1_method_13_code 2 = .ok (.invokevirtual 106, 3) := by decide +kernel
theorem dD_closure_5 : decode prog_1_method_13_code 5 = .ok (.aload_n 0, 1) := by decide +kernel
theorem dD_closure_6 : decode prog_1_method_13_code 6 = .ok (.iload_n 2, 1) := by decide +kernel
theorem dD_closure_7 : decode prog_1_method_13_code 7 = .ok (.invokevirtual 93, 3) := by decide +kernel
theorem dD_closure_10 : decode prog_1_method_13_code 10 = .ok (.aload_n 0, 1) := by decide +kernel
theorem dD_closure_11 : decode prog_1_method_13_code 11 = .ok (.invokevirtual 52, 3) := by decide +kernel
theorem dD_closure_14 : decode prog_1_method_13_code 14 = .ok (.lstore_n 3, 1) := by decide +kernel
theorem dD_closure_15 : decode prog_1_method_13_code 15 = .ok (.aload_n 0, 1) := by decide +kernel
theorem dD_closure_16 : decode prog_1_method_13_code 16 = .ok (.getfield 45, 3) := by decide +kernel
theorem dD_closure_19 : decode prog_1_method_13_code 19 = .ok (.invokevirtual 78, 3) := by decide +kernel
theorem dD_closure_22 : decode prog_1_method_13_code 22 = .ok (.aload_n 0, 1) := by decide +kernel
theorem dD_closure_23 : decode prog_1_method_13_code 23 = .ok (.getfield 45, 3) := by decide +kernel
theorem dD_closure_26 : decode prog_1_method_13_code 26 = .ok (.lload_n 3, 1) := by decide +kernel
theorem dD_closure_27 : decode prog_1_method_13_code 27 = .ok (.invokevirtual 74, 3) := by decide +kernel
theorem dD_closure_30 : decode prog_1_method_13_code 30 = .ok (.aload_n 0, 1) := by decide +kernel
theorem dD_closure_31 : decode prog_1_method_13_code 31 = .ok (.getfield 45, 3) := by decide +kernel
theorem dD_closure_34 : decode prog_1_method_13_code 34 = .ok (.aload_n 0, 1) := by decide +kernel
theorem dD_closure_35 : decode prog_1_method_13_code 35 = .ok (.getfield 38, 3) := by decide +kernel
theorem dD_closure_38 : decode prog_1_method_13_code 38 = .ok (.iload_n 1, 1) := by decide +kernel
theorem dD_closure_39 : decode prog_1_method_13_code 39 = .ok (.aaload, 1) := by decide +kernel
theorem dD_closure_40 : decode prog_1_method_13_code 40 = .ok (.invokevirtual 127, 3) := by decide +kernel
theorem dD_closure_43 : decode prog_1_method_13_code 43 = .ok (.aload_n 0, 1) := by decide +kernel
theorem dD_closure_44 : decode prog_1_method_13_code 44 = .ok (.iload_n 2, 1) := by decide +kernel
theorem dD_closure_45 : decode prog_1_method_13_code 45 = .ok (.invokevirtual 102, 3) := by decide +kernel
theorem dD_closure_48 : decode prog_1_method_13_code 48 = .ok (.ireturn, 1) := by decide +kernel
theorem dD_derived_0 : decode prog_1_method_14_code 0 = .ok (.aload_n 0, 1) := by decide +kernel
theorem dD_derived_1 : decode prog_1_method_14_code 1 = .ok (.iload_n 1, 1) := by decide +kernel
theorem dD_derived_2 : decode prog_1_method_14_code 2 = .ok (.invokevirtual 106, 3) := by decide +kernel
theorem dD_derived_5 : decode prog_1_method_14_code 5 = .ok (.aload_n 0, 1) := by decide +kernel
theorem dD_derived_6 : decode prog_1_method_14_code 6 = .ok (.iload_n 2, 1) := by decide +kernel
theorem dD_derived_7 : decode prog_1_method_14_code 7 = .ok (.invokevirtual 93, 3) := by decide +kernel
theorem dD_derived_10 : decode prog_1_method_14_code 10 = .ok (.aload_n 0, 1) := by decide +kernel
theorem dD_derived_11 : decode prog_1_method_14_code 11 = .ok (.getfield 45, 3) := by decide +kernel
theorem dD_derived_14 : decode prog_1_method_14_code 14 = .ok (.invokevirtual 78, 3) := by decide +kernel
theorem dD_derived_17 : decode prog_1_method_14_code 17 = .ok (.aload_n 0, 1) := by decide +kernel
theorem dD_derived_18 : decode prog_1_method_14_code 18 = .ok (.getfield 45, 3) := by decide +kernel
theorem dD_derived_21 : decode prog_1_method_14_code 21 = .ok (.aload_n 0, 1) := by decide +kernel
theorem dD_derived_22 : decode prog_1_method_14_code 22 = .ok (.getfield 38, 3) := by decide +kernel
theorem dD_derived_25 : decode prog_1_method_14_code 25 = .ok (.iload_n 1, 1) := by decide +kernel
theorem dD_derived_26 : decode prog_1_method_14_code 26 = .ok (.aaload, 1) := by decide +kernel
theorem dD_derived_27 : decode prog_1_method_14_code 27 = .ok (.invokevirtual 130, 3) := by decide +kernel
theorem dD_derived_30 : decode prog_1_method_14_code 30 = .ok (.aload_n 0, 1) := by decide +kernel
theorem dD_derived_31 : decode prog_1_method_14_code 31 = .ok (.getfield 45, 3) := by decide +kernel
theorem dD_derived_34 : decode prog_1_method_14_code 34 = .ok (.aload_n 0, 1) := by decide +kernel
theorem dD_derived_35 : decode prog_1_method_14_code 35 = .ok (.getfield 38, 3) := by decide +kernel
theorem dD_derived_38 : decode prog_1_method_14_code 38 = .ok (.iload_n 1, 1) := by decide +kernel
theorem dD_derived_39 : decode prog_1_method_14_code 39 = .ok (.aaload, 1) := by decide +kernel
theorem dD_derived_40 : decode prog_1_method_14_code 40 = .ok (.invokevirtual 127, 3) := by decide +kernel
theorem dD_derived_43 : decode prog_1_method_14_code 43 = .ok (.aload_n 0, 1) := by decide +kernel
theorem dD_derived_44 : decode prog_1_method_14_code 44 = .ok (.iload_n 2, 1) := by decide +kernel
theorem dD_derived_45 : decode prog_1_method_14_code 45 = .ok (.invokevirtual 102, 3) := by decide +kernel
theorem dD_derived_48 : decode prog_1_method_14_code 48 = .ok (.ireturn, 1) := by decide +kernel
theorem dD_order_0 : decode prog_1_method_15_code 0 = .ok (.aload_n 0, 1) := by decide +kernel
theorem dD_order_1 : decode prog_1_method_15_code 1 = .ok (.iload_n 1, 1) := by decide +kernel
theorem dD_order_2 : decode prog_1_method_15_code 2 = .ok (.invokevirtual 106, 3) := by decide +kernel
theorem dD_order_5 : decode prog_1_method_15_code 5 = .ok (.aload_n 0, 1) := by decide +kernel
theorem dD_order_6 : decode prog_1_method_15_code 6 = .ok (.getfield 38, 3) := by decide +kernel
theorem dD_order_9 : decode prog_1_method_15_code 9 = .ok (.iload_n 1, 1) := by decide +kernel
theorem dD_order_10 : decode prog_1_method_15_code 10 = .ok (.aaload, 1) := by decide +kernel
theorem dD_order_11 : decode prog_1_method_15_code 11 = .ok (.invokevirtual 133, 3) := by decide +kernel
theorem dD_order_14 : decode prog_1_method_15_code 14 = .ok (.ireturn, 1) := by decide +kernel
theorem dD_rank_0 : decode prog_1_method_16_code 0 = .ok (.aload_n 0, 1) := by decide +kernel
theorem dD_rank_1 : decode prog_1_method_16_code 1 = .ok (.iload_n 1, 1) := by decide +kernel
theorem dD_rank_2 : decode prog_1_method_16_code 2 = .ok (.invokevirtual 106, 3) := by decide +kernel
theorem dD_rank_5 : decode prog_1_method_16_code 5 = .ok (.aload_n 0, 1) := by decide +kernel
theorem dD_rank_6 : decode prog_1_method_16_code 6 = .ok (.getfield 38, 3) := by decide +kernel
theorem dD_rank_9 : decode prog_1_method_16_code 9 = .ok (.iload_n 1, 1) := by decide +kernel
theorem dD_rank_10 : decode prog_1_method_16_code 10 = .ok (.aaload, 1) := by decide +kernel
theorem dD_rank_11 : decode prog_1_method_16_code 11 = .ok (.aload_n 0, 1) := by decide +kernel
theorem dD_rank_12 : decode prog_1_method_16_code 12 = .ok (.invokevirtual 52, 3) := by decide +kernel
theorem dD_rank_15 : decode prog_1_method_16_code 15 = .ok (.invokevirtual 137, 3) := by decide +kernel
theorem dD_rank_18 : decode prog_1_method_16_code 18 = .ok (.ireturn, 1) := by decide +kernel
theorem dD_element_0 : decode prog_1_method_17_code 0 = .ok (.aload_n 0, 1) := by decide +kernel
theorem dD_element_1 : decode prog_1_method_17_code 1 = .ok (.iload_n 1, 1) := by decide +kernel
theorem dD_element_2 : decode prog_1_method_17_code 2 = .ok (.invokevirtual 106, 3) := by decide +kernel
theorem dD_element_5 : decode prog_1_method_17_code 5 = .ok (.aload_n 0, 1) := by decide +kernel
theorem dD_element_6 : decode prog_1_method_17_code 6 = .ok (.iload_n 3, 1) := by decide +kernel
theorem dD_element_7 : decode prog_1_method_17_code 7 = .ok (.invokevirtual 56, 3) := by decide +kernel
theorem dD_element_10 : decode prog_1_method_17_code 10 = .ok (.iload_n 2, 1) := by decide +kernel
theorem dD_element_11 : decode prog_1_method_17_code 11 = .ok (.ifCond .lt 16, 3) := by decide +kernel
theorem dD_element_14 : decode prog_1_method_17_code 14 = .ok (.iload_n 2, 1) := by decide +kernel
theorem dD_element_15 : decode prog_1_method_17_code 15 = .ok (.aload_n 0, 1) := by decide +kernel
theorem dD_element_16 : decode prog_1_method_17_code 16 = .ok (.getfield 38, 3) := by decide +kernel
theorem dD_element_19 : decode prog_1_method_17_code 19 = .ok (.iload_n 1, 1) := by decide +kernel
theorem dD_element_20 : decode prog_1_method_17_code 20 = .ok (.aaload, 1) := by decide +kernel
theorem dD_element_21 : decode prog_1_method_17_code 21 = .ok (.invokevirtual 133, 3) := by decide +kernel
theorem dD_element_24 : decode prog_1_method_17_code 24 = .ok (.if_icmp .lt 13, 3) := by decide +kernel
theorem dD_element_27 : decode prog_1_method_17_code 27 = .ok (.new 81, 3) := by decide +kernel
theorem dD_element_30 : decode prog_1_method_17_code 30 = .ok (.dup, 1) := by decide +kernel
theorem dD_element_31 : decode prog_1_method_17_code 31 = .ok (.ldc 141, 2) := by decide +kernel
theorem dD_element_33 : decode prog_1_method_17_code 33 = .ok (.invokespecial 85, 3) := by decide +kernel
theorem dD_element_36 : decode prog_1_method_17_code 36 = .ok (.athrow, 1) := by decide +kernel
theorem dD_element_37 : decode prog_1_method_17_code 37 = .ok (.aload_n 0, 1) := by decide +kernel
theorem dD_element_38 : decode prog_1_method_17_code 38 = .ok (.getfield 38, 3) := by decide +kernel
theorem dD_element_41 : decode prog_1_method_17_code 41 = .ok (.iload_n 1, 1) := by decide +kernel
theorem dD_element_42 : decode prog_1_method_17_code 42 = .ok (.aaload, 1) := by decide +kernel
theorem dD_element_43 : decode prog_1_method_17_code 43 = .ok (.iload_n 2, 1) := by decide +kernel
theorem dD_element_44 : decode prog_1_method_17_code 44 = .ok (.invokevirtual 143, 3) := by decide +kernel
theorem dD_element_47 : decode prog_1_method_17_code 47 = .ok (.iload_n 3, 1) := by decide +kernel
theorem dD_element_48 : decode prog_1_method_17_code 48 = .ok (.invokestatic 59, 3) := by decide +kernel
theorem dD_element_51 : decode prog_1_method_17_code 51 = .ok (.ireturn, 1) := by decide +kernel
theorem dD_orbit_0 : decode prog_1_method_18_code 0 = .ok (.aload_n 0, 1) := by decide +kernel
theorem dD_orbit_1 : decode prog_1_method_18_code 1 = .ok (.iload_n 1, 1) := by decide +kernel
theorem dD_orbit_2 : decode prog_1_method_18_code 2 = .ok (.invokevirtual 106, 3) := by decide +kernel
theorem dD_orbit_5 : decode prog_1_method_18_code 5 = .ok (.aload_n 0, 1) := by decide +kernel
theorem dD_orbit_6 : decode prog_1_method_18_code 6 = .ok (.iload_n 2, 1) := by decide +kernel
theorem dD_orbit_7 : decode prog_1_method_18_code 7 = .ok (.invokevirtual 56, 3) := by decide +kernel
theorem dD_orbit_10 : decode prog_1_method_18_code 10 = .ok (.aload_n 0, 1) := by decide +kernel
theorem dD_orbit_11 : decode prog_1_method_18_code 11 = .ok (.getfield 38, 3) := by decide +kernel
theorem dD_orbit_14 : decode prog_1_method_18_code 14 = .ok (.iload_n 1, 1) := by decide +kernel
theorem dD_orbit_15 : decode prog_1_method_18_code 15 = .ok (.aaload, 1) := by decide +kernel
theorem dD_orbit_16 : decode prog_1_method_18_code 16 = .ok (.iload_n 2, 1) := by decide +kernel
theorem dD_orbit_17 : decode prog_1_method_18_code 17 = .ok (.invokevirtual 147, 3) := by decide +kernel
theorem dD_orbit_20 : decode prog_1_method_18_code 20 = .ok (.ireturn, 1) := by decide +kernel
theorem dD_textElement_0 : decode prog_1_method_19_code 0 = .ok (.new 150, 3) := by decide +kernel
theorem dD_textElement_3 : decode prog_1_method_19_code 3 = .ok (.dup, 1) := by decide +kernel
theorem dD_textElement_4 : decode prog_1_method_19_code 4 = .ok (.aload_n 0, 1) := by decide +kernel
theorem dD_textElement_5 : decode prog_1_method_19_code 5 = .ok (.getfield 19, 3) := by decide +kernel
theorem dD_textElement_8 : decode prog_1_method_19_code 8 = .ok (.aload_n 0, 1) := by decide +kernel
theorem dD_textElement_9 : decode prog_1_method_19_code 9 = .ok (.getfield 23, 3) := by decide +kernel
theorem dD_textElement_12 : decode prog_1_method_19_code 12 = .ok (.aload_n 0, 1) := by decide +kernel
theorem dD_textElement_13 : decode prog_1_method_19_code 13 = .ok (.getfield 26, 3) := by decide +kernel
theorem dD_textElement_16 : decode prog_1_method_19_code 16 = .ok (.aload_n 0, 1) := by decide +kernel
theorem dD_textElement_17 : decode prog_1_method_19_code 17 = .ok (.getfield 33, 3) := by decide +kernel
theorem dD_textElement_20 : decode prog_1_method_19_code 20 = .ok (.aload_n 0, 1) := by decide +kernel
theorem dD_textElement_21 : decode prog_1_method_19_code 21 = .ok (.getfield 15, 3) := by decide +kernel
theorem dD_textElement_24 : decode prog_1_method_19_code 24 = .ok (.invokespecial 152, 3) := by decide +kernel
theorem dD_textElement_27 : decode prog_1_method_19_code 27 = .ok (.astore_n 1, 1) := by decide +kernel
theorem dD_textElement_28 : decode prog_1_method_19_code 28 = .ok (.aload_n 1, 1) := by decide +kernel
theorem dD_textElement_29 : decode prog_1_method_19_code 29 = .ok (.iconst 0, 1) := by decide +kernel
theorem dD_textElement_30 : decode prog_1_method_19_code 30 = .ok (.invokevirtual 155, 3) := by decide +kernel
theorem dD_textElement_33 : decode prog_1_method_19_code 33 = .ok (.lstore_n 2, 1) := by decide +kernel
theorem dD_textElement_34 : decode prog_1_method_19_code 34 = .ok (.aload_n 1, 1) := by decide +kernel
theorem dD_textElement_35 : decode prog_1_method_19_code 35 = .ok (.invokevirtual 158, 3) := by decide +kernel
theorem dD_textElement_38 : decode prog_1_method_19_code 38 = .ok (.ifCond .ne 13, 3) := by decide +kernel
theorem dD_textElement_41 : decode prog_1_method_19_code 41 = .ok (.new 109, 3) := by decide +kernel
theorem dD_textElement_44 : decode prog_1_method_19_code 44 = .ok (.dup, 1) := by decide +kernel
theorem dD_textElement_45 : decode prog_1_method_19_code 45 = .ok (.ldc 161, 2) := by decide +kernel
theorem dD_textElement_47 : decode prog_1_method_19_code 47 = .ok (.invokespecial 113, 3) := by decide +kernel
theorem dD_textElement_50 : decode prog_1_method_19_code 50 = .ok (.athrow, 1) := by decide +kernel
theorem dD_textElement_51 : decode prog_1_method_19_code 51 = .ok (.lload_n 2, 1) := by decide +kernel
theorem dD_textElement_52 : decode prog_1_method_19_code 52 = .ok (.lreturn, 1) := by decide +kernel
theorem dD_needPoint_0 : decode prog_1_method_20_code 0 = .ok (.iload_n 1, 1) := by decide +kernel
theorem dD_needPoint_1 : decode prog_1_method_20_code 1 = .ok (.ifCond .lt 11, 3) := by decide +kernel
theorem dD_needPoint_4 : decode prog_1_method_20_code 4 = .ok (.iload_n 1, 1) := by decide +kernel
theorem dD_needPoint_5 : decode prog_1_method_20_code 5 = .ok (.aload_n 0, 1) := by decide +kernel
theorem dD_needPoint_6 : decode prog_1_method_20_code 6 = .ok (.getfield 15, 3) := by decide +kernel
theorem dD_needPoint_9 : decode prog_1_method_20_code 9 = .ok (.if_icmp .lt 13, 3) := by decide +kernel
theorem dD_needPoint_12 : decode prog_1_method_20_code 12 = .ok (.new 81, 3) := by decide +kernel
theorem dD_needPoint_15 : decode prog_1_method_20_code 15 = .ok (.dup, 1) := by decide +kernel
theorem dD_needPoint_16 : decode prog_1_method_20_code 16 = .ok (.ldc 163, 2) := by decide +kernel
theorem dD_needPoint_18 : decode prog_1_method_20_code 18 = .ok (.invokespecial 85, 3) := by decide +kernel
theorem dD_needPoint_21 : decode prog_1_method_20_code 21 = .ok (.athrow, 1) := by decide +kernel
theorem dD_needPoint_22 : decode prog_1_method_20_code 22 = .ok (.return_, 1) := by decide +kernel
theorem dD_needSlot_0 : decode prog_1_method_21_code 0 = .ok (.iload_n 1, 1) := by decide +kernel
theorem dD_needSlot_1 : decode prog_1_method_21_code 1 = .ok (.ifCond .lt 8, 3) := by decide +kernel
theorem dD_needSlot_4 : decode prog_1_method_21_code 4 = .ok (.iload_n 1, 1) := by decide +kernel
theorem dD_needSlot_5 : decode prog_1_method_21_code 5 = .ok (.iconst 5, 1) := by decide +kernel
theorem dD_needSlot_6 : decode prog_1_method_21_code 6 = .ok (.if_icmp .lt 13, 3) := by decide +kernel
theorem dD_needSlot_9 : decode prog_1_method_21_code 9 = .ok (.new 81, 3) := by decide +kernel
theorem dD_needSlot_12 : decode prog_1_method_21_code 12 = .ok (.dup, 1) := by decide +kernel
theorem dD_needSlot_13 : decode prog_1_method_21_code 13 = .ok (.ldc 165, 2) := by decide +kernel
theorem dD_needSlot_15 : decode prog_1_method_21_code 15 = .ok (.invokespecial 85, 3) := by decide +kernel
theorem dD_needSlot_18 : decode prog_1_method_21_code 18 = .ok (.athrow, 1) := by decide +kernel
theorem dD_needSlot_19 : decode prog_1_method_21_code 19 = .ok (.return_, 1) := by decide +kernel
theorem dD_needTargetSlot_0 : decode prog_1_method_22_code 0 = .ok (.iload_n 1, 1) := by decide +kernel
theorem dD_needTargetSlot_1 : decode prog_1_method_22_code 1 = .ok (.iconst 1, 1) := by decide +kernel
theorem dD_needTargetSlot_2 : decode prog_1_method_22_code 2 = .ok (.if_icmp .lt 8, 3) := by decide +kernel
theorem dD_needTargetSlot_5 : decode prog_1_method_22_code 5 = .ok (.iload_n 1, 1) := by decide +kernel
theorem dD_needTargetSlot_6 : decode prog_1_method_22_code 6 = .ok (.iconst 5, 1) := by decide +kernel
theorem dD_needTargetSlot_7 : decode prog_1_method_22_code 7 = .ok (.if_icmp .lt 13, 3) := by decide +kernel
theorem dD_needTargetSlot_10 : decode prog_1_method_22_code 10 = .ok (.new 81, 3) := by decide +kernel
theorem dD_needTargetSlot_13 : decode prog_1_method_22_code 13 = .ok (.dup, 1) := by decide +kernel
theorem dD_needTargetSlot_14 : decode prog_1_method_22_code 14 = .ok (.ldc 167, 2) := by decide +kernel
theorem dD_needTargetSlot_16 : decode prog_1_method_22_code 16 = .ok (.invokespecial 85, 3) := by decide +kernel
theorem dD_needTargetSlot_19 : decode prog_1_method_22_code 19 = .ok (.athrow, 1) := by decide +kernel
theorem dD_needTargetSlot_20 : decode prog_1_method_22_code 20 = .ok (.return_, 1) := by decide +kernel
theorem dD_needTargets_0 : decode prog_1_method_23_code 0 = .ok (.iconst 0, 1) := by decide +kernel
theorem dD_needTargets_1 : decode prog_1_method_23_code 1 = .ok (.istore_n 1, 1) := by decide +kernel
theorem dD_needTargets_2 : decode prog_1_method_23_code 2 = .ok (.iload_n 1, 1) := by decide +kernel
theorem dD_needTargets_3 : decode prog_1_method_23_code 3 = .ok (.aload_n 0, 1) := by decide +kernel
theorem dD_needTargets_4 : decode prog_1_method_23_code 4 = .ok (.getfield 33, 3) := by decide +kernel
theorem dD_needTargets_7 : decode prog_1_method_23_code 7 = .ok (.if_icmp .ge 32, 3) := by decide +kernel
theorem dD_needTargets_10 : decode prog_1_method_23_code 10 = .ok (.aload_n 0, 1) := by decide +kernel
theorem dD_needTargets_11 : decode prog_1_method_23_code 11 = .ok (.getfield 30, 3) := by decide +kernel
theorem dD_needTargets_14 : decode prog_1_method_23_code 14 = .ok (.iload_n 1, 1) := by decide +kernel
theorem dD_needTargets_15 : decode prog_1_method_23_code 15 = .ok (.laload, 1) := by decide +kernel
theorem dD_needTargets_16 : decode prog_1_method_23_code 16 = .ok (.ldc2_w 72, 3) := by decide +kernel
theorem dD_needTargets_19 : decode prog_1_method_23_code 19 = .ok (.lcmp, 1) := by decide +kernel
theorem dD_needTargets_20 : decode prog_1_method_23_code 20 = .ok (.ifCond .ne 13, 3) := by decide +kernel
theorem dD_needTargets_23 : decode prog_1_method_23_code 23 = .ok (.new 65, 3) := by decide +kernel
theorem dD_needTargets_26 : decode prog_1_method_23_code 26 = .ok (.dup, 1) := by decide +kernel
theorem dD_needTargets_27 : decode prog_1_method_23_code 27 = .ok (.ldc 169, 2) := by decide +kernel
theorem dD_needTargets_29 : decode prog_1_method_23_code 29 = .ok (.invokespecial 69, 3) := by decide +kernel
theorem dD_needTargets_32 : decode prog_1_method_23_code 32 = .ok (.athrow, 1) := by decide +kernel
theorem dD_needTargets_33 : decode prog_1_method_23_code 33 = .ok (.iinc 1 1, 3) := by decide +kernel
theorem dD_needTargets_36 : decode prog_1_method_23_code 36 = .ok (.goto (-34), 3) := by decide +kernel
theorem dD_needTargets_39 : decode prog_1_method_23_code 39 = .ok (.return_, 1) := by decide +kernel
theorem dD_isHomomorphism_0 : decode prog_1_method_24_code 0 = .ok (.aload_n 0, 1) := by decide +kernel
theorem dD_isHomomorphism_1 : decode prog_1_method_24_code 1 = .ok (.getfield 49, 3) := by decide +kernel
theorem dD_isHomomorphism_4 : decode prog_1_method_24_code 4 = .ok (.invokevirtual 78, 3) := by decide +kernel
theorem dD_isHomomorphism_7 : decode prog_1_method_24_code 7 = .ok (.iconst 0, 1) := by decide +kernel
theorem dD_isHomomorphism_8 : decode prog_1_method_24_code 8 = .ok (.istore_n 1, 1) := by decide +kernel
theorem dD_isHomomorphism_9 : decode prog_1_method_24_code 9 = .ok (.iload_n 1, 1) := by decide +kernel
theorem dD_isHomomorphism_10 : decode prog_1_method_24_code 10 = .ok (.aload_n 0, 1) := by decide +kernel
theorem dD_isHomomorphism_11 : decode prog_1_method_24_code 11 = .ok (.getfield 33, 3) := by decide +kernel
theorem dD_isHomomorphism_14 : decode prog_1_method_24_code 14 = .ok (.if_icmp .ge 35, 3) := by decide +kernel
theorem dD_isHomomorphism_17 : decode prog_1_method_24_code 17 = .ok (.aload_n 0, 1) := by decide +kernel
theorem dD_isHomomorphism_18 : decode prog_1_method_24_code 18 = .ok (.getfield 49, 3) := by decide +kernel
theorem dD_isHomomorphism_21 : decode prog_1_method_24_code 21 = .ok (.aload_n 0, 1) := by decide +kernel
theorem dD_isHomomorphism_22 : decode prog_1_method_24_code 22 = .ok (.getfield 30, 3) := by decide +kernel
theorem dD_isHomomorphism_25 : decode prog_1_method_24_code 25 = .ok (.iload_n 1, 1) := by decide +kernel
theorem dD_isHomomorphism_26 : decode prog_1_method_24_code 26 = .ok (.laload, 1) := by decide +kernel
theorem dD_isHomomorphism_27 : decode prog_1_method_24_code 27 = .ok (.aload_n 0, 1) := by decide +kernel
theorem dD_isHomomorphism_28 : decode prog_1_method_24_code 28 = .ok (.getfield 26, 3) := by decide +kernel
theorem dD_isHomomorphism_31 : decode prog_1_method_24_code 31 = .ok (.iload_n 1, 1) := by decide +kernel
theorem dD_isHomomorphism_32 : decode prog_1_method_24_code 32 = .ok (.laload, 1) := by decide +kernel
theorem dD_isHomomorphism_33 : decode prog_1_method_24_code 33 = .ok (.aload_n 0, 1) := by decide +kernel
theorem dD_isHomomorphism_34 : decode prog_1_method_24_code 34 = .ok (.getfield 15, 3) := by decide +kernel
theorem dD_isHomomorphism_37 : decode prog_1_method_24_code 37 = .ok (.invokestatic 171, 3) := by decide +kernel
theorem dD_isHomomorphism_40 : decode prog_1_method_24_code 40 = .ok (.invokevirtual 74, 3) := by decide +kernel
theorem dD_isHomomorphism_43 : decode prog_1_method_24_code 43 = .ok (.iinc 1 1, 3) := by decide +kernel
theorem dD_isHomomorphism_46 : decode prog_1_method_24_code 46 = .ok (.goto (-37), 3) := by decide +kernel
theorem dD_isHomomorphism_49 : decode prog_1_method_24_code 49 = .ok (.aload_n 0, 1) := by decide +kernel
theorem dD_isHomomorphism_50 : decode prog_1_method_24_code 50 = .ok (.getfield 49, 3) := by decide +kernel
theorem dD_isHomomorphism_53 : decode prog_1_method_24_code 53 = .ok (.invokevirtual 133, 3) := by decide +kernel
theorem dD_isHomomorphism_56 : decode prog_1_method_24_code 56 = .ok (.aload_n 0, 1) := by decide +kernel
theorem dD_isHomomorphism_57 : decode prog_1_method_24_code 57 = .ok (.getfield 38, 3) := by decide +kernel
theorem dD_isHomomorphism_60 : decode prog_1_method_24_code 60 = .ok (.iconst 0, 1) := by decide +kernel
theorem dD_isHomomorphism_61 : decode prog_1_method_24_code 61 = .ok (.aaload, 1) := by decide +kernel
theorem dD_isHomomorphism_62 : decode prog_1_method_24_code 62 = .ok (.invokevirtual 133, 3) := by decide +kernel
theorem dD_isHomomorphism_65 : decode prog_1_method_24_code 65 = .ok (.if_icmp .ne 7, 3) := by decide +kernel
theorem dD_isHomomorphism_68 : decode prog_1_method_24_code 68 = .ok (.iconst 1, 1) := by decide +kernel
theorem dD_isHomomorphism_69 : decode prog_1_method_24_code 69 = .ok (.goto 4, 3) := by decide +kernel
theorem dD_isHomomorphism_72 : decode prog_1_method_24_code 72 = .ok (.iconst 0, 1) := by decide +kernel
theorem dD_isHomomorphism_73 : decode prog_1_method_24_code 73 = .ok (.ireturn, 1) := by decide +kernel
theorem dD_storeWork_0 : decode prog_1_method_25_code 0 = .ok (.aload_n 0, 1) := by decide +kernel
theorem dD_storeWork_1 : decode prog_1_method_25_code 1 = .ok (.getfield 38, 3) := by decide +kernel
theorem dD_storeWork_4 : decode prog_1_method_25_code 4 = .ok (.iload_n 1, 1) := by decide +kernel
theorem dD_storeWork_5 : decode prog_1_method_25_code 5 = .ok (.aaload, 1) := by decide +kernel
theorem dD_storeWork_6 : decode prog_1_method_25_code 6 = .ok (.astore_n 2, 1) := by decide +kernel
theorem dD_storeWork_7 : decode prog_1_method_25_code 7 = .ok (.aload_n 0, 1) := by decide +kernel
theorem dD_storeWork_8 : decode prog_1_method_25_code 8 = .ok (.getfield 38, 3) := by decide +kernel
theorem dD_storeWork_11 : decode prog_1_method_25_code 11 = .ok (.iload_n 1, 1) := by decide +kernel
theorem dD_storeWork_12 : decode prog_1_method_25_code 12 = .ok (.aload_n 0, 1) := by decide +kernel
theorem dD_storeWork_13 : decode prog_1_method_25_code 13 = .ok (.getfield 45, 3) := by decide +kernel
theorem dD_storeWork_16 : decode prog_1_method_25_code 16 = .ok (.aastore, 1) := by decide +kernel
theorem dD_storeWork_17 : decode prog_1_method_25_code 17 = .ok (.aload_n 0, 1) := by decide +kernel
theorem dD_storeWork_18 : decode prog_1_method_25_code 18 = .ok (.aload_n 2, 1) := by decide +kernel
theorem dD_storeWork_19 : decode prog_1_method_25_code 19 = .ok (.putfield 45, 3) := by decide +kernel
theorem dD_storeWork_22 : decode prog_1_method_25_code 22 = .ok (.aload_n 0, 1) := by decide +kernel
theorem dD_storeWork_23 : decode prog_1_method_25_code 23 = .ok (.getfield 38, 3) := by decide +kernel
theorem dD_storeWork_26 : decode prog_1_method_25_code 26 = .ok (.iload_n 1, 1) := by decide +kernel
theorem dD_storeWork_27 : decode prog_1_method_25_code 27 = .ok (.aaload, 1) := by decide +kernel
theorem dD_storeWork_28 : decode prog_1_method_25_code 28 = .ok (.invokevirtual 133, 3) := by decide +kernel
theorem dD_storeWork_31 : decode prog_1_method_25_code 31 = .ok (.ireturn, 1) := by decide +kernel
