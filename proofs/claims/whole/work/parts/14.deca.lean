/-! What stands at each place of the code, by program (wip/whole/gen/names.py). -/
theorem dE_identity_0 : decode prog_4_method_2_code 0 = .ok (.lconst 0, 1) := by decide +kernel
theorem dE_identity_1 : decode prog_4_method_2_code 1 = .ok (.lstore_n 1, 1) := by decide +kernel
theorem dE_identity_2 : decode prog_4_method_2_code 2 = .ok (.iconst 0, 1) := by decide +kernel
theorem dE_identity_3 : decode prog_4_method_2_code 3 = .ok (.istore_n 3, 1) := by decide +kernel
theorem dE_identity_4 : decode prog_4_method_2_code 4 = .ok (.iload_n 3, 1) := by decide +kernel
theorem dE_identity_5 : decode prog_4_method_2_code 5 = .ok (.iload_n 0, 1) := by decide +kernel
theorem dE_identity_6 : decode prog_4_method_2_code 6 = .ok (.if_icmp .ge 18, 3) := by decide +kernel
theorem dE_identity_9 : decode prog_4_method_2_code 9 = .ok (.lload_n 1, 1) := by decide +kernel
theorem dE_identity_10 : decode prog_4_method_2_code 10 = .ok (.iload_n 3, 1) := by decide +kernel
theorem dE_identity_11 : decode prog_4_method_2_code 11 = .ok (.i2l, 1) := by decide +kernel
theorem dE_identity_12 : decode prog_4_method_2_code 12 = .ok (.iconst 4, 1) := by decide +kernel
theorem dE_identity_13 : decode prog_4_method_2_code 13 = .ok (.iload_n 3, 1) := by decide +kernel
theorem dE_identity_14 : decode prog_4_method_2_code 14 = .ok (.imul, 1) := by decide +kernel
theorem dE_identity_15 : decode prog_4_method_2_code 15 = .ok (.lshl, 1) := by decide +kernel
theorem dE_identity_16 : decode prog_4_method_2_code 16 = .ok (.lor, 1) := by decide +kernel
theorem dE_identity_17 : decode prog_4_method_2_code 17 = .ok (.lstore_n 1, 1) := by decide +kernel
theorem dE_identity_18 : decode prog_4_method_2_code 18 = .ok (.iinc 3 1, 3) := by decide +kernel
theorem dE_identity_21 : decode prog_4_method_2_code 21 = .ok (.goto (-17), 3) := by decide +kernel
theorem dE_identity_24 : decode prog_4_method_2_code 24 = .ok (.lload_n 1, 1) := by decide +kernel
theorem dE_identity_25 : decode prog_4_method_2_code 25 = .ok (.lreturn, 1) := by decide +kernel
theorem dE_at_0 : decode prog_4_method_3_code 0 = .ok (.lload_n 0, 1) := by decide +kernel
theorem dE_at_1 : decode prog_4_method_3_code 1 = .ok (.iconst 4, 1) := by decide +kernel
theorem dE_at_2 : decode prog_4_method_3_code 2 = .ok (.iload_n 2, 1) := by decide +kernel
theorem dE_at_3 : decode prog_4_method_3_code 3 = .ok (.imul, 1) := by decide +kernel
theorem dE_at_4 : decode prog_4_method_3_code 4 = .ok (.lushr, 1) := by decide +kernel
theorem dE_at_5 : decode prog_4_method_3_code 5 = .ok (.l2i, 1) := by decide +kernel
theorem dE_at_6 : decode prog_4_method_3_code 6 = .ok (.bipush 15, 2) := by decide +kernel
theorem dE_at_8 : decode prog_4_method_3_code 8 = .ok (.iand, 1) := by decide +kernel
theorem dE_at_9 : decode prog_4_method_3_code 9 = .ok (.ireturn, 1) := by decide +kernel
theorem dE_with_0 : decode prog_4_method_4_code 0 = .ok (.lload_n 0, 1) := by decide +kernel
theorem dE_with_1 : decode prog_4_method_4_code 1 = .ok (.ldc2_w 7, 3) := by decide +kernel
theorem dE_with_4 : decode prog_4_method_4_code 4 = .ok (.iconst 4, 1) := by decide +kernel
theorem dE_with_5 : decode prog_4_method_4_code 5 = .ok (.iload_n 2, 1) := by decide +kernel
theorem dE_with_6 : decode prog_4_method_4_code 6 = .ok (.imul, 1) := by decide +kernel
theorem dE_with_7 : decode prog_4_method_4_code 7 = .ok (.lshl, 1) := by decide +kernel
theorem dE_with_8 : decode prog_4_method_4_code 8 = .ok (.ldc2_w 9, 3) := by decide +kernel
theorem dE_with_11 : decode prog_4_method_4_code 11 = .ok (.lxor, 1) := by decide +kernel
theorem dE_with_12 : decode prog_4_method_4_code 12 = .ok (.land, 1) := by decide +kernel
theorem dE_with_13 : decode prog_4_method_4_code 13 = .ok (.iload_n 3, 1) := by decide +kernel
theorem dE_with_14 : decode prog_4_method_4_code 14 = .ok (.i2l, 1) := by decide +kernel
theorem dE_with_15 : decode prog_4_method_4_code 15 = .ok (.iconst 4, 1) := by decide +kernel
theorem dE_with_16 : decode prog_4_method_4_code 16 = .ok (.iload_n 2, 1) := by decide +kernel
theorem dE_with_17 : decode prog_4_method_4_code 17 = .ok (.imul, 1) := by decide +kernel
theorem dE_with_18 : decode prog_4_method_4_code 18 = .ok (.lshl, 1) := by decide +kernel
theorem dE_with_19 : decode prog_4_method_4_code 19 = .ok (.lor, 1) := by decide +kernel
theorem dE_with_20 : decode prog_4_method_4_code 20 = .ok (.lreturn, 1) := by decide +kernel
theorem dE_product_0 : decode prog_4_method_5_code 0 = .ok (.lconst 0, 1) := by decide +kernel
theorem dE_product_1 : decode prog_4_method_5_code 1 = .ok (.lstore 5, 2) := by decide +kernel
theorem dE_product_3 : decode prog_4_method_5_code 3 = .ok (.iconst 0, 1) := by decide +kernel
theorem dE_product_4 : decode prog_4_method_5_code 4 = .ok (.istore 7, 2) := by decide +kernel
theorem dE_product_6 : decode prog_4_method_5_code 6 = .ok (.iload 7, 2) := by decide +kernel
theorem dE_product_8 : decode prog_4_method_5_code 8 = .ok (.iconst 4, 1) := by decide +kernel
theorem dE_product_9 : decode prog_4_method_5_code 9 = .ok (.iload 4, 2) := by decide +kernel
theorem dE_product_11 : decode prog_4_method_5_code 11 = .ok (.imul, 1) := by decide +kernel
theorem dE_product_12 : decode prog_4_method_5_code 12 = .ok (.if_icmp .ge 37, 3) := by decide +kernel
theorem dE_product_15 : decode prog_4_method_5_code 15 = .ok (.lload_n 0, 1) := by decide +kernel
theorem dE_product_16 : decode prog_4_method_5_code 16 = .ok (.iload 7, 2) := by decide +kernel
theorem dE_product_18 : decode prog_4_method_5_code 18 = .ok (.lushr, 1) := by decide +kernel
theorem dE_product_19 : decode prog_4_method_5_code 19 = .ok (.l2i, 1) := by decide +kernel
theorem dE_product_20 : decode prog_4_method_5_code 20 = .ok (.bipush 15, 2) := by decide +kernel
theorem dE_product_22 : decode prog_4_method_5_code 22 = .ok (.iand, 1) := by decide +kernel
theorem dE_product_23 : decode prog_4_method_5_code 23 = .ok (.istore 8, 2) := by decide +kernel
theorem dE_product_25 : decode prog_4_method_5_code 25 = .ok (.lload 5, 2) := by decide +kernel
theorem dE_product_27 : decode prog_4_method_5_code 27 = .ok (.lload_n 2, 1) := by decide +kernel
theorem dE_product_28 : decode prog_4_method_5_code 28 = .ok (.iconst 4, 1) := by decide +kernel
theorem dE_product_29 : decode prog_4_method_5_code 29 = .ok (.iload 8, 2) := by decide +kernel
theorem dE_product_31 : decode prog_4_method_5_code 31 = .ok (.imul, 1) := by decide +kernel
theorem dE_product_32 : decode prog_4_method_5_code 32 = .ok (.lushr, 1) := by decide +kernel
theorem dE_product_33 : decode prog_4_method_5_code 33 = .ok (.ldc2_w 7, 3) := by decide +kernel
theorem dE_product_36 : decode prog_4_method_5_code 36 = .ok (.land, 1) := by decide +kernel
theorem dE_product_37 : decode prog_4_method_5_code 37 = .ok (.iload 7, 2) := by decide +kernel
theorem dE_product_39 : decode prog_4_method_5_code 39 = .ok (.lshl, 1) := by decide +kernel
theorem dE_product_40 : decode prog_4_method_5_code 40 = .ok (.lor, 1) := by decide +kernel
theorem dE_product_41 : decode prog_4_method_5_code 41 = .ok (.lstore 5, 2) := by decide +kernel
theorem dE_product_43 : decode prog_4_method_5_code 43 = .ok (.iinc 7 4, 3) := by decide +kernel
theorem dE_product_46 : decode prog_4_method_5_code 46 = .ok (.goto (-40), 3) := by decide +kernel
theorem dE_product_49 : decode prog_4_method_5_code 49 = .ok (.lload 5, 2) := by decide +kernel
theorem dE_product_51 : decode prog_4_method_5_code 51 = .ok (.lreturn, 1) := by decide +kernel
theorem dE_inverse_0 : decode prog_4_method_6_code 0 = .ok (.lconst 0, 1) := by decide +kernel
theorem dE_inverse_1 : decode prog_4_method_6_code 1 = .ok (.lstore_n 3, 1) := by decide +kernel
theorem dE_inverse_2 : decode prog_4_method_6_code 2 = .ok (.iconst 0, 1) := by decide +kernel
theorem dE_inverse_3 : decode prog_4_method_6_code 3 = .ok (.istore 5, 2) := by decide +kernel
theorem dE_inverse_5 : decode prog_4_method_6_code 5 = .ok (.iload 5, 2) := by decide +kernel
theorem dE_inverse_7 : decode prog_4_method_6_code 7 = .ok (.iload_n 2, 1) := by decide +kernel
theorem dE_inverse_8 : decode prog_4_method_6_code 8 = .ok (.if_icmp .ge 28, 3) := by decide +kernel
theorem dE_inverse_11 : decode prog_4_method_6_code 11 = .ok (.lload_n 3, 1) := by decide +kernel
theorem dE_inverse_12 : decode prog_4_method_6_code 12 = .ok (.iload 5, 2) := by decide +kernel
theorem dE_inverse_14 : decode prog_4_method_6_code 14 = .ok (.i2l, 1) := by decide +kernel
theorem dE_inverse_15 : decode prog_4_method_6_code 15 = .ok (.iconst 4, 1) := by decide +kernel
theorem dE_inverse_16 : decode prog_4_method_6_code 16 = .ok (.lload_n 0, 1) := by decide +kernel
theorem dE_inverse_17 : decode prog_4_method_6_code 17 = .ok (.iconst 4, 1) := by decide +kernel
theorem dE_inverse_18 : decode prog_4_method_6_code 18 = .ok (.iload 5, 2) := by decide +kernel
theorem dE_inverse_20 : decode prog_4_method_6_code 20 = .ok (.imul, 1) := by decide +kernel
theorem dE_inverse_21 : decode prog_4_method_6_code 21 = .ok (.lushr, 1) := by decide +kernel
theorem dE_inverse_22 : decode prog_4_method_6_code 22 = .ok (.l2i, 1) := by decide +kernel
theorem dE_inverse_23 : decode prog_4_method_6_code 23 = .ok (.bipush 15, 2) := by decide +kernel
theorem dE_inverse_25 : decode prog_4_method_6_code 25 = .ok (.iand, 1) := by decide +kernel
theorem dE_inverse_26 : decode prog_4_method_6_code 26 = .ok (.imul, 1) := by decide +kernel
theorem dE_inverse_27 : decode prog_4_method_6_code 27 = .ok (.lshl, 1) := by decide +kernel
theorem dE_inverse_28 : decode prog_4_method_6_code 28 = .ok (.lor, 1) := by decide +kernel
theorem dE_inverse_29 : decode prog_4_method_6_code 29 = .ok (.lstore_n 3, 1) := by decide +kernel
theorem dE_inverse_30 : decode prog_4_method_6_code 30 = .ok (.iinc 5 1, 3) := by decide +kernel
theorem dE_inverse_33 : decode prog_4_method_6_code 33 = .ok (.goto (-28), 3) := by decide +kernel
theorem dE_inverse_36 : decode prog_4_method_6_code 36 = .ok (.lload_n 3, 1) := by decide +kernel
theorem dE_inverse_37 : decode prog_4_method_6_code 37 = .ok (.lreturn, 1) := by decide +kernel
theorem dE_power_0 : decode prog_4_method_7_code 0 = .ok (.iload_n 3, 1) := by decide +kernel
theorem dE_power_1 : decode prog_4_method_7_code 1 = .ok (.invokestatic 11, 3) := by decide +kernel
theorem dE_power_4 : decode prog_4_method_7_code 4 = .ok (.lstore 4, 2) := by decide +kernel
theorem dE_power_6 : decode prog_4_method_7_code 6 = .ok (.iconst 0, 1) := by decide +kernel
theorem dE_power_7 : decode prog_4_method_7_code 7 = .ok (.istore 6, 2) := by decide +kernel
theorem dE_power_9 : decode prog_4_method_7_code 9 = .ok (.iload 6, 2) := by decide +kernel
theorem dE_power_11 : decode prog_4_method_7_code 11 = .ok (.iload_n 2, 1) := by decide +kernel
theorem dE_power_12 : decode prog_4_method_7_code 12 = .ok (.if_icmp .ge 18, 3) := by decide +kernel
theorem dE_power_15 : decode prog_4_method_7_code 15 = .ok (.lload 4, 2) := by decide +kernel
theorem dE_power_17 : decode prog_4_method_7_code 17 = .ok (.lload_n 0, 1) := by decide +kernel
theorem dE_power_18 : decode prog_4_method_7_code 18 = .ok (.iload_n 3, 1) := by decide +kernel
theorem dE_power_19 : decode prog_4_method_7_code 19 = .ok (.invokestatic 17, 3) := by decide +kernel
theorem dE_power_22 : decode prog_4_method_7_code 22 = .ok (.lstore 4, 2) := by decide +kernel
theorem dE_power_24 : decode prog_4_method_7_code 24 = .ok (.iinc 6 1, 3) := by decide +kernel
theorem dE_power_27 : decode prog_4_method_7_code 27 = .ok (.goto (-18), 3) := by decide +kernel
theorem dE_power_30 : decode prog_4_method_7_code 30 = .ok (.lload 4, 2) := by decide +kernel
theorem dE_power_32 : decode prog_4_method_7_code 32 = .ok (.lreturn, 1) := by decide +kernel
theorem dE_conjugate_0 : decode prog_4_method_8_code 0 = .ok (.lconst 0, 1) := by decide +kernel
theorem dE_conjugate_1 : decode prog_4_method_8_code 1 = .ok (.lstore 5, 2) := by decide +kernel
theorem dE_conjugate_3 : decode prog_4_method_8_code 3 = .ok (.iconst 0, 1) := by decide +kernel
theorem dE_conjugate_4 : decode prog_4_method_8_code 4 = .ok (.istore 7, 2) := by decide +kernel
theorem dE_conjugate_6 : decode prog_4_method_8_code 6 = .ok (.iload 7, 2) := by decide +kernel
theorem dE_conjugate_8 : decode prog_4_method_8_code 8 = .ok (.iload 4, 2) := by decide +kernel
theorem dE_conjugate_10 : decode prog_4_method_8_code 10 = .ok (.if_icmp .ge 34, 3) := by decide +kernel
theorem dE_conjugate_13 : decode prog_4_method_8_code 13 = .ok (.lload 5, 2) := by decide +kernel
theorem dE_conjugate_15 : decode prog_4_method_8_code 15 = .ok (.lload_n 2, 1) := by decide +kernel
theorem dE_conjugate_16 : decode prog_4_method_8_code 16 = .ok (.lload_n 0, 1) := by decide +kernel
theorem dE_conjugate_17 : decode prog_4_method_8_code 17 = .ok (.iload 7, 2) := by decide +kernel
theorem dE_conjugate_19 : decode prog_4_method_8_code 19 = .ok (.invokestatic 21, 3) := by decide +kernel
theorem dE_conjugate_22 : decode prog_4_method_8_code 22 = .ok (.invokestatic 21, 3) := by decide +kernel
theorem dE_conjugate_25 : decode prog_4_method_8_code 25 = .ok (.i2l, 1) := by decide +kernel
theorem dE_conjugate_26 : decode prog_4_method_8_code 26 = .ok (.iconst 4, 1) := by decide +kernel
theorem dE_conjugate_27 : decode prog_4_method_8_code 27 = .ok (.lload_n 2, 1) := by decide +kernel
theorem dE_conjugate_28 : decode prog_4_method_8_code 28 = .ok (.iload 7, 2) := by decide +kernel
theorem dE_conjugate_30 : decode prog_4_method_8_code 30 = .ok (.invokestatic 21, 3) := by decide +kernel
theorem dE_conjugate_33 : decode prog_4_method_8_code 33 = .ok (.imul, 1) := by decide +kernel
theorem dE_conjugate_34 : decode prog_4_method_8_code 34 = .ok (.lshl, 1) := by decide +kernel
theorem dE_conjugate_35 : decode prog_4_method_8_code 35 = .ok (.lor, 1) := by decide +kernel
theorem dE_conjugate_36 : decode prog_4_method_8_code 36 = .ok (.lstore 5, 2) := by decide +kernel
theorem dE_conjugate_38 : decode prog_4_method_8_code 38 = .ok (.iinc 7 1, 3) := by decide +kernel
theorem dE_conjugate_41 : decode prog_4_method_8_code 41 = .ok (.goto (-35), 3) := by decide +kernel
theorem dE_conjugate_44 : decode prog_4_method_8_code 44 = .ok (.lload 5, 2) := by decide +kernel
theorem dE_conjugate_46 : decode prog_4_method_8_code 46 = .ok (.lreturn, 1) := by decide +kernel
theorem dE_commutator_0 : decode prog_4_method_9_code 0 = .ok (.lconst 0, 1) := by decide +kernel
theorem dE_commutator_1 : decode prog_4_method_9_code 1 = .ok (.lstore 5, 2) := by decide +kernel
theorem dE_commutator_3 : decode prog_4_method_9_code 3 = .ok (.iconst 0, 1) := by decide +kernel
theorem dE_commutator_4 : decode prog_4_method_9_code 4 = .ok (.istore 7, 2) := by decide +kernel
theorem dE_commutator_6 : decode prog_4_method_9_code 6 = .ok (.iload 7, 2) := by decide +kernel
theorem dE_commutator_8 : decode prog_4_method_9_code 8 = .ok (.iload 4, 2) := by decide +kernel
theorem dE_commutator_10 : decode prog_4_method_9_code 10 = .ok (.if_icmp .ge 38, 3) := by decide +kernel
theorem dE_commutator_13 : decode prog_4_method_9_code 13 = .ok (.lload 5, 2) := by decide +kernel
theorem dE_commutator_15 : decode prog_4_method_9_code 15 = .ok (.lload_n 2, 1) := by decide +kernel
theorem dE_commutator_16 : decode prog_4_method_9_code 16 = .ok (.lload_n 0, 1) := by decide +kernel
theorem dE_commutator_17 : decode prog_4_method_9_code 17 = .ok (.iload 7, 2) := by decide +kernel
theorem dE_commutator_19 : decode prog_4_method_9_code 19 = .ok (.invokestatic 21, 3) := by decide +kernel
theorem dE_commutator_22 : decode prog_4_method_9_code 22 = .ok (.invokestatic 21, 3) := by decide +kernel
theorem dE_commutator_25 : decode prog_4_method_9_code 25 = .ok (.i2l, 1) := by decide +kernel
theorem dE_commutator_26 : decode prog_4_method_9_code 26 = .ok (.iconst 4, 1) := by decide +kernel
theorem dE_commutator_27 : decode prog_4_method_9_code 27 = .ok (.lload_n 0, 1) := by decide +kernel
theorem dE_commutator_28 : decode prog_4_method_9_code 28 = .ok (.lload_n 2, 1) := by decide +kernel
theorem dE_commutator_29 : decode prog_4_method_9_code 29 = .ok (.iload 7, 2) := by decide +kernel
theorem dE_commutator_31 : decode prog_4_method_9_code 31 = .ok (.invokestatic 21, 3) := by decide +kernel
theorem dE_commutator_34 : decode prog_4_method_9_code 34 = .ok (.invokestatic 21, 3) := by decide +kernel
theorem dE_commutator_37 : decode prog_4_method_9_code 37 = .ok (.imul, 1) := by decide +kernel
theorem dE_commutator_38 : decode prog_4_method_9_code 38 = .ok (.lshl, 1) := by decide +kernel
theorem dE_commutator_39 : decode prog_4_method_9_code 39 = .ok (.lor, 1) := by decide +kernel
theorem dE_commutator_40 : decode prog_4_method_9_code 40 = .ok (.lstore 5, 2) := by decide +kernel
theorem dE_commutator_42 : decode prog_4_method_9_code 42 = .ok (.iinc 7 1, 3) := by decide +kernel
theorem dE_commutator_45 : decode prog_4_method_9_code 45 = .ok (.goto (-39), 3) := by decide +kernel
theorem dE_commutator_48 : decode prog_4_method_9_code 48 = .ok (.lload 5, 2) := by decide +kernel
theorem dE_commutator_50 : decode prog_4_method_9_code 50 = .ok (.lreturn, 1) := by decide +kernel
theorem dE_pair_0 : decode prog_4_method_10_code 0 = .ok (.lload_n 0, 1) := by decide +kernel
theorem dE_pair_1 : decode prog_4_method_10_code 1 = .ok (.lstore 5, 2) := by decide +kernel
theorem dE_pair_3 : decode prog_4_method_10_code 3 = .ok (.iconst 0, 1) := by decide +kernel
theorem dE_pair_4 : decode prog_4_method_10_code 4 = .ok (.istore 7, 2) := by decide +kernel
theorem dE_pair_6 : decode prog_4_method_10_code 6 = .ok (.iload 7, 2) := by decide +kernel
theorem dE_pair_8 : decode prog_4_method_10_code 8 = .ok (.iload 4, 2) := by decide +kernel
theorem dE_pair_10 : decode prog_4_method_10_code 10 = .ok (.if_icmp .ge 32, 3) := by decide +kernel
theorem dE_pair_13 : decode prog_4_method_10_code 13 = .ok (.lload 5, 2) := by decide +kernel
theorem dE_pair_15 : decode prog_4_method_10_code 15 = .ok (.iload 4, 2) := by decide +kernel
theorem dE_pair_17 : decode prog_4_method_10_code 17 = .ok (.lload_n 2, 1) := by decide +kernel
theorem dE_pair_18 : decode prog_4_method_10_code 18 = .ok (.iload 7, 2) := by decide +kernel
theorem dE_pair_20 : decode prog_4_method_10_code 20 = .ok (.invokestatic 21, 3) := by decide +kernel
theorem dE_pair_23 : decode prog_4_method_10_code 23 = .ok (.iadd, 1) := by decide +kernel
theorem dE_pair_24 : decode prog_4_method_10_code 24 = .ok (.i2l, 1) := by decide +kernel
theorem dE_pair_25 : decode prog_4_method_10_code 25 = .ok (.iconst 4, 1) := by decide +kernel
theorem dE_pair_26 : decode prog_4_method_10_code 26 = .ok (.iload 4, 2) := by decide +kernel
theorem dE_pair_28 : decode prog_4_method_10_code 28 = .ok (.iload 7, 2) := by decide +kernel
theorem dE_pair_30 : decode prog_4_method_10_code 30 = .ok (.iadd, 1) := by decide +kernel
theorem dE_pair_31 : decode prog_4_method_10_code 31 = .ok (.imul, 1) := by decide +kernel
theorem dE_pair_32 : decode prog_4_method_10_code 32 = .ok (.lshl, 1) := by decide +kernel
theorem dE_pair_33 : decode prog_4_method_10_code 33 = .ok (.lor, 1) := by decide +kernel
theorem dE_pair_34 : decode prog_4_method_10_code 34 = .ok (.lstore 5, 2) := by decide +kernel
theorem dE_pair_36 : decode prog_4_method_10_code 36 = .ok (.iinc 7 1, 3) := by decide +kernel
theorem dE_pair_39 : decode prog_4_method_10_code 39 = .ok (.goto (-33), 3) := by decide +kernel
theorem dE_pair_42 : decode prog_4_method_10_code 42 = .ok (.lload 5, 2) := by decide +kernel
theorem dE_pair_44 : decode prog_4_method_10_code 44 = .ok (.lreturn, 1) := by decide +kernel
theorem dE_secondOf_0 : decode prog_4_method_11_code 0 = .ok (.lconst 0, 1) := by decide +kernel
theorem dE_secondOf_1 : decode prog_4_method_11_code 1 = .ok (.lstore_n 3, 1) := by decide +kernel
theorem dE_secondOf_2 : decode prog_4_method_11_code 2 = .ok (.iconst 0, 1) := by decide +kernel
theorem dE_secondOf_3 : decode prog_4_method_11_code 3 = .ok (.istore 5, 2) := by decide +kernel
theorem dE_secondOf_5 : decode prog_4_method_11_code 5 = .ok (.iload 5, 2) := by decide +kernel
theorem dE_secondOf_7 : decode prog_4_method_11_code 7 = .ok (.iload_n 2, 1) := by decide +kernel
theorem dE_secondOf_8 : decode prog_4_method_11_code 8 = .ok (.if_icmp .ge 28, 3) := by decide +kernel
theorem dE_secondOf_11 : decode prog_4_method_11_code 11 = .ok (.lload_n 3, 1) := by decide +kernel
theorem dE_secondOf_12 : decode prog_4_method_11_code 12 = .ok (.lload_n 0, 1) := by decide +kernel
theorem dE_secondOf_13 : decode prog_4_method_11_code 13 = .ok (.iload_n 2, 1) := by decide +kernel
theorem dE_secondOf_14 : decode prog_4_method_11_code 14 = .ok (.iload 5, 2) := by decide +kernel
theorem dE_secondOf_16 : decode prog_4_method_11_code 16 = .ok (.iadd, 1) := by decide +kernel
theorem dE_secondOf_17 : decode prog_4_method_11_code 17 = .ok (.invokestatic 21, 3) := by decide +kernel
theorem dE_secondOf_20 : decode prog_4_method_11_code 20 = .ok (.iload_n 2, 1) := by decide +kernel
theorem dE_secondOf_21 : decode prog_4_method_11_code 21 = .ok (.isub, 1) := by decide +kernel
theorem dE_secondOf_22 : decode prog_4_method_11_code 22 = .ok (.i2l, 1) := by decide +kernel
theorem dE_secondOf_23 : decode prog_4_method_11_code 23 = .ok (.iconst 4, 1) := by decide +kernel
theorem dE_secondOf_24 : decode prog_4_method_11_code 24 = .ok (.iload 5, 2) := by decide +kernel
theorem dE_secondOf_26 : decode prog_4_method_11_code 26 = .ok (.imul, 1) := by decide +kernel
theorem dE_secondOf_27 : decode prog_4_method_11_code 27 = .ok (.lshl, 1) := by decide +kernel
theorem dE_secondOf_28 : decode prog_4_method_11_code 28 = .ok (.lor, 1) := by decide +kernel
theorem dE_secondOf_29 : decode prog_4_method_11_code 29 = .ok (.lstore_n 3, 1) := by decide +kernel
theorem dE_secondOf_30 : decode prog_4_method_11_code 30 = .ok (.iinc 5 1, 3) := by decide +kernel
theorem dE_secondOf_33 : decode prog_4_method_11_code 33 = .ok (.goto (-28), 3) := by decide +kernel
theorem dE_secondOf_36 : decode prog_4_method_11_code 36 = .ok (.lload_n 3, 1) := by decide +kernel
theorem dE_secondOf_37 : decode prog_4_method_11_code 37 = .ok (.lreturn, 1) := by decide +kernel
theorem dG_init_0 : decode prog_5_method_1_code 0 = .ok (.aload_n 0, 1) := by decide +kernel
theorem dG_init_1 : decode prog_5_method_1_code 1 = .ok (.invokespecial 3, 3) := by decide +kernel
theorem dG_init_4 : decode prog_5_method_1_code 4 = .ok (.aload_n 0, 1) := by decide +kernel
theorem dG_init_5 : decode prog_5_method_1_code 5 = .ok (.iload_n 1, 1) := by decide +kernel
theorem dG_init_6 : decode prog_5_method_1_code 6 = .ok (.putfield 9, 3) := by decide +kernel
theorem dG_init_9 : decode prog_5_method_1_code 9 = .ok (.aload_n 0, 1) := by decide +kernel
theorem dG_init_10 : decode prog_5_method_1_code 10 = .ok (.iload_n 1, 1) := by decide +kernel
theorem dG_init_11 : decode prog_5_method_1_code 11 = .ok (.invokestatic 15, 3) := by decide +kernel
theorem dG_init_14 : decode prog_5_method_1_code 14 = .ok (.putfield 21, 3) := by decide +kernel
theorem dG_init_17 : decode prog_5_method_1_code 17 = .ok (.aload_n 0, 1) := by decide +kernel
theorem dG_init_18 : decode prog_5_method_1_code 18 = .ok (.iload_n 1, 1) := by decide +kernel
theorem dG_init_19 : decode prog_5_method_1_code 19 = .ok (.iload_n 1, 1) := by decide +kernel
theorem dG_init_20 : decode prog_5_method_1_code 20 = .ok (.imul, 1) := by decide +kernel
theorem dG_init_21 : decode prog_5_method_1_code 21 = .ok (.newarray .long, 2) := by decide +kernel
theorem dG_init_23 : decode prog_5_method_1_code 23 = .ok (.putfield 24, 3) := by decide +kernel
theorem dG_init_26 : decode prog_5_method_1_code 26 = .ok (.aload_n 0, 1) := by decide +kernel
theorem dG_init_27 : decode prog_5_method_1_code 27 = .ok (.iload_n 1, 1) := by decide +kernel
theorem dG_init_28 : decode prog_5_method_1_code 28 = .ok (.iload_n 1, 1) := by decide +kernel
theorem dG_init_29 : decode prog_5_method_1_code 29 = .ok (.iconst 1, 1) := by decide +kernel
theorem dG_init_30 : decode prog_5_method_1_code 30 = .ok (.isub, 1) := by decide +kernel
theorem dG_init_31 : decode prog_5_method_1_code 31 = .ok (.imul, 1) := by decide +kernel
theorem dG_init_32 : decode prog_5_method_1_code 32 = .ok (.iconst 2, 1) := by decide +kernel
theorem dG_init_33 : decode prog_5_method_1_code 33 = .ok (.idiv, 1) := by decide +kernel
theorem dG_init_34 : decode prog_5_method_1_code 34 = .ok (.newarray .long, 2) := by decide +kernel
theorem dG_init_36 : decode prog_5_method_1_code 36 = .ok (.putfield 28, 3) := by decide +kernel
theorem dG_init_39 : decode prog_5_method_1_code 39 = .ok (.aload_n 0, 1) := by decide +kernel
theorem dG_init_40 : decode prog_5_method_1_code 40 = .ok (.iload_n 1, 1) := by decide +kernel
theorem dG_init_41 : decode prog_5_method_1_code 41 = .ok (.iload_n 1, 1) := by decide +kernel
theorem dG_init_42 : decode prog_5_method_1_code 42 = .ok (.iconst 1, 1) := by decide +kernel
theorem dG_init_43 : decode prog_5_method_1_code 43 = .ok (.isub, 1) := by decide +kernel
theorem dG_init_44 : decode prog_5_method_1_code 44 = .ok (.imul, 1) := by decide +kernel
theorem dG_init_45 : decode prog_5_method_1_code 45 = .ok (.iconst 2, 1) := by decide +kernel
theorem dG_init_46 : decode prog_5_method_1_code 46 = .ok (.idiv, 1) := by decide +kernel
theorem dG_init_47 : decode prog_5_method_1_code 47 = .ok (.newarray .int, 2) := by decide +kernel
theorem dG_init_49 : decode prog_5_method_1_code 49 = .ok (.putfield 31, 3) := by decide +kernel
theorem dG_init_52 : decode prog_5_method_1_code 52 = .ok (.aload_n 0, 1) := by decide +kernel
theorem dG_init_53 : decode prog_5_method_1_code 53 = .ok (.invokevirtual 35, 3) := by decide +kernel
theorem dG_init_56 : decode prog_5_method_1_code 56 = .ok (.return_, 1) := by decide +kernel
theorem dG_clear_0 : decode prog_5_method_2_code 0 = .ok (.aload_n 0, 1) := by decide +kernel
theorem dG_clear_1 : decode prog_5_method_2_code 1 = .ok (.getfield 24, 3) := by decide +kernel
theorem dG_clear_4 : decode prog_5_method_2_code 4 = .ok (.ldc2_w 38, 3) := by decide +kernel
theorem dG_clear_7 : decode prog_5_method_2_code 7 = .ok (.invokestatic 40, 3) := by decide +kernel
theorem dG_clear_10 : decode prog_5_method_2_code 10 = .ok (.iconst 0, 1) := by decide +kernel
theorem dG_clear_11 : decode prog_5_method_2_code 11 = .ok (.istore_n 1, 1) := by decide +kernel
theorem dG_clear_12 : decode prog_5_method_2_code 12 = .ok (.iload_n 1, 1) := by decide +kernel
theorem dG_clear_13 : decode prog_5_method_2_code 13 = .ok (.aload_n 0, 1) := by decide +kernel
theorem dG_clear_14 : decode prog_5_method_2_code 14 = .ok (.getfield 9, 3) := by decide +kernel
theorem dG_clear_17 : decode prog_5_method_2_code 17 = .ok (.if_icmp .ge 26, 3) := by decide +kernel
theorem dG_clear_20 : decode prog_5_method_2_code 20 = .ok (.aload_n 0, 1) := by decide +kernel
theorem dG_clear_21 : decode prog_5_method_2_code 21 = .ok (.getfield 24, 3) := by decide +kernel
theorem dG_clear_24 : decode prog_5_method_2_code 24 = .ok (.iload_n 1, 1) := by decide +kernel
theorem dG_clear_25 : decode prog_5_method_2_code 25 = .ok (.aload_n 0, 1) := by decide +kernel
theorem dG_clear_26 : decode prog_5_method_2_code 26 = .ok (.getfield 9, 3) := by decide +kernel
theorem dG_clear_29 : decode prog_5_method_2_code 29 = .ok (.imul, 1) := by decide +kernel
theorem dG_clear_30 : decode prog_5_method_2_code 30 = .ok (.iload_n 1, 1) := by decide +kernel
theorem dG_clear_31 : decode prog_5_method_2_code 31 = .ok (.iadd, 1) := by decide +kernel
theorem dG_clear_32 : decode prog_5_method_2_code 32 = .ok (.aload_n 0, 1) := by decide +kernel
theorem dG_clear_33 : decode prog_5_method_2_code 33 = .ok (.getfield 21, 3) := by decide +kernel
theorem dG_clear_36 : decode prog_5_method_2_code 36 = .ok (.lastore, 1) := by decide +kernel
theorem dG_clear_37 : decode prog_5_method_2_code 37 = .ok (.iinc 1 1, 3) := by decide +kernel
theorem dG_clear_40 : decode prog_5_method_2_code 40 = .ok (.goto (-28), 3) := by decide +kernel
theorem dG_clear_43 : decode prog_5_method_2_code 43 = .ok (.aload_n 0, 1) := by decide +kernel
theorem dG_clear_44 : decode prog_5_method_2_code 44 = .ok (.iconst 0, 1) := by decide +kernel
theorem dG_clear_45 : decode prog_5_method_2_code 45 = .ok (.putfield 46, 3) := by decide +kernel
theorem dG_clear_48 : decode prog_5_method_2_code 48 = .ok (.return_, 1) := by decide +kernel
theorem dG_size_0 : decode prog_5_method_3_code 0 = .ok (.aload_n 0, 1) := by decide +kernel
theorem dG_size_1 : decode prog_5_method_3_code 1 = .ok (.iconst (-1), 1) := by decide +kernel
theorem dG_size_2 : decode prog_5_method_3_code 2 = .ok (.invokevirtual 49, 3) := by decide +kernel
theorem dG_size_5 : decode prog_5_method_3_code 5 = .ok (.ireturn, 1) := by decide +kernel
theorem dG_sizeBelow_0 : decode prog_5_method_4_code 0 = .ok (.iconst 1, 1) := by decide +kernel
theorem dG_sizeBelow_1 : decode prog_5_method_4_code 1 = .ok (.istore_n 2, 1) := by decide +kernel
theorem dG_sizeBelow_2 : decode prog_5_method_4_code 2 = .ok (.iload_n 1, 1) := by decide +kernel
theorem dG_sizeBelow_3 : decode prog_5_method_4_code 3 = .ok (.iconst 1, 1) := by decide +kernel
theorem dG_sizeBelow_4 : decode prog_5_method_4_code 4 = .ok (.iadd, 1) := by decide +kernel
theorem dG_sizeBelow_5 : decode prog_5_method_4_code 5 = .ok (.istore_n 3, 1) := by decide +kernel
theorem dG_sizeBelow_6 : decode prog_5_method_4_code 6 = .ok (.iload_n 3, 1) := by decide +kernel
theorem dG_sizeBelow_7 : decode prog_5_method_4_code 7 = .ok (.aload_n 0, 1) := by decide +kernel
theorem dG_sizeBelow_8 : decode prog_5_method_4_code 8 = .ok (.getfield 9, 3) := by decide +kernel
theorem dG_sizeBelow_11 : decode prog_5_method_4_code 11 = .ok (.if_icmp .ge 17, 3) := by decide +kernel
theorem dG_sizeBelow_14 : decode prog_5_method_4_code 14 = .ok (.iload_n 2, 1) := by decide +kernel
theorem dG_sizeBelow_15 : decode prog_5_method_4_code 15 = .ok (.aload_n 0, 1) := by decide +kernel
theorem dG_sizeBelow_16 : decode prog_5_method_4_code 16 = .ok (.iload_n 3, 1) := by decide +kernel
theorem dG_sizeBelow_17 : decode prog_5_method_4_code 17 = .ok (.invokevirtual 53, 3) := by decide +kernel
theorem dG_sizeBelow_20 : decode prog_5_method_4_code 20 = .ok (.imul, 1) := by decide +kernel
theorem dG_sizeBelow_21 : decode prog_5_method_4_code 21 = .ok (.istore_n 2, 1) := by decide +kernel
theorem dG_sizeBelow_22 : decode prog_5_method_4_code 22 = .ok (.iinc 3 1, 3) := by decide +kernel
theorem dG_sizeBelow_25 : decode prog_5_method_4_code 25 = .ok (.goto (-19), 3) := by decide +kernel
theorem dG_sizeBelow_28 : decode prog_5_method_4_code 28 = .ok (.iload_n 2, 1) := by decide +kernel
theorem dG_sizeBelow_29 : decode prog_5_method_4_code 29 = .ok (.ireturn, 1) := by decide +kernel
theorem dG_width_0 : decode prog_5_method_5_code 0 = .ok (.iconst 0, 1) := by decide +kernel
theorem dG_width_1 : decode prog_5_method_5_code 1 = .ok (.istore_n 2, 1) := by decide +kernel
theorem dG_width_2 : decode prog_5_method_5_code 2 = .ok (.iload_n 1, 1) := by decide +kernel
theorem dG_width_3 : decode prog_5_method_5_code 3 = .ok (.istore_n 3, 1) := by decide +kernel
theorem dG_width_4 : decode prog_5_method_5_code 4 = .ok (.iload_n 3, 1) := by decide +kernel
theorem dG_width_5 : decode prog_5_method_5_code 5 = .ok (.aload_n 0, 1) := by decide +kernel
theorem dG_width_6 : decode prog_5_method_5_code 6 = .ok (.getfield 9, 3) := by decide +kernel
theorem dG_width_9 : decode prog_5_method_5_code 9 = .ok (.if_icmp .ge 25, 3) := by decide +kernel
theorem dG_width_12 : decode prog_5_method_5_code 12 = .ok (.aload_n 0, 1) := by decide +kernel
theorem dG_width_13 : decode prog_5_method_5_code 13 = .ok (.iload_n 1, 1) := by decide +kernel
theorem dG_width_14 : decode prog_5_method_5_code 14 = .ok (.iload_n 3, 1) := by decide +kernel
theorem dG_width_15 : decode prog_5_method_5_code 15 = .ok (.invokevirtual 56, 3) := by decide +kernel
theorem dG_width_18 : decode prog_5_method_5_code 18 = .ok (.ldc2_w 38, 3) := by decide +kernel
theorem dG_width_21 : decode prog_5_method_5_code 21 = .ok (.lcmp, 1) := by decide +kernel
theorem dG_width_22 : decode prog_5_method_5_code 22 = .ok (.ifCond .eq 6, 3) := by decide +kernel
theorem dG_width_25 : decode prog_5_method_5_code 25 = .ok (.iinc 2 1, 3) := by decide +kernel
theorem dG_width_28 : decode prog_5_method_5_code 28 = .ok (.iinc 3 1, 3) := by decide +kernel
theorem dG_width_31 : decode prog_5_method_5_code 31 = .ok (.goto (-27), 3) := by decide +kernel
theorem dG_width_34 : decode prog_5_method_5_code 34 = .ok (.iload_n 2, 1) := by decide +kernel
theorem dG_width_35 : decode prog_5_method_5_code 35 = .ok (.ireturn, 1) := by decide +kernel
theorem dG_step_0 : decode prog_5_method_6_code 0 = .ok (.iload_n 1, 1) := by decide +kernel
theorem dG_step_1 : decode prog_5_method_6_code 1 = .ok (.ifCond .lt 23, 3) := by decide +kernel
theorem dG_step_4 : decode prog_5_method_6_code 4 = .ok (.iload_n 1, 1) := by decide +kernel
theorem dG_step_5 : decode prog_5_method_6_code 5 = .ok (.aload_n 0, 1) := by decide +kernel
theorem dG_step_6 : decode prog_5_method_6_code 6 = .ok (.getfield 9, 3) := by decide +kernel
theorem dG_step_9 : decode prog_5_method_6_code 9 = .ok (.if_icmp .ge 15, 3) := by decide +kernel
theorem dG_step_12 : decode prog_5_method_6_code 12 = .ok (.iload_n 2, 1) := by decide +kernel
theorem dG_step_13 : decode prog_5_method_6_code 13 = .ok (.ifCond .lt 11, 3) := by decide +kernel
theorem dG_step_16 : decode prog_5_method_6_code 16 = .ok (.iload_n 2, 1) := by decide +kernel
theorem dG_step_17 : decode prog_5_method_6_code 17 = .ok (.aload_n 0, 1) := by decide +kernel
theorem dG_step_18 : decode prog_5_method_6_code 18 = .ok (.getfield 9, 3) := by decide +kernel
theorem dG_step_21 : decode prog_5_method_6_code 21 = .ok (.if_icmp .lt 7, 3) := by decide +kernel
theorem dG_step_24 : decode prog_5_method_6_code 24 = .ok (.ldc2_w 38, 3) := by decide +kernel
theorem dG_step_27 : decode prog_5_method_6_code 27 = .ok (.lreturn, 1) := by decide +kernel
theorem dG_step_28 : decode prog_5_method_6_code 28 = .ok (.aload_n 0, 1) := by decide +kernel
theorem dG_step_29 : decode prog_5_method_6_code 29 = .ok (.getfield 24, 3) := by decide +kernel
theorem dG_step_32 : decode prog_5_method_6_code 32 = .ok (.iload_n 1, 1) := by decide +kernel
theorem dG_step_33 : decode prog_5_method_6_code 33 = .ok (.aload_n 0, 1) := by decide +kernel
theorem dG_step_34 : decode prog_5_method_6_code 34 = .ok (.getfield 9, 3) := by decide +kernel
theorem dG_step_37 : decode prog_5_method_6_code 37 = .ok (.imul, 1) := by decide +kernel
theorem dG_step_38 : decode prog_5_method_6_code 38 = .ok (.iload_n 2, 1) := by decide +kernel
theorem dG_step_39 : decode prog_5_method_6_code 39 = .ok (.iadd, 1) := by decide +kernel
theorem dG_step_40 : decode prog_5_method_6_code 40 = .ok (.laload, 1) := by decide +kernel
theorem dG_step_41 : decode prog_5_method_6_code 41 = .ok (.lreturn, 1) := by decide +kernel
theorem dG_putStep_0 : decode prog_5_method_7_code 0 = .ok (.iload_n 1, 1) := by decide +kernel
theorem dG_putStep_1 : decode prog_5_method_7_code 1 = .ok (.ifCond .lt 28, 3) := by decide +kernel
theorem dG_putStep_4 : decode prog_5_method_7_code 4 = .ok (.iload_n 2, 1) := by decide +kernel
theorem dG_putStep_5 : decode prog_5_method_7_code 5 = .ok (.iload_n 1, 1) := by decide +kernel
theorem dG_putStep_6 : decode prog_5_method_7_code 6 = .ok (.if_icmp .le 23, 3) := by decide +kernel
theorem dG_putStep_9 : decode prog_5_method_7_code 9 = .ok (.iload_n 2, 1) := by decide +kernel
theorem dG_putStep_10 : decode prog_5_method_7_code 10 = .ok (.aload_n 0, 1) := by decide +kernel
theorem dG_putStep_11 : decode prog_5_method_7_code 11 = .ok (.getfield 9, 3) := by decide +kernel
theorem dG_putStep_14 : decode prog_5_method_7_code 14 = .ok (.if_icmp .ge 15, 3) := by decide +kernel
theorem dG_putStep_17 : decode prog_5_method_7_code 17 = .ok (.aload_n 0, 1) := by decide +kernel
theorem dG_putStep_18 : decode prog_5_method_7_code 18 = .ok (.getfield 46, 3) := by decide +kernel
theorem dG_putStep_21 : decode prog_5_method_7_code 21 = .ok (.aload_n 0, 1) := by decide +kernel
theorem dG_putStep_22 : decode prog_5_method_7_code 22 = .ok (.getfield 28, 3) := by decide +kernel
theorem dG_putStep_25 : decode prog_5_method_7_code 25 = .ok (.arraylength, 1) := by decide +kernel
theorem dG_putStep_26 : decode prog_5_method_7_code 26 = .ok (.if_icmp .lt 4, 3) := by decide +kernel
theorem dG_putStep_29 : decode prog_5_method_7_code 29 = .ok (.return_, 1) := by decide +kernel
theorem dG_putStep_30 : decode prog_5_method_7_code 30 = .ok (.aload_n 0, 1) := by decide +kernel
theorem dG_putStep_31 : decode prog_5_method_7_code 31 = .ok (.getfield 24, 3) := by decide +kernel
theorem dG_putStep_34 : decode prog_5_method_7_code 34 = .ok (.iload_n 1, 1) := by decide +kernel
theorem dG_putStep_35 : decode prog_5_method_7_code 35 = .ok (.aload_n 0, 1) := by decide +kernel
theorem dG_putStep_36 : decode prog_5_method_7_code 36 = .ok (.getfield 9, 3) := by decide +kernel
theorem dG_putStep_39 : decode prog_5_method_7_code 39 = .ok (.imul, 1) := by decide +kernel
theorem dG_putStep_40 : decode prog_5_method_7_code 40 = .ok (.iload_n 2, 1) := by decide +kernel
theorem dG_putStep_41 : decode prog_5_method_7_code 41 = .ok (.iadd, 1) := by decide +kernel
theorem dG_putStep_42 : decode prog_5_method_7_code 42 = .ok (.lload_n 3, 1) := by decide +kernel
theorem dG_putStep_43 : decode prog_5_method_7_code 43 = .ok (.lastore, 1) := by decide +kernel
theorem dG_putStep_44 : decode prog_5_method_7_code 44 = .ok (.aload_n 0, 1) := by decide +kernel
theorem dG_putStep_45 : decode prog_5_method_7_code 45 = .ok (.getfield 28, 3) := by decide +kernel
theorem dG_putStep_48 : decode prog_5_method_7_code 48 = .ok (.aload_n 0, 1) := by decide +kernel
theorem dG_putStep_49 : decode prog_5_method_7_code 49 = .ok (.getfield 46, 3) := by decide +kernel
theorem dG_putStep_52 : decode prog_5_method_7_code 52 = .ok (.lload_n 3, 1) := by decide +kernel
theorem dG_putStep_53 : decode prog_5_method_7_code 53 = .ok (.lastore, 1) := by decide +kernel
theorem dG_putStep_54 : decode prog_5_method_7_code 54 = .ok (.aload_n 0, 1) := by decide +kernel
theorem dG_putStep_55 : decode prog_5_method_7_code 55 = .ok (.getfield 31, 3) := by decide +kernel
theorem dG_putStep_58 : decode prog_5_method_7_code 58 = .ok (.aload_n 0, 1) := by decide +kernel
theorem dG_putStep_59 : decode prog_5_method_7_code 59 = .ok (.getfield 46, 3) := by decide +kernel
theorem dG_putStep_62 : decode prog_5_method_7_code 62 = .ok (.iload_n 1, 1) := by decide +kernel
theorem dG_putStep_63 : decode prog_5_method_7_code 63 = .ok (.iastore, 1) := by decide +kernel
theorem dG_putStep_64 : decode prog_5_method_7_code 64 = .ok (.aload_n 0, 1) := by decide +kernel
theorem dG_putStep_65 : decode prog_5_method_7_code 65 = .ok (.dup, 1) := by decide +kernel
theorem dG_putStep_66 : decode prog_5_method_7_code 66 = .ok (.getfield 46, 3) := by decide +kernel
theorem dG_putStep_69 : decode prog_5_method_7_code 69 = .ok (.iconst 1, 1) := by decide +kernel
theorem dG_putStep_70 : decode prog_5_method_7_code 70 = .ok (.iadd, 1) := by decide +kernel
theorem dG_putStep_71 : decode prog_5_method_7_code 71 = .ok (.putfield 46, 3) := by decide +kernel
theorem dG_putStep_74 : decode prog_5_method_7_code 74 = .ok (.return_, 1) := by decide +kernel
theorem dG_add_0 : decode prog_5_method_8_code 0 = .ok (.aload_n 0, 1) := by decide +kernel
theorem dG_add_1 : decode prog_5_method_8_code 1 = .ok (.getfield 46, 3) := by decide +kernel
theorem dG_add_4 : decode prog_5_method_8_code 4 = .ok (.istore_n 3, 1) := by decide +kernel
theorem dG_add_5 : decode prog_5_method_8_code 5 = .ok (.aload_n 0, 1) := by decide +kernel
theorem dG_add_6 : decode prog_5_method_8_code 6 = .ok (.lload_n 1, 1) := by decide +kernel
theorem dG_add_7 : decode prog_5_method_8_code 7 = .ok (.invokevirtual 60, 3) := by decide +kernel
theorem dG_add_10 : decode prog_5_method_8_code 10 = .ok (.iload_n 3, 1) := by decide +kernel
theorem dG_add_11 : decode prog_5_method_8_code 11 = .ok (.istore 4, 2) := by decide +kernel
theorem dG_add_13 : decode prog_5_method_8_code 13 = .ok (.iload 4, 2) := by decide +kernel
theorem dG_add_15 : decode prog_5_method_8_code 15 = .ok (.aload_n 0, 1) := by decide +kernel
theorem dG_add_16 : decode prog_5_method_8_code 16 = .ok (.getfield 46, 3) := by decide +kernel
theorem dG_add_19 : decode prog_5_method_8_code 19 = .ok (.if_icmp .ge 43, 3) := by decide +kernel
theorem dG_add_22 : decode prog_5_method_8_code 22 = .ok (.iload 4, 2) := by decide +kernel
theorem dG_add_24 : decode prog_5_method_8_code 24 = .ok (.aload_n 0, 1) := by decide +kernel
theorem dG_add_25 : decode prog_5_method_8_code 25 = .ok (.getfield 28, 3) := by decide +kernel
theorem dG_add_28 : decode prog_5_method_8_code 28 = .ok (.arraylength, 1) := by decide +kernel
theorem dG_add_29 : decode prog_5_method_8_code 29 = .ok (.if_icmp .ge 33, 3) := by decide +kernel
theorem dG_add_32 : decode prog_5_method_8_code 32 = .ok (.iconst 0, 1) := by decide +kernel
theorem dG_add_33 : decode prog_5_method_8_code 33 = .ok (.istore 5, 2) := by decide +kernel
theorem dG_add_35 : decode prog_5_method_8_code 35 = .ok (.iload 5, 2) := by decide +kernel
theorem dG_add_37 : decode prog_5_method_8_code 37 = .ok (.iload 4, 2) := by decide +kernel
theorem dG_add_39 : decode prog_5_method_8_code 39 = .ok (.if_icmp .gt 17, 3) := by decide +kernel
theorem dG_add_42 : decode prog_5_method_8_code 42 = .ok (.aload_n 0, 1) := by decide +kernel
theorem dG_add_43 : decode prog_5_method_8_code 43 = .ok (.iload 4, 2) := by decide +kernel
theorem dG_add_45 : decode prog_5_method_8_code 45 = .ok (.iload 5, 2) := by decide +kernel
theorem dG_add_47 : decode prog_5_method_8_code 47 = .ok (.invokevirtual 64, 3) := by decide +kernel
theorem dG_add_50 : decode prog_5_method_8_code 50 = .ok (.iinc 5 1, 3) := by decide +kernel
theorem dG_add_53 : decode prog_5_method_8_code 53 = .ok (.goto (-18), 3) := by decide +kernel
theorem dG_add_56 : decode prog_5_method_8_code 56 = .ok (.iinc 4 1, 3) := by decide +kernel
theorem dG_add_59 : decode prog_5_method_8_code 59 = .ok (.goto (-46), 3) := by decide +kernel
theorem dG_add_62 : decode prog_5_method_8_code 62 = .ok (.return_, 1) := by decide +kernel
theorem dG_enterProducts_0 : decode prog_5_method_9_code 0 = .ok (.aload_n 0, 1) := by decide +kernel
theorem dG_enterProducts_1 : decode prog_5_method_9_code 1 = .ok (.getfield 31, 3) := by decide +kernel
theorem dG_enterProducts_4 : decode prog_5_method_9_code 4 = .ok (.iload_n 1, 1) := by decide +kernel
theorem dG_enterProducts_5 : decode prog_5_method_9_code 5 = .ok (.iaload, 1) := by decide +kernel
theorem dG_enterProducts_6 : decode prog_5_method_9_code 6 = .ok (.aload_n 0, 1) := by decide +kernel
theorem dG_enterProducts_7 : decode prog_5_method_9_code 7 = .ok (.getfield 31, 3) := by decide +kernel
theorem dG_enterProducts_10 : decode prog_5_method_9_code 10 = .ok (.iload_n 2, 1) := by decide +kernel
theorem dG_enterProducts_11 : decode prog_5_method_9_code 11 = .ok (.iaload, 1) := by decide +kernel
theorem dG_enterProducts_12 : decode prog_5_method_9_code 12 = .ok (.if_icmp .gt 26, 3) := by decide +kernel
theorem dG_enterProducts_15 : decode prog_5_method_9_code 15 = .ok (.aload_n 0, 1) := by decide +kernel
theorem dG_enterProducts_16 : decode prog_5_method_9_code 16 = .ok (.aload_n 0, 1) := by decide +kernel
theorem dG_enterProducts_17 : decode prog_5_method_9_code 17 = .ok (.getfield 28, 3) := by decide +kernel
theorem dG_enterProducts_20 : decode prog_5_method_9_code 20 = .ok (.iload_n 1, 1) := by decide +kernel
theorem dG_enterProducts_21 : decode prog_5_method_9_code 21 = .ok (.laload, 1) := by decide +kernel
theorem dG_enterProducts_22 : decode prog_5_method_9_code 22 = .ok (.aload_n 0, 1) := by decide +kernel
theorem dG_enterProducts_23 : decode prog_5_method_9_code 23 = .ok (.getfield 28, 3) := by decide +kernel
theorem dG_enterProducts_26 : decode prog_5_method_9_code 26 = .ok (.iload_n 2, 1) := by decide +kernel
theorem dG_enterProducts_27 : decode prog_5_method_9_code 27 = .ok (.laload, 1) := by decide +kernel
theorem dG_enterProducts_28 : decode prog_5_method_9_code 28 = .ok (.aload_n 0, 1) := by decide +kernel
theorem dG_enterProducts_29 : decode prog_5_method_9_code 29 = .ok (.getfield 9, 3) := by decide +kernel
theorem dG_enterProducts_32 : decode prog_5_method_9_code 32 = .ok (.invokestatic 68, 3) := by decide +kernel
theorem dG_enterProducts_35 : decode prog_5_method_9_code 35 = .ok (.invokevirtual 60, 3) := by decide +kernel
theorem dG_enterProducts_38 : decode prog_5_method_9_code 38 = .ok (.aload_n 0, 1) := by decide +kernel
theorem dG_enterProducts_39 : decode prog_5_method_9_code 39 = .ok (.getfield 31, 3) := by decide +kernel
theorem dG_enterProducts_42 : decode prog_5_method_9_code 42 = .ok (.iload_n 2, 1) := by decide +kernel
theorem dG_enterProducts_43 : decode prog_5_method_9_code 43 = .ok (.iaload, 1) := by decide +kernel
theorem dG_enterProducts_44 : decode prog_5_method_9_code 44 = .ok (.aload_n 0, 1) := by decide +kernel
theorem dG_enterProducts_45 : decode prog_5_method_9_code 45 = .ok (.getfield 31, 3) := by decide +kernel
theorem dG_enterProducts_48 : decode prog_5_method_9_code 48 = .ok (.iload_n 1, 1) := by decide +kernel
theorem dG_enterProducts_49 : decode prog_5_method_9_code 49 = .ok (.iaload, 1) := by decide +kernel
theorem dG_enterProducts_50 : decode prog_5_method_9_code 50 = .ok (.if_icmp .gt 26, 3) := by decide +kernel
theorem dG_enterProducts_53 : decode prog_5_method_9_code 53 = .ok (.aload_n 0, 1) := by decide +kernel
theorem dG_enterProducts_54 : decode prog_5_method_9_code 54 = .ok (.aload_n 0, 1) := by decide +kernel
theorem dG_enterProducts_55 : decode prog_5_method_9_code 55 = .ok (.getfield 28, 3) := by decide +kernel
theorem dG_enterProducts_58 : decode prog_5_method_9_code 58 = .ok (.iload_n 2, 1) := by decide +kernel
theorem dG_enterProducts_59 : decode prog_5_method_9_code 59 = .ok (.laload, 1) := by decide +kernel
theorem dG_enterProducts_60 : decode prog_5_method_9_code 60 = .ok (.aload_n 0, 1) := by decide +kernel
theorem dG_enterProducts_61 : decode prog_5_method_9_code 61 = .ok (.getfield 28, 3) := by decide +kernel
theorem dG_enterProducts_64 : decode prog_5_method_9_code 64 = .ok (.iload_n 1, 1) := by decide +kernel
theorem dG_enterProducts_65 : decode prog_5_method_9_code 65 = .ok (.laload, 1) := by decide +kernel
theorem dG_enterProducts_66 : decode prog_5_method_9_code 66 = .ok (.aload_n 0, 1) := by decide +kernel
theorem dG_enterProducts_67 : decode prog_5_method_9_code 67 = .ok (.getfield 9, 3) := by decide +kernel
theorem dG_enterProducts_70 : decode prog_5_method_9_code 70 = .ok (.invokestatic 68, 3) := by decide +kernel
theorem dG_enterProducts_73 : decode prog_5_method_9_code 73 = .ok (.invokevirtual 60, 3) := by decide +kernel
theorem dG_enterProducts_76 : decode prog_5_method_9_code 76 = .ok (.return_, 1) := by decide +kernel
theorem dG_enter_0 : decode prog_5_method_10_code 0 = .ok (.lload_n 1, 1) := by decide +kernel
theorem dG_enter_1 : decode prog_5_method_10_code 1 = .ok (.lstore_n 3, 1) := by decide +kernel
theorem dG_enter_2 : decode prog_5_method_10_code 2 = .ok (.iconst 0, 1) := by decide +kernel
theorem dG_enter_3 : decode prog_5_method_10_code 3 = .ok (.istore 5, 2) := by decide +kernel
theorem dG_enter_5 : decode prog_5_method_10_code 5 = .ok (.iload 5, 2) := by decide +kernel
theorem dG_enter_7 : decode prog_5_method_10_code 7 = .ok (.aload_n 0, 1) := by decide +kernel
theorem dG_enter_8 : decode prog_5_method_10_code 8 = .ok (.getfield 9, 3) := by decide +kernel
theorem dG_enter_11 : decode prog_5_method_10_code 11 = .ok (.if_icmp .ge 80, 3) := by decide +kernel
theorem dG_enter_14 : decode prog_5_method_10_code 14 = .ok (.lload_n 3, 1) := by decide +kernel
theorem dG_enter_15 : decode prog_5_method_10_code 15 = .ok (.aload_n 0, 1) := by decide +kernel
theorem dG_enter_16 : decode prog_5_method_10_code 16 = .ok (.getfield 21, 3) := by decide +kernel
theorem dG_enter_19 : decode prog_5_method_10_code 19 = .ok (.lcmp, 1) := by decide +kernel
theorem dG_enter_20 : decode prog_5_method_10_code 20 = .ok (.ifCond .eq 71, 3) := by decide +kernel
theorem dG_enter_23 : decode prog_5_method_10_code 23 = .ok (.lload_n 3, 1) := by decide +kernel
theorem dG_enter_24 : decode prog_5_method_10_code 24 = .ok (.iload 5, 2) := by decide +kernel
theorem dG_enter_26 : decode prog_5_method_10_code 26 = .ok (.invokestatic 72, 3) := by decide +kernel
theorem dG_enter_29 : decode prog_5_method_10_code 29 = .ok (.istore 6, 2) := by decide +kernel
theorem dG_enter_31 : decode prog_5_method_10_code 31 = .ok (.aload_n 0, 1) := by decide +kernel
theorem dG_enter_32 : decode prog_5_method_10_code 32 = .ok (.iload 5, 2) := by decide +kernel
theorem dG_enter_34 : decode prog_5_method_10_code 34 = .ok (.iload 6, 2) := by decide +kernel
theorem dG_enter_36 : decode prog_5_method_10_code 36 = .ok (.invokevirtual 56, 3) := by decide +kernel
theorem dG_enter_39 : decode prog_5_method_10_code 39 = .ok (.lstore 7, 2) := by decide +kernel
theorem dG_enter_41 : decode prog_5_method_10_code 41 = .ok (.lload 7, 2) := by decide +kernel
theorem dG_enter_43 : decode prog_5_method_10_code 43 = .ok (.ldc2_w 38, 3) := by decide +kernel
theorem dG_enter_46 : decode prog_5_method_10_code 46 = .ok (.lcmp, 1) := by decide +kernel
theorem dG_enter_47 : decode prog_5_method_10_code 47 = .ok (.ifCond .ne 13, 3) := by decide +kernel
theorem dG_enter_50 : decode prog_5_method_10_code 50 = .ok (.aload_n 0, 1) := by decide +kernel
theorem dG_enter_51 : decode prog_5_method_10_code 51 = .ok (.iload 5, 2) := by decide +kernel
theorem dG_enter_53 : decode prog_5_method_10_code 53 = .ok (.iload 6, 2) := by decide +kernel
theorem dG_enter_55 : decode prog_5_method_10_code 55 = .ok (.lload_n 3, 1) := by decide +kernel
theorem dG_enter_56 : decode prog_5_method_10_code 56 = .ok (.invokevirtual 76, 3) := by decide +kernel
theorem dG_enter_59 : decode prog_5_method_10_code 59 = .ok (.return_, 1) := by decide +kernel
theorem dG_enter_60 : decode prog_5_method_10_code 60 = .ok (.iload 6, 2) := by decide +kernel
theorem dG_enter_62 : decode prog_5_method_10_code 62 = .ok (.iload 5, 2) := by decide +kernel
theorem dG_enter_64 : decode prog_5_method_10_code 64 = .ok (.if_icmp .eq 21, 3) := by decide +kernel
theorem dG_enter_67 : decode prog_5_method_10_code 67 = .ok (.lload_n 3, 1) := by decide +kernel
theorem dG_enter_68 : decode prog_5_method_10_code 68 = .ok (.lload 7, 2) := by decide +kernel
theorem dG_enter_70 : decode prog_5_method_10_code 70 = .ok (.aload_n 0, 1) := by decide +kernel
theorem dG_enter_71 : decode prog_5_method_10_code 71 = .ok (.getfield 9, 3) := by decide +kernel
theorem dG_enter_74 : decode prog_5_method_10_code 74 = .ok (.invokestatic 80, 3) := by decide +kernel
theorem dG_enter_77 : decode prog_5_method_10_code 77 = .ok (.aload_n 0, 1) := by decide +kernel
theorem dG_enter_78 : decode prog_5_method_10_code 78 = .ok (.getfield 9, 3) := by decide +kernel
theorem dG_enter_81 : decode prog_5_method_10_code 81 = .ok (.invokestatic 68, 3) := by decide +kernel
theorem dG_enter_84 : decode prog_5_method_10_code 84 = .ok (.lstore_n 3, 1) := by decide +kernel
theorem dG_enter_85 : decode prog_5_method_10_code 85 = .ok (.iinc 5 1, 3) := by decide +kernel
theorem dG_enter_88 : decode prog_5_method_10_code 88 = .ok (.goto (-83), 3) := by decide +kernel
theorem dG_enter_91 : decode prog_5_method_10_code 91 = .ok (.return_, 1) := by decide +kernel
theorem dG_addConjugates_0 : decode prog_5_method_11_code 0 = .ok (.iconst 0, 1) := by decide +kernel
theorem dG_addConjugates_1 : decode prog_5_method_11_code 1 = .ok (.istore_n 2, 1) := by decide +kernel
theorem dG_addConjugates_2 : decode prog_5_method_11_code 2 = .ok (.iload_n 2, 1) := by decide +kernel
theorem dG_addConjugates_3 : decode prog_5_method_11_code 3 = .ok (.aload_n 0, 1) := by decide +kernel
theorem dG_addConjugates_4 : decode prog_5_method_11_code 4 = .ok (.getfield 46, 3) := by decide +kernel
theorem dG_addConjugates_7 : decode prog_5_method_11_code 7 = .ok (.if_icmp .ge 57, 3) := by decide +kernel
theorem dG_addConjugates_10 : decode prog_5_method_11_code 10 = .ok (.iload_n 2, 1) := by decide +kernel
theorem dG_addConjugates_11 : decode prog_5_method_11_code 11 = .ok (.aload_n 0, 1) := by decide +kernel
theorem dG_addConjugates_12 : decode prog_5_method_11_code 12 = .ok (.getfield 28, 3) := by decide +kernel
theorem dG_addConjugates_15 : decode prog_5_method_11_code 15 = .ok (.arraylength, 1) := by decide +kernel
theorem dG_addConjugates_16 : decode prog_5_method_11_code 16 = .ok (.if_icmp .ge 48, 3) := by decide +kernel
theorem dG_addConjugates_19 : decode prog_5_method_11_code 19 = .ok (.iconst 0, 1) := by decide +kernel
theorem dG_addConjugates_20 : decode prog_5_method_11_code 20 = .ok (.istore_n 3, 1) := by decide +kernel
theorem dG_addConjugates_21 : decode prog_5_method_11_code 21 = .ok (.iload_n 3, 1) := by decide +kernel
theorem dG_addConjugates_22 : decode prog_5_method_11_code 22 = .ok (.aload_n 1, 1) := by decide +kernel
theorem dG_addConjugates_23 : decode prog_5_method_11_code 23 = .ok (.getfield 46, 3) := by decide +kernel
theorem dG_addConjugates_26 : decode prog_5_method_11_code 26 = .ok (.if_icmp .ge 32, 3) := by decide +kernel
theorem dG_addConjugates_29 : decode prog_5_method_11_code 29 = .ok (.aload_n 0, 1) := by decide +kernel
theorem dG_addConjugates_30 : decode prog_5_method_11_code 30 = .ok (.aload_n 0, 1) := by decide +kernel
theorem dG_addConjugates_31 : decode prog_5_method_11_code 31 = .ok (.getfield 28, 3) := by decide +kernel
theorem dG_addConjugates_34 : decode prog_5_method_11_code 34 = .ok (.iload_n 2, 1) := by decide +kernel
theorem dG_addConjugates_35 : decode prog_5_method_11_code 35 = .ok (.laload, 1) := by decide +kernel
theorem dG_addConjugates_36 : decode prog_5_method_11_code 36 = .ok (.aload_n 1, 1) := by decide +kernel
theorem dG_addConjugates_37 : decode prog_5_method_11_code 37 = .ok (.getfield 28, 3) := by decide +kernel
theorem dG_addConjugates_40 : decode prog_5_method_11_code 40 = .ok (.iload_n 3, 1) := by decide +kernel
theorem dG_addConjugates_41 : decode prog_5_method_11_code 41 = .ok (.laload, 1) := by decide +kernel
theorem dG_addConjugates_42 : decode prog_5_method_11_code 42 = .ok (.aload_n 0, 1) := by decide +kernel
theorem dG_addConjugates_43 : decode prog_5_method_11_code 43 = .ok (.getfield 9, 3) := by decide +kernel
theorem dG_addConjugates_46 : decode prog_5_method_11_code 46 = .ok (.invokestatic 84, 3) := by decide +kernel
theorem dG_addConjugates_49 : decode prog_5_method_11_code 49 = .ok (.invokevirtual 87, 3) := by decide +kernel
theorem dG_addConjugates_52 : decode prog_5_method_11_code 52 = .ok (.iinc 3 1, 3) := by decide +kernel
theorem dG_addConjugates_55 : decode prog_5_method_11_code 55 = .ok (.goto (-34), 3) := by decide +kernel
theorem dG_addConjugates_58 : decode prog_5_method_11_code 58 = .ok (.iinc 2 1, 3) := by decide +kernel
theorem dG_addConjugates_61 : decode prog_5_method_11_code 61 = .ok (.goto (-59), 3) := by decide +kernel
theorem dG_addConjugates_64 : decode prog_5_method_11_code 64 = .ok (.return_, 1) := by decide +kernel
theorem dG_addCommutators_0 : decode prog_5_method_12_code 0 = .ok (.iconst 0, 1) := by decide +kernel
theorem dG_addCommutators_1 : decode prog_5_method_12_code 1 = .ok (.istore_n 2, 1) := by decide +kernel
theorem dG_addCommutators_2 : decode prog_5_method_12_code 2 = .ok (.iload_n 2, 1) := by decide +kernel
theorem dG_addCommutators_3 : decode prog_5_method_12_code 3 = .ok (.aload_n 1, 1) := by decide +kernel
theorem dG_addCommutators_4 : decode prog_5_method_12_code 4 = .ok (.getfield 46, 3) := by decide +kernel
theorem dG_addCommutators_7 : decode prog_5_method_12_code 7 = .ok (.if_icmp .ge 45, 3) := by decide +kernel
theorem dG_addCommutators_10 : decode prog_5_method_12_code 10 = .ok (.iconst 0, 1) := by decide +kernel
theorem dG_addCommutators_11 : decode prog_5_method_12_code 11 = .ok (.istore_n 3, 1) := by decide +kernel
theorem dG_addCommutators_12 : decode prog_5_method_12_code 12 = .ok (.iload_n 3, 1) := by decide +kernel
theorem dG_addCommutators_13 : decode prog_5_method_12_code 13 = .ok (.iload_n 2, 1) := by decide +kernel
theorem dG_addCommutators_14 : decode prog_5_method_12_code 14 = .ok (.if_icmp .ge 32, 3) := by decide +kernel
theorem dG_addCommutators_17 : decode prog_5_method_12_code 17 = .ok (.aload_n 0, 1) := by decide +kernel
theorem dG_addCommutators_18 : decode prog_5_method_12_code 18 = .ok (.aload_n 1, 1) := by decide +kernel
theorem dG_addCommutators_19 : decode prog_5_method_12_code 19 = .ok (.getfield 28, 3) := by decide +kernel
theorem dG_addCommutators_22 : decode prog_5_method_12_code 22 = .ok (.iload_n 2, 1) := by decide +kernel
theorem dG_addCommutators_23 : decode prog_5_method_12_code 23 = .ok (.laload, 1) := by decide +kernel
theorem dG_addCommutators_24 : decode prog_5_method_12_code 24 = .ok (.aload_n 1, 1) := by decide +kernel
theorem dG_addCommutators_25 : decode prog_5_method_12_code 25 = .ok (.getfield 28, 3) := by decide +kernel
theorem dG_addCommutators_28 : decode prog_5_method_12_code 28 = .ok (.iload_n 3, 1) := by decide +kernel
theorem dG_addCommutators_29 : decode prog_5_method_12_code 29 = .ok (.laload, 1) := by decide +kernel
theorem dG_addCommutators_30 : decode prog_5_method_12_code 30 = .ok (.aload_n 0, 1) := by decide +kernel
theorem dG_addCommutators_31 : decode prog_5_method_12_code 31 = .ok (.getfield 9, 3) := by decide +kernel
theorem dG_addCommutators_34 : decode prog_5_method_12_code 34 = .ok (.invokestatic 90, 3) := by decide +kernel
theorem dG_addCommutators_37 : decode prog_5_method_12_code 37 = .ok (.invokevirtual 87, 3) := by decide +kernel
theorem dG_addCommutators_40 : decode prog_5_method_12_code 40 = .ok (.iinc 3 1, 3) := by decide +kernel
theorem dG_addCommutators_43 : decode prog_5_method_12_code 43 = .ok (.goto (-31), 3) := by decide +kernel
theorem dG_addCommutators_46 : decode prog_5_method_12_code 46 = .ok (.iinc 2 1, 3) := by decide +kernel
theorem dG_addCommutators_49 : decode prog_5_method_12_code 49 = .ok (.goto (-47), 3) := by decide +kernel
theorem dG_addCommutators_52 : decode prog_5_method_12_code 52 = .ok (.return_, 1) := by decide +kernel
theorem dG_gather_0 : decode prog_5_method_13_code 0 = .ok (.aload_n 0, 1) := by decide +kernel
theorem dG_gather_1 : decode prog_5_method_13_code 1 = .ok (.invokevirtual 35, 3) := by decide +kernel
theorem dG_gather_4 : decode prog_5_method_13_code 4 = .ok (.iconst 0, 1) := by decide +kernel
theorem dG_gather_5 : decode prog_5_method_13_code 5 = .ok (.istore_n 3, 1) := by decide +kernel
theorem dG_gather_6 : decode prog_5_method_13_code 6 = .ok (.iload_n 3, 1) := by decide +kernel
theorem dG_gather_7 : decode prog_5_method_13_code 7 = .ok (.aload_n 0, 1) := by decide +kernel
theorem dG_gather_8 : decode prog_5_method_13_code 8 = .ok (.getfield 9, 3) := by decide +kernel
theorem dG_gather_11 : decode prog_5_method_13_code 11 = .ok (.if_icmp .ge 83, 3) := by decide +kernel
theorem dG_gather_14 : decode prog_5_method_13_code 14 = .ok (.iload_n 3, 1) := by decide +kernel
theorem dG_gather_15 : decode prog_5_method_13_code 15 = .ok (.iconst 1, 1) := by decide +kernel
theorem dG_gather_16 : decode prog_5_method_13_code 16 = .ok (.iadd, 1) := by decide +kernel
theorem dG_gather_17 : decode prog_5_method_13_code 17 = .ok (.istore 4, 2) := by decide +kernel
theorem dG_gather_19 : decode prog_5_method_13_code 19 = .ok (.iload 4, 2) := by decide +kernel
theorem dG_gather_21 : decode prog_5_method_13_code 21 = .ok (.aload_n 0, 1) := by decide +kernel
theorem dG_gather_22 : decode prog_5_method_13_code 22 = .ok (.getfield 9, 3) := by decide +kernel
theorem dG_gather_25 : decode prog_5_method_13_code 25 = .ok (.if_icmp .ge 63, 3) := by decide +kernel
theorem dG_gather_28 : decode prog_5_method_13_code 28 = .ok (.aload_n 1, 1) := by decide +kernel
theorem dG_gather_29 : decode prog_5_method_13_code 29 = .ok (.iload_n 3, 1) := by decide +kernel
theorem dG_gather_30 : decode prog_5_method_13_code 30 = .ok (.iload 4, 2) := by decide +kernel
theorem dG_gather_32 : decode prog_5_method_13_code 32 = .ok (.invokevirtual 56, 3) := by decide +kernel
theorem dG_gather_35 : decode prog_5_method_13_code 35 = .ok (.lstore 5, 2) := by decide +kernel
theorem dG_gather_37 : decode prog_5_method_13_code 37 = .ok (.lload 5, 2) := by decide +kernel
theorem dG_gather_39 : decode prog_5_method_13_code 39 = .ok (.ldc2_w 38, 3) := by decide +kernel
theorem dG_gather_42 : decode prog_5_method_13_code 42 = .ok (.lcmp, 1) := by decide +kernel
theorem dG_gather_43 : decode prog_5_method_13_code 43 = .ok (.ifCond .ne 9, 3) := by decide +kernel
theorem dG_gather_46 : decode prog_5_method_13_code 46 = .ok (.ldc2_w 38, 3) := by decide +kernel
theorem dG_gather_49 : decode prog_5_method_13_code 49 = .ok (.goto 13, 3) := by decide +kernel
theorem dG_gather_52 : decode prog_5_method_13_code 52 = .ok (.aload_n 1, 1) := by decide +kernel
theorem dG_gather_53 : decode prog_5_method_13_code 53 = .ok (.iload_n 3, 1) := by decide +kernel
theorem dG_gather_54 : decode prog_5_method_13_code 54 = .ok (.iconst 1, 1) := by decide +kernel
theorem dG_gather_55 : decode prog_5_method_13_code 55 = .ok (.iadd, 1) := by decide +kernel
theorem dG_gather_56 : decode prog_5_method_13_code 56 = .ok (.lload 5, 2) := by decide +kernel
theorem dG_gather_58 : decode prog_5_method_13_code 58 = .ok (.aload_n 2, 1) := by decide +kernel
theorem dG_gather_59 : decode prog_5_method_13_code 59 = .ok (.invokevirtual 93, 3) := by decide +kernel
theorem dG_gather_62 : decode prog_5_method_13_code 62 = .ok (.lstore 7, 2) := by decide +kernel
theorem dG_gather_64 : decode prog_5_method_13_code 64 = .ok (.lload 7, 2) := by decide +kernel
theorem dG_gather_66 : decode prog_5_method_13_code 66 = .ok (.ldc2_w 38, 3) := by decide +kernel
theorem dG_gather_69 : decode prog_5_method_13_code 69 = .ok (.lcmp, 1) := by decide +kernel
theorem dG_gather_70 : decode prog_5_method_13_code 70 = .ok (.ifCond .eq 12, 3) := by decide +kernel
theorem dG_gather_73 : decode prog_5_method_13_code 73 = .ok (.aload_n 0, 1) := by decide +kernel
theorem dG_gather_74 : decode prog_5_method_13_code 74 = .ok (.iload_n 3, 1) := by decide +kernel
theorem dG_gather_75 : decode prog_5_method_13_code 75 = .ok (.iload 4, 2) := by decide +kernel
theorem dG_gather_77 : decode prog_5_method_13_code 77 = .ok (.lload 7, 2) := by decide +kernel
theorem dG_gather_79 : decode prog_5_method_13_code 79 = .ok (.invokevirtual 76, 3) := by decide +kernel
theorem dG_gather_82 : decode prog_5_method_13_code 82 = .ok (.iinc 4 1, 3) := by decide +kernel
theorem dG_gather_85 : decode prog_5_method_13_code 85 = .ok (.goto (-66), 3) := by decide +kernel
theorem dG_gather_88 : decode prog_5_method_13_code 88 = .ok (.iinc 3 1, 3) := by decide +kernel
theorem dG_gather_91 : decode prog_5_method_13_code 91 = .ok (.goto (-85), 3) := by decide +kernel
theorem dG_gather_94 : decode prog_5_method_13_code 94 = .ok (.return_, 1) := by decide +kernel
theorem dG_search_0 : decode prog_5_method_14_code 0 = .ok (.aload 4, 2) := by decide +kernel
theorem dG_search_2 : decode prog_5_method_14_code 2 = .ok (.lload_n 2, 1) := by decide +kernel
theorem dG_search_3 : decode prog_5_method_14_code 3 = .ok (.iload_n 1, 1) := by decide +kernel
theorem dG_search_4 : decode prog_5_method_14_code 4 = .ok (.invokeinterface 97 4, 5) := by decide +kernel
theorem dG_search_9 : decode prog_5_method_14_code 9 = .ok (.ifCond .ne 7, 3) := by decide +kernel
theorem dG_search_12 : decode prog_5_method_14_code 12 = .ok (.ldc2_w 38, 3) := by decide +kernel
theorem dG_search_15 : decode prog_5_method_14_code 15 = .ok (.lreturn, 1) := by decide +kernel
theorem dG_search_16 : decode prog_5_method_14_code 16 = .ok (.iload_n 1, 1) := by decide +kernel
theorem dG_search_17 : decode prog_5_method_14_code 17 = .ok (.aload_n 0, 1) := by decide +kernel
theorem dG_search_18 : decode prog_5_method_14_code 18 = .ok (.getfield 9, 3) := by decide +kernel
theorem dG_search_21 : decode prog_5_method_14_code 21 = .ok (.if_icmp .lt 5, 3) := by decide +kernel
theorem dG_search_24 : decode prog_5_method_14_code 24 = .ok (.lload_n 2, 1) := by decide +kernel
theorem dG_search_25 : decode prog_5_method_14_code 25 = .ok (.lreturn, 1) := by decide +kernel
theorem dG_search_26 : decode prog_5_method_14_code 26 = .ok (.iload_n 1, 1) := by decide +kernel
theorem dG_search_27 : decode prog_5_method_14_code 27 = .ok (.istore 5, 2) := by decide +kernel
theorem dG_search_29 : decode prog_5_method_14_code 29 = .ok (.iload 5, 2) := by decide +kernel
theorem dG_search_31 : decode prog_5_method_14_code 31 = .ok (.aload_n 0, 1) := by decide +kernel
theorem dG_search_32 : decode prog_5_method_14_code 32 = .ok (.getfield 9, 3) := by decide +kernel
theorem dG_search_35 : decode prog_5_method_14_code 35 = .ok (.if_icmp .ge 66, 3) := by decide +kernel
theorem dG_search_38 : decode prog_5_method_14_code 38 = .ok (.aload_n 0, 1) := by decide +kernel
theorem dG_search_39 : decode prog_5_method_14_code 39 = .ok (.iload_n 1, 1) := by decide +kernel
theorem dG_search_40 : decode prog_5_method_14_code 40 = .ok (.iload 5, 2) := by decide +kernel
theorem dG_search_42 : decode prog_5_method_14_code 42 = .ok (.invokevirtual 56, 3) := by decide +kernel
theorem dG_search_45 : decode prog_5_method_14_code 45 = .ok (.lstore 6, 2) := by decide +kernel
theorem dG_search_47 : decode prog_5_method_14_code 47 = .ok (.lload 6, 2) := by decide +kernel
theorem dG_search_49 : decode prog_5_method_14_code 49 = .ok (.ldc2_w 38, 3) := by decide +kernel
theorem dG_search_52 : decode prog_5_method_14_code 52 = .ok (.lcmp, 1) := by decide +kernel
theorem dG_search_53 : decode prog_5_method_14_code 53 = .ok (.ifCond .ne 9, 3) := by decide +kernel
theorem dG_search_56 : decode prog_5_method_14_code 56 = .ok (.ldc2_w 38, 3) := by decide +kernel
theorem dG_search_59 : decode prog_5_method_14_code 59 = .ok (.goto 22, 3) := by decide +kernel
theorem dG_search_62 : decode prog_5_method_14_code 62 = .ok (.aload_n 0, 1) := by decide +kernel
theorem dG_search_63 : decode prog_5_method_14_code 63 = .ok (.iload_n 1, 1) := by decide +kernel
theorem dG_search_64 : decode prog_5_method_14_code 64 = .ok (.iconst 1, 1) := by decide +kernel
theorem dG_search_65 : decode prog_5_method_14_code 65 = .ok (.iadd, 1) := by decide +kernel
theorem dG_search_66 : decode prog_5_method_14_code 66 = .ok (.lload 6, 2) := by decide +kernel
theorem dG_search_68 : decode prog_5_method_14_code 68 = .ok (.lload_n 2, 1) := by decide +kernel
theorem dG_search_69 : decode prog_5_method_14_code 69 = .ok (.aload_n 0, 1) := by decide +kernel
theorem dG_search_70 : decode prog_5_method_14_code 70 = .ok (.getfield 9, 3) := by decide +kernel
theorem dG_search_73 : decode prog_5_method_14_code 73 = .ok (.invokestatic 68, 3) := by decide +kernel
theorem dG_search_76 : decode prog_5_method_14_code 76 = .ok (.aload 4, 2) := by decide +kernel
theorem dG_search_78 : decode prog_5_method_14_code 78 = .ok (.invokevirtual 93, 3) := by decide +kernel
theorem dG_search_81 : decode prog_5_method_14_code 81 = .ok (.lstore 8, 2) := by decide +kernel
theorem dG_search_83 : decode prog_5_method_14_code 83 = .ok (.lload 8, 2) := by decide +kernel
theorem dG_search_85 : decode prog_5_method_14_code 85 = .ok (.ldc2_w 38, 3) := by decide +kernel
theorem dG_search_88 : decode prog_5_method_14_code 88 = .ok (.lcmp, 1) := by decide +kernel
theorem dG_search_89 : decode prog_5_method_14_code 89 = .ok (.ifCond .eq 6, 3) := by decide +kernel
theorem dG_search_92 : decode prog_5_method_14_code 92 = .ok (.lload 8, 2) := by decide +kernel
theorem dG_search_94 : decode prog_5_method_14_code 94 = .ok (.lreturn, 1) := by decide +kernel
theorem dG_search_95 : decode prog_5_method_14_code 95 = .ok (.iinc 5 1, 3) := by decide +kernel
theorem dG_search_98 : decode prog_5_method_14_code 98 = .ok (.goto (-69), 3) := by decide +kernel
theorem dG_search_101 : decode prog_5_method_14_code 101 = .ok (.ldc2_w 38, 3) := by decide +kernel
theorem dG_search_104 : decode prog_5_method_14_code 104 = .ok (.lreturn, 1) := by decide +kernel
theorem dG_takeSecondParts_0 : decode prog_5_method_15_code 0 = .ok (.aload_n 0, 1) := by decide +kernel
theorem dG_takeSecondParts_1 : decode prog_5_method_15_code 1 = .ok (.invokevirtual 35, 3) := by decide +kernel
theorem dG_takeSecondParts_4 : decode prog_5_method_15_code 4 = .ok (.iconst 0, 1) := by decide +kernel
theorem dG_takeSecondParts_5 : decode prog_5_method_15_code 5 = .ok (.istore_n 2, 1) := by decide +kernel
theorem dG_takeSecondParts_6 : decode prog_5_method_15_code 6 = .ok (.iload_n 2, 1) := by decide +kernel
theorem dG_takeSecondParts_7 : decode prog_5_method_15_code 7 = .ok (.aload_n 0, 1) := by decide +kernel
theorem dG_takeSecondParts_8 : decode prog_5_method_15_code 8 = .ok (.getfield 9, 3) := by decide +kernel
theorem dG_takeSecondParts_11 : decode prog_5_method_15_code 11 = .ok (.if_icmp .ge 69, 3) := by decide +kernel
theorem dG_takeSecondParts_14 : decode prog_5_method_15_code 14 = .ok (.iload_n 2, 1) := by decide +kernel
theorem dG_takeSecondParts_15 : decode prog_5_method_15_code 15 = .ok (.iconst 1, 1) := by decide +kernel
theorem dG_takeSecondParts_16 : decode prog_5_method_15_code 16 = .ok (.iadd, 1) := by decide +kernel
theorem dG_takeSecondParts_17 : decode prog_5_method_15_code 17 = .ok (.istore_n 3, 1) := by decide +kernel
theorem dG_takeSecondParts_18 : decode prog_5_method_15_code 18 = .ok (.iload_n 3, 1) := by decide +kernel
theorem dG_takeSecondParts_19 : decode prog_5_method_15_code 19 = .ok (.aload_n 0, 1) := by decide +kernel
theorem dG_takeSecondParts_20 : decode prog_5_method_15_code 20 = .ok (.getfield 9, 3) := by decide +kernel
theorem dG_takeSecondParts_23 : decode prog_5_method_15_code 23 = .ok (.if_icmp .ge 51, 3) := by decide +kernel
theorem dG_takeSecondParts_26 : decode prog_5_method_15_code 26 = .ok (.aload_n 1, 1) := by decide +kernel
theorem dG_takeSecondParts_27 : decode prog_5_method_15_code 27 = .ok (.aload_n 0, 1) := by decide +kernel
theorem dG_takeSecondParts_28 : decode prog_5_method_15_code 28 = .ok (.getfield 9, 3) := by decide +kernel
theorem dG_takeSecondParts_31 : decode prog_5_method_15_code 31 = .ok (.iload_n 2, 1) := by decide +kernel
theorem dG_takeSecondParts_32 : decode prog_5_method_15_code 32 = .ok (.iadd, 1) := by decide +kernel
theorem dG_takeSecondParts_33 : decode prog_5_method_15_code 33 = .ok (.aload_n 0, 1) := by decide +kernel
theorem dG_takeSecondParts_34 : decode prog_5_method_15_code 34 = .ok (.getfield 9, 3) := by decide +kernel
theorem dG_takeSecondParts_37 : decode prog_5_method_15_code 37 = .ok (.iload_n 3, 1) := by decide +kernel
theorem dG_takeSecondParts_38 : decode prog_5_method_15_code 38 = .ok (.iadd, 1) := by decide +kernel
theorem dG_takeSecondParts_39 : decode prog_5_method_15_code 39 = .ok (.invokevirtual 56, 3) := by decide +kernel
theorem dG_takeSecondParts_42 : decode prog_5_method_15_code 42 = .ok (.lstore 4, 2) := by decide +kernel
theorem dG_takeSecondParts_44 : decode prog_5_method_15_code 44 = .ok (.lload 4, 2) := by decide +kernel
theorem dG_takeSecondParts_46 : decode prog_5_method_15_code 46 = .ok (.ldc2_w 38, 3) := by decide +kernel
theorem dG_takeSecondParts_49 : decode prog_5_method_15_code 49 = .ok (.lcmp, 1) := by decide +kernel
theorem dG_takeSecondParts_50 : decode prog_5_method_15_code 50 = .ok (.ifCond .eq 18, 3) := by decide +kernel
theorem dG_takeSecondParts_53 : decode prog_5_method_15_code 53 = .ok (.aload_n 0, 1) := by decide +kernel
theorem dG_takeSecondParts_54 : decode prog_5_method_15_code 54 = .ok (.iload_n 2, 1) := by decide +kernel
theorem dG_takeSecondParts_55 : decode prog_5_method_15_code 55 = .ok (.iload_n 3, 1) := by decide +kernel
theorem dG_takeSecondParts_56 : decode prog_5_method_15_code 56 = .ok (.lload 4, 2) := by decide +kernel
theorem dG_takeSecondParts_58 : decode prog_5_method_15_code 58 = .ok (.aload_n 0, 1) := by decide +kernel
theorem dG_takeSecondParts_59 : decode prog_5_method_15_code 59 = .ok (.getfield 9, 3) := by decide +kernel
theorem dG_takeSecondParts_62 : decode prog_5_method_15_code 62 = .ok (.invokestatic 103, 3) := by decide +kernel
theorem dG_takeSecondParts_65 : decode prog_5_method_15_code 65 = .ok (.invokevirtual 76, 3) := by decide +kernel
theorem dG_takeSecondParts_68 : decode prog_5_method_15_code 68 = .ok (.iinc 3 1, 3) := by decide +kernel
theorem dG_takeSecondParts_71 : decode prog_5_method_15_code 71 = .ok (.goto (-53), 3) := by decide +kernel
theorem dG_takeSecondParts_74 : decode prog_5_method_15_code 74 = .ok (.iinc 2 1, 3) := by decide +kernel
theorem dG_takeSecondParts_77 : decode prog_5_method_15_code 77 = .ok (.goto (-71), 3) := by decide +kernel
theorem dG_takeSecondParts_80 : decode prog_5_method_15_code 80 = .ok (.return_, 1) := by decide +kernel
theorem dG_placeOf_0 : decode prog_5_method_16_code 0 = .ok (.iconst 0, 1) := by decide +kernel
theorem dG_placeOf_1 : decode prog_5_method_16_code 1 = .ok (.istore_n 3, 1) := by decide +kernel
theorem dG_placeOf_2 : decode prog_5_method_16_code 2 = .ok (.aload_n 0, 1) := by decide +kernel
theorem dG_placeOf_3 : decode prog_5_method_16_code 3 = .ok (.getfield 21, 3) := by decide +kernel
theorem dG_placeOf_6 : decode prog_5_method_16_code 6 = .ok (.lstore 4, 2) := by decide +kernel
theorem dG_placeOf_8 : decode prog_5_method_16_code 8 = .ok (.iconst 0, 1) := by decide +kernel
theorem dG_placeOf_9 : decode prog_5_method_16_code 9 = .ok (.istore 6, 2) := by decide +kernel
theorem dG_placeOf_11 : decode prog_5_method_16_code 11 = .ok (.iload 6, 2) := by decide +kernel
theorem dG_placeOf_13 : decode prog_5_method_16_code 13 = .ok (.aload_n 0, 1) := by decide +kernel
theorem dG_placeOf_14 : decode prog_5_method_16_code 14 = .ok (.getfield 9, 3) := by decide +kernel
theorem dG_placeOf_17 : decode prog_5_method_16_code 17 = .ok (.if_icmp .ge 83, 3) := by decide +kernel
theorem dG_placeOf_20 : decode prog_5_method_16_code 20 = .ok (.lload_n 1, 1) := by decide +kernel
theorem dG_placeOf_21 : decode prog_5_method_16_code 21 = .ok (.iload 6, 2) := by decide +kernel
theorem dG_placeOf_23 : decode prog_5_method_16_code 23 = .ok (.invokestatic 72, 3) := by decide +kernel
theorem dG_placeOf_26 : decode prog_5_method_16_code 26 = .ok (.istore 7, 2) := by decide +kernel
theorem dG_placeOf_28 : decode prog_5_method_16_code 28 = .ok (.aload_n 0, 1) := by decide +kernel
theorem dG_placeOf_29 : decode prog_5_method_16_code 29 = .ok (.iload 6, 2) := by decide +kernel
theorem dG_placeOf_31 : decode prog_5_method_16_code 31 = .ok (.lload 4, 2) := by decide +kernel
theorem dG_placeOf_33 : decode prog_5_method_16_code 33 = .ok (.aload_n 0, 1) := by decide +kernel
theorem dG_placeOf_34 : decode prog_5_method_16_code 34 = .ok (.getfield 9, 3) := by decide +kernel
theorem dG_placeOf_37 : decode prog_5_method_16_code 37 = .ok (.invokestatic 80, 3) := by decide +kernel
theorem dG_placeOf_40 : decode prog_5_method_16_code 40 = .ok (.iload 7, 2) := by decide +kernel
theorem dG_placeOf_42 : decode prog_5_method_16_code 42 = .ok (.invokestatic 72, 3) := by decide +kernel
theorem dG_placeOf_45 : decode prog_5_method_16_code 45 = .ok (.invokevirtual 56, 3) := by decide +kernel
theorem dG_placeOf_48 : decode prog_5_method_16_code 48 = .ok (.lstore 8, 2) := by decide +kernel
theorem dG_placeOf_50 : decode prog_5_method_16_code 50 = .ok (.lload 8, 2) := by decide +kernel
theorem dG_placeOf_52 : decode prog_5_method_16_code 52 = .ok (.ldc2_w 38, 3) := by decide +kernel
theorem dG_placeOf_55 : decode prog_5_method_16_code 55 = .ok (.lcmp, 1) := by decide +kernel
theorem dG_placeOf_56 : decode prog_5_method_16_code 56 = .ok (.ifCond .ne 5, 3) := by decide +kernel
theorem dG_placeOf_59 : decode prog_5_method_16_code 59 = .ok (.iconst (-1), 1) := by decide +kernel
theorem dG_placeOf_60 : decode prog_5_method_16_code 60 = .ok (.ireturn, 1) := by decide +kernel
theorem dG_placeOf_61 : decode prog_5_method_16_code 61 = .ok (.iload_n 3, 1) := by decide +kernel
theorem dG_placeOf_62 : decode prog_5_method_16_code 62 = .ok (.aload_n 0, 1) := by decide +kernel
theorem dG_placeOf_63 : decode prog_5_method_16_code 63 = .ok (.iload 6, 2) := by decide +kernel
theorem dG_placeOf_65 : decode prog_5_method_16_code 65 = .ok (.invokevirtual 53, 3) := by decide +kernel
theorem dG_placeOf_68 : decode prog_5_method_16_code 68 = .ok (.imul, 1) := by decide +kernel
theorem dG_placeOf_69 : decode prog_5_method_16_code 69 = .ok (.aload_n 0, 1) := by decide +kernel
theorem dG_placeOf_70 : decode prog_5_method_16_code 70 = .ok (.iload 6, 2) := by decide +kernel
theorem dG_placeOf_72 : decode prog_5_method_16_code 72 = .ok (.lload 4, 2) := by decide +kernel
theorem dG_placeOf_74 : decode prog_5_method_16_code 74 = .ok (.iload 7, 2) := by decide +kernel
theorem dG_placeOf_76 : decode prog_5_method_16_code 76 = .ok (.invokevirtual 106, 3) := by decide +kernel
theorem dG_placeOf_79 : decode prog_5_method_16_code 79 = .ok (.iadd, 1) := by decide +kernel
theorem dG_placeOf_80 : decode prog_5_method_16_code 80 = .ok (.istore_n 3, 1) := by decide +kernel
theorem dG_placeOf_81 : decode prog_5_method_16_code 81 = .ok (.lload 8, 2) := by decide +kernel
theorem dG_placeOf_83 : decode prog_5_method_16_code 83 = .ok (.lload 4, 2) := by decide +kernel
theorem dG_placeOf_85 : decode prog_5_method_16_code 85 = .ok (.aload_n 0, 1) := by decide +kernel
theorem dG_placeOf_86 : decode prog_5_method_16_code 86 = .ok (.getfield 9, 3) := by decide +kernel
theorem dG_placeOf_89 : decode prog_5_method_16_code 89 = .ok (.invokestatic 68, 3) := by decide +kernel
theorem dG_placeOf_92 : decode prog_5_method_16_code 92 = .ok (.lstore 4, 2) := by decide +kernel
theorem dG_placeOf_94 : decode prog_5_method_16_code 94 = .ok (.iinc 6 1, 3) := by decide +kernel
theorem dG_placeOf_97 : decode prog_5_method_16_code 97 = .ok (.goto (-86), 3) := by decide +kernel
theorem dG_placeOf_100 : decode prog_5_method_16_code 100 = .ok (.iload_n 3, 1) := by decide +kernel
theorem dG_placeOf_101 : decode prog_5_method_16_code 101 = .ok (.ireturn, 1) := by decide +kernel
theorem dG_lesserSteps_0 : decode prog_5_method_17_code 0 = .ok (.iconst 0, 1) := by decide +kernel
theorem dG_lesserSteps_1 : decode prog_5_method_17_code 1 = .ok (.istore 5, 2) := by decide +kernel
theorem dG_lesserSteps_3 : decode prog_5_method_17_code 3 = .ok (.iload_n 1, 1) := by decide +kernel
theorem dG_lesserSteps_4 : decode prog_5_method_17_code 4 = .ok (.istore 6, 2) := by decide +kernel
theorem dG_lesserSteps_6 : decode prog_5_method_17_code 6 = .ok (.iload 6, 2) := by decide +kernel
theorem dG_lesserSteps_8 : decode prog_5_method_17_code 8 = .ok (.aload_n 0, 1) := by decide +kernel
theorem dG_lesserSteps_9 : decode prog_5_method_17_code 9 = .ok (.getfield 9, 3) := by decide +kernel
theorem dG_lesserSteps_12 : decode prog_5_method_17_code 12 = .ok (.if_icmp .ge 37, 3) := by decide +kernel
theorem dG_lesserSteps_15 : decode prog_5_method_17_code 15 = .ok (.aload_n 0, 1) := by decide +kernel
theorem dG_lesserSteps_16 : decode prog_5_method_17_code 16 = .ok (.iload_n 1, 1) := by decide +kernel
theorem dG_lesserSteps_17 : decode prog_5_method_17_code 17 = .ok (.iload 6, 2) := by decide +kernel
theorem dG_lesserSteps_19 : decode prog_5_method_17_code 19 = .ok (.invokevirtual 56, 3) := by decide +kernel
theorem dG_lesserSteps_22 : decode prog_5_method_17_code 22 = .ok (.ldc2_w 38, 3) := by decide +kernel
theorem dG_lesserSteps_25 : decode prog_5_method_17_code 25 = .ok (.lcmp, 1) := by decide +kernel
theorem dG_lesserSteps_26 : decode prog_5_method_17_code 26 = .ok (.ifCond .eq 17, 3) := by decide +kernel
theorem dG_lesserSteps_29 : decode prog_5_method_17_code 29 = .ok (.lload_n 2, 1) := by decide +kernel
theorem dG_lesserSteps_30 : decode prog_5_method_17_code 30 = .ok (.iload 6, 2) := by decide +kernel
theorem dG_lesserSteps_32 : decode prog_5_method_17_code 32 = .ok (.invokestatic 72, 3) := by decide +kernel
theorem dG_lesserSteps_35 : decode prog_5_method_17_code 35 = .ok (.iload 4, 2) := by decide +kernel
theorem dG_lesserSteps_37 : decode prog_5_method_17_code 37 = .ok (.if_icmp .ge 6, 3) := by decide +kernel
theorem dG_lesserSteps_40 : decode prog_5_method_17_code 40 = .ok (.iinc 5 1, 3) := by decide +kernel
theorem dG_lesserSteps_43 : decode prog_5_method_17_code 43 = .ok (.iinc 6 1, 3) := by decide +kernel
theorem dG_lesserSteps_46 : decode prog_5_method_17_code 46 = .ok (.goto (-40), 3) := by decide +kernel
theorem dG_lesserSteps_49 : decode prog_5_method_17_code 49 = .ok (.iload 5, 2) := by decide +kernel
theorem dG_lesserSteps_51 : decode prog_5_method_17_code 51 = .ok (.ireturn, 1) := by decide +kernel
theorem dG_atPlace_0 : decode prog_5_method_18_code 0 = .ok (.iload_n 1, 1) := by decide +kernel
theorem dG_atPlace_1 : decode prog_5_method_18_code 1 = .ok (.istore_n 2, 1) := by decide +kernel
theorem dG_atPlace_2 : decode prog_5_method_18_code 2 = .ok (.aload_n 0, 1) := by decide +kernel
theorem dG_atPlace_3 : decode prog_5_method_18_code 3 = .ok (.getfield 21, 3) := by decide +kernel
theorem dG_atPlace_6 : decode prog_5_method_18_code 6 = .ok (.lstore_n 3, 1) := by decide +kernel
theorem dG_atPlace_7 : decode prog_5_method_18_code 7 = .ok (.iconst 0, 1) := by decide +kernel
theorem dG_atPlace_8 : decode prog_5_method_18_code 8 = .ok (.istore 5, 2) := by decide +kernel
theorem dG_atPlace_10 : decode prog_5_method_18_code 10 = .ok (.iload 5, 2) := by decide +kernel
theorem dG_atPlace_12 : decode prog_5_method_18_code 12 = .ok (.aload_n 0, 1) := by decide +kernel
theorem dG_atPlace_13 : decode prog_5_method_18_code 13 = .ok (.getfield 9, 3) := by decide +kernel
theorem dG_atPlace_16 : decode prog_5_method_18_code 16 = .ok (.if_icmp .ge 123, 3) := by decide +kernel
theorem dG_atPlace_19 : decode prog_5_method_18_code 19 = .ok (.aload_n 0, 1) := by decide +kernel
theorem dG_atPlace_20 : decode prog_5_method_18_code 20 = .ok (.iload 5, 2) := by decide +kernel
theorem dG_atPlace_22 : decode prog_5_method_18_code 22 = .ok (.invokevirtual 49, 3) := by decide +kernel
theorem dG_atPlace_25 : decode prog_5_method_18_code 25 = .ok (.istore 6, 2) := by decide +kernel
theorem dG_atPlace_27 : decode prog_5_method_18_code 27 = .ok (.lload_n 3, 1) := by decide +kernel
theorem dG_atPlace_28 : decode prog_5_method_18_code 28 = .ok (.aload_n 0, 1) := by decide +kernel
theorem dG_atPlace_29 : decode prog_5_method_18_code 29 = .ok (.getfield 9, 3) := by decide +kernel
theorem dG_atPlace_32 : decode prog_5_method_18_code 32 = .ok (.invokestatic 80, 3) := by decide +kernel
theorem dG_atPlace_35 : decode prog_5_method_18_code 35 = .ok (.lstore 7, 2) := by decide +kernel
theorem dG_atPlace_37 : decode prog_5_method_18_code 37 = .ok (.ldc2_w 38, 3) := by decide +kernel
theorem dG_atPlace_40 : decode prog_5_method_18_code 40 = .ok (.lstore 9, 2) := by decide +kernel
theorem dG_atPlace_42 : decode prog_5_method_18_code 42 = .ok (.iconst 0, 1) := by decide +kernel
theorem dG_atPlace_43 : decode prog_5_method_18_code 43 = .ok (.istore 11, 2) := by decide +kernel
theorem dG_atPlace_45 : decode prog_5_method_18_code 45 = .ok (.iload 11, 2) := by decide +kernel
theorem dG_atPlace_47 : decode prog_5_method_18_code 47 = .ok (.aload_n 0, 1) := by decide +kernel
theorem dG_atPlace_48 : decode prog_5_method_18_code 48 = .ok (.getfield 9, 3) := by decide +kernel
theorem dG_atPlace_51 : decode prog_5_method_18_code 51 = .ok (.if_icmp .ge 58, 3) := by decide +kernel
theorem dG_atPlace_54 : decode prog_5_method_18_code 54 = .ok (.lload 9, 2) := by decide +kernel
theorem dG_atPlace_56 : decode prog_5_method_18_code 56 = .ok (.ldc2_w 38, 3) := by decide +kernel
theorem dG_atPlace_59 : decode prog_5_method_18_code 59 = .ok (.lcmp, 1) := by decide +kernel
theorem dG_atPlace_60 : decode prog_5_method_18_code 60 = .ok (.ifCond .ne 49, 3) := by decide +kernel
theorem dG_atPlace_63 : decode prog_5_method_18_code 63 = .ok (.aload_n 0, 1) := by decide +kernel
theorem dG_atPlace_64 : decode prog_5_method_18_code 64 = .ok (.iload 5, 2) := by decide +kernel
theorem dG_atPlace_66 : decode prog_5_method_18_code 66 = .ok (.lload 7, 2) := by decide +kernel
theorem dG_atPlace_68 : decode prog_5_method_18_code 68 = .ok (.iload 11, 2) := by decide +kernel
theorem dG_atPlace_70 : decode prog_5_method_18_code 70 = .ok (.invokestatic 72, 3) := by decide +kernel
theorem dG_atPlace_73 : decode prog_5_method_18_code 73 = .ok (.invokevirtual 56, 3) := by decide +kernel
theorem dG_atPlace_76 : decode prog_5_method_18_code 76 = .ok (.lstore 9, 2) := by decide +kernel
theorem dG_atPlace_78 : decode prog_5_method_18_code 78 = .ok (.lload 9, 2) := by decide +kernel
theorem dG_atPlace_80 : decode prog_5_method_18_code 80 = .ok (.ldc2_w 38, 3) := by decide +kernel
theorem dG_atPlace_83 : decode prog_5_method_18_code 83 = .ok (.lcmp, 1) := by decide +kernel
theorem dG_atPlace_84 : decode prog_5_method_18_code 84 = .ok (.ifCond .eq 19, 3) := by decide +kernel
theorem dG_atPlace_87 : decode prog_5_method_18_code 87 = .ok (.iload_n 2, 1) := by decide +kernel
theorem dG_atPlace_88 : decode prog_5_method_18_code 88 = .ok (.iload 6, 2) := by decide +kernel
theorem dG_atPlace_90 : decode prog_5_method_18_code 90 = .ok (.if_icmp .lt 13, 3) := by decide +kernel
theorem dG_atPlace_93 : decode prog_5_method_18_code 93 = .ok (.iload_n 2, 1) := by decide +kernel
theorem dG_atPlace_94 : decode prog_5_method_18_code 94 = .ok (.iload 6, 2) := by decide +kernel
theorem dG_atPlace_96 : decode prog_5_method_18_code 96 = .ok (.isub, 1) := by decide +kernel
theorem dG_atPlace_97 : decode prog_5_method_18_code 97 = .ok (.istore_n 2, 1) := by decide +kernel
theorem dG_atPlace_98 : decode prog_5_method_18_code 98 = .ok (.ldc2_w 38, 3) := by decide +kernel
theorem dG_atPlace_101 : decode prog_5_method_18_code 101 = .ok (.lstore 9, 2) := by decide +kernel
theorem dG_atPlace_103 : decode prog_5_method_18_code 103 = .ok (.iinc 11 1, 3) := by decide +kernel
theorem dG_atPlace_106 : decode prog_5_method_18_code 106 = .ok (.goto (-61), 3) := by decide +kernel
theorem dG_atPlace_109 : decode prog_5_method_18_code 109 = .ok (.lload 9, 2) := by decide +kernel
theorem dG_atPlace_111 : decode prog_5_method_18_code 111 = .ok (.ldc2_w 38, 3) := by decide +kernel
theorem dG_atPlace_114 : decode prog_5_method_18_code 114 = .ok (.lcmp, 1) := by decide +kernel
theorem dG_atPlace_115 : decode prog_5_method_18_code 115 = .ok (.ifCond .ne 7, 3) := by decide +kernel
theorem dG_atPlace_118 : decode prog_5_method_18_code 118 = .ok (.lload_n 3, 1) := by decide +kernel
theorem dG_atPlace_119 : decode prog_5_method_18_code 119 = .ok (.goto 13, 3) := by decide +kernel
theorem dG_atPlace_122 : decode prog_5_method_18_code 122 = .ok (.lload 9, 2) := by decide +kernel
theorem dG_atPlace_124 : decode prog_5_method_18_code 124 = .ok (.lload_n 3, 1) := by decide +kernel
theorem dG_atPlace_125 : decode prog_5_method_18_code 125 = .ok (.aload_n 0, 1) := by decide +kernel
theorem dG_atPlace_126 : decode prog_5_method_18_code 126 = .ok (.getfield 9, 3) := by decide +kernel
theorem dG_atPlace_129 : decode prog_5_method_18_code 129 = .ok (.invokestatic 68, 3) := by decide +kernel
theorem dG_atPlace_132 : decode prog_5_method_18_code 132 = .ok (.lstore_n 3, 1) := by decide +kernel
theorem dG_atPlace_133 : decode prog_5_method_18_code 133 = .ok (.iinc 5 1, 3) := by decide +kernel
theorem dG_atPlace_136 : decode prog_5_method_18_code 136 = .ok (.goto (-126), 3) := by decide +kernel
theorem dG_atPlace_139 : decode prog_5_method_18_code 139 = .ok (.lload_n 3, 1) := by decide +kernel
theorem dG_atPlace_140 : decode prog_5_method_18_code 140 = .ok (.lreturn, 1) := by decide +kernel
theorem dG_reach_0 : decode prog_5_method_19_code 0 = .ok (.iconst 1, 1) := by decide +kernel
theorem dG_reach_1 : decode prog_5_method_19_code 1 = .ok (.iload_n 1, 1) := by decide +kernel
theorem dG_reach_2 : decode prog_5_method_19_code 2 = .ok (.ishl, 1) := by decide +kernel
theorem dG_reach_3 : decode prog_5_method_19_code 3 = .ok (.istore_n 2, 1) := by decide +kernel
theorem dG_reach_4 : decode prog_5_method_19_code 4 = .ok (.iconst 1, 1) := by decide +kernel
theorem dG_reach_5 : decode prog_5_method_19_code 5 = .ok (.istore_n 3, 1) := by decide +kernel
theorem dG_reach_6 : decode prog_5_method_19_code 6 = .ok (.iload_n 3, 1) := by decide +kernel
theorem dG_reach_7 : decode prog_5_method_19_code 7 = .ok (.aload_n 0, 1) := by decide +kernel
theorem dG_reach_8 : decode prog_5_method_19_code 8 = .ok (.getfield 9, 3) := by decide +kernel
theorem dG_reach_11 : decode prog_5_method_19_code 11 = .ok (.if_icmp .ge 42, 3) := by decide +kernel
theorem dG_reach_14 : decode prog_5_method_19_code 14 = .ok (.iconst 0, 1) := by decide +kernel
theorem dG_reach_15 : decode prog_5_method_19_code 15 = .ok (.istore 4, 2) := by decide +kernel
theorem dG_reach_17 : decode prog_5_method_19_code 17 = .ok (.iload 4, 2) := by decide +kernel
theorem dG_reach_19 : decode prog_5_method_19_code 19 = .ok (.aload_n 0, 1) := by decide +kernel
theorem dG_reach_20 : decode prog_5_method_19_code 20 = .ok (.getfield 46, 3) := by decide +kernel
theorem dG_reach_23 : decode prog_5_method_19_code 23 = .ok (.if_icmp .ge 24, 3) := by decide +kernel
theorem dG_reach_26 : decode prog_5_method_19_code 26 = .ok (.iload_n 2, 1) := by decide +kernel
theorem dG_reach_27 : decode prog_5_method_19_code 27 = .ok (.aload_n 0, 1) := by decide +kernel
theorem dG_reach_28 : decode prog_5_method_19_code 28 = .ok (.iload_n 2, 1) := by decide +kernel
theorem dG_reach_29 : decode prog_5_method_19_code 29 = .ok (.aload_n 0, 1) := by decide +kernel
theorem dG_reach_30 : decode prog_5_method_19_code 30 = .ok (.getfield 28, 3) := by decide +kernel
theorem dG_reach_33 : decode prog_5_method_19_code 33 = .ok (.iload 4, 2) := by decide +kernel
theorem dG_reach_35 : decode prog_5_method_19_code 35 = .ok (.laload, 1) := by decide +kernel
theorem dG_reach_36 : decode prog_5_method_19_code 36 = .ok (.invokevirtual 110, 3) := by decide +kernel
theorem dG_reach_39 : decode prog_5_method_19_code 39 = .ok (.ior, 1) := by decide +kernel
theorem dG_reach_40 : decode prog_5_method_19_code 40 = .ok (.istore_n 2, 1) := by decide +kernel
theorem dG_reach_41 : decode prog_5_method_19_code 41 = .ok (.iinc 4 1, 3) := by decide +kernel
theorem dG_reach_44 : decode prog_5_method_19_code 44 = .ok (.goto (-27), 3) := by decide +kernel
theorem dG_reach_47 : decode prog_5_method_19_code 47 = .ok (.iinc 3 1, 3) := by decide +kernel
theorem dG_reach_50 : decode prog_5_method_19_code 50 = .ok (.goto (-44), 3) := by decide +kernel
theorem dG_reach_53 : decode prog_5_method_19_code 53 = .ok (.iload_n 2, 1) := by decide +kernel
theorem dG_reach_54 : decode prog_5_method_19_code 54 = .ok (.ireturn, 1) := by decide +kernel
theorem dG_takenFrom_0 : decode prog_5_method_20_code 0 = .ok (.iconst 0, 1) := by decide +kernel
theorem dG_takenFrom_1 : decode prog_5_method_20_code 1 = .ok (.istore 4, 2) := by decide +kernel
theorem dG_takenFrom_3 : decode prog_5_method_20_code 3 = .ok (.iconst 0, 1) := by decide +kernel
theorem dG_takenFrom_4 : decode prog_5_method_20_code 4 = .ok (.istore 5, 2) := by decide +kernel
theorem dG_takenFrom_6 : decode prog_5_method_20_code 6 = .ok (.iload 5, 2) := by decide +kernel
theorem dG_takenFrom_8 : decode prog_5_method_20_code 8 = .ok (.aload_n 0, 1) := by decide +kernel
theorem dG_takenFrom_9 : decode prog_5_method_20_code 9 = .ok (.getfield 9, 3) := by decide +kernel
theorem dG_takenFrom_12 : decode prog_5_method_20_code 12 = .ok (.if_icmp .ge 32, 3) := by decide +kernel
theorem dG_takenFrom_15 : decode prog_5_method_20_code 15 = .ok (.iload_n 1, 1) := by decide +kernel
theorem dG_takenFrom_16 : decode prog_5_method_20_code 16 = .ok (.iload 5, 2) := by decide +kernel
theorem dG_takenFrom_18 : decode prog_5_method_20_code 18 = .ok (.iushr, 1) := by decide +kernel
theorem dG_takenFrom_19 : decode prog_5_method_20_code 19 = .ok (.iconst 1, 1) := by decide +kernel
theorem dG_takenFrom_20 : decode prog_5_method_20_code 20 = .ok (.iand, 1) := by decide +kernel
theorem dG_takenFrom_21 : decode prog_5_method_20_code 21 = .ok (.iconst 1, 1) := by decide +kernel
theorem dG_takenFrom_22 : decode prog_5_method_20_code 22 = .ok (.if_icmp .ne 16, 3) := by decide +kernel
theorem dG_takenFrom_25 : decode prog_5_method_20_code 25 = .ok (.iload 4, 2) := by decide +kernel
theorem dG_takenFrom_27 : decode prog_5_method_20_code 27 = .ok (.iconst 1, 1) := by decide +kernel
theorem dG_takenFrom_28 : decode prog_5_method_20_code 28 = .ok (.lload_n 2, 1) := by decide +kernel
theorem dG_takenFrom_29 : decode prog_5_method_20_code 29 = .ok (.iload 5, 2) := by decide +kernel
theorem dG_takenFrom_31 : decode prog_5_method_20_code 31 = .ok (.invokestatic 72, 3) := by decide +kernel
theorem dG_takenFrom_34 : decode prog_5_method_20_code 34 = .ok (.ishl, 1) := by decide +kernel
theorem dG_takenFrom_35 : decode prog_5_method_20_code 35 = .ok (.ior, 1) := by decide +kernel
theorem dG_takenFrom_36 : decode prog_5_method_20_code 36 = .ok (.istore 4, 2) := by decide +kernel
theorem dG_takenFrom_38 : decode prog_5_method_20_code 38 = .ok (.iinc 5 1, 3) := by decide +kernel
theorem dG_takenFrom_41 : decode prog_5_method_20_code 41 = .ok (.goto (-35), 3) := by decide +kernel
theorem dG_takenFrom_44 : decode prog_5_method_20_code 44 = .ok (.iload 4, 2) := by decide +kernel
theorem dG_takenFrom_46 : decode prog_5_method_20_code 46 = .ok (.ireturn, 1) := by decide +kernel
theorem dA_fill_0 : decode prog_18_method_101_code 0 = .ok (.iconst 0, 1) := by decide +kernel
theorem dA_fill_1 : decode prog_18_method_101_code 1 = .ok (.istore_n 3, 1) := by decide +kernel
theorem dA_fill_2 : decode prog_18_method_101_code 2 = .ok (.aload_n 0, 1) := by decide +kernel
theorem dA_fill_3 : decode prog_18_method_101_code 3 = .ok (.arraylength, 1) := by decide +kernel
theorem dA_fill_4 : decode prog_18_method_101_code 4 = .ok (.istore 4, 2) := by decide +kernel
theorem dA_fill_6 : decode prog_18_method_101_code 6 = .ok (.iload_n 3, 1) := by decide +kernel
theorem dA_fill_7 : decode prog_18_method_101_code 7 = .ok (.iload 4, 2) := by decide +kernel
theorem dA_fill_9 : decode prog_18_method_101_code 9 = .ok (.if_icmp .ge 13, 3) := by decide +kernel
theorem dA_fill_12 : decode prog_18_method_101_code 12 = .ok (.aload_n 0, 1) := by decide +kernel
theorem dA_fill_13 : decode prog_18_method_101_code 13 = .ok (.iload_n 3, 1) := by decide +kernel
theorem dA_fill_14 : decode prog_18_method_101_code 14 = .ok (.lload_n 1, 1) := by decide +kernel
theorem dA_fill_15 : decode prog_18_method_101_code 15 = .ok (.lastore, 1) := by decide +kernel
theorem dA_fill_16 : decode prog_18_method_101_code 16 = .ok (.iinc 3 1, 3) := by decide +kernel
theorem dA_fill_19 : decode prog_18_method_101_code 19 = .ok (.goto (-13), 3) := by decide +kernel
theorem dA_fill_22 : decode prog_18_method_101_code 22 = .ok (.return_, 1) := by decide +kernel
