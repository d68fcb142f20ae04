/-! What stands at each place of the code, by program (wip/whole/gen/names.py). -/
theorem dL_cell_0 : decode method_2_code 0 = .ok (.iload_n 1, 1) := by decide +kernel
theorem dL_cell_1 : decode method_2_code 1 = .ok (.aload_n 0, 1) := by decide +kernel
theorem dL_cell_2 : decode method_2_code 2 = .ok (.arraylength, 1) := by decide +kernel
theorem dL_cell_3 : decode method_2_code 3 = .ok (.if_icmp .ge 9, 3) := by decide +kernel
theorem dL_cell_6 : decode method_2_code 6 = .ok (.aload_n 0, 1) := by decide +kernel
theorem dL_cell_7 : decode method_2_code 7 = .ok (.iload_n 1, 1) := by decide +kernel
theorem dL_cell_8 : decode method_2_code 8 = .ok (.iaload, 1) := by decide +kernel
theorem dL_cell_9 : decode method_2_code 9 = .ok (.goto 4, 3) := by decide +kernel
theorem dL_cell_12 : decode method_2_code 12 = .ok (.iconst 0, 1) := by decide +kernel
theorem dL_cell_13 : decode method_2_code 13 = .ok (.ireturn, 1) := by decide +kernel
theorem dL_value_0 : decode method_3_code 0 = .ok (.aload_n 2, 1) := by decide +kernel
theorem dL_value_1 : decode method_3_code 1 = .ok (.iconst 0, 1) := by decide +kernel
theorem dL_value_2 : decode method_3_code 2 = .ok (.aload_n 0, 1) := by decide +kernel
theorem dL_value_3 : decode method_3_code 3 = .ok (.iload_n 1, 1) := by decide +kernel
theorem dL_value_4 : decode method_3_code 4 = .ok (.invokevirtual 7, 3) := by decide +kernel
theorem dL_value_7 : decode method_3_code 7 = .ok (.i2l, 1) := by decide +kernel
theorem dL_value_8 : decode method_3_code 8 = .ok (.lastore, 1) := by decide +kernel
theorem dL_value_9 : decode method_3_code 9 = .ok (.goto 9, 3) := by decide +kernel
theorem dL_value_12 : decode method_3_code 12 = .ok (.astore_n 3, 1) := by decide +kernel
theorem dL_value_13 : decode method_3_code 13 = .ok (.iconst 1, 1) := by decide +kernel
theorem dL_value_14 : decode method_3_code 14 = .ok (.ireturn, 1) := by decide +kernel
theorem dL_value_15 : decode method_3_code 15 = .ok (.astore_n 3, 1) := by decide +kernel
theorem dL_value_16 : decode method_3_code 16 = .ok (.iconst 2, 1) := by decide +kernel
theorem dL_value_17 : decode method_3_code 17 = .ok (.ireturn, 1) := by decide +kernel
theorem dL_value_18 : decode method_3_code 18 = .ok (.iconst 0, 1) := by decide +kernel
theorem dL_value_19 : decode method_3_code 19 = .ok (.ireturn, 1) := by decide +kernel
theorem dL_generate_0 : decode method_4_code 0 = .ok (.aload_n 1, 1) := by decide +kernel
theorem dL_generate_1 : decode method_4_code 1 = .ok (.iconst 0, 1) := by decide +kernel
theorem dL_generate_2 : decode method_4_code 2 = .ok (.aload_n 0, 1) := by decide +kernel
theorem dL_generate_3 : decode method_4_code 3 = .ok (.invokevirtual 17, 3) := by decide +kernel
theorem dL_generate_6 : decode method_4_code 6 = .ok (.i2l, 1) := by decide +kernel
theorem dL_generate_7 : decode method_4_code 7 = .ok (.lastore, 1) := by decide +kernel
theorem dL_generate_8 : decode method_4_code 8 = .ok (.goto 9, 3) := by decide +kernel
theorem dL_generate_11 : decode method_4_code 11 = .ok (.astore_n 2, 1) := by decide +kernel
theorem dL_generate_12 : decode method_4_code 12 = .ok (.iconst 1, 1) := by decide +kernel
theorem dL_generate_13 : decode method_4_code 13 = .ok (.ireturn, 1) := by decide +kernel
theorem dL_generate_14 : decode method_4_code 14 = .ok (.astore_n 2, 1) := by decide +kernel
theorem dL_generate_15 : decode method_4_code 15 = .ok (.iconst 2, 1) := by decide +kernel
theorem dL_generate_16 : decode method_4_code 16 = .ok (.ireturn, 1) := by decide +kernel
theorem dL_generate_17 : decode method_4_code 17 = .ok (.iconst 0, 1) := by decide +kernel
theorem dL_generate_18 : decode method_4_code 18 = .ok (.ireturn, 1) := by decide +kernel
theorem dL_image_0 : decode method_5_code 0 = .ok (.aload_n 0, 1) := by decide +kernel
theorem dL_image_1 : decode method_5_code 1 = .ok (.iload_n 1, 1) := by decide +kernel
theorem dL_image_2 : decode method_5_code 2 = .ok (.invokevirtual 23, 3) := by decide +kernel
theorem dL_image_5 : decode method_5_code 5 = .ok (.goto 9, 3) := by decide +kernel
theorem dL_image_8 : decode method_5_code 8 = .ok (.astore_n 2, 1) := by decide +kernel
theorem dL_image_9 : decode method_5_code 9 = .ok (.iconst 1, 1) := by decide +kernel
theorem dL_image_10 : decode method_5_code 10 = .ok (.ireturn, 1) := by decide +kernel
theorem dL_image_11 : decode method_5_code 11 = .ok (.astore_n 2, 1) := by decide +kernel
theorem dL_image_12 : decode method_5_code 12 = .ok (.iconst 2, 1) := by decide +kernel
theorem dL_image_13 : decode method_5_code 13 = .ok (.ireturn, 1) := by decide +kernel
theorem dL_image_14 : decode method_5_code 14 = .ok (.iconst 0, 1) := by decide +kernel
theorem dL_image_15 : decode method_5_code 15 = .ok (.ireturn, 1) := by decide +kernel
theorem dL_extend_0 : decode method_6_code 0 = .ok (.aload_n 1, 1) := by decide +kernel
theorem dL_extend_1 : decode method_6_code 1 = .ok (.iconst 0, 1) := by decide +kernel
theorem dL_extend_2 : decode method_6_code 2 = .ok (.aload_n 0, 1) := by decide +kernel
theorem dL_extend_3 : decode method_6_code 3 = .ok (.invokevirtual 27, 3) := by decide +kernel
theorem dL_extend_6 : decode method_6_code 6 = .ok (.ifCond .eq 7, 3) := by decide +kernel
theorem dL_extend_9 : decode method_6_code 9 = .ok (.lconst 1, 1) := by decide +kernel
theorem dL_extend_10 : decode method_6_code 10 = .ok (.goto 4, 3) := by decide +kernel
theorem dL_extend_13 : decode method_6_code 13 = .ok (.lconst 0, 1) := by decide +kernel
theorem dL_extend_14 : decode method_6_code 14 = .ok (.lastore, 1) := by decide +kernel
theorem dL_extend_15 : decode method_6_code 15 = .ok (.goto 6, 3) := by decide +kernel
theorem dL_extend_18 : decode method_6_code 18 = .ok (.astore_n 2, 1) := by decide +kernel
theorem dL_extend_19 : decode method_6_code 19 = .ok (.iconst 1, 1) := by decide +kernel
theorem dL_extend_20 : decode method_6_code 20 = .ok (.ireturn, 1) := by decide +kernel
theorem dL_extend_21 : decode method_6_code 21 = .ok (.iconst 0, 1) := by decide +kernel
theorem dL_extend_22 : decode method_6_code 22 = .ok (.ireturn, 1) := by decide +kernel
theorem dL_kernel_0 : decode method_7_code 0 = .ok (.aload_n 2, 1) := by decide +kernel
theorem dL_kernel_1 : decode method_7_code 1 = .ok (.iconst 0, 1) := by decide +kernel
theorem dL_kernel_2 : decode method_7_code 2 = .ok (.aload_n 0, 1) := by decide +kernel
theorem dL_kernel_3 : decode method_7_code 3 = .ok (.iload_n 1, 1) := by decide +kernel
theorem dL_kernel_4 : decode method_7_code 4 = .ok (.invokevirtual 31, 3) := by decide +kernel
theorem dL_kernel_7 : decode method_7_code 7 = .ok (.i2l, 1) := by decide +kernel
theorem dL_kernel_8 : decode method_7_code 8 = .ok (.lastore, 1) := by decide +kernel
theorem dL_kernel_9 : decode method_7_code 9 = .ok (.goto 9, 3) := by decide +kernel
theorem dL_kernel_12 : decode method_7_code 12 = .ok (.astore_n 3, 1) := by decide +kernel
theorem dL_kernel_13 : decode method_7_code 13 = .ok (.iconst 1, 1) := by decide +kernel
theorem dL_kernel_14 : decode method_7_code 14 = .ok (.ireturn, 1) := by decide +kernel
theorem dL_kernel_15 : decode method_7_code 15 = .ok (.astore_n 3, 1) := by decide +kernel
theorem dL_kernel_16 : decode method_7_code 16 = .ok (.iconst 2, 1) := by decide +kernel
theorem dL_kernel_17 : decode method_7_code 17 = .ok (.ireturn, 1) := by decide +kernel
theorem dL_kernel_18 : decode method_7_code 18 = .ok (.iconst 0, 1) := by decide +kernel
theorem dL_kernel_19 : decode method_7_code 19 = .ok (.ireturn, 1) := by decide +kernel
theorem dL_images_0 : decode method_8_code 0 = .ok (.aload_n 2, 1) := by decide +kernel
theorem dL_images_1 : decode method_8_code 1 = .ok (.iconst 0, 1) := by decide +kernel
theorem dL_images_2 : decode method_8_code 2 = .ok (.aload_n 0, 1) := by decide +kernel
theorem dL_images_3 : decode method_8_code 3 = .ok (.iload_n 1, 1) := by decide +kernel
theorem dL_images_4 : decode method_8_code 4 = .ok (.invokevirtual 34, 3) := by decide +kernel
theorem dL_images_7 : decode method_8_code 7 = .ok (.i2l, 1) := by decide +kernel
theorem dL_images_8 : decode method_8_code 8 = .ok (.lastore, 1) := by decide +kernel
theorem dL_images_9 : decode method_8_code 9 = .ok (.goto 9, 3) := by decide +kernel
theorem dL_images_12 : decode method_8_code 12 = .ok (.astore_n 3, 1) := by decide +kernel
theorem dL_images_13 : decode method_8_code 13 = .ok (.iconst 1, 1) := by decide +kernel
theorem dL_images_14 : decode method_8_code 14 = .ok (.ireturn, 1) := by decide +kernel
theorem dL_images_15 : decode method_8_code 15 = .ok (.astore_n 3, 1) := by decide +kernel
theorem dL_images_16 : decode method_8_code 16 = .ok (.iconst 2, 1) := by decide +kernel
theorem dL_images_17 : decode method_8_code 17 = .ok (.ireturn, 1) := by decide +kernel
theorem dL_images_18 : decode method_8_code 18 = .ok (.iconst 0, 1) := by decide +kernel
theorem dL_images_19 : decode method_8_code 19 = .ok (.ireturn, 1) := by decide +kernel
theorem dL_stabiliser_0 : decode method_9_code 0 = .ok (.aload 5, 2) := by decide +kernel
theorem dL_stabiliser_2 : decode method_9_code 2 = .ok (.iconst 0, 1) := by decide +kernel
theorem dL_stabiliser_3 : decode method_9_code 3 = .ok (.aload_n 0, 1) := by decide +kernel
theorem dL_stabiliser_4 : decode method_9_code 4 = .ok (.iload_n 1, 1) := by decide +kernel
theorem dL_stabiliser_5 : decode method_9_code 5 = .ok (.iload_n 2, 1) := by decide +kernel
theorem dL_stabiliser_6 : decode method_9_code 6 = .ok (.iload_n 3, 1) := by decide +kernel
theorem dL_stabiliser_7 : decode method_9_code 7 = .ok (.iload 4, 2) := by decide +kernel
theorem dL_stabiliser_9 : decode method_9_code 9 = .ok (.invokevirtual 37, 3) := by decide +kernel
theorem dL_stabiliser_12 : decode method_9_code 12 = .ok (.i2l, 1) := by decide +kernel
theorem dL_stabiliser_13 : decode method_9_code 13 = .ok (.lastore, 1) := by decide +kernel
theorem dL_stabiliser_14 : decode method_9_code 14 = .ok (.goto 11, 3) := by decide +kernel
theorem dL_stabiliser_17 : decode method_9_code 17 = .ok (.astore 6, 2) := by decide +kernel
theorem dL_stabiliser_19 : decode method_9_code 19 = .ok (.iconst 1, 1) := by decide +kernel
theorem dL_stabiliser_20 : decode method_9_code 20 = .ok (.ireturn, 1) := by decide +kernel
theorem dL_stabiliser_21 : decode method_9_code 21 = .ok (.astore 6, 2) := by decide +kernel
theorem dL_stabiliser_23 : decode method_9_code 23 = .ok (.iconst 2, 1) := by decide +kernel
theorem dL_stabiliser_24 : decode method_9_code 24 = .ok (.ireturn, 1) := by decide +kernel
theorem dL_stabiliser_25 : decode method_9_code 25 = .ok (.iconst 0, 1) := by decide +kernel
theorem dL_stabiliser_26 : decode method_9_code 26 = .ok (.ireturn, 1) := by decide +kernel
theorem dL_centraliser_0 : decode method_10_code 0 = .ok (.aload_n 3, 1) := by decide +kernel
theorem dL_centraliser_1 : decode method_10_code 1 = .ok (.iconst 0, 1) := by decide +kernel
theorem dL_centraliser_2 : decode method_10_code 2 = .ok (.aload_n 0, 1) := by decide +kernel
theorem dL_centraliser_3 : decode method_10_code 3 = .ok (.iload_n 1, 1) := by decide +kernel
theorem dL_centraliser_4 : decode method_10_code 4 = .ok (.iload_n 2, 1) := by decide +kernel
theorem dL_centraliser_5 : decode method_10_code 5 = .ok (.invokevirtual 41, 3) := by decide +kernel
theorem dL_centraliser_8 : decode method_10_code 8 = .ok (.i2l, 1) := by decide +kernel
theorem dL_centraliser_9 : decode method_10_code 9 = .ok (.lastore, 1) := by decide +kernel
theorem dL_centraliser_10 : decode method_10_code 10 = .ok (.goto 11, 3) := by decide +kernel
theorem dL_centraliser_13 : decode method_10_code 13 = .ok (.astore 4, 2) := by decide +kernel
theorem dL_centraliser_15 : decode method_10_code 15 = .ok (.iconst 1, 1) := by decide +kernel
theorem dL_centraliser_16 : decode method_10_code 16 = .ok (.ireturn, 1) := by decide +kernel
theorem dL_centraliser_17 : decode method_10_code 17 = .ok (.astore 4, 2) := by decide +kernel
theorem dL_centraliser_19 : decode method_10_code 19 = .ok (.iconst 2, 1) := by decide +kernel
theorem dL_centraliser_20 : decode method_10_code 20 = .ok (.ireturn, 1) := by decide +kernel
theorem dL_centraliser_21 : decode method_10_code 21 = .ok (.iconst 0, 1) := by decide +kernel
theorem dL_centraliser_22 : decode method_10_code 22 = .ok (.ireturn, 1) := by decide +kernel
theorem dL_closure_0 : decode method_11_code 0 = .ok (.aload_n 3, 1) := by decide +kernel
theorem dL_closure_1 : decode method_11_code 1 = .ok (.iconst 0, 1) := by decide +kernel
theorem dL_closure_2 : decode method_11_code 2 = .ok (.aload_n 0, 1) := by decide +kernel
theorem dL_closure_3 : decode method_11_code 3 = .ok (.iload_n 1, 1) := by decide +kernel
theorem dL_closure_4 : decode method_11_code 4 = .ok (.iload_n 2, 1) := by decide +kernel
theorem dL_closure_5 : decode method_11_code 5 = .ok (.invokevirtual 45, 3) := by decide +kernel
theorem dL_closure_8 : decode method_11_code 8 = .ok (.i2l, 1) := by decide +kernel
theorem dL_closure_9 : decode method_11_code 9 = .ok (.lastore, 1) := by decide +kernel
theorem dL_closure_10 : decode method_11_code 10 = .ok (.goto 11, 3) := by decide +kernel
theorem dL_closure_13 : decode method_11_code 13 = .ok (.astore 4, 2) := by decide +kernel
theorem dL_closure_15 : decode method_11_code 15 = .ok (.iconst 1, 1) := by decide +kernel
theorem dL_closure_16 : decode method_11_code 16 = .ok (.ireturn, 1) := by decide +kernel
theorem dL_closure_17 : decode method_11_code 17 = .ok (.astore 4, 2) := by decide +kernel
theorem dL_closure_19 : decode method_11_code 19 = .ok (.iconst 2, 1) := by decide +kernel
theorem dL_closure_20 : decode method_11_code 20 = .ok (.ireturn, 1) := by decide +kernel
theorem dL_closure_21 : decode method_11_code 21 = .ok (.iconst 0, 1) := by decide +kernel
theorem dL_closure_22 : decode method_11_code 22 = .ok (.ireturn, 1) := by decide +kernel
theorem dL_derived_0 : decode method_12_code 0 = .ok (.aload_n 3, 1) := by decide +kernel
theorem dL_derived_1 : decode method_12_code 1 = .ok (.iconst 0, 1) := by decide +kernel
theorem dL_derived_2 : decode method_12_code 2 = .ok (.aload_n 0, 1) := by decide +kernel
theorem dL_derived_3 : decode method_12_code 3 = .ok (.iload_n 1, 1) := by decide +kernel
theorem dL_derived_4 : decode method_12_code 4 = .ok (.iload_n 2, 1) := by decide +kernel
theorem dL_derived_5 : decode method_12_code 5 = .ok (.invokevirtual 48, 3) := by decide +kernel
theorem dL_derived_8 : decode method_12_code 8 = .ok (.i2l, 1) := by decide +kernel
theorem dL_derived_9 : decode method_12_code 9 = .ok (.lastore, 1) := by decide +kernel
theorem dL_derived_10 : decode method_12_code 10 = .ok (.goto 7, 3) := by decide +kernel
theorem dL_derived_13 : decode method_12_code 13 = .ok (.astore 4, 2) := by decide +kernel
theorem dL_derived_15 : decode method_12_code 15 = .ok (.iconst 1, 1) := by decide +kernel
theorem dL_derived_16 : decode method_12_code 16 = .ok (.ireturn, 1) := by decide +kernel
theorem dL_derived_17 : decode method_12_code 17 = .ok (.iconst 0, 1) := by decide +kernel
theorem dL_derived_18 : decode method_12_code 18 = .ok (.ireturn, 1) := by decide +kernel
theorem dL_order_0 : decode method_13_code 0 = .ok (.aload_n 2, 1) := by decide +kernel
theorem dL_order_1 : decode method_13_code 1 = .ok (.iconst 0, 1) := by decide +kernel
theorem dL_order_2 : decode method_13_code 2 = .ok (.aload_n 0, 1) := by decide +kernel
theorem dL_order_3 : decode method_13_code 3 = .ok (.iload_n 1, 1) := by decide +kernel
theorem dL_order_4 : decode method_13_code 4 = .ok (.invokevirtual 51, 3) := by decide +kernel
theorem dL_order_7 : decode method_13_code 7 = .ok (.i2l, 1) := by decide +kernel
theorem dL_order_8 : decode method_13_code 8 = .ok (.lastore, 1) := by decide +kernel
theorem dL_order_9 : decode method_13_code 9 = .ok (.goto 6, 3) := by decide +kernel
theorem dL_order_12 : decode method_13_code 12 = .ok (.astore_n 3, 1) := by decide +kernel
theorem dL_order_13 : decode method_13_code 13 = .ok (.iconst 1, 1) := by decide +kernel
theorem dL_order_14 : decode method_13_code 14 = .ok (.ireturn, 1) := by decide +kernel
theorem dL_order_15 : decode method_13_code 15 = .ok (.iconst 0, 1) := by decide +kernel
theorem dL_order_16 : decode method_13_code 16 = .ok (.ireturn, 1) := by decide +kernel
theorem dL_rank_0 : decode method_14_code 0 = .ok (.aload_n 2, 1) := by decide +kernel
theorem dL_rank_1 : decode method_14_code 1 = .ok (.iconst 0, 1) := by decide +kernel
theorem dL_rank_2 : decode method_14_code 2 = .ok (.aload_n 0, 1) := by decide +kernel
theorem dL_rank_3 : decode method_14_code 3 = .ok (.iload_n 1, 1) := by decide +kernel
theorem dL_rank_4 : decode method_14_code 4 = .ok (.invokevirtual 54, 3) := by decide +kernel
theorem dL_rank_7 : decode method_14_code 7 = .ok (.i2l, 1) := by decide +kernel
theorem dL_rank_8 : decode method_14_code 8 = .ok (.lastore, 1) := by decide +kernel
theorem dL_rank_9 : decode method_14_code 9 = .ok (.goto 9, 3) := by decide +kernel
theorem dL_rank_12 : decode method_14_code 12 = .ok (.astore_n 3, 1) := by decide +kernel
theorem dL_rank_13 : decode method_14_code 13 = .ok (.iconst 1, 1) := by decide +kernel
theorem dL_rank_14 : decode method_14_code 14 = .ok (.ireturn, 1) := by decide +kernel
theorem dL_rank_15 : decode method_14_code 15 = .ok (.astore_n 3, 1) := by decide +kernel
theorem dL_rank_16 : decode method_14_code 16 = .ok (.iconst 2, 1) := by decide +kernel
theorem dL_rank_17 : decode method_14_code 17 = .ok (.ireturn, 1) := by decide +kernel
theorem dL_rank_18 : decode method_14_code 18 = .ok (.iconst 0, 1) := by decide +kernel
theorem dL_rank_19 : decode method_14_code 19 = .ok (.ireturn, 1) := by decide +kernel
theorem dL_element_0 : decode method_15_code 0 = .ok (.aload 4, 2) := by decide +kernel
theorem dL_element_2 : decode method_15_code 2 = .ok (.iconst 0, 1) := by decide +kernel
theorem dL_element_3 : decode method_15_code 3 = .ok (.aload_n 0, 1) := by decide +kernel
theorem dL_element_4 : decode method_15_code 4 = .ok (.iload_n 1, 1) := by decide +kernel
theorem dL_element_5 : decode method_15_code 5 = .ok (.iload_n 2, 1) := by decide +kernel
theorem dL_element_6 : decode method_15_code 6 = .ok (.iload_n 3, 1) := by decide +kernel
theorem dL_element_7 : decode method_15_code 7 = .ok (.invokevirtual 57, 3) := by decide +kernel
theorem dL_element_10 : decode method_15_code 10 = .ok (.i2l, 1) := by decide +kernel
theorem dL_element_11 : decode method_15_code 11 = .ok (.lastore, 1) := by decide +kernel
theorem dL_element_12 : decode method_15_code 12 = .ok (.goto 7, 3) := by decide +kernel
theorem dL_element_15 : decode method_15_code 15 = .ok (.astore 5, 2) := by decide +kernel
theorem dL_element_17 : decode method_15_code 17 = .ok (.iconst 1, 1) := by decide +kernel
theorem dL_element_18 : decode method_15_code 18 = .ok (.ireturn, 1) := by decide +kernel
theorem dL_element_19 : decode method_15_code 19 = .ok (.iconst 0, 1) := by decide +kernel
theorem dL_element_20 : decode method_15_code 20 = .ok (.ireturn, 1) := by decide +kernel
theorem dL_orbit_0 : decode method_16_code 0 = .ok (.aload_n 3, 1) := by decide +kernel
theorem dL_orbit_1 : decode method_16_code 1 = .ok (.iconst 0, 1) := by decide +kernel
theorem dL_orbit_2 : decode method_16_code 2 = .ok (.aload_n 0, 1) := by decide +kernel
theorem dL_orbit_3 : decode method_16_code 3 = .ok (.iload_n 1, 1) := by decide +kernel
theorem dL_orbit_4 : decode method_16_code 4 = .ok (.iload_n 2, 1) := by decide +kernel
theorem dL_orbit_5 : decode method_16_code 5 = .ok (.invokevirtual 61, 3) := by decide +kernel
theorem dL_orbit_8 : decode method_16_code 8 = .ok (.i2l, 1) := by decide +kernel
theorem dL_orbit_9 : decode method_16_code 9 = .ok (.lastore, 1) := by decide +kernel
theorem dL_orbit_10 : decode method_16_code 10 = .ok (.goto 7, 3) := by decide +kernel
theorem dL_orbit_13 : decode method_16_code 13 = .ok (.astore 4, 2) := by decide +kernel
theorem dL_orbit_15 : decode method_16_code 15 = .ok (.iconst 1, 1) := by decide +kernel
theorem dL_orbit_16 : decode method_16_code 16 = .ok (.ireturn, 1) := by decide +kernel
theorem dL_orbit_17 : decode method_16_code 17 = .ok (.iconst 0, 1) := by decide +kernel
theorem dL_orbit_18 : decode method_16_code 18 = .ok (.ireturn, 1) := by decide +kernel
theorem dL_law_0 : decode code 0 = .ok (.new 8, 3) := by decide +kernel
theorem dL_law_3 : decode code 3 = .ok (.dup, 1) := by decide +kernel
theorem dL_law_4 : decode code 4 = .ok (.aload_n 0, 1) := by decide +kernel
theorem dL_law_5 : decode code 5 = .ok (.iconst 0, 1) := by decide +kernel
theorem dL_law_6 : decode code 6 = .ok (.invokestatic 64, 3) := by decide +kernel
theorem dL_law_9 : decode code 9 = .ok (.invokespecial 70, 3) := by decide +kernel
theorem dL_law_12 : decode code 12 = .ok (.astore_n 1, 1) := by decide +kernel
theorem dL_law_13 : decode code 13 = .ok (.new 72, 3) := by decide +kernel
theorem dL_law_16 : decode code 16 = .ok (.dup, 1) := by decide +kernel
theorem dL_law_17 : decode code 17 = .ok (.aload_n 0, 1) := by decide +kernel
theorem dL_law_18 : decode code 18 = .ok (.iconst 0, 1) := by decide +kernel
theorem dL_law_19 : decode code 19 = .ok (.invokestatic 64, 3) := by decide +kernel
theorem dL_law_22 : decode code 22 = .ok (.invokespecial 74, 3) := by decide +kernel
theorem dL_law_25 : decode code 25 = .ok (.astore_n 2, 1) := by decide +kernel
theorem dL_law_26 : decode code 26 = .ok (.iconst 1, 1) := by decide +kernel
theorem dL_law_27 : decode code 27 = .ok (.newarray .long, 2) := by decide +kernel
theorem dL_law_29 : decode code 29 = .ok (.astore_n 3, 1) := by decide +kernel
theorem dL_law_30 : decode code 30 = .ok (.iconst 1, 1) := by decide +kernel
theorem dL_law_31 : decode code 31 = .ok (.istore 4, 2) := by decide +kernel
theorem dL_law_33 : decode code 33 = .ok (.iload 4, 2) := by decide +kernel
theorem dL_law_35 : decode code 35 = .ok (.aload_n 0, 1) := by decide +kernel
theorem dL_law_36 : decode code 36 = .ok (.arraylength, 1) := by decide +kernel
theorem dL_law_37 : decode code 37 = .ok (.iconst 5, 1) := by decide +kernel
theorem dL_law_38 : decode code 38 = .ok (.isub, 1) := by decide +kernel
theorem dL_law_39 : decode code 39 = .ok (.if_icmp .gt 1019, 3) := by decide +kernel
theorem dL_law_42 : decode code 42 = .ok (.aload_n 0, 1) := by decide +kernel
theorem dL_law_43 : decode code 43 = .ok (.iload 4, 2) := by decide +kernel
theorem dL_law_45 : decode code 45 = .ok (.iaload, 1) := by decide +kernel
theorem dL_law_46 : decode code 46 = .ok (.bipush 31, 2) := by decide +kernel
theorem dL_law_48 : decode code 48 = .ok (.iand, 1) := by decide +kernel
theorem dL_law_49 : decode code 49 = .ok (.tableswitch 1003 0 16 #[83, 110, 121, 177, 221, 232, 268, 319, 375, 431, 539, 607, 675, 743, 799, 855, 935], 83) := by decide +kernel
theorem dL_law_132 : decode code 132 = .ok (.aload_n 1, 1) := by decide +kernel
theorem dL_law_133 : decode code 133 = .ok (.aload_n 0, 1) := by decide +kernel
theorem dL_law_134 : decode code 134 = .ok (.iload 4, 2) := by decide +kernel
theorem dL_law_136 : decode code 136 = .ok (.iconst 1, 1) := by decide +kernel
theorem dL_law_137 : decode code 137 = .ok (.iadd, 1) := by decide +kernel
theorem dL_law_138 : decode code 138 = .ok (.iaload, 1) := by decide +kernel
theorem dL_law_139 : decode code 139 = .ok (.i2c, 1) := by decide +kernel
theorem dL_law_140 : decode code 140 = .ok (.invokevirtual 75, 3) := by decide +kernel
theorem dL_law_143 : decode code 143 = .ok (.aload_n 2, 1) := by decide +kernel
theorem dL_law_144 : decode code 144 = .ok (.aload_n 0, 1) := by decide +kernel
theorem dL_law_145 : decode code 145 = .ok (.iload 4, 2) := by decide +kernel
theorem dL_law_147 : decode code 147 = .ok (.iconst 1, 1) := by decide +kernel
theorem dL_law_148 : decode code 148 = .ok (.iadd, 1) := by decide +kernel
theorem dL_law_149 : decode code 149 = .ok (.iaload, 1) := by decide +kernel
theorem dL_law_150 : decode code 150 = .ok (.i2c, 1) := by decide +kernel
theorem dL_law_151 : decode code 151 = .ok (.invokevirtual 79, 3) := by decide +kernel
theorem dL_law_154 : decode code 154 = .ok (.if_icmp .eq 898, 3) := by decide +kernel
theorem dL_law_157 : decode code 157 = .ok (.iconst 0, 1) := by decide +kernel
theorem dL_law_158 : decode code 158 = .ok (.ireturn, 1) := by decide +kernel
theorem dL_law_159 : decode code 159 = .ok (.aload_n 1, 1) := by decide +kernel
theorem dL_law_160 : decode code 160 = .ok (.invokevirtual 80, 3) := by decide +kernel
theorem dL_law_163 : decode code 163 = .ok (.aload_n 2, 1) := by decide +kernel
theorem dL_law_164 : decode code 164 = .ok (.invokevirtual 83, 3) := by decide +kernel
theorem dL_law_167 : decode code 167 = .ok (.goto 885, 3) := by decide +kernel
theorem dL_law_170 : decode code 170 = .ok (.aload_n 1, 1) := by decide +kernel
theorem dL_law_171 : decode code 171 = .ok (.aload_n 0, 1) := by decide +kernel
theorem dL_law_172 : decode code 172 = .ok (.iload 4, 2) := by decide +kernel
theorem dL_law_174 : decode code 174 = .ok (.iconst 1, 1) := by decide +kernel
theorem dL_law_175 : decode code 175 = .ok (.iadd, 1) := by decide +kernel
theorem dL_law_176 : decode code 176 = .ok (.iaload, 1) := by decide +kernel
theorem dL_law_177 : decode code 177 = .ok (.aload_n 3, 1) := by decide +kernel
theorem dL_law_178 : decode code 178 = .ok (.invokestatic 84, 3) := by decide +kernel
theorem dL_law_181 : decode code 181 = .ok (.istore 5, 2) := by decide +kernel
theorem dL_law_183 : decode code 183 = .ok (.aload_n 2, 1) := by decide +kernel
theorem dL_law_184 : decode code 184 = .ok (.aload_n 0, 1) := by decide +kernel
theorem dL_law_185 : decode code 185 = .ok (.iload 4, 2) := by decide +kernel
theorem dL_law_187 : decode code 187 = .ok (.iconst 1, 1) := by decide +kernel
theorem dL_law_188 : decode code 188 = .ok (.iadd, 1) := by decide +kernel
theorem dL_law_189 : decode code 189 = .ok (.iaload, 1) := by decide +kernel
theorem dL_law_190 : decode code 190 = .ok (.invokevirtual 87, 3) := by decide +kernel
theorem dL_law_193 : decode code 193 = .ok (.istore 6, 2) := by decide +kernel
theorem dL_law_195 : decode code 195 = .ok (.aload_n 2, 1) := by decide +kernel
theorem dL_law_196 : decode code 196 = .ok (.invokevirtual 88, 3) := by decide +kernel
theorem dL_law_199 : decode code 199 = .ok (.iload 5, 2) := by decide +kernel
theorem dL_law_201 : decode code 201 = .ok (.if_icmp .eq 5, 3) := by decide +kernel
theorem dL_law_204 : decode code 204 = .ok (.iconst 0, 1) := by decide +kernel
theorem dL_law_205 : decode code 205 = .ok (.ireturn, 1) := by decide +kernel
theorem dL_law_206 : decode code 206 = .ok (.iload 5, 2) := by decide +kernel
theorem dL_law_208 : decode code 208 = .ok (.ifCond .ne 15, 3) := by decide +kernel
theorem dL_law_211 : decode code 211 = .ok (.aload_n 3, 1) := by decide +kernel
theorem dL_law_212 : decode code 212 = .ok (.iconst 0, 1) := by decide +kernel
theorem dL_law_213 : decode code 213 = .ok (.laload, 1) := by decide +kernel
theorem dL_law_214 : decode code 214 = .ok (.iload 6, 2) := by decide +kernel
theorem dL_law_216 : decode code 216 = .ok (.i2l, 1) := by decide +kernel
theorem dL_law_217 : decode code 217 = .ok (.lcmp, 1) := by decide +kernel
theorem dL_law_218 : decode code 218 = .ok (.ifCond .eq 5, 3) := by decide +kernel
theorem dL_law_221 : decode code 221 = .ok (.iconst 0, 1) := by decide +kernel
theorem dL_law_222 : decode code 222 = .ok (.ireturn, 1) := by decide +kernel
theorem dL_law_223 : decode code 223 = .ok (.goto 829, 3) := by decide +kernel
theorem dL_law_226 : decode code 226 = .ok (.aload_n 1, 1) := by decide +kernel
theorem dL_law_227 : decode code 227 = .ok (.aload_n 3, 1) := by decide +kernel
theorem dL_law_228 : decode code 228 = .ok (.invokestatic 91, 3) := by decide +kernel
theorem dL_law_231 : decode code 231 = .ok (.istore 5, 2) := by decide +kernel
theorem dL_law_233 : decode code 233 = .ok (.aload_n 2, 1) := by decide +kernel
theorem dL_law_234 : decode code 234 = .ok (.invokevirtual 94, 3) := by decide +kernel
theorem dL_law_237 : decode code 237 = .ok (.istore 6, 2) := by decide +kernel
theorem dL_law_239 : decode code 239 = .ok (.aload_n 2, 1) := by decide +kernel
theorem dL_law_240 : decode code 240 = .ok (.invokevirtual 88, 3) := by decide +kernel
theorem dL_law_243 : decode code 243 = .ok (.iload 5, 2) := by decide +kernel
theorem dL_law_245 : decode code 245 = .ok (.if_icmp .eq 5, 3) := by decide +kernel
theorem dL_law_248 : decode code 248 = .ok (.iconst 0, 1) := by decide +kernel
theorem dL_law_249 : decode code 249 = .ok (.ireturn, 1) := by decide +kernel
theorem dL_law_250 : decode code 250 = .ok (.iload 5, 2) := by decide +kernel
theorem dL_law_252 : decode code 252 = .ok (.ifCond .ne 15, 3) := by decide +kernel
theorem dL_law_255 : decode code 255 = .ok (.aload_n 3, 1) := by decide +kernel
theorem dL_law_256 : decode code 256 = .ok (.iconst 0, 1) := by decide +kernel
theorem dL_law_257 : decode code 257 = .ok (.laload, 1) := by decide +kernel
theorem dL_law_258 : decode code 258 = .ok (.iload 6, 2) := by decide +kernel
theorem dL_law_260 : decode code 260 = .ok (.i2l, 1) := by decide +kernel
theorem dL_law_261 : decode code 261 = .ok (.lcmp, 1) := by decide +kernel
theorem dL_law_262 : decode code 262 = .ok (.ifCond .eq 5, 3) := by decide +kernel
theorem dL_law_265 : decode code 265 = .ok (.iconst 0, 1) := by decide +kernel
theorem dL_law_266 : decode code 266 = .ok (.ireturn, 1) := by decide +kernel
theorem dL_law_267 : decode code 267 = .ok (.goto 785, 3) := by decide +kernel
theorem dL_law_270 : decode code 270 = .ok (.aload_n 1, 1) := by decide +kernel
theorem dL_law_271 : decode code 271 = .ok (.invokevirtual 95, 3) := by decide +kernel
theorem dL_law_274 : decode code 274 = .ok (.aload_n 2, 1) := by decide +kernel
theorem dL_law_275 : decode code 275 = .ok (.invokevirtual 98, 3) := by decide +kernel
theorem dL_law_278 : decode code 278 = .ok (.goto 774, 3) := by decide +kernel
theorem dL_law_281 : decode code 281 = .ok (.aload_n 1, 1) := by decide +kernel
theorem dL_law_282 : decode code 282 = .ok (.aload_n 0, 1) := by decide +kernel
theorem dL_law_283 : decode code 283 = .ok (.iload 4, 2) := by decide +kernel
theorem dL_law_285 : decode code 285 = .ok (.iconst 1, 1) := by decide +kernel
theorem dL_law_286 : decode code 286 = .ok (.iadd, 1) := by decide +kernel
theorem dL_law_287 : decode code 287 = .ok (.iaload, 1) := by decide +kernel
theorem dL_law_288 : decode code 288 = .ok (.invokestatic 99, 3) := by decide +kernel
theorem dL_law_291 : decode code 291 = .ok (.istore 5, 2) := by decide +kernel
theorem dL_law_293 : decode code 293 = .ok (.aload_n 2, 1) := by decide +kernel
theorem dL_law_294 : decode code 294 = .ok (.aload_n 0, 1) := by decide +kernel
theorem dL_law_295 : decode code 295 = .ok (.iload 4, 2) := by decide +kernel
theorem dL_law_297 : decode code 297 = .ok (.iconst 1, 1) := by decide +kernel
theorem dL_law_298 : decode code 298 = .ok (.iadd, 1) := by decide +kernel
theorem dL_law_299 : decode code 299 = .ok (.iaload, 1) := by decide +kernel
theorem dL_law_300 : decode code 300 = .ok (.invokevirtual 102, 3) := by decide +kernel
theorem dL_law_303 : decode code 303 = .ok (.aload_n 2, 1) := by decide +kernel
theorem dL_law_304 : decode code 304 = .ok (.invokevirtual 88, 3) := by decide +kernel
theorem dL_law_307 : decode code 307 = .ok (.iload 5, 2) := by decide +kernel
theorem dL_law_309 : decode code 309 = .ok (.if_icmp .eq 5, 3) := by decide +kernel
theorem dL_law_312 : decode code 312 = .ok (.iconst 0, 1) := by decide +kernel
theorem dL_law_313 : decode code 313 = .ok (.ireturn, 1) := by decide +kernel
theorem dL_law_314 : decode code 314 = .ok (.goto 738, 3) := by decide +kernel
theorem dL_law_317 : decode code 317 = .ok (.aload_n 1, 1) := by decide +kernel
theorem dL_law_318 : decode code 318 = .ok (.aload_n 3, 1) := by decide +kernel
theorem dL_law_319 : decode code 319 = .ok (.invokestatic 103, 3) := by decide +kernel
theorem dL_law_322 : decode code 322 = .ok (.istore 5, 2) := by decide +kernel
theorem dL_law_324 : decode code 324 = .ok (.aload_n 2, 1) := by decide +kernel
theorem dL_law_325 : decode code 325 = .ok (.invokevirtual 105, 3) := by decide +kernel
theorem dL_law_328 : decode code 328 = .ok (.istore 6, 2) := by decide +kernel
theorem dL_law_330 : decode code 330 = .ok (.aload_n 2, 1) := by decide +kernel
theorem dL_law_331 : decode code 331 = .ok (.invokevirtual 88, 3) := by decide +kernel
theorem dL_law_334 : decode code 334 = .ok (.iload 5, 2) := by decide +kernel
theorem dL_law_336 : decode code 336 = .ok (.if_icmp .eq 5, 3) := by decide +kernel
theorem dL_law_339 : decode code 339 = .ok (.iconst 0, 1) := by decide +kernel
theorem dL_law_340 : decode code 340 = .ok (.ireturn, 1) := by decide +kernel
theorem dL_law_341 : decode code 341 = .ok (.iload 5, 2) := by decide +kernel
theorem dL_law_343 : decode code 343 = .ok (.ifCond .ne 22, 3) := by decide +kernel
theorem dL_law_346 : decode code 346 = .ok (.aload_n 3, 1) := by decide +kernel
theorem dL_law_347 : decode code 347 = .ok (.iconst 0, 1) := by decide +kernel
theorem dL_law_348 : decode code 348 = .ok (.laload, 1) := by decide +kernel
theorem dL_law_349 : decode code 349 = .ok (.iload 6, 2) := by decide +kernel
theorem dL_law_351 : decode code 351 = .ok (.ifCond .eq 7, 3) := by decide +kernel
theorem dL_law_354 : decode code 354 = .ok (.lconst 1, 1) := by decide +kernel
theorem dL_law_355 : decode code 355 = .ok (.goto 4, 3) := by decide +kernel
theorem dL_law_358 : decode code 358 = .ok (.lconst 0, 1) := by decide +kernel
theorem dL_law_359 : decode code 359 = .ok (.lcmp, 1) := by decide +kernel
theorem dL_law_360 : decode code 360 = .ok (.ifCond .eq 5, 3) := by decide +kernel
theorem dL_law_363 : decode code 363 = .ok (.iconst 0, 1) := by decide +kernel
theorem dL_law_364 : decode code 364 = .ok (.ireturn, 1) := by decide +kernel
theorem dL_law_365 : decode code 365 = .ok (.goto 687, 3) := by decide +kernel
theorem dL_law_368 : decode code 368 = .ok (.aload_n 1, 1) := by decide +kernel
theorem dL_law_369 : decode code 369 = .ok (.aload_n 0, 1) := by decide +kernel
theorem dL_law_370 : decode code 370 = .ok (.iload 4, 2) := by decide +kernel
theorem dL_law_372 : decode code 372 = .ok (.iconst 1, 1) := by decide +kernel
theorem dL_law_373 : decode code 373 = .ok (.iadd, 1) := by decide +kernel
theorem dL_law_374 : decode code 374 = .ok (.iaload, 1) := by decide +kernel
theorem dL_law_375 : decode code 375 = .ok (.aload_n 3, 1) := by decide +kernel
theorem dL_law_376 : decode code 376 = .ok (.invokestatic 106, 3) := by decide +kernel
theorem dL_law_379 : decode code 379 = .ok (.istore 5, 2) := by decide +kernel
theorem dL_law_381 : decode code 381 = .ok (.aload_n 2, 1) := by decide +kernel
theorem dL_law_382 : decode code 382 = .ok (.aload_n 0, 1) := by decide +kernel
theorem dL_law_383 : decode code 383 = .ok (.iload 4, 2) := by decide +kernel
theorem dL_law_385 : decode code 385 = .ok (.iconst 1, 1) := by decide +kernel
theorem dL_law_386 : decode code 386 = .ok (.iadd, 1) := by decide +kernel
theorem dL_law_387 : decode code 387 = .ok (.iaload, 1) := by decide +kernel
theorem dL_law_388 : decode code 388 = .ok (.invokevirtual 108, 3) := by decide +kernel
theorem dL_law_391 : decode code 391 = .ok (.istore 6, 2) := by decide +kernel
theorem dL_law_393 : decode code 393 = .ok (.aload_n 2, 1) := by decide +kernel
theorem dL_law_394 : decode code 394 = .ok (.invokevirtual 88, 3) := by decide +kernel
theorem dL_law_397 : decode code 397 = .ok (.iload 5, 2) := by decide +kernel
theorem dL_law_399 : decode code 399 = .ok (.if_icmp .eq 5, 3) := by decide +kernel
theorem dL_law_402 : decode code 402 = .ok (.iconst 0, 1) := by decide +kernel
theorem dL_law_403 : decode code 403 = .ok (.ireturn, 1) := by decide +kernel
theorem dL_law_404 : decode code 404 = .ok (.iload 5, 2) := by decide +kernel
theorem dL_law_406 : decode code 406 = .ok (.ifCond .ne 15, 3) := by decide +kernel
theorem dL_law_409 : decode code 409 = .ok (.aload_n 3, 1) := by decide +kernel
theorem dL_law_410 : decode code 410 = .ok (.iconst 0, 1) := by decide +kernel
theorem dL_law_411 : decode code 411 = .ok (.laload, 1) := by decide +kernel
theorem dL_law_412 : decode code 412 = .ok (.iload 6, 2) := by decide +kernel
theorem dL_law_414 : decode code 414 = .ok (.i2l, 1) := by decide +kernel
theorem dL_law_415 : decode code 415 = .ok (.lcmp, 1) := by decide +kernel
theorem dL_law_416 : decode code 416 = .ok (.ifCond .eq 5, 3) := by decide +kernel
theorem dL_law_419 : decode code 419 = .ok (.iconst 0, 1) := by decide +kernel
theorem dL_law_420 : decode code 420 = .ok (.ireturn, 1) := by decide +kernel
theorem dL_law_421 : decode code 421 = .ok (.goto 631, 3) := by decide +kernel
theorem dL_law_424 : decode code 424 = .ok (.aload_n 1, 1) := by decide +kernel
theorem dL_law_425 : decode code 425 = .ok (.aload_n 0, 1) := by decide +kernel
theorem dL_law_426 : decode code 426 = .ok (.iload 4, 2) := by decide +kernel
theorem dL_law_428 : decode code 428 = .ok (.iconst 1, 1) := by decide +kernel
theorem dL_law_429 : decode code 429 = .ok (.iadd, 1) := by decide +kernel
theorem dL_law_430 : decode code 430 = .ok (.iaload, 1) := by decide +kernel
theorem dL_law_431 : decode code 431 = .ok (.aload_n 3, 1) := by decide +kernel
theorem dL_law_432 : decode code 432 = .ok (.invokestatic 109, 3) := by decide +kernel
theorem dL_law_435 : decode code 435 = .ok (.istore 5, 2) := by decide +kernel
theorem dL_law_437 : decode code 437 = .ok (.aload_n 2, 1) := by decide +kernel
theorem dL_law_438 : decode code 438 = .ok (.aload_n 0, 1) := by decide +kernel
theorem dL_law_439 : decode code 439 = .ok (.iload 4, 2) := by decide +kernel
theorem dL_law_441 : decode code 441 = .ok (.iconst 1, 1) := by decide +kernel
theorem dL_law_442 : decode code 442 = .ok (.iadd, 1) := by decide +kernel
theorem dL_law_443 : decode code 443 = .ok (.iaload, 1) := by decide +kernel
theorem dL_law_444 : decode code 444 = .ok (.invokevirtual 111, 3) := by decide +kernel
theorem dL_law_447 : decode code 447 = .ok (.istore 6, 2) := by decide +kernel
theorem dL_law_449 : decode code 449 = .ok (.aload_n 2, 1) := by decide +kernel
theorem dL_law_450 : decode code 450 = .ok (.invokevirtual 88, 3) := by decide +kernel
theorem dL_law_453 : decode code 453 = .ok (.iload 5, 2) := by decide +kernel
theorem dL_law_455 : decode code 455 = .ok (.if_icmp .eq 5, 3) := by decide +kernel
theorem dL_law_458 : decode code 458 = .ok (.iconst 0, 1) := by decide +kernel
theorem dL_law_459 : decode code 459 = .ok (.ireturn, 1) := by decide +kernel
theorem dL_law_460 : decode code 460 = .ok (.iload 5, 2) := by decide +kernel
theorem dL_law_462 : decode code 462 = .ok (.ifCond .ne 15, 3) := by decide +kernel
theorem dL_law_465 : decode code 465 = .ok (.aload_n 3, 1) := by decide +kernel
theorem dL_law_466 : decode code 466 = .ok (.iconst 0, 1) := by decide +kernel
theorem dL_law_467 : decode code 467 = .ok (.laload, 1) := by decide +kernel
theorem dL_law_468 : decode code 468 = .ok (.iload 6, 2) := by decide +kernel
theorem dL_law_470 : decode code 470 = .ok (.i2l, 1) := by decide +kernel
theorem dL_law_471 : decode code 471 = .ok (.lcmp, 1) := by decide +kernel
theorem dL_law_472 : decode code 472 = .ok (.ifCond .eq 5, 3) := by decide +kernel
theorem dL_law_475 : decode code 475 = .ok (.iconst 0, 1) := by decide +kernel
theorem dL_law_476 : decode code 476 = .ok (.ireturn, 1) := by decide +kernel
theorem dL_law_477 : decode code 477 = .ok (.goto 575, 3) := by decide +kernel
theorem dL_law_480 : decode code 480 = .ok (.aload_n 1, 1) := by decide +kernel
theorem dL_law_481 : decode code 481 = .ok (.aload_n 0, 1) := by decide +kernel
theorem dL_law_482 : decode code 482 = .ok (.iload 4, 2) := by decide +kernel
theorem dL_law_484 : decode code 484 = .ok (.iconst 1, 1) := by decide +kernel
theorem dL_law_485 : decode code 485 = .ok (.iadd, 1) := by decide +kernel
theorem dL_law_486 : decode code 486 = .ok (.iaload, 1) := by decide +kernel
theorem dL_law_487 : decode code 487 = .ok (.aload_n 0, 1) := by decide +kernel
theorem dL_law_488 : decode code 488 = .ok (.iload 4, 2) := by decide +kernel
theorem dL_law_490 : decode code 490 = .ok (.iconst 2, 1) := by decide +kernel
theorem dL_law_491 : decode code 491 = .ok (.iadd, 1) := by decide +kernel
theorem dL_law_492 : decode code 492 = .ok (.iaload, 1) := by decide +kernel
theorem dL_law_493 : decode code 493 = .ok (.aload_n 0, 1) := by decide +kernel
theorem dL_law_494 : decode code 494 = .ok (.iload 4, 2) := by decide +kernel
theorem dL_law_496 : decode code 496 = .ok (.iconst 3, 1) := by decide +kernel
theorem dL_law_497 : decode code 497 = .ok (.iadd, 1) := by decide +kernel
theorem dL_law_498 : decode code 498 = .ok (.iaload, 1) := by decide +kernel
theorem dL_law_499 : decode code 499 = .ok (.ifCond .eq 7, 3) := by decide +kernel
theorem dL_law_502 : decode code 502 = .ok (.iconst 1, 1) := by decide +kernel
theorem dL_law_503 : decode code 503 = .ok (.goto 4, 3) := by decide +kernel
theorem dL_law_506 : decode code 506 = .ok (.iconst 0, 1) := by decide +kernel
theorem dL_law_507 : decode code 507 = .ok (.aload_n 0, 1) := by decide +kernel
theorem dL_law_508 : decode code 508 = .ok (.iload 4, 2) := by decide +kernel
theorem dL_law_510 : decode code 510 = .ok (.iconst 4, 1) := by decide +kernel
theorem dL_law_511 : decode code 511 = .ok (.iadd, 1) := by decide +kernel
theorem dL_law_512 : decode code 512 = .ok (.iaload, 1) := by decide +kernel
theorem dL_law_513 : decode code 513 = .ok (.aload_n 3, 1) := by decide +kernel
theorem dL_law_514 : decode code 514 = .ok (.invokestatic 112, 3) := by decide +kernel
theorem dL_law_517 : decode code 517 = .ok (.istore 5, 2) := by decide +kernel
theorem dL_law_519 : decode code 519 = .ok (.aload_n 2, 1) := by decide +kernel
theorem dL_law_520 : decode code 520 = .ok (.aload_n 0, 1) := by decide +kernel
theorem dL_law_521 : decode code 521 = .ok (.iload 4, 2) := by decide +kernel
theorem dL_law_523 : decode code 523 = .ok (.iconst 1, 1) := by decide +kernel
theorem dL_law_524 : decode code 524 = .ok (.iadd, 1) := by decide +kernel
theorem dL_law_525 : decode code 525 = .ok (.iaload, 1) := by decide +kernel
theorem dL_law_526 : decode code 526 = .ok (.aload_n 0, 1) := by decide +kernel
theorem dL_law_527 : decode code 527 = .ok (.iload 4, 2) := by decide +kernel
theorem dL_law_529 : decode code 529 = .ok (.iconst 2, 1) := by decide +kernel
theorem dL_law_530 : decode code 530 = .ok (.iadd, 1) := by decide +kernel
theorem dL_law_531 : decode code 531 = .ok (.iaload, 1) := by decide +kernel
theorem dL_law_532 : decode code 532 = .ok (.aload_n 0, 1) := by decide +kernel
theorem dL_law_533 : decode code 533 = .ok (.iload 4, 2) := by decide +kernel
theorem dL_law_535 : decode code 535 = .ok (.iconst 3, 1) := by decide +kernel
theorem dL_law_536 : decode code 536 = .ok (.iadd, 1) := by decide +kernel
theorem dL_law_537 : decode code 537 = .ok (.iaload, 1) := by decide +kernel
theorem dL_law_538 : decode code 538 = .ok (.ifCond .eq 7, 3) := by decide +kernel
theorem dL_law_541 : decode code 541 = .ok (.iconst 1, 1) := by decide +kernel
theorem dL_law_542 : decode code 542 = .ok (.goto 4, 3) := by decide +kernel
theorem dL_law_545 : decode code 545 = .ok (.iconst 0, 1) := by decide +kernel
theorem dL_law_546 : decode code 546 = .ok (.aload_n 0, 1) := by decide +kernel
theorem dL_law_547 : decode code 547 = .ok (.iload 4, 2) := by decide +kernel
theorem dL_law_549 : decode code 549 = .ok (.iconst 4, 1) := by decide +kernel
theorem dL_law_550 : decode code 550 = .ok (.iadd, 1) := by decide +kernel
theorem dL_law_551 : decode code 551 = .ok (.iaload, 1) := by decide +kernel
theorem dL_law_552 : decode code 552 = .ok (.invokevirtual 115, 3) := by decide +kernel
theorem dL_law_555 : decode code 555 = .ok (.istore 6, 2) := by decide +kernel
theorem dL_law_557 : decode code 557 = .ok (.aload_n 2, 1) := by decide +kernel
theorem dL_law_558 : decode code 558 = .ok (.invokevirtual 88, 3) := by decide +kernel
theorem dL_law_561 : decode code 561 = .ok (.iload 5, 2) := by decide +kernel
theorem dL_law_563 : decode code 563 = .ok (.if_icmp .eq 5, 3) := by decide +kernel
theorem dL_law_566 : decode code 566 = .ok (.iconst 0, 1) := by decide +kernel
theorem dL_law_567 : decode code 567 = .ok (.ireturn, 1) := by decide +kernel
theorem dL_law_568 : decode code 568 = .ok (.iload 5, 2) := by decide +kernel
theorem dL_law_570 : decode code 570 = .ok (.ifCond .ne 15, 3) := by decide +kernel
theorem dL_law_573 : decode code 573 = .ok (.aload_n 3, 1) := by decide +kernel
theorem dL_law_574 : decode code 574 = .ok (.iconst 0, 1) := by decide +kernel
theorem dL_law_575 : decode code 575 = .ok (.laload, 1) := by decide +kernel
theorem dL_law_576 : decode code 576 = .ok (.iload 6, 2) := by decide +kernel
theorem dL_law_578 : decode code 578 = .ok (.i2l, 1) := by decide +kernel
theorem dL_law_579 : decode code 579 = .ok (.lcmp, 1) := by decide +kernel
theorem dL_law_580 : decode code 580 = .ok (.ifCond .eq 5, 3) := by decide +kernel
theorem dL_law_583 : decode code 583 = .ok (.iconst 0, 1) := by decide +kernel
theorem dL_law_584 : decode code 584 = .ok (.ireturn, 1) := by decide +kernel
theorem dL_law_585 : decode code 585 = .ok (.goto 467, 3) := by decide +kernel
theorem dL_law_588 : decode code 588 = .ok (.aload_n 1, 1) := by decide +kernel
theorem dL_law_589 : decode code 589 = .ok (.aload_n 0, 1) := by decide +kernel
theorem dL_law_590 : decode code 590 = .ok (.iload 4, 2) := by decide +kernel
theorem dL_law_592 : decode code 592 = .ok (.iconst 1, 1) := by decide +kernel
theorem dL_law_593 : decode code 593 = .ok (.iadd, 1) := by decide +kernel
theorem dL_law_594 : decode code 594 = .ok (.iaload, 1) := by decide +kernel
theorem dL_law_595 : decode code 595 = .ok (.aload_n 0, 1) := by decide +kernel
theorem dL_law_596 : decode code 596 = .ok (.iload 4, 2) := by decide +kernel
theorem dL_law_598 : decode code 598 = .ok (.iconst 2, 1) := by decide +kernel
theorem dL_law_599 : decode code 599 = .ok (.iadd, 1) := by decide +kernel
theorem dL_law_600 : decode code 600 = .ok (.iaload, 1) := by decide +kernel
theorem dL_law_601 : decode code 601 = .ok (.aload_n 3, 1) := by decide +kernel
theorem dL_law_602 : decode code 602 = .ok (.invokestatic 116, 3) := by decide +kernel
theorem dL_law_605 : decode code 605 = .ok (.istore 5, 2) := by decide +kernel
theorem dL_law_607 : decode code 607 = .ok (.aload_n 2, 1) := by decide +kernel
theorem dL_law_608 : decode code 608 = .ok (.aload_n 0, 1) := by decide +kernel
theorem dL_law_609 : decode code 609 = .ok (.iload 4, 2) := by decide +kernel
theorem dL_law_611 : decode code 611 = .ok (.iconst 1, 1) := by decide +kernel
theorem dL_law_612 : decode code 612 = .ok (.iadd, 1) := by decide +kernel
theorem dL_law_613 : decode code 613 = .ok (.iaload, 1) := by decide +kernel
theorem dL_law_614 : decode code 614 = .ok (.aload_n 0, 1) := by decide +kernel
theorem dL_law_615 : decode code 615 = .ok (.iload 4, 2) := by decide +kernel
theorem dL_law_617 : decode code 617 = .ok (.iconst 2, 1) := by decide +kernel
theorem dL_law_618 : decode code 618 = .ok (.iadd, 1) := by decide +kernel
theorem dL_law_619 : decode code 619 = .ok (.iaload, 1) := by decide +kernel
theorem dL_law_620 : decode code 620 = .ok (.invokevirtual 119, 3) := by decide +kernel
theorem dL_law_623 : decode code 623 = .ok (.istore 6, 2) := by decide +kernel
theorem dL_law_625 : decode code 625 = .ok (.aload_n 2, 1) := by decide +kernel
theorem dL_law_626 : decode code 626 = .ok (.invokevirtual 88, 3) := by decide +kernel
theorem dL_law_629 : decode code 629 = .ok (.iload 5, 2) := by decide +kernel
theorem dL_law_631 : decode code 631 = .ok (.if_icmp .eq 5, 3) := by decide +kernel
theorem dL_law_634 : decode code 634 = .ok (.iconst 0, 1) := by decide +kernel
theorem dL_law_635 : decode code 635 = .ok (.ireturn, 1) := by decide +kernel
theorem dL_law_636 : decode code 636 = .ok (.iload 5, 2) := by decide +kernel
theorem dL_law_638 : decode code 638 = .ok (.ifCond .ne 15, 3) := by decide +kernel
theorem dL_law_641 : decode code 641 = .ok (.aload_n 3, 1) := by decide +kernel
theorem dL_law_642 : decode code 642 = .ok (.iconst 0, 1) := by decide +kernel
theorem dL_law_643 : decode code 643 = .ok (.laload, 1) := by decide +kernel
theorem dL_law_644 : decode code 644 = .ok (.iload 6, 2) := by decide +kernel
theorem dL_law_646 : decode code 646 = .ok (.i2l, 1) := by decide +kernel
theorem dL_law_647 : decode code 647 = .ok (.lcmp, 1) := by decide +kernel
theorem dL_law_648 : decode code 648 = .ok (.ifCond .eq 5, 3) := by decide +kernel
theorem dL_law_651 : decode code 651 = .ok (.iconst 0, 1) := by decide +kernel
theorem dL_law_652 : decode code 652 = .ok (.ireturn, 1) := by decide +kernel
theorem dL_law_653 : decode code 653 = .ok (.goto 399, 3) := by decide +kernel
theorem dL_law_656 : decode code 656 = .ok (.aload_n 1, 1) := by decide +kernel
theorem dL_law_657 : decode code 657 = .ok (.aload_n 0, 1) := by decide +kernel
theorem dL_law_658 : decode code 658 = .ok (.iload 4, 2) := by decide +kernel
theorem dL_law_660 : decode code 660 = .ok (.iconst 1, 1) := by decide +kernel
theorem dL_law_661 : decode code 661 = .ok (.iadd, 1) := by decide +kernel
theorem dL_law_662 : decode code 662 = .ok (.iaload, 1) := by decide +kernel
theorem dL_law_663 : decode code 663 = .ok (.aload_n 0, 1) := by decide +kernel
theorem dL_law_664 : decode code 664 = .ok (.iload 4, 2) := by decide +kernel
theorem dL_law_666 : decode code 666 = .ok (.iconst 2, 1) := by decide +kernel
theorem dL_law_667 : decode code 667 = .ok (.iadd, 1) := by decide +kernel
theorem dL_law_668 : decode code 668 = .ok (.iaload, 1) := by decide +kernel
theorem dL_law_669 : decode code 669 = .ok (.aload_n 3, 1) := by decide +kernel
theorem dL_law_670 : decode code 670 = .ok (.invokestatic 120, 3) := by decide +kernel
theorem dL_law_673 : decode code 673 = .ok (.istore 5, 2) := by decide +kernel
theorem dL_law_675 : decode code 675 = .ok (.aload_n 2, 1) := by decide +kernel
theorem dL_law_676 : decode code 676 = .ok (.aload_n 0, 1) := by decide +kernel
theorem dL_law_677 : decode code 677 = .ok (.iload 4, 2) := by decide +kernel
theorem dL_law_679 : decode code 679 = .ok (.iconst 1, 1) := by decide +kernel
theorem dL_law_680 : decode code 680 = .ok (.iadd, 1) := by decide +kernel
theorem dL_law_681 : decode code 681 = .ok (.iaload, 1) := by decide +kernel
theorem dL_law_682 : decode code 682 = .ok (.aload_n 0, 1) := by decide +kernel
theorem dL_law_683 : decode code 683 = .ok (.iload 4, 2) := by decide +kernel
theorem dL_law_685 : decode code 685 = .ok (.iconst 2, 1) := by decide +kernel
theorem dL_law_686 : decode code 686 = .ok (.iadd, 1) := by decide +kernel
theorem dL_law_687 : decode code 687 = .ok (.iaload, 1) := by decide +kernel
theorem dL_law_688 : decode code 688 = .ok (.invokevirtual 122, 3) := by decide +kernel
theorem dL_law_691 : decode code 691 = .ok (.istore 6, 2) := by decide +kernel
theorem dL_law_693 : decode code 693 = .ok (.aload_n 2, 1) := by decide +kernel
theorem dL_law_694 : decode code 694 = .ok (.invokevirtual 88, 3) := by decide +kernel
theorem dL_law_697 : decode code 697 = .ok (.iload 5, 2) := by decide +kernel
theorem dL_law_699 : decode code 699 = .ok (.if_icmp .eq 5, 3) := by decide +kernel
theorem dL_law_702 : decode code 702 = .ok (.iconst 0, 1) := by decide +kernel
theorem dL_law_703 : decode code 703 = .ok (.ireturn, 1) := by decide +kernel
theorem dL_law_704 : decode code 704 = .ok (.iload 5, 2) := by decide +kernel
theorem dL_law_706 : decode code 706 = .ok (.ifCond .ne 15, 3) := by decide +kernel
theorem dL_law_709 : decode code 709 = .ok (.aload_n 3, 1) := by decide +kernel
theorem dL_law_710 : decode code 710 = .ok (.iconst 0, 1) := by decide +kernel
theorem dL_law_711 : decode code 711 = .ok (.laload, 1) := by decide +kernel
theorem dL_law_712 : decode code 712 = .ok (.iload 6, 2) := by decide +kernel
theorem dL_law_714 : decode code 714 = .ok (.i2l, 1) := by decide +kernel
theorem dL_law_715 : decode code 715 = .ok (.lcmp, 1) := by decide +kernel
theorem dL_law_716 : decode code 716 = .ok (.ifCond .eq 5, 3) := by decide +kernel
theorem dL_law_719 : decode code 719 = .ok (.iconst 0, 1) := by decide +kernel
theorem dL_law_720 : decode code 720 = .ok (.ireturn, 1) := by decide +kernel
theorem dL_law_721 : decode code 721 = .ok (.goto 331, 3) := by decide +kernel
theorem dL_law_724 : decode code 724 = .ok (.aload_n 1, 1) := by decide +kernel
theorem dL_law_725 : decode code 725 = .ok (.aload_n 0, 1) := by decide +kernel
theorem dL_law_726 : decode code 726 = .ok (.iload 4, 2) := by decide +kernel
theorem dL_law_728 : decode code 728 = .ok (.iconst 1, 1) := by decide +kernel
theorem dL_law_729 : decode code 729 = .ok (.iadd, 1) := by decide +kernel
theorem dL_law_730 : decode code 730 = .ok (.iaload, 1) := by decide +kernel
theorem dL_law_731 : decode code 731 = .ok (.aload_n 0, 1) := by decide +kernel
theorem dL_law_732 : decode code 732 = .ok (.iload 4, 2) := by decide +kernel
theorem dL_law_734 : decode code 734 = .ok (.iconst 2, 1) := by decide +kernel
theorem dL_law_735 : decode code 735 = .ok (.iadd, 1) := by decide +kernel
theorem dL_law_736 : decode code 736 = .ok (.iaload, 1) := by decide +kernel
theorem dL_law_737 : decode code 737 = .ok (.aload_n 3, 1) := by decide +kernel
theorem dL_law_738 : decode code 738 = .ok (.invokestatic 123, 3) := by decide +kernel
theorem dL_law_741 : decode code 741 = .ok (.istore 5, 2) := by decide +kernel
theorem dL_law_743 : decode code 743 = .ok (.aload_n 2, 1) := by decide +kernel
theorem dL_law_744 : decode code 744 = .ok (.aload_n 0, 1) := by decide +kernel
theorem dL_law_745 : decode code 745 = .ok (.iload 4, 2) := by decide +kernel
theorem dL_law_747 : decode code 747 = .ok (.iconst 1, 1) := by decide +kernel
theorem dL_law_748 : decode code 748 = .ok (.iadd, 1) := by decide +kernel
theorem dL_law_749 : decode code 749 = .ok (.iaload, 1) := by decide +kernel
theorem dL_law_750 : decode code 750 = .ok (.aload_n 0, 1) := by decide +kernel
theorem dL_law_751 : decode code 751 = .ok (.iload 4, 2) := by decide +kernel
theorem dL_law_753 : decode code 753 = .ok (.iconst 2, 1) := by decide +kernel
theorem dL_law_754 : decode code 754 = .ok (.iadd, 1) := by decide +kernel
theorem dL_law_755 : decode code 755 = .ok (.iaload, 1) := by decide +kernel
theorem dL_law_756 : decode code 756 = .ok (.invokevirtual 125, 3) := by decide +kernel
theorem dL_law_759 : decode code 759 = .ok (.istore 6, 2) := by decide +kernel
theorem dL_law_761 : decode code 761 = .ok (.aload_n 2, 1) := by decide +kernel
theorem dL_law_762 : decode code 762 = .ok (.invokevirtual 88, 3) := by decide +kernel
theorem dL_law_765 : decode code 765 = .ok (.iload 5, 2) := by decide +kernel
theorem dL_law_767 : decode code 767 = .ok (.if_icmp .eq 5, 3) := by decide +kernel
theorem dL_law_770 : decode code 770 = .ok (.iconst 0, 1) := by decide +kernel
theorem dL_law_771 : decode code 771 = .ok (.ireturn, 1) := by decide +kernel
theorem dL_law_772 : decode code 772 = .ok (.iload 5, 2) := by decide +kernel
theorem dL_law_774 : decode code 774 = .ok (.ifCond .ne 15, 3) := by decide +kernel
theorem dL_law_777 : decode code 777 = .ok (.aload_n 3, 1) := by decide +kernel
theorem dL_law_778 : decode code 778 = .ok (.iconst 0, 1) := by decide +kernel
theorem dL_law_779 : decode code 779 = .ok (.laload, 1) := by decide +kernel
theorem dL_law_780 : decode code 780 = .ok (.iload 6, 2) := by decide +kernel
theorem dL_law_782 : decode code 782 = .ok (.i2l, 1) := by decide +kernel
theorem dL_law_783 : decode code 783 = .ok (.lcmp, 1) := by decide +kernel
theorem dL_law_784 : decode code 784 = .ok (.ifCond .eq 5, 3) := by decide +kernel
theorem dL_law_787 : decode code 787 = .ok (.iconst 0, 1) := by decide +kernel
theorem dL_law_788 : decode code 788 = .ok (.ireturn, 1) := by decide +kernel
theorem dL_law_789 : decode code 789 = .ok (.goto 263, 3) := by decide +kernel
theorem dL_law_792 : decode code 792 = .ok (.aload_n 1, 1) := by decide +kernel
theorem dL_law_793 : decode code 793 = .ok (.aload_n 0, 1) := by decide +kernel
theorem dL_law_794 : decode code 794 = .ok (.iload 4, 2) := by decide +kernel
theorem dL_law_796 : decode code 796 = .ok (.iconst 1, 1) := by decide +kernel
theorem dL_law_797 : decode code 797 = .ok (.iadd, 1) := by decide +kernel
theorem dL_law_798 : decode code 798 = .ok (.iaload, 1) := by decide +kernel
theorem dL_law_799 : decode code 799 = .ok (.aload_n 3, 1) := by decide +kernel
theorem dL_law_800 : decode code 800 = .ok (.invokestatic 126, 3) := by decide +kernel
theorem dL_law_803 : decode code 803 = .ok (.istore 5, 2) := by decide +kernel
theorem dL_law_805 : decode code 805 = .ok (.aload_n 2, 1) := by decide +kernel
theorem dL_law_806 : decode code 806 = .ok (.aload_n 0, 1) := by decide +kernel
theorem dL_law_807 : decode code 807 = .ok (.iload 4, 2) := by decide +kernel
theorem dL_law_809 : decode code 809 = .ok (.iconst 1, 1) := by decide +kernel
theorem dL_law_810 : decode code 810 = .ok (.iadd, 1) := by decide +kernel
theorem dL_law_811 : decode code 811 = .ok (.iaload, 1) := by decide +kernel
theorem dL_law_812 : decode code 812 = .ok (.invokevirtual 128, 3) := by decide +kernel
theorem dL_law_815 : decode code 815 = .ok (.istore 6, 2) := by decide +kernel
theorem dL_law_817 : decode code 817 = .ok (.aload_n 2, 1) := by decide +kernel
theorem dL_law_818 : decode code 818 = .ok (.invokevirtual 88, 3) := by decide +kernel
theorem dL_law_821 : decode code 821 = .ok (.iload 5, 2) := by decide +kernel
theorem dL_law_823 : decode code 823 = .ok (.if_icmp .eq 5, 3) := by decide +kernel
theorem dL_law_826 : decode code 826 = .ok (.iconst 0, 1) := by decide +kernel
theorem dL_law_827 : decode code 827 = .ok (.ireturn, 1) := by decide +kernel
theorem dL_law_828 : decode code 828 = .ok (.iload 5, 2) := by decide +kernel
theorem dL_law_830 : decode code 830 = .ok (.ifCond .ne 15, 3) := by decide +kernel
theorem dL_law_833 : decode code 833 = .ok (.aload_n 3, 1) := by decide +kernel
theorem dL_law_834 : decode code 834 = .ok (.iconst 0, 1) := by decide +kernel
theorem dL_law_835 : decode code 835 = .ok (.laload, 1) := by decide +kernel
theorem dL_law_836 : decode code 836 = .ok (.iload 6, 2) := by decide +kernel
theorem dL_law_838 : decode code 838 = .ok (.i2l, 1) := by decide +kernel
theorem dL_law_839 : decode code 839 = .ok (.lcmp, 1) := by decide +kernel
theorem dL_law_840 : decode code 840 = .ok (.ifCond .eq 5, 3) := by decide +kernel
theorem dL_law_843 : decode code 843 = .ok (.iconst 0, 1) := by decide +kernel
theorem dL_law_844 : decode code 844 = .ok (.ireturn, 1) := by decide +kernel
theorem dL_law_845 : decode code 845 = .ok (.goto 207, 3) := by decide +kernel
theorem dL_law_848 : decode code 848 = .ok (.aload_n 1, 1) := by decide +kernel
theorem dL_law_849 : decode code 849 = .ok (.aload_n 0, 1) := by decide +kernel
theorem dL_law_850 : decode code 850 = .ok (.iload 4, 2) := by decide +kernel
theorem dL_law_852 : decode code 852 = .ok (.iconst 1, 1) := by decide +kernel
theorem dL_law_853 : decode code 853 = .ok (.iadd, 1) := by decide +kernel
theorem dL_law_854 : decode code 854 = .ok (.iaload, 1) := by decide +kernel
theorem dL_law_855 : decode code 855 = .ok (.aload_n 3, 1) := by decide +kernel
theorem dL_law_856 : decode code 856 = .ok (.invokestatic 129, 3) := by decide +kernel
theorem dL_law_859 : decode code 859 = .ok (.istore 5, 2) := by decide +kernel
theorem dL_law_861 : decode code 861 = .ok (.aload_n 2, 1) := by decide +kernel
theorem dL_law_862 : decode code 862 = .ok (.aload_n 0, 1) := by decide +kernel
theorem dL_law_863 : decode code 863 = .ok (.iload 4, 2) := by decide +kernel
theorem dL_law_865 : decode code 865 = .ok (.iconst 1, 1) := by decide +kernel
theorem dL_law_866 : decode code 866 = .ok (.iadd, 1) := by decide +kernel
theorem dL_law_867 : decode code 867 = .ok (.iaload, 1) := by decide +kernel
theorem dL_law_868 : decode code 868 = .ok (.invokevirtual 131, 3) := by decide +kernel
theorem dL_law_871 : decode code 871 = .ok (.istore 6, 2) := by decide +kernel
theorem dL_law_873 : decode code 873 = .ok (.aload_n 2, 1) := by decide +kernel
theorem dL_law_874 : decode code 874 = .ok (.invokevirtual 88, 3) := by decide +kernel
theorem dL_law_877 : decode code 877 = .ok (.iload 5, 2) := by decide +kernel
theorem dL_law_879 : decode code 879 = .ok (.if_icmp .eq 5, 3) := by decide +kernel
theorem dL_law_882 : decode code 882 = .ok (.iconst 0, 1) := by decide +kernel
theorem dL_law_883 : decode code 883 = .ok (.ireturn, 1) := by decide +kernel
theorem dL_law_884 : decode code 884 = .ok (.iload 5, 2) := by decide +kernel
theorem dL_law_886 : decode code 886 = .ok (.ifCond .ne 15, 3) := by decide +kernel
theorem dL_law_889 : decode code 889 = .ok (.aload_n 3, 1) := by decide +kernel
theorem dL_law_890 : decode code 890 = .ok (.iconst 0, 1) := by decide +kernel
theorem dL_law_891 : decode code 891 = .ok (.laload, 1) := by decide +kernel
theorem dL_law_892 : decode code 892 = .ok (.iload 6, 2) := by decide +kernel
theorem dL_law_894 : decode code 894 = .ok (.i2l, 1) := by decide +kernel
theorem dL_law_895 : decode code 895 = .ok (.lcmp, 1) := by decide +kernel
theorem dL_law_896 : decode code 896 = .ok (.ifCond .eq 5, 3) := by decide +kernel
theorem dL_law_899 : decode code 899 = .ok (.iconst 0, 1) := by decide +kernel
theorem dL_law_900 : decode code 900 = .ok (.ireturn, 1) := by decide +kernel
theorem dL_law_901 : decode code 901 = .ok (.goto 151, 3) := by decide +kernel
theorem dL_law_904 : decode code 904 = .ok (.aload_n 1, 1) := by decide +kernel
theorem dL_law_905 : decode code 905 = .ok (.aload_n 0, 1) := by decide +kernel
theorem dL_law_906 : decode code 906 = .ok (.iload 4, 2) := by decide +kernel
theorem dL_law_908 : decode code 908 = .ok (.iconst 1, 1) := by decide +kernel
theorem dL_law_909 : decode code 909 = .ok (.iadd, 1) := by decide +kernel
theorem dL_law_910 : decode code 910 = .ok (.iaload, 1) := by decide +kernel
theorem dL_law_911 : decode code 911 = .ok (.aload_n 0, 1) := by decide +kernel
theorem dL_law_912 : decode code 912 = .ok (.iload 4, 2) := by decide +kernel
theorem dL_law_914 : decode code 914 = .ok (.iconst 2, 1) := by decide +kernel
theorem dL_law_915 : decode code 915 = .ok (.iadd, 1) := by decide +kernel
theorem dL_law_916 : decode code 916 = .ok (.iaload, 1) := by decide +kernel
theorem dL_law_917 : decode code 917 = .ok (.aload_n 0, 1) := by decide +kernel
theorem dL_law_918 : decode code 918 = .ok (.iload 4, 2) := by decide +kernel
theorem dL_law_920 : decode code 920 = .ok (.iconst 3, 1) := by decide +kernel
theorem dL_law_921 : decode code 921 = .ok (.iadd, 1) := by decide +kernel
theorem dL_law_922 : decode code 922 = .ok (.iaload, 1) := by decide +kernel
theorem dL_law_923 : decode code 923 = .ok (.aload_n 3, 1) := by decide +kernel
theorem dL_law_924 : decode code 924 = .ok (.invokestatic 132, 3) := by decide +kernel
theorem dL_law_927 : decode code 927 = .ok (.istore 5, 2) := by decide +kernel
theorem dL_law_929 : decode code 929 = .ok (.aload_n 2, 1) := by decide +kernel
theorem dL_law_930 : decode code 930 = .ok (.aload_n 0, 1) := by decide +kernel
theorem dL_law_931 : decode code 931 = .ok (.iload 4, 2) := by decide +kernel
theorem dL_law_933 : decode code 933 = .ok (.iconst 1, 1) := by decide +kernel
theorem dL_law_934 : decode code 934 = .ok (.iadd, 1) := by decide +kernel
theorem dL_law_935 : decode code 935 = .ok (.iaload, 1) := by decide +kernel
theorem dL_law_936 : decode code 936 = .ok (.aload_n 0, 1) := by decide +kernel
theorem dL_law_937 : decode code 937 = .ok (.iload 4, 2) := by decide +kernel
theorem dL_law_939 : decode code 939 = .ok (.iconst 2, 1) := by decide +kernel
theorem dL_law_940 : decode code 940 = .ok (.iadd, 1) := by decide +kernel
theorem dL_law_941 : decode code 941 = .ok (.iaload, 1) := by decide +kernel
theorem dL_law_942 : decode code 942 = .ok (.aload_n 0, 1) := by decide +kernel
theorem dL_law_943 : decode code 943 = .ok (.iload 4, 2) := by decide +kernel
theorem dL_law_945 : decode code 945 = .ok (.iconst 3, 1) := by decide +kernel
theorem dL_law_946 : decode code 946 = .ok (.iadd, 1) := by decide +kernel
theorem dL_law_947 : decode code 947 = .ok (.iaload, 1) := by decide +kernel
theorem dL_law_948 : decode code 948 = .ok (.invokevirtual 135, 3) := by decide +kernel
theorem dL_law_951 : decode code 951 = .ok (.istore 6, 2) := by decide +kernel
theorem dL_law_953 : decode code 953 = .ok (.aload_n 2, 1) := by decide +kernel
theorem dL_law_954 : decode code 954 = .ok (.invokevirtual 88, 3) := by decide +kernel
theorem dL_law_957 : decode code 957 = .ok (.iload 5, 2) := by decide +kernel
theorem dL_law_959 : decode code 959 = .ok (.if_icmp .eq 5, 3) := by decide +kernel
theorem dL_law_962 : decode code 962 = .ok (.iconst 0, 1) := by decide +kernel
theorem dL_law_963 : decode code 963 = .ok (.ireturn, 1) := by decide +kernel
theorem dL_law_964 : decode code 964 = .ok (.iload 5, 2) := by decide +kernel
theorem dL_law_966 : decode code 966 = .ok (.ifCond .ne 15, 3) := by decide +kernel
theorem dL_law_969 : decode code 969 = .ok (.aload_n 3, 1) := by decide +kernel
theorem dL_law_970 : decode code 970 = .ok (.iconst 0, 1) := by decide +kernel
theorem dL_law_971 : decode code 971 = .ok (.laload, 1) := by decide +kernel
theorem dL_law_972 : decode code 972 = .ok (.iload 6, 2) := by decide +kernel
theorem dL_law_974 : decode code 974 = .ok (.i2l, 1) := by decide +kernel
theorem dL_law_975 : decode code 975 = .ok (.lcmp, 1) := by decide +kernel
theorem dL_law_976 : decode code 976 = .ok (.ifCond .eq 5, 3) := by decide +kernel
theorem dL_law_979 : decode code 979 = .ok (.iconst 0, 1) := by decide +kernel
theorem dL_law_980 : decode code 980 = .ok (.ireturn, 1) := by decide +kernel
theorem dL_law_981 : decode code 981 = .ok (.goto 71, 3) := by decide +kernel
theorem dL_law_984 : decode code 984 = .ok (.aload_n 1, 1) := by decide +kernel
theorem dL_law_985 : decode code 985 = .ok (.aload_n 0, 1) := by decide +kernel
theorem dL_law_986 : decode code 986 = .ok (.iload 4, 2) := by decide +kernel
theorem dL_law_988 : decode code 988 = .ok (.iconst 1, 1) := by decide +kernel
theorem dL_law_989 : decode code 989 = .ok (.iadd, 1) := by decide +kernel
theorem dL_law_990 : decode code 990 = .ok (.iaload, 1) := by decide +kernel
theorem dL_law_991 : decode code 991 = .ok (.aload_n 0, 1) := by decide +kernel
theorem dL_law_992 : decode code 992 = .ok (.iload 4, 2) := by decide +kernel
theorem dL_law_994 : decode code 994 = .ok (.iconst 2, 1) := by decide +kernel
theorem dL_law_995 : decode code 995 = .ok (.iadd, 1) := by decide +kernel
theorem dL_law_996 : decode code 996 = .ok (.iaload, 1) := by decide +kernel
theorem dL_law_997 : decode code 997 = .ok (.aload_n 3, 1) := by decide +kernel
theorem dL_law_998 : decode code 998 = .ok (.invokestatic 136, 3) := by decide +kernel
theorem dL_law_1001 : decode code 1001 = .ok (.istore 5, 2) := by decide +kernel
theorem dL_law_1003 : decode code 1003 = .ok (.aload_n 2, 1) := by decide +kernel
theorem dL_law_1004 : decode code 1004 = .ok (.aload_n 0, 1) := by decide +kernel
theorem dL_law_1005 : decode code 1005 = .ok (.iload 4, 2) := by decide +kernel
theorem dL_law_1007 : decode code 1007 = .ok (.iconst 1, 1) := by decide +kernel
theorem dL_law_1008 : decode code 1008 = .ok (.iadd, 1) := by decide +kernel
theorem dL_law_1009 : decode code 1009 = .ok (.iaload, 1) := by decide +kernel
theorem dL_law_1010 : decode code 1010 = .ok (.aload_n 0, 1) := by decide +kernel
theorem dL_law_1011 : decode code 1011 = .ok (.iload 4, 2) := by decide +kernel
theorem dL_law_1013 : decode code 1013 = .ok (.iconst 2, 1) := by decide +kernel
theorem dL_law_1014 : decode code 1014 = .ok (.iadd, 1) := by decide +kernel
theorem dL_law_1015 : decode code 1015 = .ok (.iaload, 1) := by decide +kernel
theorem dL_law_1016 : decode code 1016 = .ok (.invokevirtual 138, 3) := by decide +kernel
theorem dL_law_1019 : decode code 1019 = .ok (.istore 6, 2) := by decide +kernel
theorem dL_law_1021 : decode code 1021 = .ok (.aload_n 2, 1) := by decide +kernel
theorem dL_law_1022 : decode code 1022 = .ok (.invokevirtual 88, 3) := by decide +kernel
theorem dL_law_1025 : decode code 1025 = .ok (.iload 5, 2) := by decide +kernel
theorem dL_law_1027 : decode code 1027 = .ok (.if_icmp .eq 5, 3) := by decide +kernel
theorem dL_law_1030 : decode code 1030 = .ok (.iconst 0, 1) := by decide +kernel
theorem dL_law_1031 : decode code 1031 = .ok (.ireturn, 1) := by decide +kernel
theorem dL_law_1032 : decode code 1032 = .ok (.iload 5, 2) := by decide +kernel
theorem dL_law_1034 : decode code 1034 = .ok (.ifCond .ne 15, 3) := by decide +kernel
theorem dL_law_1037 : decode code 1037 = .ok (.aload_n 3, 1) := by decide +kernel
theorem dL_law_1038 : decode code 1038 = .ok (.iconst 0, 1) := by decide +kernel
theorem dL_law_1039 : decode code 1039 = .ok (.laload, 1) := by decide +kernel
theorem dL_law_1040 : decode code 1040 = .ok (.iload 6, 2) := by decide +kernel
theorem dL_law_1042 : decode code 1042 = .ok (.i2l, 1) := by decide +kernel
theorem dL_law_1043 : decode code 1043 = .ok (.lcmp, 1) := by decide +kernel
theorem dL_law_1044 : decode code 1044 = .ok (.ifCond .eq 5, 3) := by decide +kernel
theorem dL_law_1047 : decode code 1047 = .ok (.iconst 0, 1) := by decide +kernel
theorem dL_law_1048 : decode code 1048 = .ok (.ireturn, 1) := by decide +kernel
theorem dL_law_1049 : decode code 1049 = .ok (.goto 3, 3) := by decide +kernel
theorem dL_law_1052 : decode code 1052 = .ok (.iinc 4 5, 3) := by decide +kernel
theorem dL_law_1055 : decode code 1055 = .ok (.goto (-1022), 3) := by decide +kernel
theorem dL_law_1058 : decode code 1058 = .ok (.iconst 1, 1) := by decide +kernel
theorem dL_law_1059 : decode code 1059 = .ok (.ireturn, 1) := by decide +kernel
