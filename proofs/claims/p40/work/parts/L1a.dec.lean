theorem dL_cell_0 : decode cL_cell 0 = .ok (.iload_n 1, 1) := by decide +kernel
theorem dL_cell_1 : decode cL_cell 1 = .ok (.aload_n 0, 1) := by decide +kernel
theorem dL_cell_2 : decode cL_cell 2 = .ok (.arraylength, 1) := by decide +kernel
theorem dL_cell_3 : decode cL_cell 3 = .ok (.if_icmp .ge 9, 3) := by decide +kernel
theorem dL_cell_6 : decode cL_cell 6 = .ok (.aload_n 0, 1) := by decide +kernel
theorem dL_cell_7 : decode cL_cell 7 = .ok (.iload_n 1, 1) := by decide +kernel
theorem dL_cell_8 : decode cL_cell 8 = .ok (.iaload, 1) := by decide +kernel
theorem dL_cell_9 : decode cL_cell 9 = .ok (.goto 7, 3) := by decide +kernel
theorem dL_cell_12 : decode cL_cell 12 = .ok (.ldc 7, 2) := by decide +kernel
theorem dL_cell_14 : decode cL_cell 14 = .ok (.iload_n 1, 1) := by decide +kernel
theorem dL_cell_15 : decode cL_cell 15 = .ok (.imul, 1) := by decide +kernel
theorem dL_cell_16 : decode cL_cell 16 = .ok (.ireturn, 1) := by decide +kernel
theorem dL_pick_0 : decode cL_pick 0 = .ok (.aload_n 0, 1) := by decide +kernel
theorem dL_pick_1 : decode cL_pick 1 = .ok (.iload_n 1, 1) := by decide +kernel
theorem dL_pick_2 : decode cL_pick 2 = .ok (.invokestatic 8, 3) := by decide +kernel
theorem dL_pick_5 : decode cL_pick 5 = .ok (.iconst 1, 1) := by decide +kernel
theorem dL_pick_6 : decode cL_pick 6 = .ok (.iushr, 1) := by decide +kernel
theorem dL_pick_7 : decode cL_pick 7 = .ok (.iload_n 2, 1) := by decide +kernel
theorem dL_pick_8 : decode cL_pick 8 = .ok (.irem, 1) := by decide +kernel
theorem dL_pick_9 : decode cL_pick 9 = .ok (.ireturn, 1) := by decide +kernel
theorem dL_addState_0 : decode cL_addState 0 = .ok (.aload_n 0, 1) := by decide +kernel
theorem dL_addState_1 : decode cL_addState 1 = .ok (.iload_n 1, 1) := by decide +kernel
theorem dL_addState_2 : decode cL_addState 2 = .ok (.iload_n 2, 1) := by decide +kernel
theorem dL_addState_3 : decode cL_addState 3 = .ok (.invokevirtual 14, 3) := by decide +kernel
theorem dL_addState_6 : decode cL_addState 6 = .ok (.ireturn, 1) := by decide +kernel
theorem dL_addState_7 : decode cL_addState 7 = .ok (.astore_n 3, 1) := by decide +kernel
theorem dL_addState_8 : decode cL_addState 8 = .ok (.bipush (-78), 2) := by decide +kernel
theorem dL_addState_10 : decode cL_addState 10 = .ok (.ireturn, 1) := by decide +kernel
theorem dL_addState_11 : decode cL_addState 11 = .ok (.astore_n 3, 1) := by decide +kernel
theorem dL_addState_12 : decode cL_addState 12 = .ok (.bipush (-79), 2) := by decide +kernel
theorem dL_addState_14 : decode cL_addState 14 = .ok (.ireturn, 1) := by decide +kernel
theorem dL_addChoice_0 : decode cL_addChoice 0 = .ok (.aload_n 0, 1) := by decide +kernel
theorem dL_addChoice_1 : decode cL_addChoice 1 = .ok (.iload_n 1, 1) := by decide +kernel
theorem dL_addChoice_2 : decode cL_addChoice 2 = .ok (.iload_n 2, 1) := by decide +kernel
theorem dL_addChoice_3 : decode cL_addChoice 3 = .ok (.iload_n 3, 1) := by decide +kernel
theorem dL_addChoice_4 : decode cL_addChoice 4 = .ok (.invokevirtual 24, 3) := by decide +kernel
theorem dL_addChoice_7 : decode cL_addChoice 7 = .ok (.ireturn, 1) := by decide +kernel
theorem dL_addChoice_8 : decode cL_addChoice 8 = .ok (.astore 4, 2) := by decide +kernel
theorem dL_addChoice_10 : decode cL_addChoice 10 = .ok (.bipush (-77), 2) := by decide +kernel
theorem dL_addChoice_12 : decode cL_addChoice 12 = .ok (.ireturn, 1) := by decide +kernel
theorem dL_addChoice_13 : decode cL_addChoice 13 = .ok (.astore 4, 2) := by decide +kernel
theorem dL_addChoice_15 : decode cL_addChoice 15 = .ok (.bipush (-78), 2) := by decide +kernel
theorem dL_addChoice_17 : decode cL_addChoice 17 = .ok (.ireturn, 1) := by decide +kernel
theorem dL_addChoice_18 : decode cL_addChoice 18 = .ok (.astore 4, 2) := by decide +kernel
theorem dL_addChoice_20 : decode cL_addChoice 20 = .ok (.bipush (-79), 2) := by decide +kernel
theorem dL_addChoice_22 : decode cL_addChoice 22 = .ok (.ireturn, 1) := by decide +kernel
theorem dL_addWeight_0 : decode cL_addWeight 0 = .ok (.aload_n 0, 1) := by decide +kernel
theorem dL_addWeight_1 : decode cL_addWeight 1 = .ok (.iload_n 1, 1) := by decide +kernel
theorem dL_addWeight_2 : decode cL_addWeight 2 = .ok (.iload_n 2, 1) := by decide +kernel
theorem dL_addWeight_3 : decode cL_addWeight 3 = .ok (.iload_n 3, 1) := by decide +kernel
theorem dL_addWeight_4 : decode cL_addWeight 4 = .ok (.iload 4, 2) := by decide +kernel
theorem dL_addWeight_6 : decode cL_addWeight 6 = .ok (.invokevirtual 30, 3) := by decide +kernel
theorem dL_addWeight_9 : decode cL_addWeight 9 = .ok (.ireturn, 1) := by decide +kernel
theorem dL_addWeight_10 : decode cL_addWeight 10 = .ok (.astore 5, 2) := by decide +kernel
theorem dL_addWeight_12 : decode cL_addWeight 12 = .ok (.bipush (-77), 2) := by decide +kernel
theorem dL_addWeight_14 : decode cL_addWeight 14 = .ok (.ireturn, 1) := by decide +kernel
theorem dL_addWeight_15 : decode cL_addWeight 15 = .ok (.astore 5, 2) := by decide +kernel
theorem dL_addWeight_17 : decode cL_addWeight 17 = .ok (.bipush (-78), 2) := by decide +kernel
theorem dL_addWeight_19 : decode cL_addWeight 19 = .ok (.ireturn, 1) := by decide +kernel
theorem dL_addWeight_20 : decode cL_addWeight 20 = .ok (.astore 5, 2) := by decide +kernel
theorem dL_addWeight_22 : decode cL_addWeight 22 = .ok (.bipush (-79), 2) := by decide +kernel
theorem dL_addWeight_24 : decode cL_addWeight 24 = .ok (.ireturn, 1) := by decide +kernel
theorem dL_setTarget_0 : decode cL_setTarget 0 = .ok (.aload_n 0, 1) := by decide +kernel
theorem dL_setTarget_1 : decode cL_setTarget 1 = .ok (.iload_n 1, 1) := by decide +kernel
theorem dL_setTarget_2 : decode cL_setTarget 2 = .ok (.iload_n 2, 1) := by decide +kernel
theorem dL_setTarget_3 : decode cL_setTarget 3 = .ok (.invokevirtual 34, 3) := by decide +kernel
theorem dL_setTarget_6 : decode cL_setTarget 6 = .ok (.ifCond .eq 7, 3) := by decide +kernel
theorem dL_setTarget_9 : decode cL_setTarget 9 = .ok (.iconst 1, 1) := by decide +kernel
theorem dL_setTarget_10 : decode cL_setTarget 10 = .ok (.goto 4, 3) := by decide +kernel
theorem dL_setTarget_13 : decode cL_setTarget 13 = .ok (.iconst 0, 1) := by decide +kernel
theorem dL_setTarget_14 : decode cL_setTarget 14 = .ok (.ireturn, 1) := by decide +kernel
theorem dL_setTarget_15 : decode cL_setTarget 15 = .ok (.astore_n 3, 1) := by decide +kernel
theorem dL_setTarget_16 : decode cL_setTarget 16 = .ok (.bipush (-77), 2) := by decide +kernel
theorem dL_setTarget_18 : decode cL_setTarget 18 = .ok (.ireturn, 1) := by decide +kernel
theorem dL_setDiscount_0 : decode cL_setDiscount 0 = .ok (.aload_n 0, 1) := by decide +kernel
theorem dL_setDiscount_1 : decode cL_setDiscount 1 = .ok (.iload_n 1, 1) := by decide +kernel
theorem dL_setDiscount_2 : decode cL_setDiscount 2 = .ok (.iload_n 2, 1) := by decide +kernel
theorem dL_setDiscount_3 : decode cL_setDiscount 3 = .ok (.invokevirtual 38, 3) := by decide +kernel
theorem dL_setDiscount_6 : decode cL_setDiscount 6 = .ok (.ireturn, 1) := by decide +kernel
theorem dL_setDiscount_7 : decode cL_setDiscount 7 = .ok (.astore_n 3, 1) := by decide +kernel
theorem dL_setDiscount_8 : decode cL_setDiscount 8 = .ok (.bipush (-78), 2) := by decide +kernel
theorem dL_setDiscount_10 : decode cL_setDiscount 10 = .ok (.ireturn, 1) := by decide +kernel
theorem dL_setWeights_0 : decode cL_setWeights 0 = .ok (.aload_n 0, 1) := by decide +kernel
theorem dL_setWeights_1 : decode cL_setWeights 1 = .ok (.iload_n 1, 1) := by decide +kernel
theorem dL_setWeights_2 : decode cL_setWeights 2 = .ok (.iload_n 2, 1) := by decide +kernel
theorem dL_setWeights_3 : decode cL_setWeights 3 = .ok (.invokevirtual 42, 3) := by decide +kernel
theorem dL_setWeights_6 : decode cL_setWeights 6 = .ok (.ireturn, 1) := by decide +kernel
theorem dL_setWeights_7 : decode cL_setWeights 7 = .ok (.astore_n 3, 1) := by decide +kernel
theorem dL_setWeights_8 : decode cL_setWeights 8 = .ok (.bipush (-78), 2) := by decide +kernel
theorem dL_setWeights_10 : decode cL_setWeights 10 = .ok (.ireturn, 1) := by decide +kernel
theorem dL_choices_0 : decode cL_choices 0 = .ok (.aload_n 0, 1) := by decide +kernel
theorem dL_choices_1 : decode cL_choices 1 = .ok (.iload_n 1, 1) := by decide +kernel
theorem dL_choices_2 : decode cL_choices 2 = .ok (.invokevirtual 45, 3) := by decide +kernel
theorem dL_choices_5 : decode cL_choices 5 = .ok (.ireturn, 1) := by decide +kernel
theorem dL_choices_6 : decode cL_choices 6 = .ok (.astore_n 2, 1) := by decide +kernel
theorem dL_choices_7 : decode cL_choices 7 = .ok (.bipush (-77), 2) := by decide +kernel
theorem dL_choices_9 : decode cL_choices 9 = .ok (.ireturn, 1) := by decide +kernel
theorem dL_chance_0 : decode cL_chance 0 = .ok (.aload_n 0, 1) := by decide +kernel
theorem dL_chance_1 : decode cL_chance 1 = .ok (.iload_n 1, 1) := by decide +kernel
theorem dL_chance_2 : decode cL_chance 2 = .ok (.iload_n 2, 1) := by decide +kernel
theorem dL_chance_3 : decode cL_chance 3 = .ok (.iload_n 3, 1) := by decide +kernel
theorem dL_chance_4 : decode cL_chance 4 = .ok (.invokevirtual 49, 3) := by decide +kernel
theorem dL_chance_7 : decode cL_chance 7 = .ok (.ireturn, 1) := by decide +kernel
theorem dL_chance_8 : decode cL_chance 8 = .ok (.astore 4, 2) := by decide +kernel
theorem dL_chance_10 : decode cL_chance 10 = .ok (.bipush (-77), 2) := by decide +kernel
theorem dL_chance_12 : decode cL_chance 12 = .ok (.ireturn, 1) := by decide +kernel
theorem dL_chance_13 : decode cL_chance 13 = .ok (.astore 4, 2) := by decide +kernel
theorem dL_chance_15 : decode cL_chance 15 = .ok (.bipush (-74), 2) := by decide +kernel
theorem dL_chance_17 : decode cL_chance 17 = .ok (.ireturn, 1) := by decide +kernel
theorem dL_above_0 : decode cL_above 0 = .ok (.aload_n 0, 1) := by decide +kernel
theorem dL_above_1 : decode cL_above 1 = .ok (.iload_n 1, 1) := by decide +kernel
theorem dL_above_2 : decode cL_above 2 = .ok (.iload_n 2, 1) := by decide +kernel
theorem dL_above_3 : decode cL_above 3 = .ok (.invokevirtual 54, 3) := by decide +kernel
theorem dL_above_6 : decode cL_above 6 = .ok (.lreturn, 1) := by decide +kernel
theorem dL_above_7 : decode cL_above 7 = .ok (.astore_n 3, 1) := by decide +kernel
theorem dL_above_8 : decode cL_above 8 = .ok (.ldc2_w 58, 3) := by decide +kernel
theorem dL_above_11 : decode cL_above 11 = .ok (.lreturn, 1) := by decide +kernel
theorem dL_above_12 : decode cL_above 12 = .ok (.astore_n 3, 1) := by decide +kernel
theorem dL_above_13 : decode cL_above 13 = .ok (.ldc2_w 60, 3) := by decide +kernel
theorem dL_above_16 : decode cL_above 16 = .ok (.lreturn, 1) := by decide +kernel
theorem dL_above_17 : decode cL_above 17 = .ok (.astore_n 3, 1) := by decide +kernel
theorem dL_above_18 : decode cL_above 18 = .ok (.ldc2_w 62, 3) := by decide +kernel
theorem dL_above_21 : decode cL_above 21 = .ok (.lreturn, 1) := by decide +kernel
theorem dL_below_0 : decode cL_below 0 = .ok (.aload_n 0, 1) := by decide +kernel
theorem dL_below_1 : decode cL_below 1 = .ok (.iload_n 1, 1) := by decide +kernel
theorem dL_below_2 : decode cL_below 2 = .ok (.iload_n 2, 1) := by decide +kernel
theorem dL_below_3 : decode cL_below 3 = .ok (.invokevirtual 64, 3) := by decide +kernel
theorem dL_below_6 : decode cL_below 6 = .ok (.lreturn, 1) := by decide +kernel
theorem dL_below_7 : decode cL_below 7 = .ok (.astore_n 3, 1) := by decide +kernel
theorem dL_below_8 : decode cL_below 8 = .ok (.ldc2_w 58, 3) := by decide +kernel
theorem dL_below_11 : decode cL_below 11 = .ok (.lreturn, 1) := by decide +kernel
theorem dL_below_12 : decode cL_below 12 = .ok (.astore_n 3, 1) := by decide +kernel
theorem dL_below_13 : decode cL_below 13 = .ok (.ldc2_w 60, 3) := by decide +kernel
theorem dL_below_16 : decode cL_below 16 = .ok (.lreturn, 1) := by decide +kernel
theorem dL_below_17 : decode cL_below 17 = .ok (.astore_n 3, 1) := by decide +kernel
theorem dL_below_18 : decode cL_below 18 = .ok (.ldc2_w 62, 3) := by decide +kernel
theorem dL_below_21 : decode cL_below 21 = .ok (.lreturn, 1) := by decide +kernel
theorem dL_aboveByAll_0 : decode cL_aboveByAll 0 = .ok (.aload_n 0, 1) := by decide +kernel
theorem dL_aboveByAll_1 : decode cL_aboveByAll 1 = .ok (.iload_n 1, 1) := by decide +kernel
theorem dL_aboveByAll_2 : decode cL_aboveByAll 2 = .ok (.iload_n 2, 1) := by decide +kernel
theorem dL_aboveByAll_3 : decode cL_aboveByAll 3 = .ok (.invokevirtual 67, 3) := by decide +kernel
theorem dL_aboveByAll_6 : decode cL_aboveByAll 6 = .ok (.lreturn, 1) := by decide +kernel
theorem dL_aboveByAll_7 : decode cL_aboveByAll 7 = .ok (.astore_n 3, 1) := by decide +kernel
theorem dL_aboveByAll_8 : decode cL_aboveByAll 8 = .ok (.ldc2_w 58, 3) := by decide +kernel
theorem dL_aboveByAll_11 : decode cL_aboveByAll 11 = .ok (.lreturn, 1) := by decide +kernel
theorem dL_aboveByAll_12 : decode cL_aboveByAll 12 = .ok (.astore_n 3, 1) := by decide +kernel
theorem dL_aboveByAll_13 : decode cL_aboveByAll 13 = .ok (.ldc2_w 60, 3) := by decide +kernel
theorem dL_aboveByAll_16 : decode cL_aboveByAll 16 = .ok (.lreturn, 1) := by decide +kernel
theorem dL_aboveByAll_17 : decode cL_aboveByAll 17 = .ok (.astore_n 3, 1) := by decide +kernel
theorem dL_aboveByAll_18 : decode cL_aboveByAll 18 = .ok (.ldc2_w 62, 3) := by decide +kernel
theorem dL_aboveByAll_21 : decode cL_aboveByAll 21 = .ok (.lreturn, 1) := by decide +kernel
theorem dL_belowByAll_0 : decode cL_belowByAll 0 = .ok (.aload_n 0, 1) := by decide +kernel
theorem dL_belowByAll_1 : decode cL_belowByAll 1 = .ok (.iload_n 1, 1) := by decide +kernel
theorem dL_belowByAll_2 : decode cL_belowByAll 2 = .ok (.iload_n 2, 1) := by decide +kernel
theorem dL_belowByAll_3 : decode cL_belowByAll 3 = .ok (.invokevirtual 70, 3) := by decide +kernel
theorem dL_belowByAll_6 : decode cL_belowByAll 6 = .ok (.lreturn, 1) := by decide +kernel
theorem dL_belowByAll_7 : decode cL_belowByAll 7 = .ok (.astore_n 3, 1) := by decide +kernel
theorem dL_belowByAll_8 : decode cL_belowByAll 8 = .ok (.ldc2_w 58, 3) := by decide +kernel
theorem dL_belowByAll_11 : decode cL_belowByAll 11 = .ok (.lreturn, 1) := by decide +kernel
theorem dL_belowByAll_12 : decode cL_belowByAll 12 = .ok (.astore_n 3, 1) := by decide +kernel
theorem dL_belowByAll_13 : decode cL_belowByAll 13 = .ok (.ldc2_w 60, 3) := by decide +kernel
theorem dL_belowByAll_16 : decode cL_belowByAll 16 = .ok (.lreturn, 1) := by decide +kernel
theorem dL_belowByAll_17 : decode cL_belowByAll 17 = .ok (.astore_n 3, 1) := by decide +kernel
theorem dL_belowByAll_18 : decode cL_belowByAll 18 = .ok (.ldc2_w 62, 3) := by decide +kernel
theorem dL_belowByAll_21 : decode cL_belowByAll 21 = .ok (.lreturn, 1) := by decide +kernel
theorem dL_valueFloat_0 : decode cL_valueFloat 0 = .ok (.aload_n 0, 1) := by decide +kernel
theorem dL_valueFloat_1 : decode cL_valueFloat 1 = .ok (.iload_n 1, 1) := by decide +kernel
theorem dL_valueFloat_2 : decode cL_valueFloat 2 = .ok (.iload_n 2, 1) := by decide +kernel
theorem dL_valueFloat_3 : decode cL_valueFloat 3 = .ok (.invokevirtual 73, 3) := by decide +kernel
theorem dL_valueFloat_6 : decode cL_valueFloat 6 = .ok (.freturn, 1) := by decide +kernel
theorem dL_valueFloat_7 : decode cL_valueFloat 7 = .ok (.astore_n 3, 1) := by decide +kernel
theorem dL_valueFloat_8 : decode cL_valueFloat 8 = .ok (.ldc 77, 2) := by decide +kernel
theorem dL_valueFloat_10 : decode cL_valueFloat 10 = .ok (.freturn, 1) := by decide +kernel
theorem dL_valueFloat_11 : decode cL_valueFloat 11 = .ok (.astore_n 3, 1) := by decide +kernel
theorem dL_valueFloat_12 : decode cL_valueFloat 12 = .ok (.ldc 78, 2) := by decide +kernel
theorem dL_valueFloat_14 : decode cL_valueFloat 14 = .ok (.freturn, 1) := by decide +kernel
theorem dL_valueFloat_15 : decode cL_valueFloat 15 = .ok (.astore_n 3, 1) := by decide +kernel
theorem dL_valueFloat_16 : decode cL_valueFloat 16 = .ok (.ldc 79, 2) := by decide +kernel
theorem dL_valueFloat_18 : decode cL_valueFloat 18 = .ok (.freturn, 1) := by decide +kernel
theorem dL_bound_0 : decode cL_bound 0 = .ok (.aload_n 0, 1) := by decide +kernel
theorem dL_bound_1 : decode cL_bound 1 = .ok (.iload_n 1, 1) := by decide +kernel
theorem dL_bound_2 : decode cL_bound 2 = .ok (.iload_n 2, 1) := by decide +kernel
theorem dL_bound_3 : decode cL_bound 3 = .ok (.invokevirtual 80, 3) := by decide +kernel
theorem dL_bound_6 : decode cL_bound 6 = .ok (.dreturn, 1) := by decide +kernel
theorem dL_bound_7 : decode cL_bound 7 = .ok (.astore_n 3, 1) := by decide +kernel
theorem dL_bound_8 : decode cL_bound 8 = .ok (.ldc2_w 84, 3) := by decide +kernel
theorem dL_bound_11 : decode cL_bound 11 = .ok (.dreturn, 1) := by decide +kernel
theorem dL_bound_12 : decode cL_bound 12 = .ok (.astore_n 3, 1) := by decide +kernel
theorem dL_bound_13 : decode cL_bound 13 = .ok (.ldc2_w 86, 3) := by decide +kernel
theorem dL_bound_16 : decode cL_bound 16 = .ok (.dreturn, 1) := by decide +kernel
theorem dL_bound_17 : decode cL_bound 17 = .ok (.astore_n 3, 1) := by decide +kernel
theorem dL_bound_18 : decode cL_bound 18 = .ok (.ldc2_w 88, 3) := by decide +kernel
theorem dL_bound_21 : decode cL_bound 21 = .ok (.dreturn, 1) := by decide +kernel
theorem dL_isZero_0 : decode cL_isZero 0 = .ok (.aload_n 0, 1) := by decide +kernel
theorem dL_isZero_1 : decode cL_isZero 1 = .ok (.iload_n 1, 1) := by decide +kernel
theorem dL_isZero_2 : decode cL_isZero 2 = .ok (.invokevirtual 90, 3) := by decide +kernel
theorem dL_isZero_5 : decode cL_isZero 5 = .ok (.ifCond .eq 7, 3) := by decide +kernel
theorem dL_isZero_8 : decode cL_isZero 8 = .ok (.iconst 1, 1) := by decide +kernel
theorem dL_isZero_9 : decode cL_isZero 9 = .ok (.goto 4, 3) := by decide +kernel
theorem dL_isZero_12 : decode cL_isZero 12 = .ok (.iconst 0, 1) := by decide +kernel
theorem dL_isZero_13 : decode cL_isZero 13 = .ok (.ireturn, 1) := by decide +kernel
theorem dL_isZero_14 : decode cL_isZero 14 = .ok (.astore_n 2, 1) := by decide +kernel
theorem dL_isZero_15 : decode cL_isZero 15 = .ok (.bipush (-77), 2) := by decide +kernel
theorem dL_isZero_17 : decode cL_isZero 17 = .ok (.ireturn, 1) := by decide +kernel
theorem dL_isZero_18 : decode cL_isZero 18 = .ok (.astore_n 2, 1) := by decide +kernel
theorem dL_isZero_19 : decode cL_isZero 19 = .ok (.bipush (-79), 2) := by decide +kernel
theorem dL_isZero_21 : decode cL_isZero 21 = .ok (.ireturn, 1) := by decide +kernel
theorem dL_isOne_0 : decode cL_isOne 0 = .ok (.aload_n 0, 1) := by decide +kernel
theorem dL_isOne_1 : decode cL_isOne 1 = .ok (.iload_n 1, 1) := by decide +kernel
theorem dL_isOne_2 : decode cL_isOne 2 = .ok (.invokevirtual 94, 3) := by decide +kernel
theorem dL_isOne_5 : decode cL_isOne 5 = .ok (.ifCond .eq 7, 3) := by decide +kernel
theorem dL_isOne_8 : decode cL_isOne 8 = .ok (.iconst 1, 1) := by decide +kernel
theorem dL_isOne_9 : decode cL_isOne 9 = .ok (.goto 4, 3) := by decide +kernel
theorem dL_isOne_12 : decode cL_isOne 12 = .ok (.iconst 0, 1) := by decide +kernel
theorem dL_isOne_13 : decode cL_isOne 13 = .ok (.ireturn, 1) := by decide +kernel
theorem dL_isOne_14 : decode cL_isOne 14 = .ok (.astore_n 2, 1) := by decide +kernel
theorem dL_isOne_15 : decode cL_isOne 15 = .ok (.bipush (-77), 2) := by decide +kernel
theorem dL_isOne_17 : decode cL_isOne 17 = .ok (.ireturn, 1) := by decide +kernel
theorem dL_isOne_18 : decode cL_isOne 18 = .ok (.astore_n 2, 1) := by decide +kernel
theorem dL_isOne_19 : decode cL_isOne 19 = .ok (.bipush (-79), 2) := by decide +kernel
theorem dL_isOne_21 : decode cL_isOne 21 = .ok (.ireturn, 1) := by decide +kernel
theorem dL_solve_0 : decode cL_solve 0 = .ok (.aload_n 0, 1) := by decide +kernel
theorem dL_solve_1 : decode cL_solve 1 = .ok (.iload_n 1, 1) := by decide +kernel
theorem dL_solve_2 : decode cL_solve 2 = .ok (.invokevirtual 97, 3) := by decide +kernel
theorem dL_solve_5 : decode cL_solve 5 = .ok (.ireturn, 1) := by decide +kernel
theorem dL_solve_6 : decode cL_solve 6 = .ok (.astore_n 2, 1) := by decide +kernel
theorem dL_solve_7 : decode cL_solve 7 = .ok (.bipush (-78), 2) := by decide +kernel
theorem dL_solve_9 : decode cL_solve 9 = .ok (.ireturn, 1) := by decide +kernel
theorem dL_solve_10 : decode cL_solve 10 = .ok (.astore_n 2, 1) := by decide +kernel
theorem dL_solve_11 : decode cL_solve 11 = .ok (.bipush (-79), 2) := by decide +kernel
theorem dL_solve_13 : decode cL_solve 13 = .ok (.ireturn, 1) := by decide +kernel
theorem dL_tell_0 : decode cL_tell 0 = .ok (.aload_n 0, 1) := by decide +kernel
theorem dL_tell_1 : decode cL_tell 1 = .ok (.iload_n 1, 1) := by decide +kernel
theorem dL_tell_2 : decode cL_tell 2 = .ok (.iload_n 2, 1) := by decide +kernel
theorem dL_tell_3 : decode cL_tell 3 = .ok (.invokevirtual 101, 3) := by decide +kernel
theorem dL_tell_6 : decode cL_tell 6 = .ok (.ireturn, 1) := by decide +kernel
theorem dL_tell_7 : decode cL_tell 7 = .ok (.astore_n 3, 1) := by decide +kernel
theorem dL_tell_8 : decode cL_tell 8 = .ok (.bipush (-77), 2) := by decide +kernel
theorem dL_tell_10 : decode cL_tell 10 = .ok (.ireturn, 1) := by decide +kernel
theorem dL_told_0 : decode cL_told 0 = .ok (.aload_n 0, 1) := by decide +kernel
theorem dL_told_1 : decode cL_told 1 = .ok (.iload_n 1, 1) := by decide +kernel
theorem dL_told_2 : decode cL_told 2 = .ok (.invokevirtual 104, 3) := by decide +kernel
theorem dL_told_5 : decode cL_told 5 = .ok (.ireturn, 1) := by decide +kernel
theorem dL_told_6 : decode cL_told 6 = .ok (.astore_n 2, 1) := by decide +kernel
theorem dL_told_7 : decode cL_told 7 = .ok (.bipush (-77), 2) := by decide +kernel
theorem dL_told_9 : decode cL_told 9 = .ok (.ireturn, 1) := by decide +kernel
theorem dL_chainAbove_0 : decode cL_chainAbove 0 = .ok (.aload_n 0, 1) := by decide +kernel
theorem dL_chainAbove_1 : decode cL_chainAbove 1 = .ok (.iload_n 1, 1) := by decide +kernel
theorem dL_chainAbove_2 : decode cL_chainAbove 2 = .ok (.iload_n 2, 1) := by decide +kernel
theorem dL_chainAbove_3 : decode cL_chainAbove 3 = .ok (.invokevirtual 107, 3) := by decide +kernel
theorem dL_chainAbove_6 : decode cL_chainAbove 6 = .ok (.lreturn, 1) := by decide +kernel
theorem dL_chainAbove_7 : decode cL_chainAbove 7 = .ok (.astore_n 3, 1) := by decide +kernel
theorem dL_chainAbove_8 : decode cL_chainAbove 8 = .ok (.ldc2_w 58, 3) := by decide +kernel
theorem dL_chainAbove_11 : decode cL_chainAbove 11 = .ok (.lreturn, 1) := by decide +kernel
theorem dL_chainAbove_12 : decode cL_chainAbove 12 = .ok (.astore_n 3, 1) := by decide +kernel
theorem dL_chainAbove_13 : decode cL_chainAbove 13 = .ok (.ldc2_w 60, 3) := by decide +kernel
theorem dL_chainAbove_16 : decode cL_chainAbove 16 = .ok (.lreturn, 1) := by decide +kernel
theorem dL_chainAbove_17 : decode cL_chainAbove 17 = .ok (.astore_n 3, 1) := by decide +kernel
theorem dL_chainAbove_18 : decode cL_chainAbove 18 = .ok (.ldc2_w 62, 3) := by decide +kernel
theorem dL_chainAbove_21 : decode cL_chainAbove 21 = .ok (.lreturn, 1) := by decide +kernel
theorem dL_chainBelow_0 : decode cL_chainBelow 0 = .ok (.aload_n 0, 1) := by decide +kernel
theorem dL_chainBelow_1 : decode cL_chainBelow 1 = .ok (.iload_n 1, 1) := by decide +kernel
theorem dL_chainBelow_2 : decode cL_chainBelow 2 = .ok (.iload_n 2, 1) := by decide +kernel
theorem dL_chainBelow_3 : decode cL_chainBelow 3 = .ok (.invokevirtual 110, 3) := by decide +kernel
theorem dL_chainBelow_6 : decode cL_chainBelow 6 = .ok (.lreturn, 1) := by decide +kernel
theorem dL_chainBelow_7 : decode cL_chainBelow 7 = .ok (.astore_n 3, 1) := by decide +kernel
theorem dL_chainBelow_8 : decode cL_chainBelow 8 = .ok (.ldc2_w 58, 3) := by decide +kernel
theorem dL_chainBelow_11 : decode cL_chainBelow 11 = .ok (.lreturn, 1) := by decide +kernel
theorem dL_chainBelow_12 : decode cL_chainBelow 12 = .ok (.astore_n 3, 1) := by decide +kernel
theorem dL_chainBelow_13 : decode cL_chainBelow 13 = .ok (.ldc2_w 60, 3) := by decide +kernel
theorem dL_chainBelow_16 : decode cL_chainBelow 16 = .ok (.lreturn, 1) := by decide +kernel
theorem dL_chainBelow_17 : decode cL_chainBelow 17 = .ok (.astore_n 3, 1) := by decide +kernel
theorem dL_chainBelow_18 : decode cL_chainBelow 18 = .ok (.ldc2_w 62, 3) := by decide +kernel
theorem dL_chainBelow_21 : decode cL_chainBelow 21 = .ok (.lreturn, 1) := by decide +kernel
theorem dL_responseAbove_0 : decode cL_responseAbove 0 = .ok (.aload_n 0, 1) := by decide +kernel
theorem dL_responseAbove_1 : decode cL_responseAbove 1 = .ok (.iload_n 1, 1) := by decide +kernel
theorem dL_responseAbove_2 : decode cL_responseAbove 2 = .ok (.iload_n 2, 1) := by decide +kernel
theorem dL_responseAbove_3 : decode cL_responseAbove 3 = .ok (.iload_n 3, 1) := by decide +kernel
theorem dL_responseAbove_4 : decode cL_responseAbove 4 = .ok (.invokevirtual 113, 3) := by decide +kernel
theorem dL_responseAbove_7 : decode cL_responseAbove 7 = .ok (.lreturn, 1) := by decide +kernel
theorem dL_responseAbove_8 : decode cL_responseAbove 8 = .ok (.astore 4, 2) := by decide +kernel
theorem dL_responseAbove_10 : decode cL_responseAbove 10 = .ok (.ldc2_w 58, 3) := by decide +kernel
theorem dL_responseAbove_13 : decode cL_responseAbove 13 = .ok (.lreturn, 1) := by decide +kernel
theorem dL_responseAbove_14 : decode cL_responseAbove 14 = .ok (.astore 4, 2) := by decide +kernel
theorem dL_responseAbove_16 : decode cL_responseAbove 16 = .ok (.ldc2_w 60, 3) := by decide +kernel
theorem dL_responseAbove_19 : decode cL_responseAbove 19 = .ok (.lreturn, 1) := by decide +kernel
theorem dL_responseAbove_20 : decode cL_responseAbove 20 = .ok (.astore 4, 2) := by decide +kernel
theorem dL_responseAbove_22 : decode cL_responseAbove 22 = .ok (.ldc2_w 62, 3) := by decide +kernel
theorem dL_responseAbove_25 : decode cL_responseAbove 25 = .ok (.lreturn, 1) := by decide +kernel
theorem dL_responseBelow_0 : decode cL_responseBelow 0 = .ok (.aload_n 0, 1) := by decide +kernel
theorem dL_responseBelow_1 : decode cL_responseBelow 1 = .ok (.iload_n 1, 1) := by decide +kernel
theorem dL_responseBelow_2 : decode cL_responseBelow 2 = .ok (.iload_n 2, 1) := by decide +kernel
theorem dL_responseBelow_3 : decode cL_responseBelow 3 = .ok (.iload_n 3, 1) := by decide +kernel
theorem dL_responseBelow_4 : decode cL_responseBelow 4 = .ok (.invokevirtual 117, 3) := by decide +kernel
theorem dL_responseBelow_7 : decode cL_responseBelow 7 = .ok (.lreturn, 1) := by decide +kernel
theorem dL_responseBelow_8 : decode cL_responseBelow 8 = .ok (.astore 4, 2) := by decide +kernel
theorem dL_responseBelow_10 : decode cL_responseBelow 10 = .ok (.ldc2_w 58, 3) := by decide +kernel
theorem dL_responseBelow_13 : decode cL_responseBelow 13 = .ok (.lreturn, 1) := by decide +kernel
theorem dL_responseBelow_14 : decode cL_responseBelow 14 = .ok (.astore 4, 2) := by decide +kernel
theorem dL_responseBelow_16 : decode cL_responseBelow 16 = .ok (.ldc2_w 60, 3) := by decide +kernel
theorem dL_responseBelow_19 : decode cL_responseBelow 19 = .ok (.lreturn, 1) := by decide +kernel
theorem dL_responseBelow_20 : decode cL_responseBelow 20 = .ok (.astore 4, 2) := by decide +kernel
theorem dL_responseBelow_22 : decode cL_responseBelow 22 = .ok (.ldc2_w 62, 3) := by decide +kernel
theorem dL_responseBelow_25 : decode cL_responseBelow 25 = .ok (.lreturn, 1) := by decide +kernel
theorem dL_closedOf_0 : decode cL_closedOf 0 = .ok (.aload_n 0, 1) := by decide +kernel
theorem dL_closedOf_1 : decode cL_closedOf 1 = .ok (.iload_n 1, 1) := by decide +kernel
theorem dL_closedOf_2 : decode cL_closedOf 2 = .ok (.invokevirtual 120, 3) := by decide +kernel
theorem dL_closedOf_5 : decode cL_closedOf 5 = .ok (.ireturn, 1) := by decide +kernel
theorem dL_closedOf_6 : decode cL_closedOf 6 = .ok (.astore_n 2, 1) := by decide +kernel
theorem dL_closedOf_7 : decode cL_closedOf 7 = .ok (.bipush (-77), 2) := by decide +kernel
theorem dL_closedOf_9 : decode cL_closedOf 9 = .ok (.ireturn, 1) := by decide +kernel
theorem dL_closedOf_10 : decode cL_closedOf 10 = .ok (.astore_n 2, 1) := by decide +kernel
theorem dL_closedOf_11 : decode cL_closedOf 11 = .ok (.bipush (-79), 2) := by decide +kernel
theorem dL_closedOf_13 : decode cL_closedOf 13 = .ok (.ireturn, 1) := by decide +kernel
theorem dL_closedOf_14 : decode cL_closedOf 14 = .ok (.astore_n 2, 1) := by decide +kernel
theorem dL_closedOf_15 : decode cL_closedOf 15 = .ok (.bipush (-75), 2) := by decide +kernel
theorem dL_closedOf_17 : decode cL_closedOf 17 = .ok (.ireturn, 1) := by decide +kernel
theorem dL_endOf_0 : decode cL_endOf 0 = .ok (.aload_n 0, 1) := by decide +kernel
theorem dL_endOf_1 : decode cL_endOf 1 = .ok (.iload_n 1, 1) := by decide +kernel
theorem dL_endOf_2 : decode cL_endOf 2 = .ok (.invokevirtual 125, 3) := by decide +kernel
theorem dL_endOf_5 : decode cL_endOf 5 = .ok (.ireturn, 1) := by decide +kernel
theorem dL_endOf_6 : decode cL_endOf 6 = .ok (.astore_n 2, 1) := by decide +kernel
theorem dL_endOf_7 : decode cL_endOf 7 = .ok (.bipush (-77), 2) := by decide +kernel
theorem dL_endOf_9 : decode cL_endOf 9 = .ok (.ireturn, 1) := by decide +kernel
theorem dL_endOf_10 : decode cL_endOf 10 = .ok (.astore_n 2, 1) := by decide +kernel
theorem dL_endOf_11 : decode cL_endOf 11 = .ok (.bipush (-79), 2) := by decide +kernel
theorem dL_endOf_13 : decode cL_endOf 13 = .ok (.ireturn, 1) := by decide +kernel
theorem dL_endOf_14 : decode cL_endOf 14 = .ok (.astore_n 2, 1) := by decide +kernel
theorem dL_endOf_15 : decode cL_endOf 15 = .ok (.bipush (-75), 2) := by decide +kernel
theorem dL_endOf_17 : decode cL_endOf 17 = .ok (.ireturn, 1) := by decide +kernel
theorem dL_classOf_0 : decode cL_classOf 0 = .ok (.aload_n 0, 1) := by decide +kernel
theorem dL_classOf_1 : decode cL_classOf 1 = .ok (.iload_n 1, 1) := by decide +kernel
theorem dL_classOf_2 : decode cL_classOf 2 = .ok (.invokevirtual 128, 3) := by decide +kernel
theorem dL_classOf_5 : decode cL_classOf 5 = .ok (.ireturn, 1) := by decide +kernel
theorem dL_classOf_6 : decode cL_classOf 6 = .ok (.astore_n 2, 1) := by decide +kernel
theorem dL_classOf_7 : decode cL_classOf 7 = .ok (.bipush (-77), 2) := by decide +kernel
theorem dL_classOf_9 : decode cL_classOf 9 = .ok (.ireturn, 1) := by decide +kernel
theorem dL_classOf_10 : decode cL_classOf 10 = .ok (.astore_n 2, 1) := by decide +kernel
theorem dL_classOf_11 : decode cL_classOf 11 = .ok (.bipush (-79), 2) := by decide +kernel
theorem dL_classOf_13 : decode cL_classOf 13 = .ok (.ireturn, 1) := by decide +kernel
theorem dL_classes_0 : decode cL_classes 0 = .ok (.aload_n 0, 1) := by decide +kernel
theorem dL_classes_1 : decode cL_classes 1 = .ok (.invokevirtual 131, 3) := by decide +kernel
theorem dL_classes_4 : decode cL_classes 4 = .ok (.ireturn, 1) := by decide +kernel
theorem dL_classes_5 : decode cL_classes 5 = .ok (.astore_n 1, 1) := by decide +kernel
theorem dL_classes_6 : decode cL_classes 6 = .ok (.bipush (-79), 2) := by decide +kernel
theorem dL_classes_8 : decode cL_classes 8 = .ok (.ireturn, 1) := by decide +kernel
theorem dL_traceLength_0 : decode cL_traceLength 0 = .ok (.aload_n 0, 1) := by decide +kernel
theorem dL_traceLength_1 : decode cL_traceLength 1 = .ok (.iload_n 1, 1) := by decide +kernel
theorem dL_traceLength_2 : decode cL_traceLength 2 = .ok (.invokevirtual 135, 3) := by decide +kernel
theorem dL_traceLength_5 : decode cL_traceLength 5 = .ok (.ireturn, 1) := by decide +kernel
theorem dL_traceLength_6 : decode cL_traceLength 6 = .ok (.astore_n 2, 1) := by decide +kernel
theorem dL_traceLength_7 : decode cL_traceLength 7 = .ok (.bipush (-77), 2) := by decide +kernel
theorem dL_traceLength_9 : decode cL_traceLength 9 = .ok (.ireturn, 1) := by decide +kernel
theorem dL_traceLength_10 : decode cL_traceLength 10 = .ok (.astore_n 2, 1) := by decide +kernel
theorem dL_traceLength_11 : decode cL_traceLength 11 = .ok (.bipush (-79), 2) := by decide +kernel
theorem dL_traceLength_13 : decode cL_traceLength 13 = .ok (.ireturn, 1) := by decide +kernel
theorem dL_traceLength_14 : decode cL_traceLength 14 = .ok (.astore_n 2, 1) := by decide +kernel
theorem dL_traceLength_15 : decode cL_traceLength 15 = .ok (.bipush (-75), 2) := by decide +kernel
theorem dL_traceLength_17 : decode cL_traceLength 17 = .ok (.ireturn, 1) := by decide +kernel
theorem dL_traceAt_0 : decode cL_traceAt 0 = .ok (.aload_n 0, 1) := by decide +kernel
theorem dL_traceAt_1 : decode cL_traceAt 1 = .ok (.iload_n 1, 1) := by decide +kernel
theorem dL_traceAt_2 : decode cL_traceAt 2 = .ok (.iload_n 2, 1) := by decide +kernel
theorem dL_traceAt_3 : decode cL_traceAt 3 = .ok (.invokevirtual 138, 3) := by decide +kernel
theorem dL_traceAt_6 : decode cL_traceAt 6 = .ok (.ireturn, 1) := by decide +kernel
theorem dL_traceAt_7 : decode cL_traceAt 7 = .ok (.astore_n 3, 1) := by decide +kernel
theorem dL_traceAt_8 : decode cL_traceAt 8 = .ok (.bipush (-77), 2) := by decide +kernel
theorem dL_traceAt_10 : decode cL_traceAt 10 = .ok (.ireturn, 1) := by decide +kernel
theorem dL_traceAt_11 : decode cL_traceAt 11 = .ok (.astore_n 3, 1) := by decide +kernel
theorem dL_traceAt_12 : decode cL_traceAt 12 = .ok (.bipush (-79), 2) := by decide +kernel
theorem dL_traceAt_14 : decode cL_traceAt 14 = .ok (.ireturn, 1) := by decide +kernel
theorem dL_traceAt_15 : decode cL_traceAt 15 = .ok (.astore_n 3, 1) := by decide +kernel
theorem dL_traceAt_16 : decode cL_traceAt 16 = .ok (.bipush (-75), 2) := by decide +kernel
theorem dL_traceAt_18 : decode cL_traceAt 18 = .ok (.ireturn, 1) := by decide +kernel
theorem dL_traceAbove_0 : decode cL_traceAbove 0 = .ok (.aload_n 0, 1) := by decide +kernel
theorem dL_traceAbove_1 : decode cL_traceAbove 1 = .ok (.iload_n 1, 1) := by decide +kernel
theorem dL_traceAbove_2 : decode cL_traceAbove 2 = .ok (.invokevirtual 141, 3) := by decide +kernel
theorem dL_traceAbove_5 : decode cL_traceAbove 5 = .ok (.lreturn, 1) := by decide +kernel
theorem dL_traceAbove_6 : decode cL_traceAbove 6 = .ok (.astore_n 2, 1) := by decide +kernel
theorem dL_traceAbove_7 : decode cL_traceAbove 7 = .ok (.ldc2_w 60, 3) := by decide +kernel
theorem dL_traceAbove_10 : decode cL_traceAbove 10 = .ok (.lreturn, 1) := by decide +kernel
theorem dL_traceAbove_11 : decode cL_traceAbove 11 = .ok (.astore_n 2, 1) := by decide +kernel
theorem dL_traceAbove_12 : decode cL_traceAbove 12 = .ok (.ldc2_w 62, 3) := by decide +kernel
theorem dL_traceAbove_15 : decode cL_traceAbove 15 = .ok (.lreturn, 1) := by decide +kernel
theorem dL_traceAbove_16 : decode cL_traceAbove 16 = .ok (.astore_n 2, 1) := by decide +kernel
theorem dL_traceAbove_17 : decode cL_traceAbove 17 = .ok (.ldc2_w 145, 3) := by decide +kernel
theorem dL_traceAbove_20 : decode cL_traceAbove 20 = .ok (.lreturn, 1) := by decide +kernel
theorem dL_traceBelow_0 : decode cL_traceBelow 0 = .ok (.aload_n 0, 1) := by decide +kernel
theorem dL_traceBelow_1 : decode cL_traceBelow 1 = .ok (.iload_n 1, 1) := by decide +kernel
theorem dL_traceBelow_2 : decode cL_traceBelow 2 = .ok (.invokevirtual 147, 3) := by decide +kernel
theorem dL_traceBelow_5 : decode cL_traceBelow 5 = .ok (.lreturn, 1) := by decide +kernel
theorem dL_traceBelow_6 : decode cL_traceBelow 6 = .ok (.astore_n 2, 1) := by decide +kernel
theorem dL_traceBelow_7 : decode cL_traceBelow 7 = .ok (.ldc2_w 60, 3) := by decide +kernel
theorem dL_traceBelow_10 : decode cL_traceBelow 10 = .ok (.lreturn, 1) := by decide +kernel
theorem dL_traceBelow_11 : decode cL_traceBelow 11 = .ok (.astore_n 2, 1) := by decide +kernel
theorem dL_traceBelow_12 : decode cL_traceBelow 12 = .ok (.ldc2_w 62, 3) := by decide +kernel
theorem dL_traceBelow_15 : decode cL_traceBelow 15 = .ok (.lreturn, 1) := by decide +kernel
theorem dL_traceBelow_16 : decode cL_traceBelow 16 = .ok (.astore_n 2, 1) := by decide +kernel
theorem dL_traceBelow_17 : decode cL_traceBelow 17 = .ok (.ldc2_w 145, 3) := by decide +kernel
theorem dL_traceBelow_20 : decode cL_traceBelow 20 = .ok (.lreturn, 1) := by decide +kernel
theorem dL_isBest_0 : decode cL_isBest 0 = .ok (.aload_n 0, 1) := by decide +kernel
theorem dL_isBest_1 : decode cL_isBest 1 = .ok (.iload_n 1, 1) := by decide +kernel
theorem dL_isBest_2 : decode cL_isBest 2 = .ok (.iload_n 2, 1) := by decide +kernel
theorem dL_isBest_3 : decode cL_isBest 3 = .ok (.invokestatic 211, 3) := by decide +kernel
theorem dL_isBest_6 : decode cL_isBest 6 = .ok (.lstore_n 3, 1) := by decide +kernel
theorem dL_isBest_7 : decode cL_isBest 7 = .ok (.aload_n 0, 1) := by decide +kernel
theorem dL_isBest_8 : decode cL_isBest 8 = .ok (.iload_n 1, 1) := by decide +kernel
theorem dL_isBest_9 : decode cL_isBest 9 = .ok (.iload_n 2, 1) := by decide +kernel
theorem dL_isBest_10 : decode cL_isBest 10 = .ok (.invokestatic 214, 3) := by decide +kernel
theorem dL_isBest_13 : decode cL_isBest 13 = .ok (.lstore 5, 2) := by decide +kernel
theorem dL_isBest_15 : decode cL_isBest 15 = .ok (.lload_n 3, 1) := by decide +kernel
theorem dL_isBest_16 : decode cL_isBest 16 = .ok (.lconst 0, 1) := by decide +kernel
theorem dL_isBest_17 : decode cL_isBest 17 = .ok (.lcmp, 1) := by decide +kernel
theorem dL_isBest_18 : decode cL_isBest 18 = .ok (.ifCond .lt 60, 3) := by decide +kernel
theorem dL_isBest_21 : decode cL_isBest 21 = .ok (.lload 5, 2) := by decide +kernel
theorem dL_isBest_23 : decode cL_isBest 23 = .ok (.lconst 0, 1) := by decide +kernel
theorem dL_isBest_24 : decode cL_isBest 24 = .ok (.lcmp, 1) := by decide +kernel
theorem dL_isBest_25 : decode cL_isBest 25 = .ok (.ifCond .le 53, 3) := by decide +kernel
theorem dL_isBest_28 : decode cL_isBest 28 = .ok (.aload_n 0, 1) := by decide +kernel
theorem dL_isBest_29 : decode cL_isBest 29 = .ok (.iload_n 1, 1) := by decide +kernel
theorem dL_isBest_30 : decode cL_isBest 30 = .ok (.iload_n 2, 1) := by decide +kernel
theorem dL_isBest_31 : decode cL_isBest 31 = .ok (.invokestatic 216, 3) := by decide +kernel
theorem dL_isBest_34 : decode cL_isBest 34 = .ok (.lload_n 3, 1) := by decide +kernel
theorem dL_isBest_35 : decode cL_isBest 35 = .ok (.lcmp, 1) := by decide +kernel
theorem dL_isBest_36 : decode cL_isBest 36 = .ok (.ifCond .ne 42, 3) := by decide +kernel
theorem dL_isBest_39 : decode cL_isBest 39 = .ok (.aload_n 0, 1) := by decide +kernel
theorem dL_isBest_40 : decode cL_isBest 40 = .ok (.iload_n 1, 1) := by decide +kernel
theorem dL_isBest_41 : decode cL_isBest 41 = .ok (.iload_n 2, 1) := by decide +kernel
theorem dL_isBest_42 : decode cL_isBest 42 = .ok (.invokestatic 218, 3) := by decide +kernel
theorem dL_isBest_45 : decode cL_isBest 45 = .ok (.lload 5, 2) := by decide +kernel
theorem dL_isBest_47 : decode cL_isBest 47 = .ok (.lcmp, 1) := by decide +kernel
theorem dL_isBest_48 : decode cL_isBest 48 = .ok (.ifCond .ne 30, 3) := by decide +kernel
theorem dL_isBest_51 : decode cL_isBest 51 = .ok (.aload_n 0, 1) := by decide +kernel
theorem dL_isBest_52 : decode cL_isBest 52 = .ok (.iload_n 1, 1) := by decide +kernel
theorem dL_isBest_53 : decode cL_isBest 53 = .ok (.iload_n 2, 1) := by decide +kernel
theorem dL_isBest_54 : decode cL_isBest 54 = .ok (.invokestatic 220, 3) := by decide +kernel
theorem dL_isBest_57 : decode cL_isBest 57 = .ok (.lload_n 3, 1) := by decide +kernel
theorem dL_isBest_58 : decode cL_isBest 58 = .ok (.lcmp, 1) := by decide +kernel
theorem dL_isBest_59 : decode cL_isBest 59 = .ok (.ifCond .ne 19, 3) := by decide +kernel
theorem dL_isBest_62 : decode cL_isBest 62 = .ok (.aload_n 0, 1) := by decide +kernel
theorem dL_isBest_63 : decode cL_isBest 63 = .ok (.iload_n 1, 1) := by decide +kernel
theorem dL_isBest_64 : decode cL_isBest 64 = .ok (.iload_n 2, 1) := by decide +kernel
theorem dL_isBest_65 : decode cL_isBest 65 = .ok (.invokestatic 222, 3) := by decide +kernel
theorem dL_isBest_68 : decode cL_isBest 68 = .ok (.lload 5, 2) := by decide +kernel
theorem dL_isBest_70 : decode cL_isBest 70 = .ok (.lcmp, 1) := by decide +kernel
theorem dL_isBest_71 : decode cL_isBest 71 = .ok (.ifCond .ne 7, 3) := by decide +kernel
theorem dL_isBest_74 : decode cL_isBest 74 = .ok (.iconst 1, 1) := by decide +kernel
theorem dL_isBest_75 : decode cL_isBest 75 = .ok (.goto 4, 3) := by decide +kernel
theorem dL_isBest_78 : decode cL_isBest 78 = .ok (.iconst 0, 1) := by decide +kernel
theorem dL_isBest_79 : decode cL_isBest 79 = .ok (.istore 7, 2) := by decide +kernel
theorem dL_isBest_81 : decode cL_isBest 81 = .ok (.iload 7, 2) := by decide +kernel
theorem dL_isBest_83 : decode cL_isBest 83 = .ok (.aload_n 0, 1) := by decide +kernel
theorem dL_isBest_84 : decode cL_isBest 84 = .ok (.bipush 97, 2) := by decide +kernel
theorem dL_isBest_86 : decode cL_isBest 86 = .ok (.iload_n 1, 1) := by decide +kernel
theorem dL_isBest_87 : decode cL_isBest 87 = .ok (.iload_n 2, 1) := by decide +kernel
theorem dL_isBest_88 : decode cL_isBest 88 = .ok (.invokestatic 224, 3) := by decide +kernel
theorem dL_isBest_91 : decode cL_isBest 91 = .ok (.lload_n 3, 1) := by decide +kernel
theorem dL_isBest_92 : decode cL_isBest 92 = .ok (.lcmp, 1) := by decide +kernel
theorem dL_isBest_93 : decode cL_isBest 93 = .ok (.ifCond .ne 48, 3) := by decide +kernel
theorem dL_isBest_96 : decode cL_isBest 96 = .ok (.aload_n 0, 1) := by decide +kernel
theorem dL_isBest_97 : decode cL_isBest 97 = .ok (.bipush 97, 2) := by decide +kernel
theorem dL_isBest_99 : decode cL_isBest 99 = .ok (.iload_n 1, 1) := by decide +kernel
theorem dL_isBest_100 : decode cL_isBest 100 = .ok (.iload_n 2, 1) := by decide +kernel
theorem dL_isBest_101 : decode cL_isBest 101 = .ok (.invokestatic 227, 3) := by decide +kernel
theorem dL_isBest_104 : decode cL_isBest 104 = .ok (.lload 5, 2) := by decide +kernel
theorem dL_isBest_106 : decode cL_isBest 106 = .ok (.lcmp, 1) := by decide +kernel
theorem dL_isBest_107 : decode cL_isBest 107 = .ok (.ifCond .ne 34, 3) := by decide +kernel
theorem dL_isBest_110 : decode cL_isBest 110 = .ok (.aload_n 0, 1) := by decide +kernel
theorem dL_isBest_111 : decode cL_isBest 111 = .ok (.bipush 98, 2) := by decide +kernel
theorem dL_isBest_113 : decode cL_isBest 113 = .ok (.iload_n 1, 1) := by decide +kernel
theorem dL_isBest_114 : decode cL_isBest 114 = .ok (.iload_n 2, 1) := by decide +kernel
theorem dL_isBest_115 : decode cL_isBest 115 = .ok (.invokestatic 224, 3) := by decide +kernel
theorem dL_isBest_118 : decode cL_isBest 118 = .ok (.lload_n 3, 1) := by decide +kernel
theorem dL_isBest_119 : decode cL_isBest 119 = .ok (.lcmp, 1) := by decide +kernel
theorem dL_isBest_120 : decode cL_isBest 120 = .ok (.ifCond .ne 21, 3) := by decide +kernel
theorem dL_isBest_123 : decode cL_isBest 123 = .ok (.aload_n 0, 1) := by decide +kernel
theorem dL_isBest_124 : decode cL_isBest 124 = .ok (.bipush 98, 2) := by decide +kernel
theorem dL_isBest_126 : decode cL_isBest 126 = .ok (.iload_n 1, 1) := by decide +kernel
theorem dL_isBest_127 : decode cL_isBest 127 = .ok (.iload_n 2, 1) := by decide +kernel
theorem dL_isBest_128 : decode cL_isBest 128 = .ok (.invokestatic 227, 3) := by decide +kernel
theorem dL_isBest_131 : decode cL_isBest 131 = .ok (.lload 5, 2) := by decide +kernel
