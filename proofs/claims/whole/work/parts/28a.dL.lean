theorem dL_addState_0 : decode cL_addState 0 = .ok (.aload_n 3, 1) := by decide +kernel
theorem dL_addState_1 : decode cL_addState 1 = .ok (.iconst 0, 1) := by decide +kernel
theorem dL_addState_2 : decode cL_addState 2 = .ok (.aload_n 0, 1) := by decide +kernel
theorem dL_addState_3 : decode cL_addState 3 = .ok (.iload_n 1, 1) := by decide +kernel
theorem dL_addState_4 : decode cL_addState 4 = .ok (.iload_n 2, 1) := by decide +kernel
theorem dL_addState_5 : decode cL_addState 5 = .ok (.invokevirtual 7, 3) := by decide +kernel
theorem dL_addState_8 : decode cL_addState 8 = .ok (.i2l, 1) := by decide +kernel
theorem dL_addState_9 : decode cL_addState 9 = .ok (.lastore, 1) := by decide +kernel
theorem dL_addState_10 : decode cL_addState 10 = .ok (.goto 11, 3) := by decide +kernel
theorem dL_addState_13 : decode cL_addState 13 = .ok (.astore 4, 2) := by decide +kernel
theorem dL_addState_15 : decode cL_addState 15 = .ok (.iconst 1, 1) := by decide +kernel
theorem dL_addState_16 : decode cL_addState 16 = .ok (.ireturn, 1) := by decide +kernel
theorem dL_addState_17 : decode cL_addState 17 = .ok (.astore 4, 2) := by decide +kernel
theorem dL_addState_19 : decode cL_addState 19 = .ok (.iconst 2, 1) := by decide +kernel
theorem dL_addState_20 : decode cL_addState 20 = .ok (.ireturn, 1) := by decide +kernel
theorem dL_addState_21 : decode cL_addState 21 = .ok (.iconst 0, 1) := by decide +kernel
theorem dL_addState_22 : decode cL_addState 22 = .ok (.ireturn, 1) := by decide +kernel
theorem dL_addChoice_0 : decode cL_addChoice 0 = .ok (.aload 4, 2) := by decide +kernel
theorem dL_addChoice_2 : decode cL_addChoice 2 = .ok (.iconst 0, 1) := by decide +kernel
theorem dL_addChoice_3 : decode cL_addChoice 3 = .ok (.aload_n 0, 1) := by decide +kernel
theorem dL_addChoice_4 : decode cL_addChoice 4 = .ok (.iload_n 1, 1) := by decide +kernel
theorem dL_addChoice_5 : decode cL_addChoice 5 = .ok (.iload_n 2, 1) := by decide +kernel
theorem dL_addChoice_6 : decode cL_addChoice 6 = .ok (.iload_n 3, 1) := by decide +kernel
theorem dL_addChoice_7 : decode cL_addChoice 7 = .ok (.invokevirtual 17, 3) := by decide +kernel
theorem dL_addChoice_10 : decode cL_addChoice 10 = .ok (.i2l, 1) := by decide +kernel
theorem dL_addChoice_11 : decode cL_addChoice 11 = .ok (.lastore, 1) := by decide +kernel
theorem dL_addChoice_12 : decode cL_addChoice 12 = .ok (.goto 15, 3) := by decide +kernel
theorem dL_addChoice_15 : decode cL_addChoice 15 = .ok (.astore 5, 2) := by decide +kernel
theorem dL_addChoice_17 : decode cL_addChoice 17 = .ok (.iconst 1, 1) := by decide +kernel
theorem dL_addChoice_18 : decode cL_addChoice 18 = .ok (.ireturn, 1) := by decide +kernel
theorem dL_addChoice_19 : decode cL_addChoice 19 = .ok (.astore 5, 2) := by decide +kernel
theorem dL_addChoice_21 : decode cL_addChoice 21 = .ok (.iconst 2, 1) := by decide +kernel
theorem dL_addChoice_22 : decode cL_addChoice 22 = .ok (.ireturn, 1) := by decide +kernel
theorem dL_addChoice_23 : decode cL_addChoice 23 = .ok (.astore 5, 2) := by decide +kernel
theorem dL_addChoice_25 : decode cL_addChoice 25 = .ok (.iconst 3, 1) := by decide +kernel
theorem dL_addChoice_26 : decode cL_addChoice 26 = .ok (.ireturn, 1) := by decide +kernel
theorem dL_addChoice_27 : decode cL_addChoice 27 = .ok (.iconst 0, 1) := by decide +kernel
theorem dL_addChoice_28 : decode cL_addChoice 28 = .ok (.ireturn, 1) := by decide +kernel
theorem dL_addWeight_0 : decode cL_addWeight 0 = .ok (.aload 5, 2) := by decide +kernel
theorem dL_addWeight_2 : decode cL_addWeight 2 = .ok (.iconst 0, 1) := by decide +kernel
theorem dL_addWeight_3 : decode cL_addWeight 3 = .ok (.aload_n 0, 1) := by decide +kernel
theorem dL_addWeight_4 : decode cL_addWeight 4 = .ok (.iload_n 1, 1) := by decide +kernel
theorem dL_addWeight_5 : decode cL_addWeight 5 = .ok (.iload_n 2, 1) := by decide +kernel
theorem dL_addWeight_6 : decode cL_addWeight 6 = .ok (.iload_n 3, 1) := by decide +kernel
theorem dL_addWeight_7 : decode cL_addWeight 7 = .ok (.iload 4, 2) := by decide +kernel
theorem dL_addWeight_9 : decode cL_addWeight 9 = .ok (.invokevirtual 23, 3) := by decide +kernel
theorem dL_addWeight_12 : decode cL_addWeight 12 = .ok (.i2l, 1) := by decide +kernel
theorem dL_addWeight_13 : decode cL_addWeight 13 = .ok (.lastore, 1) := by decide +kernel
theorem dL_addWeight_14 : decode cL_addWeight 14 = .ok (.goto 15, 3) := by decide +kernel
theorem dL_addWeight_17 : decode cL_addWeight 17 = .ok (.astore 6, 2) := by decide +kernel
theorem dL_addWeight_19 : decode cL_addWeight 19 = .ok (.iconst 1, 1) := by decide +kernel
theorem dL_addWeight_20 : decode cL_addWeight 20 = .ok (.ireturn, 1) := by decide +kernel
theorem dL_addWeight_21 : decode cL_addWeight 21 = .ok (.astore 6, 2) := by decide +kernel
theorem dL_addWeight_23 : decode cL_addWeight 23 = .ok (.iconst 2, 1) := by decide +kernel
theorem dL_addWeight_24 : decode cL_addWeight 24 = .ok (.ireturn, 1) := by decide +kernel
theorem dL_addWeight_25 : decode cL_addWeight 25 = .ok (.astore 6, 2) := by decide +kernel
theorem dL_addWeight_27 : decode cL_addWeight 27 = .ok (.iconst 3, 1) := by decide +kernel
theorem dL_addWeight_28 : decode cL_addWeight 28 = .ok (.ireturn, 1) := by decide +kernel
theorem dL_addWeight_29 : decode cL_addWeight 29 = .ok (.iconst 0, 1) := by decide +kernel
theorem dL_addWeight_30 : decode cL_addWeight 30 = .ok (.ireturn, 1) := by decide +kernel
theorem dL_setTarget_0 : decode cL_setTarget 0 = .ok (.aload_n 3, 1) := by decide +kernel
theorem dL_setTarget_1 : decode cL_setTarget 1 = .ok (.iconst 0, 1) := by decide +kernel
theorem dL_setTarget_2 : decode cL_setTarget 2 = .ok (.aload_n 0, 1) := by decide +kernel
theorem dL_setTarget_3 : decode cL_setTarget 3 = .ok (.iload_n 1, 1) := by decide +kernel
theorem dL_setTarget_4 : decode cL_setTarget 4 = .ok (.iload_n 2, 1) := by decide +kernel
theorem dL_setTarget_5 : decode cL_setTarget 5 = .ok (.invokevirtual 27, 3) := by decide +kernel
theorem dL_setTarget_8 : decode cL_setTarget 8 = .ok (.ifCond .eq 7, 3) := by decide +kernel
theorem dL_setTarget_11 : decode cL_setTarget 11 = .ok (.lconst 1, 1) := by decide +kernel
theorem dL_setTarget_12 : decode cL_setTarget 12 = .ok (.goto 4, 3) := by decide +kernel
theorem dL_setTarget_15 : decode cL_setTarget 15 = .ok (.lconst 0, 1) := by decide +kernel
theorem dL_setTarget_16 : decode cL_setTarget 16 = .ok (.lastore, 1) := by decide +kernel
theorem dL_setTarget_17 : decode cL_setTarget 17 = .ok (.goto 7, 3) := by decide +kernel
theorem dL_setTarget_20 : decode cL_setTarget 20 = .ok (.astore 4, 2) := by decide +kernel
theorem dL_setTarget_22 : decode cL_setTarget 22 = .ok (.iconst 1, 1) := by decide +kernel
theorem dL_setTarget_23 : decode cL_setTarget 23 = .ok (.ireturn, 1) := by decide +kernel
theorem dL_setTarget_24 : decode cL_setTarget 24 = .ok (.iconst 0, 1) := by decide +kernel
theorem dL_setTarget_25 : decode cL_setTarget 25 = .ok (.ireturn, 1) := by decide +kernel
theorem dL_setDiscount_0 : decode cL_setDiscount 0 = .ok (.aload_n 3, 1) := by decide +kernel
theorem dL_setDiscount_1 : decode cL_setDiscount 1 = .ok (.iconst 0, 1) := by decide +kernel
theorem dL_setDiscount_2 : decode cL_setDiscount 2 = .ok (.aload_n 0, 1) := by decide +kernel
theorem dL_setDiscount_3 : decode cL_setDiscount 3 = .ok (.iload_n 1, 1) := by decide +kernel
theorem dL_setDiscount_4 : decode cL_setDiscount 4 = .ok (.iload_n 2, 1) := by decide +kernel
theorem dL_setDiscount_5 : decode cL_setDiscount 5 = .ok (.invokevirtual 31, 3) := by decide +kernel
theorem dL_setDiscount_8 : decode cL_setDiscount 8 = .ok (.i2l, 1) := by decide +kernel
theorem dL_setDiscount_9 : decode cL_setDiscount 9 = .ok (.lastore, 1) := by decide +kernel
theorem dL_setDiscount_10 : decode cL_setDiscount 10 = .ok (.goto 7, 3) := by decide +kernel
theorem dL_setDiscount_13 : decode cL_setDiscount 13 = .ok (.astore 4, 2) := by decide +kernel
theorem dL_setDiscount_15 : decode cL_setDiscount 15 = .ok (.iconst 1, 1) := by decide +kernel
theorem dL_setDiscount_16 : decode cL_setDiscount 16 = .ok (.ireturn, 1) := by decide +kernel
theorem dL_setDiscount_17 : decode cL_setDiscount 17 = .ok (.iconst 0, 1) := by decide +kernel
theorem dL_setDiscount_18 : decode cL_setDiscount 18 = .ok (.ireturn, 1) := by decide +kernel
theorem dL_setWeights_0 : decode cL_setWeights 0 = .ok (.aload_n 3, 1) := by decide +kernel
theorem dL_setWeights_1 : decode cL_setWeights 1 = .ok (.iconst 0, 1) := by decide +kernel
theorem dL_setWeights_2 : decode cL_setWeights 2 = .ok (.aload_n 0, 1) := by decide +kernel
theorem dL_setWeights_3 : decode cL_setWeights 3 = .ok (.iload_n 1, 1) := by decide +kernel
theorem dL_setWeights_4 : decode cL_setWeights 4 = .ok (.iload_n 2, 1) := by decide +kernel
theorem dL_setWeights_5 : decode cL_setWeights 5 = .ok (.invokevirtual 35, 3) := by decide +kernel
theorem dL_setWeights_8 : decode cL_setWeights 8 = .ok (.i2l, 1) := by decide +kernel
theorem dL_setWeights_9 : decode cL_setWeights 9 = .ok (.lastore, 1) := by decide +kernel
theorem dL_setWeights_10 : decode cL_setWeights 10 = .ok (.goto 7, 3) := by decide +kernel
theorem dL_setWeights_13 : decode cL_setWeights 13 = .ok (.astore 4, 2) := by decide +kernel
theorem dL_setWeights_15 : decode cL_setWeights 15 = .ok (.iconst 1, 1) := by decide +kernel
theorem dL_setWeights_16 : decode cL_setWeights 16 = .ok (.ireturn, 1) := by decide +kernel
theorem dL_setWeights_17 : decode cL_setWeights 17 = .ok (.iconst 0, 1) := by decide +kernel
theorem dL_setWeights_18 : decode cL_setWeights 18 = .ok (.ireturn, 1) := by decide +kernel
theorem dL_choices_0 : decode cL_choices 0 = .ok (.aload_n 2, 1) := by decide +kernel
theorem dL_choices_1 : decode cL_choices 1 = .ok (.iconst 0, 1) := by decide +kernel
theorem dL_choices_2 : decode cL_choices 2 = .ok (.aload_n 0, 1) := by decide +kernel
theorem dL_choices_3 : decode cL_choices 3 = .ok (.iload_n 1, 1) := by decide +kernel
theorem dL_choices_4 : decode cL_choices 4 = .ok (.invokevirtual 38, 3) := by decide +kernel
theorem dL_choices_7 : decode cL_choices 7 = .ok (.i2l, 1) := by decide +kernel
theorem dL_choices_8 : decode cL_choices 8 = .ok (.lastore, 1) := by decide +kernel
theorem dL_choices_9 : decode cL_choices 9 = .ok (.goto 6, 3) := by decide +kernel
theorem dL_choices_12 : decode cL_choices 12 = .ok (.astore_n 3, 1) := by decide +kernel
theorem dL_choices_13 : decode cL_choices 13 = .ok (.iconst 1, 1) := by decide +kernel
theorem dL_choices_14 : decode cL_choices 14 = .ok (.ireturn, 1) := by decide +kernel
theorem dL_choices_15 : decode cL_choices 15 = .ok (.iconst 0, 1) := by decide +kernel
theorem dL_choices_16 : decode cL_choices 16 = .ok (.ireturn, 1) := by decide +kernel
theorem dL_chance_0 : decode cL_chance 0 = .ok (.aload 4, 2) := by decide +kernel
theorem dL_chance_2 : decode cL_chance 2 = .ok (.iconst 0, 1) := by decide +kernel
theorem dL_chance_3 : decode cL_chance 3 = .ok (.aload_n 0, 1) := by decide +kernel
theorem dL_chance_4 : decode cL_chance 4 = .ok (.iload_n 1, 1) := by decide +kernel
theorem dL_chance_5 : decode cL_chance 5 = .ok (.iload_n 2, 1) := by decide +kernel
theorem dL_chance_6 : decode cL_chance 6 = .ok (.iload_n 3, 1) := by decide +kernel
theorem dL_chance_7 : decode cL_chance 7 = .ok (.invokevirtual 42, 3) := by decide +kernel
theorem dL_chance_10 : decode cL_chance 10 = .ok (.i2l, 1) := by decide +kernel
theorem dL_chance_11 : decode cL_chance 11 = .ok (.lastore, 1) := by decide +kernel
theorem dL_chance_12 : decode cL_chance 12 = .ok (.goto 11, 3) := by decide +kernel
theorem dL_chance_15 : decode cL_chance 15 = .ok (.astore 5, 2) := by decide +kernel
theorem dL_chance_17 : decode cL_chance 17 = .ok (.iconst 1, 1) := by decide +kernel
theorem dL_chance_18 : decode cL_chance 18 = .ok (.ireturn, 1) := by decide +kernel
theorem dL_chance_19 : decode cL_chance 19 = .ok (.astore 5, 2) := by decide +kernel
theorem dL_chance_21 : decode cL_chance 21 = .ok (.iconst 2, 1) := by decide +kernel
theorem dL_chance_22 : decode cL_chance 22 = .ok (.ireturn, 1) := by decide +kernel
theorem dL_chance_23 : decode cL_chance 23 = .ok (.iconst 0, 1) := by decide +kernel
theorem dL_chance_24 : decode cL_chance 24 = .ok (.ireturn, 1) := by decide +kernel
theorem dL_above_0 : decode cL_above 0 = .ok (.aload_n 3, 1) := by decide +kernel
theorem dL_above_1 : decode cL_above 1 = .ok (.iconst 0, 1) := by decide +kernel
theorem dL_above_2 : decode cL_above 2 = .ok (.aload_n 0, 1) := by decide +kernel
theorem dL_above_3 : decode cL_above 3 = .ok (.iload_n 1, 1) := by decide +kernel
theorem dL_above_4 : decode cL_above 4 = .ok (.iload_n 2, 1) := by decide +kernel
theorem dL_above_5 : decode cL_above 5 = .ok (.invokevirtual 47, 3) := by decide +kernel
theorem dL_above_8 : decode cL_above 8 = .ok (.lastore, 1) := by decide +kernel
theorem dL_above_9 : decode cL_above 9 = .ok (.goto 15, 3) := by decide +kernel
theorem dL_above_12 : decode cL_above 12 = .ok (.astore 4, 2) := by decide +kernel
theorem dL_above_14 : decode cL_above 14 = .ok (.iconst 1, 1) := by decide +kernel
theorem dL_above_15 : decode cL_above 15 = .ok (.ireturn, 1) := by decide +kernel
theorem dL_above_16 : decode cL_above 16 = .ok (.astore 4, 2) := by decide +kernel
theorem dL_above_18 : decode cL_above 18 = .ok (.iconst 2, 1) := by decide +kernel
theorem dL_above_19 : decode cL_above 19 = .ok (.ireturn, 1) := by decide +kernel
theorem dL_above_20 : decode cL_above 20 = .ok (.astore 4, 2) := by decide +kernel
theorem dL_above_22 : decode cL_above 22 = .ok (.iconst 3, 1) := by decide +kernel
theorem dL_above_23 : decode cL_above 23 = .ok (.ireturn, 1) := by decide +kernel
theorem dL_above_24 : decode cL_above 24 = .ok (.iconst 0, 1) := by decide +kernel
theorem dL_above_25 : decode cL_above 25 = .ok (.ireturn, 1) := by decide +kernel
theorem dL_below_0 : decode cL_below 0 = .ok (.aload_n 3, 1) := by decide +kernel
theorem dL_below_1 : decode cL_below 1 = .ok (.iconst 0, 1) := by decide +kernel
theorem dL_below_2 : decode cL_below 2 = .ok (.aload_n 0, 1) := by decide +kernel
theorem dL_below_3 : decode cL_below 3 = .ok (.iload_n 1, 1) := by decide +kernel
theorem dL_below_4 : decode cL_below 4 = .ok (.iload_n 2, 1) := by decide +kernel
theorem dL_below_5 : decode cL_below 5 = .ok (.invokevirtual 51, 3) := by decide +kernel
theorem dL_below_8 : decode cL_below 8 = .ok (.lastore, 1) := by decide +kernel
theorem dL_below_9 : decode cL_below 9 = .ok (.goto 15, 3) := by decide +kernel
theorem dL_below_12 : decode cL_below 12 = .ok (.astore 4, 2) := by decide +kernel
theorem dL_below_14 : decode cL_below 14 = .ok (.iconst 1, 1) := by decide +kernel
theorem dL_below_15 : decode cL_below 15 = .ok (.ireturn, 1) := by decide +kernel
theorem dL_below_16 : decode cL_below 16 = .ok (.astore 4, 2) := by decide +kernel
theorem dL_below_18 : decode cL_below 18 = .ok (.iconst 2, 1) := by decide +kernel
theorem dL_below_19 : decode cL_below 19 = .ok (.ireturn, 1) := by decide +kernel
theorem dL_below_20 : decode cL_below 20 = .ok (.astore 4, 2) := by decide +kernel
theorem dL_below_22 : decode cL_below 22 = .ok (.iconst 3, 1) := by decide +kernel
theorem dL_below_23 : decode cL_below 23 = .ok (.ireturn, 1) := by decide +kernel
theorem dL_below_24 : decode cL_below 24 = .ok (.iconst 0, 1) := by decide +kernel
theorem dL_below_25 : decode cL_below 25 = .ok (.ireturn, 1) := by decide +kernel
theorem dL_aboveByAll_0 : decode cL_aboveByAll 0 = .ok (.aload_n 3, 1) := by decide +kernel
theorem dL_aboveByAll_1 : decode cL_aboveByAll 1 = .ok (.iconst 0, 1) := by decide +kernel
theorem dL_aboveByAll_2 : decode cL_aboveByAll 2 = .ok (.aload_n 0, 1) := by decide +kernel
theorem dL_aboveByAll_3 : decode cL_aboveByAll 3 = .ok (.iload_n 1, 1) := by decide +kernel
theorem dL_aboveByAll_4 : decode cL_aboveByAll 4 = .ok (.iload_n 2, 1) := by decide +kernel
theorem dL_aboveByAll_5 : decode cL_aboveByAll 5 = .ok (.invokevirtual 54, 3) := by decide +kernel
theorem dL_aboveByAll_8 : decode cL_aboveByAll 8 = .ok (.lastore, 1) := by decide +kernel
theorem dL_aboveByAll_9 : decode cL_aboveByAll 9 = .ok (.goto 15, 3) := by decide +kernel
theorem dL_aboveByAll_12 : decode cL_aboveByAll 12 = .ok (.astore 4, 2) := by decide +kernel
theorem dL_aboveByAll_14 : decode cL_aboveByAll 14 = .ok (.iconst 1, 1) := by decide +kernel
theorem dL_aboveByAll_15 : decode cL_aboveByAll 15 = .ok (.ireturn, 1) := by decide +kernel
theorem dL_aboveByAll_16 : decode cL_aboveByAll 16 = .ok (.astore 4, 2) := by decide +kernel
theorem dL_aboveByAll_18 : decode cL_aboveByAll 18 = .ok (.iconst 2, 1) := by decide +kernel
theorem dL_aboveByAll_19 : decode cL_aboveByAll 19 = .ok (.ireturn, 1) := by decide +kernel
theorem dL_aboveByAll_20 : decode cL_aboveByAll 20 = .ok (.astore 4, 2) := by decide +kernel
theorem dL_aboveByAll_22 : decode cL_aboveByAll 22 = .ok (.iconst 3, 1) := by decide +kernel
theorem dL_aboveByAll_23 : decode cL_aboveByAll 23 = .ok (.ireturn, 1) := by decide +kernel
theorem dL_aboveByAll_24 : decode cL_aboveByAll 24 = .ok (.iconst 0, 1) := by decide +kernel
theorem dL_aboveByAll_25 : decode cL_aboveByAll 25 = .ok (.ireturn, 1) := by decide +kernel
theorem dL_belowByAll_0 : decode cL_belowByAll 0 = .ok (.aload_n 3, 1) := by decide +kernel
theorem dL_belowByAll_1 : decode cL_belowByAll 1 = .ok (.iconst 0, 1) := by decide +kernel
theorem dL_belowByAll_2 : decode cL_belowByAll 2 = .ok (.aload_n 0, 1) := by decide +kernel
theorem dL_belowByAll_3 : decode cL_belowByAll 3 = .ok (.iload_n 1, 1) := by decide +kernel
theorem dL_belowByAll_4 : decode cL_belowByAll 4 = .ok (.iload_n 2, 1) := by decide +kernel
theorem dL_belowByAll_5 : decode cL_belowByAll 5 = .ok (.invokevirtual 57, 3) := by decide +kernel
theorem dL_belowByAll_8 : decode cL_belowByAll 8 = .ok (.lastore, 1) := by decide +kernel
theorem dL_belowByAll_9 : decode cL_belowByAll 9 = .ok (.goto 15, 3) := by decide +kernel
theorem dL_belowByAll_12 : decode cL_belowByAll 12 = .ok (.astore 4, 2) := by decide +kernel
theorem dL_belowByAll_14 : decode cL_belowByAll 14 = .ok (.iconst 1, 1) := by decide +kernel
theorem dL_belowByAll_15 : decode cL_belowByAll 15 = .ok (.ireturn, 1) := by decide +kernel
theorem dL_belowByAll_16 : decode cL_belowByAll 16 = .ok (.astore 4, 2) := by decide +kernel
theorem dL_belowByAll_18 : decode cL_belowByAll 18 = .ok (.iconst 2, 1) := by decide +kernel
theorem dL_belowByAll_19 : decode cL_belowByAll 19 = .ok (.ireturn, 1) := by decide +kernel
theorem dL_belowByAll_20 : decode cL_belowByAll 20 = .ok (.astore 4, 2) := by decide +kernel
theorem dL_belowByAll_22 : decode cL_belowByAll 22 = .ok (.iconst 3, 1) := by decide +kernel
theorem dL_belowByAll_23 : decode cL_belowByAll 23 = .ok (.ireturn, 1) := by decide +kernel
theorem dL_belowByAll_24 : decode cL_belowByAll 24 = .ok (.iconst 0, 1) := by decide +kernel
theorem dL_belowByAll_25 : decode cL_belowByAll 25 = .ok (.ireturn, 1) := by decide +kernel
theorem dL_valueFloat_0 : decode cL_valueFloat 0 = .ok (.aload_n 3, 1) := by decide +kernel
theorem dL_valueFloat_1 : decode cL_valueFloat 1 = .ok (.iconst 0, 1) := by decide +kernel
theorem dL_valueFloat_2 : decode cL_valueFloat 2 = .ok (.aload_n 0, 1) := by decide +kernel
theorem dL_valueFloat_3 : decode cL_valueFloat 3 = .ok (.iload_n 1, 1) := by decide +kernel
theorem dL_valueFloat_4 : decode cL_valueFloat 4 = .ok (.iload_n 2, 1) := by decide +kernel
theorem dL_valueFloat_5 : decode cL_valueFloat 5 = .ok (.invokevirtual 60, 3) := by decide +kernel
theorem dL_valueFloat_8 : decode cL_valueFloat 8 = .ok (.f2d, 1) := by decide +kernel
theorem dL_valueFloat_9 : decode cL_valueFloat 9 = .ok (.dastore, 1) := by decide +kernel
theorem dL_valueFloat_10 : decode cL_valueFloat 10 = .ok (.goto 15, 3) := by decide +kernel
theorem dL_valueFloat_13 : decode cL_valueFloat 13 = .ok (.astore 4, 2) := by decide +kernel
theorem dL_valueFloat_15 : decode cL_valueFloat 15 = .ok (.iconst 1, 1) := by decide +kernel
theorem dL_valueFloat_16 : decode cL_valueFloat 16 = .ok (.ireturn, 1) := by decide +kernel
theorem dL_valueFloat_17 : decode cL_valueFloat 17 = .ok (.astore 4, 2) := by decide +kernel
theorem dL_valueFloat_19 : decode cL_valueFloat 19 = .ok (.iconst 2, 1) := by decide +kernel
theorem dL_valueFloat_20 : decode cL_valueFloat 20 = .ok (.ireturn, 1) := by decide +kernel
theorem dL_valueFloat_21 : decode cL_valueFloat 21 = .ok (.astore 4, 2) := by decide +kernel
theorem dL_valueFloat_23 : decode cL_valueFloat 23 = .ok (.iconst 3, 1) := by decide +kernel
theorem dL_valueFloat_24 : decode cL_valueFloat 24 = .ok (.ireturn, 1) := by decide +kernel
theorem dL_valueFloat_25 : decode cL_valueFloat 25 = .ok (.iconst 0, 1) := by decide +kernel
theorem dL_valueFloat_26 : decode cL_valueFloat 26 = .ok (.ireturn, 1) := by decide +kernel
theorem dL_restFloat_0 : decode cL_restFloat 0 = .ok (.aload_n 3, 1) := by decide +kernel
theorem dL_restFloat_1 : decode cL_restFloat 1 = .ok (.iconst 0, 1) := by decide +kernel
theorem dL_restFloat_2 : decode cL_restFloat 2 = .ok (.aload_n 0, 1) := by decide +kernel
theorem dL_restFloat_3 : decode cL_restFloat 3 = .ok (.iload_n 1, 1) := by decide +kernel
theorem dL_restFloat_4 : decode cL_restFloat 4 = .ok (.iload_n 2, 1) := by decide +kernel
theorem dL_restFloat_5 : decode cL_restFloat 5 = .ok (.invokevirtual 64, 3) := by decide +kernel
theorem dL_restFloat_8 : decode cL_restFloat 8 = .ok (.f2d, 1) := by decide +kernel
theorem dL_restFloat_9 : decode cL_restFloat 9 = .ok (.dastore, 1) := by decide +kernel
theorem dL_restFloat_10 : decode cL_restFloat 10 = .ok (.goto 15, 3) := by decide +kernel
theorem dL_restFloat_13 : decode cL_restFloat 13 = .ok (.astore 4, 2) := by decide +kernel
theorem dL_restFloat_15 : decode cL_restFloat 15 = .ok (.iconst 1, 1) := by decide +kernel
theorem dL_restFloat_16 : decode cL_restFloat 16 = .ok (.ireturn, 1) := by decide +kernel
theorem dL_restFloat_17 : decode cL_restFloat 17 = .ok (.astore 4, 2) := by decide +kernel
theorem dL_restFloat_19 : decode cL_restFloat 19 = .ok (.iconst 2, 1) := by decide +kernel
theorem dL_restFloat_20 : decode cL_restFloat 20 = .ok (.ireturn, 1) := by decide +kernel
theorem dL_restFloat_21 : decode cL_restFloat 21 = .ok (.astore 4, 2) := by decide +kernel
theorem dL_restFloat_23 : decode cL_restFloat 23 = .ok (.iconst 3, 1) := by decide +kernel
theorem dL_restFloat_24 : decode cL_restFloat 24 = .ok (.ireturn, 1) := by decide +kernel
theorem dL_restFloat_25 : decode cL_restFloat 25 = .ok (.iconst 0, 1) := by decide +kernel
theorem dL_restFloat_26 : decode cL_restFloat 26 = .ok (.ireturn, 1) := by decide +kernel
theorem dL_rounded_0 : decode cL_rounded 0 = .ok (.aload_n 3, 1) := by decide +kernel
theorem dL_rounded_1 : decode cL_rounded 1 = .ok (.iconst 0, 1) := by decide +kernel
theorem dL_rounded_2 : decode cL_rounded 2 = .ok (.aload_n 0, 1) := by decide +kernel
theorem dL_rounded_3 : decode cL_rounded 3 = .ok (.iload_n 1, 1) := by decide +kernel
theorem dL_rounded_4 : decode cL_rounded 4 = .ok (.iload_n 2, 1) := by decide +kernel
theorem dL_rounded_5 : decode cL_rounded 5 = .ok (.invokevirtual 67, 3) := by decide +kernel
theorem dL_rounded_8 : decode cL_rounded 8 = .ok (.lastore, 1) := by decide +kernel
theorem dL_rounded_9 : decode cL_rounded 9 = .ok (.goto 15, 3) := by decide +kernel
theorem dL_rounded_12 : decode cL_rounded 12 = .ok (.astore 4, 2) := by decide +kernel
theorem dL_rounded_14 : decode cL_rounded 14 = .ok (.iconst 1, 1) := by decide +kernel
theorem dL_rounded_15 : decode cL_rounded 15 = .ok (.ireturn, 1) := by decide +kernel
theorem dL_rounded_16 : decode cL_rounded 16 = .ok (.astore 4, 2) := by decide +kernel
theorem dL_rounded_18 : decode cL_rounded 18 = .ok (.iconst 2, 1) := by decide +kernel
theorem dL_rounded_19 : decode cL_rounded 19 = .ok (.ireturn, 1) := by decide +kernel
theorem dL_rounded_20 : decode cL_rounded 20 = .ok (.astore 4, 2) := by decide +kernel
theorem dL_rounded_22 : decode cL_rounded 22 = .ok (.iconst 3, 1) := by decide +kernel
theorem dL_rounded_23 : decode cL_rounded 23 = .ok (.ireturn, 1) := by decide +kernel
theorem dL_rounded_24 : decode cL_rounded 24 = .ok (.iconst 0, 1) := by decide +kernel
theorem dL_rounded_25 : decode cL_rounded 25 = .ok (.ireturn, 1) := by decide +kernel
theorem dL_bound_0 : decode cL_bound 0 = .ok (.aload_n 3, 1) := by decide +kernel
theorem dL_bound_1 : decode cL_bound 1 = .ok (.iconst 0, 1) := by decide +kernel
theorem dL_bound_2 : decode cL_bound 2 = .ok (.aload_n 0, 1) := by decide +kernel
theorem dL_bound_3 : decode cL_bound 3 = .ok (.iload_n 1, 1) := by decide +kernel
theorem dL_bound_4 : decode cL_bound 4 = .ok (.iload_n 2, 1) := by decide +kernel
theorem dL_bound_5 : decode cL_bound 5 = .ok (.invokevirtual 70, 3) := by decide +kernel
theorem dL_bound_8 : decode cL_bound 8 = .ok (.dastore, 1) := by decide +kernel
theorem dL_bound_9 : decode cL_bound 9 = .ok (.goto 15, 3) := by decide +kernel
theorem dL_bound_12 : decode cL_bound 12 = .ok (.astore 4, 2) := by decide +kernel
theorem dL_bound_14 : decode cL_bound 14 = .ok (.iconst 1, 1) := by decide +kernel
theorem dL_bound_15 : decode cL_bound 15 = .ok (.ireturn, 1) := by decide +kernel
theorem dL_bound_16 : decode cL_bound 16 = .ok (.astore 4, 2) := by decide +kernel
theorem dL_bound_18 : decode cL_bound 18 = .ok (.iconst 2, 1) := by decide +kernel
theorem dL_bound_19 : decode cL_bound 19 = .ok (.ireturn, 1) := by decide +kernel
theorem dL_bound_20 : decode cL_bound 20 = .ok (.astore 4, 2) := by decide +kernel
theorem dL_bound_22 : decode cL_bound 22 = .ok (.iconst 3, 1) := by decide +kernel
theorem dL_bound_23 : decode cL_bound 23 = .ok (.ireturn, 1) := by decide +kernel
theorem dL_bound_24 : decode cL_bound 24 = .ok (.iconst 0, 1) := by decide +kernel
theorem dL_bound_25 : decode cL_bound 25 = .ok (.ireturn, 1) := by decide +kernel
theorem dL_isZero_0 : decode cL_isZero 0 = .ok (.aload_n 2, 1) := by decide +kernel
theorem dL_isZero_1 : decode cL_isZero 1 = .ok (.iconst 0, 1) := by decide +kernel
theorem dL_isZero_2 : decode cL_isZero 2 = .ok (.aload_n 0, 1) := by decide +kernel
theorem dL_isZero_3 : decode cL_isZero 3 = .ok (.iload_n 1, 1) := by decide +kernel
theorem dL_isZero_4 : decode cL_isZero 4 = .ok (.invokevirtual 74, 3) := by decide +kernel
theorem dL_isZero_7 : decode cL_isZero 7 = .ok (.ifCond .eq 7, 3) := by decide +kernel
theorem dL_isZero_10 : decode cL_isZero 10 = .ok (.lconst 1, 1) := by decide +kernel
theorem dL_isZero_11 : decode cL_isZero 11 = .ok (.goto 4, 3) := by decide +kernel
theorem dL_isZero_14 : decode cL_isZero 14 = .ok (.lconst 0, 1) := by decide +kernel
theorem dL_isZero_15 : decode cL_isZero 15 = .ok (.lastore, 1) := by decide +kernel
theorem dL_isZero_16 : decode cL_isZero 16 = .ok (.goto 9, 3) := by decide +kernel
theorem dL_isZero_19 : decode cL_isZero 19 = .ok (.astore_n 3, 1) := by decide +kernel
theorem dL_isZero_20 : decode cL_isZero 20 = .ok (.iconst 1, 1) := by decide +kernel
theorem dL_isZero_21 : decode cL_isZero 21 = .ok (.ireturn, 1) := by decide +kernel
theorem dL_isZero_22 : decode cL_isZero 22 = .ok (.astore_n 3, 1) := by decide +kernel
theorem dL_isZero_23 : decode cL_isZero 23 = .ok (.iconst 2, 1) := by decide +kernel
theorem dL_isZero_24 : decode cL_isZero 24 = .ok (.ireturn, 1) := by decide +kernel
theorem dL_isZero_25 : decode cL_isZero 25 = .ok (.iconst 0, 1) := by decide +kernel
theorem dL_isZero_26 : decode cL_isZero 26 = .ok (.ireturn, 1) := by decide +kernel
theorem dL_isOne_0 : decode cL_isOne 0 = .ok (.aload_n 2, 1) := by decide +kernel
theorem dL_isOne_1 : decode cL_isOne 1 = .ok (.iconst 0, 1) := by decide +kernel
theorem dL_isOne_2 : decode cL_isOne 2 = .ok (.aload_n 0, 1) := by decide +kernel
theorem dL_isOne_3 : decode cL_isOne 3 = .ok (.iload_n 1, 1) := by decide +kernel
theorem dL_isOne_4 : decode cL_isOne 4 = .ok (.invokevirtual 78, 3) := by decide +kernel
theorem dL_isOne_7 : decode cL_isOne 7 = .ok (.ifCond .eq 7, 3) := by decide +kernel
theorem dL_isOne_10 : decode cL_isOne 10 = .ok (.lconst 1, 1) := by decide +kernel
theorem dL_isOne_11 : decode cL_isOne 11 = .ok (.goto 4, 3) := by decide +kernel
theorem dL_isOne_14 : decode cL_isOne 14 = .ok (.lconst 0, 1) := by decide +kernel
theorem dL_isOne_15 : decode cL_isOne 15 = .ok (.lastore, 1) := by decide +kernel
theorem dL_isOne_16 : decode cL_isOne 16 = .ok (.goto 9, 3) := by decide +kernel
theorem dL_isOne_19 : decode cL_isOne 19 = .ok (.astore_n 3, 1) := by decide +kernel
theorem dL_isOne_20 : decode cL_isOne 20 = .ok (.iconst 1, 1) := by decide +kernel
theorem dL_isOne_21 : decode cL_isOne 21 = .ok (.ireturn, 1) := by decide +kernel
theorem dL_isOne_22 : decode cL_isOne 22 = .ok (.astore_n 3, 1) := by decide +kernel
theorem dL_isOne_23 : decode cL_isOne 23 = .ok (.iconst 2, 1) := by decide +kernel
theorem dL_isOne_24 : decode cL_isOne 24 = .ok (.ireturn, 1) := by decide +kernel
theorem dL_isOne_25 : decode cL_isOne 25 = .ok (.iconst 0, 1) := by decide +kernel
theorem dL_isOne_26 : decode cL_isOne 26 = .ok (.ireturn, 1) := by decide +kernel
theorem dL_solve_0 : decode cL_solve 0 = .ok (.aload_n 2, 1) := by decide +kernel
theorem dL_solve_1 : decode cL_solve 1 = .ok (.iconst 0, 1) := by decide +kernel
theorem dL_solve_2 : decode cL_solve 2 = .ok (.aload_n 0, 1) := by decide +kernel
theorem dL_solve_3 : decode cL_solve 3 = .ok (.iload_n 1, 1) := by decide +kernel
theorem dL_solve_4 : decode cL_solve 4 = .ok (.invokevirtual 81, 3) := by decide +kernel
theorem dL_solve_7 : decode cL_solve 7 = .ok (.i2l, 1) := by decide +kernel
theorem dL_solve_8 : decode cL_solve 8 = .ok (.lastore, 1) := by decide +kernel
theorem dL_solve_9 : decode cL_solve 9 = .ok (.goto 9, 3) := by decide +kernel
theorem dL_solve_12 : decode cL_solve 12 = .ok (.astore_n 3, 1) := by decide +kernel
theorem dL_solve_13 : decode cL_solve 13 = .ok (.iconst 1, 1) := by decide +kernel
theorem dL_solve_14 : decode cL_solve 14 = .ok (.ireturn, 1) := by decide +kernel
theorem dL_solve_15 : decode cL_solve 15 = .ok (.astore_n 3, 1) := by decide +kernel
theorem dL_solve_16 : decode cL_solve 16 = .ok (.iconst 2, 1) := by decide +kernel
theorem dL_solve_17 : decode cL_solve 17 = .ok (.ireturn, 1) := by decide +kernel
theorem dL_solve_18 : decode cL_solve 18 = .ok (.iconst 0, 1) := by decide +kernel
theorem dL_solve_19 : decode cL_solve 19 = .ok (.ireturn, 1) := by decide +kernel
theorem dL_tell_0 : decode cL_tell 0 = .ok (.aload_n 3, 1) := by decide +kernel
theorem dL_tell_1 : decode cL_tell 1 = .ok (.iconst 0, 1) := by decide +kernel
theorem dL_tell_2 : decode cL_tell 2 = .ok (.aload_n 0, 1) := by decide +kernel
theorem dL_tell_3 : decode cL_tell 3 = .ok (.iload_n 1, 1) := by decide +kernel
theorem dL_tell_4 : decode cL_tell 4 = .ok (.iload_n 2, 1) := by decide +kernel
theorem dL_tell_5 : decode cL_tell 5 = .ok (.invokevirtual 85, 3) := by decide +kernel
theorem dL_tell_8 : decode cL_tell 8 = .ok (.i2l, 1) := by decide +kernel
theorem dL_tell_9 : decode cL_tell 9 = .ok (.lastore, 1) := by decide +kernel
theorem dL_tell_10 : decode cL_tell 10 = .ok (.goto 7, 3) := by decide +kernel
theorem dL_tell_13 : decode cL_tell 13 = .ok (.astore 4, 2) := by decide +kernel
theorem dL_tell_15 : decode cL_tell 15 = .ok (.iconst 1, 1) := by decide +kernel
theorem dL_tell_16 : decode cL_tell 16 = .ok (.ireturn, 1) := by decide +kernel
theorem dL_tell_17 : decode cL_tell 17 = .ok (.iconst 0, 1) := by decide +kernel
theorem dL_tell_18 : decode cL_tell 18 = .ok (.ireturn, 1) := by decide +kernel
theorem dL_told_0 : decode cL_told 0 = .ok (.aload_n 2, 1) := by decide +kernel
theorem dL_told_1 : decode cL_told 1 = .ok (.iconst 0, 1) := by decide +kernel
theorem dL_told_2 : decode cL_told 2 = .ok (.aload_n 0, 1) := by decide +kernel
theorem dL_told_3 : decode cL_told 3 = .ok (.iload_n 1, 1) := by decide +kernel
theorem dL_told_4 : decode cL_told 4 = .ok (.invokevirtual 88, 3) := by decide +kernel
theorem dL_told_7 : decode cL_told 7 = .ok (.i2l, 1) := by decide +kernel
theorem dL_told_8 : decode cL_told 8 = .ok (.lastore, 1) := by decide +kernel
theorem dL_told_9 : decode cL_told 9 = .ok (.goto 6, 3) := by decide +kernel
theorem dL_told_12 : decode cL_told 12 = .ok (.astore_n 3, 1) := by decide +kernel
theorem dL_told_13 : decode cL_told 13 = .ok (.iconst 1, 1) := by decide +kernel
theorem dL_told_14 : decode cL_told 14 = .ok (.ireturn, 1) := by decide +kernel
theorem dL_told_15 : decode cL_told 15 = .ok (.iconst 0, 1) := by decide +kernel
theorem dL_told_16 : decode cL_told 16 = .ok (.ireturn, 1) := by decide +kernel
theorem dL_chainAbove_0 : decode cL_chainAbove 0 = .ok (.aload_n 3, 1) := by decide +kernel
theorem dL_chainAbove_1 : decode cL_chainAbove 1 = .ok (.iconst 0, 1) := by decide +kernel
theorem dL_chainAbove_2 : decode cL_chainAbove 2 = .ok (.aload_n 0, 1) := by decide +kernel
theorem dL_chainAbove_3 : decode cL_chainAbove 3 = .ok (.iload_n 1, 1) := by decide +kernel
theorem dL_chainAbove_4 : decode cL_chainAbove 4 = .ok (.iload_n 2, 1) := by decide +kernel
theorem dL_chainAbove_5 : decode cL_chainAbove 5 = .ok (.invokevirtual 91, 3) := by decide +kernel
theorem dL_chainAbove_8 : decode cL_chainAbove 8 = .ok (.lastore, 1) := by decide +kernel
theorem dL_chainAbove_9 : decode cL_chainAbove 9 = .ok (.goto 15, 3) := by decide +kernel
theorem dL_chainAbove_12 : decode cL_chainAbove 12 = .ok (.astore 4, 2) := by decide +kernel
theorem dL_chainAbove_14 : decode cL_chainAbove 14 = .ok (.iconst 1, 1) := by decide +kernel
theorem dL_chainAbove_15 : decode cL_chainAbove 15 = .ok (.ireturn, 1) := by decide +kernel
theorem dL_chainAbove_16 : decode cL_chainAbove 16 = .ok (.astore 4, 2) := by decide +kernel
theorem dL_chainAbove_18 : decode cL_chainAbove 18 = .ok (.iconst 2, 1) := by decide +kernel
theorem dL_chainAbove_19 : decode cL_chainAbove 19 = .ok (.ireturn, 1) := by decide +kernel
theorem dL_chainAbove_20 : decode cL_chainAbove 20 = .ok (.astore 4, 2) := by decide +kernel
theorem dL_chainAbove_22 : decode cL_chainAbove 22 = .ok (.iconst 3, 1) := by decide +kernel
theorem dL_chainAbove_23 : decode cL_chainAbove 23 = .ok (.ireturn, 1) := by decide +kernel
theorem dL_chainAbove_24 : decode cL_chainAbove 24 = .ok (.iconst 0, 1) := by decide +kernel
theorem dL_chainAbove_25 : decode cL_chainAbove 25 = .ok (.ireturn, 1) := by decide +kernel
theorem dL_chainBelow_0 : decode cL_chainBelow 0 = .ok (.aload_n 3, 1) := by decide +kernel
theorem dL_chainBelow_1 : decode cL_chainBelow 1 = .ok (.iconst 0, 1) := by decide +kernel
theorem dL_chainBelow_2 : decode cL_chainBelow 2 = .ok (.aload_n 0, 1) := by decide +kernel
theorem dL_chainBelow_3 : decode cL_chainBelow 3 = .ok (.iload_n 1, 1) := by decide +kernel
theorem dL_chainBelow_4 : decode cL_chainBelow 4 = .ok (.iload_n 2, 1) := by decide +kernel
theorem dL_chainBelow_5 : decode cL_chainBelow 5 = .ok (.invokevirtual 94, 3) := by decide +kernel
theorem dL_chainBelow_8 : decode cL_chainBelow 8 = .ok (.lastore, 1) := by decide +kernel
theorem dL_chainBelow_9 : decode cL_chainBelow 9 = .ok (.goto 15, 3) := by decide +kernel
theorem dL_chainBelow_12 : decode cL_chainBelow 12 = .ok (.astore 4, 2) := by decide +kernel
theorem dL_chainBelow_14 : decode cL_chainBelow 14 = .ok (.iconst 1, 1) := by decide +kernel
theorem dL_chainBelow_15 : decode cL_chainBelow 15 = .ok (.ireturn, 1) := by decide +kernel
theorem dL_chainBelow_16 : decode cL_chainBelow 16 = .ok (.astore 4, 2) := by decide +kernel
theorem dL_chainBelow_18 : decode cL_chainBelow 18 = .ok (.iconst 2, 1) := by decide +kernel
theorem dL_chainBelow_19 : decode cL_chainBelow 19 = .ok (.ireturn, 1) := by decide +kernel
theorem dL_chainBelow_20 : decode cL_chainBelow 20 = .ok (.astore 4, 2) := by decide +kernel
theorem dL_chainBelow_22 : decode cL_chainBelow 22 = .ok (.iconst 3, 1) := by decide +kernel
theorem dL_chainBelow_23 : decode cL_chainBelow 23 = .ok (.ireturn, 1) := by decide +kernel
theorem dL_chainBelow_24 : decode cL_chainBelow 24 = .ok (.iconst 0, 1) := by decide +kernel
theorem dL_chainBelow_25 : decode cL_chainBelow 25 = .ok (.ireturn, 1) := by decide +kernel
theorem dL_responseAbove_0 : decode cL_responseAbove 0 = .ok (.aload 4, 2) := by decide +kernel
theorem dL_responseAbove_2 : decode cL_responseAbove 2 = .ok (.iconst 0, 1) := by decide +kernel
theorem dL_responseAbove_3 : decode cL_responseAbove 3 = .ok (.aload_n 0, 1) := by decide +kernel
theorem dL_responseAbove_4 : decode cL_responseAbove 4 = .ok (.iload_n 1, 1) := by decide +kernel
theorem dL_responseAbove_5 : decode cL_responseAbove 5 = .ok (.iload_n 2, 1) := by decide +kernel
theorem dL_responseAbove_6 : decode cL_responseAbove 6 = .ok (.iload_n 3, 1) := by decide +kernel
theorem dL_responseAbove_7 : decode cL_responseAbove 7 = .ok (.invokevirtual 97, 3) := by decide +kernel
theorem dL_responseAbove_10 : decode cL_responseAbove 10 = .ok (.lastore, 1) := by decide +kernel
theorem dL_responseAbove_11 : decode cL_responseAbove 11 = .ok (.goto 15, 3) := by decide +kernel
theorem dL_responseAbove_14 : decode cL_responseAbove 14 = .ok (.astore 5, 2) := by decide +kernel
theorem dL_responseAbove_16 : decode cL_responseAbove 16 = .ok (.iconst 1, 1) := by decide +kernel
theorem dL_responseAbove_17 : decode cL_responseAbove 17 = .ok (.ireturn, 1) := by decide +kernel
theorem dL_responseAbove_18 : decode cL_responseAbove 18 = .ok (.astore 5, 2) := by decide +kernel
theorem dL_responseAbove_20 : decode cL_responseAbove 20 = .ok (.iconst 2, 1) := by decide +kernel
theorem dL_responseAbove_21 : decode cL_responseAbove 21 = .ok (.ireturn, 1) := by decide +kernel
theorem dL_responseAbove_22 : decode cL_responseAbove 22 = .ok (.astore 5, 2) := by decide +kernel
theorem dL_responseAbove_24 : decode cL_responseAbove 24 = .ok (.iconst 3, 1) := by decide +kernel
theorem dL_responseAbove_25 : decode cL_responseAbove 25 = .ok (.ireturn, 1) := by decide +kernel
theorem dL_responseAbove_26 : decode cL_responseAbove 26 = .ok (.iconst 0, 1) := by decide +kernel
theorem dL_responseAbove_27 : decode cL_responseAbove 27 = .ok (.ireturn, 1) := by decide +kernel
theorem dL_responseBelow_0 : decode cL_responseBelow 0 = .ok (.aload 4, 2) := by decide +kernel
theorem dL_responseBelow_2 : decode cL_responseBelow 2 = .ok (.iconst 0, 1) := by decide +kernel
theorem dL_responseBelow_3 : decode cL_responseBelow 3 = .ok (.aload_n 0, 1) := by decide +kernel
theorem dL_responseBelow_4 : decode cL_responseBelow 4 = .ok (.iload_n 1, 1) := by decide +kernel
theorem dL_responseBelow_5 : decode cL_responseBelow 5 = .ok (.iload_n 2, 1) := by decide +kernel
theorem dL_responseBelow_6 : decode cL_responseBelow 6 = .ok (.iload_n 3, 1) := by decide +kernel
theorem dL_responseBelow_7 : decode cL_responseBelow 7 = .ok (.invokevirtual 101, 3) := by decide +kernel
theorem dL_responseBelow_10 : decode cL_responseBelow 10 = .ok (.lastore, 1) := by decide +kernel
theorem dL_responseBelow_11 : decode cL_responseBelow 11 = .ok (.goto 15, 3) := by decide +kernel
theorem dL_responseBelow_14 : decode cL_responseBelow 14 = .ok (.astore 5, 2) := by decide +kernel
theorem dL_responseBelow_16 : decode cL_responseBelow 16 = .ok (.iconst 1, 1) := by decide +kernel
theorem dL_responseBelow_17 : decode cL_responseBelow 17 = .ok (.ireturn, 1) := by decide +kernel
theorem dL_responseBelow_18 : decode cL_responseBelow 18 = .ok (.astore 5, 2) := by decide +kernel
theorem dL_responseBelow_20 : decode cL_responseBelow 20 = .ok (.iconst 2, 1) := by decide +kernel
theorem dL_responseBelow_21 : decode cL_responseBelow 21 = .ok (.ireturn, 1) := by decide +kernel
theorem dL_responseBelow_22 : decode cL_responseBelow 22 = .ok (.astore 5, 2) := by decide +kernel
theorem dL_responseBelow_24 : decode cL_responseBelow 24 = .ok (.iconst 3, 1) := by decide +kernel
theorem dL_responseBelow_25 : decode cL_responseBelow 25 = .ok (.ireturn, 1) := by decide +kernel
theorem dL_responseBelow_26 : decode cL_responseBelow 26 = .ok (.iconst 0, 1) := by decide +kernel
theorem dL_responseBelow_27 : decode cL_responseBelow 27 = .ok (.ireturn, 1) := by decide +kernel
theorem dL_closedOf_0 : decode cL_closedOf 0 = .ok (.aload_n 2, 1) := by decide +kernel
theorem dL_closedOf_1 : decode cL_closedOf 1 = .ok (.iconst 0, 1) := by decide +kernel
theorem dL_closedOf_2 : decode cL_closedOf 2 = .ok (.aload_n 0, 1) := by decide +kernel
theorem dL_closedOf_3 : decode cL_closedOf 3 = .ok (.iload_n 1, 1) := by decide +kernel
theorem dL_closedOf_4 : decode cL_closedOf 4 = .ok (.invokevirtual 104, 3) := by decide +kernel
theorem dL_closedOf_7 : decode cL_closedOf 7 = .ok (.i2l, 1) := by decide +kernel
theorem dL_closedOf_8 : decode cL_closedOf 8 = .ok (.lastore, 1) := by decide +kernel
theorem dL_closedOf_9 : decode cL_closedOf 9 = .ok (.goto 12, 3) := by decide +kernel
theorem dL_closedOf_12 : decode cL_closedOf 12 = .ok (.astore_n 3, 1) := by decide +kernel
theorem dL_closedOf_13 : decode cL_closedOf 13 = .ok (.iconst 1, 1) := by decide +kernel
theorem dL_closedOf_14 : decode cL_closedOf 14 = .ok (.ireturn, 1) := by decide +kernel
theorem dL_closedOf_15 : decode cL_closedOf 15 = .ok (.astore_n 3, 1) := by decide +kernel
theorem dL_closedOf_16 : decode cL_closedOf 16 = .ok (.iconst 2, 1) := by decide +kernel
theorem dL_closedOf_17 : decode cL_closedOf 17 = .ok (.ireturn, 1) := by decide +kernel
theorem dL_closedOf_18 : decode cL_closedOf 18 = .ok (.astore_n 3, 1) := by decide +kernel
theorem dL_closedOf_19 : decode cL_closedOf 19 = .ok (.iconst 3, 1) := by decide +kernel
theorem dL_closedOf_20 : decode cL_closedOf 20 = .ok (.ireturn, 1) := by decide +kernel
theorem dL_closedOf_21 : decode cL_closedOf 21 = .ok (.iconst 0, 1) := by decide +kernel
theorem dL_closedOf_22 : decode cL_closedOf 22 = .ok (.ireturn, 1) := by decide +kernel
theorem dL_endOf_0 : decode cL_endOf 0 = .ok (.aload_n 2, 1) := by decide +kernel
theorem dL_endOf_1 : decode cL_endOf 1 = .ok (.iconst 0, 1) := by decide +kernel
theorem dL_endOf_2 : decode cL_endOf 2 = .ok (.aload_n 0, 1) := by decide +kernel
theorem dL_endOf_3 : decode cL_endOf 3 = .ok (.iload_n 1, 1) := by decide +kernel
theorem dL_endOf_4 : decode cL_endOf 4 = .ok (.invokevirtual 109, 3) := by decide +kernel
theorem dL_endOf_7 : decode cL_endOf 7 = .ok (.i2l, 1) := by decide +kernel
theorem dL_endOf_8 : decode cL_endOf 8 = .ok (.lastore, 1) := by decide +kernel
theorem dL_endOf_9 : decode cL_endOf 9 = .ok (.goto 12, 3) := by decide +kernel
theorem dL_endOf_12 : decode cL_endOf 12 = .ok (.astore_n 3, 1) := by decide +kernel
theorem dL_endOf_13 : decode cL_endOf 13 = .ok (.iconst 1, 1) := by decide +kernel
theorem dL_endOf_14 : decode cL_endOf 14 = .ok (.ireturn, 1) := by decide +kernel
theorem dL_endOf_15 : decode cL_endOf 15 = .ok (.astore_n 3, 1) := by decide +kernel
